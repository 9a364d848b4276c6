/-! ===== the reference reads: its state, its smallest steps ===== -/
/-- what the reading may change -/
def FP (p : Nat) (h h' : Mem) : Prop := ((∀ x, x < p → mT h' x = mT h x) ∧ (∀ x, x < p → mR h' x = mR h x) ∧ mN h' = mN h) ∧ (∀ x, x < p → x ≠ 55 → mI h' x = mI h x) ∧ (∀ x, x < p → x ≠ 55 → mL h' x = mL h x) ∧ ∀ k, k < 8 ∨ 14 < k → mI h' 55 k = mI h 55 k
theorem FP.rf (p : Nat) (h : Mem) : FP p h h := ⟨⟨fun _ _ => rfl, fun _ _ => rfl, rfl⟩, fun _ _ _ => rfl, fun _ _ _ => rfl, fun _ _ => rfl⟩
theorem FP.tr {p : Nat} {h h1 h2 : Mem} (a : FP p h h1) (c : FP p h1 h2) : FP p h h2 := ⟨⟨fun x q => (c.1.1 x q).trans (a.1.1 x q), fun x q => (c.1.2.1 x q).trans (a.1.2.1 x q), c.1.2.2.trans a.1.2.2⟩, fun x q r => (c.2.1 x q r).trans (a.2.1 x q r), fun x q r => (c.2.2.1 x q r).trans (a.2.2.1 x q r), fun k q => (c.2.2.2 k q).trans (a.2.2.2 k q)⟩
theorem FP.fg {p : Nat} {h h' : Mem} (f : FG h h') : FP p h h' := ⟨⟨fun x _ => by rw [f.1.1], fun x _ => by rw [f.1.2.1], f.1.2.2⟩, fun x _ q => f.2.1 x q, fun x _ q => f.2.2.1 x q, fun k q => f.2.2.2 k (by omega) (by omega) (by omega) (by omega) (by omega)⟩
theorem FP.w {p : Nat} (h : Mem) {a k : Nat} (v : Int32) (pp : 69 ≤ p) (ha : p ≤ a ∨ (a = 55 ∧ 8 ≤ k ∧ k ≤ 14)) : FP p h (wI h a k v) := by
  refine ⟨⟨fun _ _ => rfl, fun _ _ => rfl, rfl⟩, fun x q r => mI_wI_ne _ _ _ (by omega), fun _ _ _ => rfl, fun j q => ?_⟩
  rw [mI_if, if_neg (by omega)]
theorem FP.l {p : Nat} (h : Mem) {a k : Nat} (v : Int64) (pp : 69 ≤ p) (ha : p ≤ a ∨ a = 55) : FP p h (wL h a k v) := ⟨⟨fun _ _ => rfl, fun _ _ => rfl, rfl⟩, fun _ _ _ => rfl, fun x q r => mL_wL_ne _ _ _ (by omega), fun _ _ => rfl⟩
def sm (s : Nat) : Nat := if s = 1 then 0 else if s = 2 then 1 else 2
def MB (h : Mem) (p : Nat) (ρ τ : RO) : Prop := (PK h p) ∧ (mI h p 0 = if τ 3 1 = 0 then -nI 1 else nI (ρ 0 0)) ∧ (∀ k, 1 ≤ k → k < 9 → mI h p k = nI (ρ 0 k)) ∧ (∀ t, t < ρ 0 1 → mI h (p + 1) t = nI (ρ 1 t)) ∧ (∀ t i, t < ρ 0 1 → i < ρ 1 t → mI h (p + 2) (8 * t + i) = nI (ρ 2 (8 * t + i))) ∧ (∀ a c, a < 7 → c < 7 → mI h (p + 3) (7 * a + c) = nI (qm ρ a c)) ∧ (∀ a c, a < 7 → c < 7 → mI h (p + 4) (7 * a + c) = if qk ρ a c = 0 then -nI 2 else nI (qk ρ a c - 1)) ∧ (∀ a c, a < 7 → c < 7 → qk ρ a c ≠ 0 → mI h (p + 5) (7 * a + c) = nI (qt ρ a c)) ∧ (∀ j, j < ρ 0 3 → mI h (p + 6) j = nI (ρ 3 j)) ∧ (∀ j, j < ρ 0 3 → mI h (p + 7) j = nI (ρ 4 j)) ∧ (∀ k, k < ρ 0 5 → mI h (p + 8) k = nI (ρ 8 k)) ∧ (∀ k, k < ρ 0 5 → mI h (p + 9) k = nI (ρ 9 k)) ∧ (∀ k, k < ρ 0 5 → mI h (p + 10) k = nI (ρ 10 k)) ∧ (∀ k, k < ρ 0 5 → mI h (p + 11) k = nI (ρ 11 k)) ∧ (∀ x, x < ρ 0 6 → mI h (p + 12) x = nI (τ 4 x)) ∧ (∀ x, x < ρ 0 6 → mI h (p + 13) x = nI (τ 5 x)) ∧ (∀ x, x < 4 → mI h (p + 14) x = nI (τ 6 x)) ∧ (∀ k, k < ρ 0 8 → mI h (p + 15) k = nI (ρ 12 k))
theorem MB.pk {h : Mem} {p : Nat} {ρ τ : RO} (H : MB h p ρ τ) : PK h p := H.1
theorem MB.rn {h : Mem} {p : Nat} {ρ τ : RO} (H : MB h p ρ τ) : mI h p 0 = if τ 3 1 = 0 then -nI 1 else nI (ρ 0 0) := H.2.1
theorem MB.sc {h : Mem} {p : Nat} {ρ τ : RO} (H : MB h p ρ τ) : ∀ k, 1 ≤ k → k < 9 → mI h p k = nI (ρ 0 k) := H.2.2.1
theorem MB.len {h : Mem} {p : Nat} {ρ τ : RO} (H : MB h p ρ τ) : ∀ t, t < ρ 0 1 → mI h (p + 1) t = nI (ρ 1 t) := H.2.2.2.1
theorem MB.note {h : Mem} {p : Nat} {ρ τ : RO} (H : MB h p ρ τ) : ∀ t i, t < ρ 0 1 → i < ρ 1 t → mI h (p + 2) (8 * t + i) = nI (ρ 2 (8 * t + i)) := H.2.2.2.2.1
theorem MB.min {h : Mem} {p : Nat} {ρ τ : RO} (H : MB h p ρ τ) : ∀ a c, a < 7 → c < 7 → mI h (p + 3) (7 * a + c) = nI (qm ρ a c) := H.2.2.2.2.2.1
theorem MB.kd {h : Mem} {p : Nat} {ρ τ : RO} (H : MB h p ρ τ) : ∀ a c, a < 7 → c < 7 → mI h (p + 4) (7 * a + c) = if qk ρ a c = 0 then -nI 2 else nI (qk ρ a c - 1) := H.2.2.2.2.2.2.1
theorem MB.gt {h : Mem} {p : Nat} {ρ τ : RO} (H : MB h p ρ τ) : ∀ a c, a < 7 → c < 7 → qk ρ a c ≠ 0 → mI h (p + 5) (7 * a + c) = nI (qt ρ a c) := H.2.2.2.2.2.2.2.1
theorem MB.e1 {h : Mem} {p : Nat} {ρ τ : RO} (H : MB h p ρ τ) : ∀ j, j < ρ 0 3 → mI h (p + 6) j = nI (ρ 3 j) := H.2.2.2.2.2.2.2.2.1
theorem MB.e2 {h : Mem} {p : Nat} {ρ τ : RO} (H : MB h p ρ τ) : ∀ j, j < ρ 0 3 → mI h (p + 7) j = nI (ρ 4 j) := H.2.2.2.2.2.2.2.2.2.1
theorem MB.i8 {h : Mem} {p : Nat} {ρ τ : RO} (H : MB h p ρ τ) : ∀ k, k < ρ 0 5 → mI h (p + 8) k = nI (ρ 8 k) := H.2.2.2.2.2.2.2.2.2.2.1
theorem MB.i9 {h : Mem} {p : Nat} {ρ τ : RO} (H : MB h p ρ τ) : ∀ k, k < ρ 0 5 → mI h (p + 9) k = nI (ρ 9 k) := H.2.2.2.2.2.2.2.2.2.2.2.1
theorem MB.i10 {h : Mem} {p : Nat} {ρ τ : RO} (H : MB h p ρ τ) : ∀ k, k < ρ 0 5 → mI h (p + 10) k = nI (ρ 10 k) := H.2.2.2.2.2.2.2.2.2.2.2.2.1
theorem MB.i11 {h : Mem} {p : Nat} {ρ τ : RO} (H : MB h p ρ τ) : ∀ k, k < ρ 0 5 → mI h (p + 11) k = nI (ρ 11 k) := H.2.2.2.2.2.2.2.2.2.2.2.2.2.1
theorem MB.at {h : Mem} {p : Nat} {ρ τ : RO} (H : MB h p ρ τ) : ∀ x, x < ρ 0 6 → mI h (p + 12) x = nI (τ 4 x) := H.2.2.2.2.2.2.2.2.2.2.2.2.2.2.1
theorem MB.co {h : Mem} {p : Nat} {ρ τ : RO} (H : MB h p ρ τ) : ∀ x, x < ρ 0 6 → mI h (p + 13) x = nI (τ 5 x) := H.2.2.2.2.2.2.2.2.2.2.2.2.2.2.2.1
theorem MB.kn {h : Mem} {p : Nat} {ρ τ : RO} (H : MB h p ρ τ) : ∀ x, x < 4 → mI h (p + 14) x = nI (τ 6 x) := H.2.2.2.2.2.2.2.2.2.2.2.2.2.2.2.2.1
theorem MB.hd {h : Mem} {p : Nat} {ρ τ : RO} (H : MB h p ρ τ) : ∀ k, k < ρ 0 8 → mI h (p + 15) k = nI (ρ 12 k) := H.2.2.2.2.2.2.2.2.2.2.2.2.2.2.2.2.2
def MN (h : Mem) (p : Nat) (τ : RO) : Prop := (mI h p 9 = nI (τ 3 0)) ∧ (∀ k, k < τ 3 0 → mL h (p + 16) k = lN (τ 0 k)) ∧ (∀ k, k < τ 3 0 → mI h (p + 17) k = nI (sm (τ 1 k))) ∧ (∀ k, k < τ 3 0 → mI h (p + 18) k = nI (τ 2 k))
theorem MN.nd {h : Mem} {p : Nat} {τ : RO} (H : MN h p τ) : mI h p 9 = nI (τ 3 0) := H.1
theorem MN.nw {h : Mem} {p : Nat} {τ : RO} (H : MN h p τ) : ∀ k, k < τ 3 0 → mL h (p + 16) k = lN (τ 0 k) := H.2.1
theorem MN.ns {h : Mem} {p : Nat} {τ : RO} (H : MN h p τ) : ∀ k, k < τ 3 0 → mI h (p + 17) k = nI (sm (τ 1 k)) := H.2.2.1
theorem MN.nn {h : Mem} {p : Nat} {τ : RO} (H : MN h p τ) : ∀ k, k < τ 3 0 → mI h (p + 18) k = nI (τ 2 k) := H.2.2.2
def MS (h0 : Mem) (p : Nat) (b : Nat → Nat) (n : Nat) (ρ τ : RO) (i : Nat) (h : Mem) : Prop := (FP p h0 h) ∧ (69 ≤ p) ∧ (MP h b n) ∧ (KT h b n i) ∧ (i ≤ n) ∧ (mR h 55 4 = p) ∧ (MB h p ρ τ) ∧ (MN h p τ) ∧ (mI h 55 12 = nI 0)
theorem MS.fr {h0 : Mem} {p : Nat} {b : Nat → Nat} {n : Nat} {ρ τ : RO} {i : Nat} {h : Mem} (H : MS h0 p b n ρ τ i h) : FP p h0 h := H.1
theorem MS.pp {h0 : Mem} {p : Nat} {b : Nat → Nat} {n : Nat} {ρ τ : RO} {i : Nat} {h : Mem} (H : MS h0 p b n ρ τ i h) : 69 ≤ p := H.2.1
theorem MS.mp {h0 : Mem} {p : Nat} {b : Nat → Nat} {n : Nat} {ρ τ : RO} {i : Nat} {h : Mem} (H : MS h0 p b n ρ τ i h) : MP h b n := H.2.2.1
theorem MS.kt {h0 : Mem} {p : Nat} {b : Nat → Nat} {n : Nat} {ρ τ : RO} {i : Nat} {h : Mem} (H : MS h0 p b n ρ τ i h) : KT h b n i := H.2.2.2.1
theorem MS.le {h0 : Mem} {p : Nat} {b : Nat → Nat} {n : Nat} {ρ τ : RO} {i : Nat} {h : Mem} (H : MS h0 p b n ρ τ i h) : i ≤ n := H.2.2.2.2.1
theorem MS.rp {h0 : Mem} {p : Nat} {b : Nat → Nat} {n : Nat} {ρ τ : RO} {i : Nat} {h : Mem} (H : MS h0 p b n ρ τ i h) : mR h 55 4 = p := H.2.2.2.2.2.1
theorem MS.bo {h0 : Mem} {p : Nat} {b : Nat → Nat} {n : Nat} {ρ τ : RO} {i : Nat} {h : Mem} (H : MS h0 p b n ρ τ i h) : MB h p ρ τ := H.2.2.2.2.2.2.1
theorem MS.nm {h0 : Mem} {p : Nat} {b : Nat → Nat} {n : Nat} {ρ τ : RO} {i : Nat} {h : Mem} (H : MS h0 p b n ρ τ i h) : MN h p τ := H.2.2.2.2.2.2.2.1
theorem MS.fl {h0 : Mem} {p : Nat} {b : Nat → Nat} {n : Nat} {ρ τ : RO} {i : Nat} {h : Mem} (H : MS h0 p b n ρ τ i h) : mI h 55 12 = nI 0 := H.2.2.2.2.2.2.2.2
def MO (h0 : Mem) (p : Nat) (f : FA) (h : Mem) : Prop := (FP p h0 h) ∧ (69 ≤ p) ∧ (SH h) ∧ (mR h 55 4 = p) ∧ (PK h p) ∧ (∃ k, k ≤ 17 ∧ mI h p 9 = nI k) ∧ (mI h 55 9 = nI 5) ∧ (mI h 55 12 = nI f.1) ∧ (mI h 55 13 = nI f.2)
theorem MO.fr {h0 : Mem} {p : Nat} {f : FA} {h : Mem} (H : MO h0 p f h) : FP p h0 h := H.1
theorem MO.pp {h0 : Mem} {p : Nat} {f : FA} {h : Mem} (H : MO h0 p f h) : 69 ≤ p := H.2.1
theorem MO.sh {h0 : Mem} {p : Nat} {f : FA} {h : Mem} (H : MO h0 p f h) : SH h := H.2.2.1
theorem MO.rp {h0 : Mem} {p : Nat} {f : FA} {h : Mem} (H : MO h0 p f h) : mR h 55 4 = p := H.2.2.2.1
theorem MO.pk {h0 : Mem} {p : Nat} {f : FA} {h : Mem} (H : MO h0 p f h) : PK h p := H.2.2.2.2.1
theorem MO.nd {h0 : Mem} {p : Nat} {f : FA} {h : Mem} (H : MO h0 p f h) : ∃ k, k ≤ 17 ∧ mI h p 9 = nI k := H.2.2.2.2.2.1
theorem MO.o5 {h0 : Mem} {p : Nat} {f : FA} {h : Mem} (H : MO h0 p f h) : mI h 55 9 = nI 5 := H.2.2.2.2.2.2.1
theorem MO.fl {h0 : Mem} {p : Nat} {f : FA} {h : Mem} (H : MO h0 p f h) : mI h 55 12 = nI f.1 := H.2.2.2.2.2.2.2.1
theorem MO.fa {h0 : Mem} {p : Nat} {f : FA} {h : Mem} (H : MO h0 p f h) : mI h 55 13 = nI f.2 := H.2.2.2.2.2.2.2.2
theorem MB.fr {h h' : Mem} {p : Nat} {ρ τ : RO} (et : ∀ k, k < 19 → mT h' (p + k) = mT h (p + k)) (er : mR h' p = mR h p) (ei : ∀ k, k < 16 → mI h' (p + k) = mI h (p + k)) (k : MB h p ρ τ) : MB h' p ρ τ := by
  have e0 := ei 0 (by decide)
  rw [Nat.add_zero] at e0
  obtain ⟨k0, k⟩ := k
  refine ⟨k0.fr et er, ?_⟩
  rw [e0, ei 1 (by decide), ei 2 (by decide), ei 3 (by decide), ei 4 (by decide), ei 5 (by decide), ei 6 (by decide), ei 7 (by decide), ei 8 (by decide), ei 9 (by decide), ei 10 (by decide), ei 11 (by decide), ei 12 (by decide), ei 13 (by decide), ei 14 (by decide), ei 15 (by decide)]
  exact k
theorem MN.fr {h h' : Mem} {p : Nat} {τ τ' : RO} (e0 : mI h' p 9 = mI h p 9) (el : mL h' (p + 16) = mL h (p + 16)) (e17 : mI h' (p + 17) = mI h (p + 17)) (e18 : mI h' (p + 18) = mI h (p + 18)) (eτ : τ' 0 = τ 0 ∧ τ' 1 = τ 1 ∧ τ' 2 = τ 2 ∧ τ' 3 0 = τ 3 0) (k : MN h p τ) : MN h' p τ' := by
  unfold MN at *
  rw [e0, el, e17, e18, eτ.1, eτ.2.1, eτ.2.2.1, eτ.2.2.2]
  exact k
theorem km_i {k : Nat} (hk : k < 5) : km k < 5 ∧ (km k = 1 ↔ k = 0) ∧ (km k = 2 ↔ k = 1) ∧ (km k = 3 ↔ k = 2) ∧ (km k = 4 ↔ k = 3) := by
  unfold km
  split <;> omega
theorem m_find {h : Mem} {p m : Nat} (K : PK h p) (e : mI h p 9 = nI m) (hm : m ≤ 17) (w : Int64) : f_X12_find h p w = some (nI (pw (mL h (p + 16)) m w) - nI 1) := by
  have q : iter (fun (s : Int32) => b_X12_find_2 h p w s) FU (nI 0) = some (if ff (fun k => decide (mL h (p + 16) k = w)) m < m then Sum.inl (nI (ff (fun k => decide (mL h (p + 16) k = w)) m)) else Sum.inr ()) := by
    refine iter_ff (fun k => nI k) (fun k => decide (mL h (p + 16) k = w)) m (FU_lt (by omega)) (fun k hk hp => ?_) ?_
    · have hp : ¬ mL h (p + 16) k = w := of_decide_eq_false hp
      have hc : ¬ lg_cmp (mL h (p + 16) k) w = nI 0 := fun e => hp ((lg_cmp_eq _ _).1 e)
      unfold b_X12_find_2
      simp (disch := omega) only [ob, nI_lit, nI_add, pk_mul, nI_eq, nI_ltI, nI_leI, if_true, if_false, if_pos, if_neg, gI_of (tP K), e, gR_of (tP K), rP_25 K, aL_of (tP_16 K), hc]
    · unfold b_X12_find_2
      rcases Nat.lt_or_ge (ff (fun k => decide (mL h (p + 16) k = w)) m) m with c | c
      · have hp : mL h (p + 16) (ff (fun k => decide (mL h (p + 16) k = w)) m) = w := of_decide_eq_true (ff_at (fun k => decide (mL h (p + 16) k = w)) m c)
        have hc : lg_cmp (mL h (p + 16) (ff (fun k => decide (mL h (p + 16) k = w)) m)) w = nI 0 := (lg_cmp_eq _ _).2 hp
        simp (disch := omega) only [ob, nI_lit, nI_add, pk_mul, nI_eq, nI_ltI, nI_leI, if_true, if_false, if_pos, if_neg, gI_of (tP K), e, gR_of (tP K), rP_25 K, aL_of (tP_16 K), hc]
      · have := ff_le (fun k => decide (mL h (p + 16) k = w)) m
        simp (disch := omega) only [ob, nI_lit, nI_add, pk_mul, nI_eq, nI_ltI, nI_leI, if_true, if_false, if_pos, if_neg, gI_of (tP K), e]
  unfold f_X12_find pw
  simp (disch := omega) only [ob, nI_lit, nI_add, pk_mul, nI_eq, nI_ltI, nI_leI, if_true, if_false, if_pos, if_neg, ck_of (tP K), q]
  split
  · rw [pk_sub (by omega)]
    rfl
  · rfl
theorem packed_h (h h' : Mem) (k : Nat) : f_X13_packed h k = f_X13_packed h' k := rfl
theorem packed_0 : ∀ k, k < 20 → f_X13_packed h00 k = some (lN (me k)) := by decide +kernel
theorem packed_n (h : Mem) {k : Nat} (hk : k < 20) : f_X13_packed h k = some (lN (me k)) := (packed_h h h00 k).trans (packed_0 k hk)
theorem me_inj : ∀ j, j < 20 → ∀ k, k < 20 → lN (me j) = lN (me k) → j = k := by decide +kernel
theorem mg_iff {w : Int64} {k : Nat} (hk : k < 20) : mg w = k + 1 ↔ w = lN (me k) := by
  show (if ff (fun k => decide (lN (me k) = w)) 20 < 20 then ff (fun k => decide (lN (me k) = w)) 20 + 1 else 0) = k + 1 ↔ _
  constructor
  · intro h
    split at h
    · rename_i c
      have hp := of_decide_eq_true (ff_at (fun k => decide (lN (me k) = w)) 20 c)
      rw [show ff (fun k => decide (lN (me k) = w)) 20 = k by omega] at hp
      exact hp.symm
    · omega
  · intro h
    subst h
    have e : ff (fun j => decide (lN (me j) = lN (me k))) 20 = k := by
      refine ff_eq (by omega) (fun j hj => ?_) (fun _ => ?_)
      · refine decide_eq_false (fun z => ?_)
        have := me_inj j (by omega) k hk z
        omega
      · exact decide_eq_true rfl
    rw [e, if_pos hk]
section
variable {h0 : Mem} {p : Nat} {f : FA} {h : Mem}
theorem MO.goes (O : MO h0 p f h) : f_X13_goesOn h 55 = some h := by
  unfold f_X13_goesOn
  simp only [ob, nI_lit, ck_of (tS_55 O.sh), gI_of (tS_55 O.sh), O.o5, if_true]
theorem MO.flaw (O : MO h0 p f h) (v : Int32) : f_X13_flaw h 55 v = some h := by
  unfold f_X13_flaw
  simp only [ob, nI_lit, ck_of (tS_55 O.sh), gI_of (tS_55 O.sh), O.o5, if_true]
theorem n52 : (nI 5 = nI 2) = False := eq_false (by decide)
theorem n53 : (nI 5 = nI 3) = False := eq_false (by decide)
theorem n54 : (nI 5 = nI 4) = False := eq_false (by decide)
theorem n51 : (nI 5 = nI 1) = False := eq_false (by decide)
theorem MO.isw (O : MO h0 p f h) (k : Nat) : f_X13_isWord h 55 k = some (nI 0) := by
  unfold f_X13_isWord f_X13_isWord_24
  simp only [ob, nI_lit, ck_of (tS_55 O.sh), gI_of (tS_55 O.sh), O.o5, n52, if_false]
theorem MO.isn (O : MO h0 p f h) : f_X13_isName h 55 = some (nI 0) := by
  unfold f_X13_isName
  simp only [ob, nI_lit, ck_of (tS_55 O.sh), gI_of (tS_55 O.sh), O.o5, n52, if_false]
theorem MO.needs (O : MO h0 p f h) (k : Nat) : f_X13_needs h 55 k = some h := by
  unfold f_X13_needs f_X13_needs_13
  simp only [ob, nI_lit, ck_of (tS_55 O.sh), O.isw, if_true, O.flaw, O.goes]
theorem MO.num (O : MO h0 p f h) (lo hi : Int32) : f_X13_readWhole h 55 lo hi = some (lo, h) := by
  unfold f_X13_readWhole f_X13_readWhole_33 f_X13_readWhole_49
  simp only [ob, nI_lit, ck_of (tS_55 O.sh), gI_of (tS_55 O.sh), O.o5, n53, if_false, if_true, O.flaw, O.goes]
theorem MO.part (O : MO h0 p f h) (k : Nat) (lo hi : Int32) : f_X13_readPart h 55 k lo hi = some (lo, h) := by
  unfold f_X13_readPart
  simp only [ob, ck_of (tS_55 O.sh), O.needs, O.num]
theorem MO.fresh (O : MO h0 p f h) : f_X13_readFresh h 55 = some (mL h 55 15, h) := by
  obtain ⟨k, hk, e⟩ := O.nd
  unfold f_X13_readFresh f_X13_readFresh_12 f_X13_readFresh_32
  simp only [ob, nI_lit, ck_of (tS_55 O.sh), O.isn, if_true, O.flaw, gR_of (tS_55 O.sh), O.rp, gL_of (tS_55 O.sh), m_find O.pk e hk, O.goes, ite_self]
theorem kN_m1 {k : Nat} (h : k < 2 ^ 31) : (nI k - nI 1 = -nI 1) = (k = 0) := by
  apply propext
  constructor
  · intro q
    rcases Nat.eq_zero_or_pos k with z | z
    · exact z
    · rw [pk_sub (by omega), nI_nem (by omega) (by omega) (by omega)] at q
      exact q.elim
  · intro q
    subst q
    exact nI_0m1
theorem MO.known1 (O : MO h0 p f h) (s : Int32) : f_X13_knownOne h 55 s = some (nI 0, h) := by
  obtain ⟨k, hk, e⟩ := O.nd
  have hp := pw_le (mL h (p + 16)) k (mL h 55 15)
  unfold f_X13_knownOne f_X13_knownOne_12 f_X13_knownOne_42 f_X13_knownOne_47
  simp (disch := omega) only [ob, nI_lit, ck_of (tS_55 O.sh), O.isn, if_true, O.flaw, gR_of (tS_55 O.sh), gI_of (tS_55 O.sh), O.rp, gL_of (tS_55 O.sh), m_find O.pk e hk, O.o5, kN_m1]
  split
  · rfl
  · simp (disch := omega) only [ob, pk_sub, gR_of (tP O.pk), rP_26 O.pk, aI_of (tP_17 O.pk), ite_self]
theorem MO.known (O : MO h0 p f h) (s : Int32) : f_X13_readKnown h 55 s = some (nI 0, h) := by
  unfold f_X13_readKnown
  simp only [ob, ck_of (tS_55 O.sh), O.known1, O.goes]
theorem MO.lb (O : MO h0 p f h) (v w : Int32) : f_X13_lineBegins h 55 v w = some h := by
  unfold f_X13_lineBegins f_X13_lineBegins_10 f_X13_lineBegins_27
  simp only [ob, nI_lit, ck_of (tS_55 O.sh), O.flaw, gR_of (tS_55 O.sh), O.rp, gI_of (tP O.pk), O.goes, ite_self]
end
section
variable {h0 : Mem} {p : Nat} {b : Nat → Nat} {n : Nat} {ρ τ : RO} {i : Nat} {h : Mem}
theorem MS.goes (M : MS h0 p b n ρ τ i h) (hk : tk b n i ≠ 4) : OK (f_X13_goesOn h 55) (MS h0 p b n ρ τ (ta b n i)) := by
  have hl := tk_lt b n i
  have pp := M.pp
  obtain ⟨h', e, F, K⟩ := m_goesOn M.mp (ta_le b M.le) (M.kt.af hk) ⟨_, (km_i hl).1, M.kt.kd⟩
  have e1 := F.2.1
  exact ⟨h', e, M.fr.tr (FP.fg F), pp, M.mp.fg F, K, ta_le b M.le, by rw [F.1.2.1]; exact M.rp, M.bo.fr (fun k _ => by rw [F.1.1]) (by rw [F.1.2.1]) (fun k _ => e1 _ (by omega)), M.nm.fr (by rw [e1 p (by omega)]) (F.2.2.1 _ (by omega)) (e1 _ (by omega)) (e1 _ (by omega)) ⟨rfl, rfl, rfl, rfl⟩, by rw [F.2.2.2 12 (by decide) (by decide) (by decide) (by decide) (by decide)]; exact M.fl⟩
theorem MS.flaw (M : MS h0 p b n ρ τ i h) (h17 : τ 3 0 ≤ 17) (c : Nat) : OK (f_X13_flaw h 55 (nI c)) (MO h0 p (c, sp b n i)) := by
  have hl := tk_lt b n i
  have hm := (km_i hl).1
  have pp := M.pp
  have S := M.mp.sh
  have S1 : SH (wI h 55 12 (nI c)) := S
  have S2 : SH (wI (wI h 55 12 (nI c)) 55 13 (nI (sp b n i))) := S
  have g : mI (wI h 55 12 (nI c)) 55 10 = nI (sp b n i) := by
    rw [mI_wI_at, pk_un (by decide)]
    exact M.kt.at
  have e : f_X13_flaw h 55 (nI c) = some (wI (wI (wI h 55 12 (nI c)) 55 13 (nI (sp b n i))) 55 9 (nI 5)) := by
    unfold f_X13_flaw
    simp (disch := omega) only [ob, nI_lit, ck_of (tS_55 S), gI_of (tS_55 S), M.kt.kd, nI_eq, if_neg, pI_of (tS_55 S), gI_of (tS_55 S1), g, pI_of (tS_55 S1), pI_of (tS_55 S2)]
  refine ⟨_, e, M.fr.tr ((FP.w h _ pp (by omega)).tr ((FP.w _ _ pp (by omega)).tr (FP.w _ _ pp (by omega)))), pp, S, M.rp, M.bo.pk, ⟨τ 3 0, h17, ?_⟩, ?_, ?_, ?_⟩
  · rw [mI_wI_ne _ _ _ (by omega), mI_wI_ne _ _ _ (by omega), mI_wI_ne _ _ _ (by omega)]
    exact M.nm.nd
  · rw [mI_wI_at, pk_us]
  · rw [mI_wI_at, pk_un (by decide), mI_wI_at, pk_un (by decide), mI_wI_at, pk_us]
  · rw [mI_wI_at, pk_un (by decide), mI_wI_at, pk_us]
theorem MS.isw (M : MS h0 p b n ρ τ i h) {k : Nat} (hk : k < 20) : f_X13_isWord h 55 k = some (nI (isW b n i k).toNat) := by
  have S := M.mp.sh
  have hl := tk_lt b n i
  have hm := km_i hl
  unfold f_X13_isWord f_X13_isWord_24 isW
  rcases Decidable.em (tk b n i = 1) with e | e
  · have h15 : mL h 55 15 = lN (tW b n i) := (M.kt.wo e).1
    have k2 : km (tk b n i) = 2 := hm.2.2.1.2 e
    have hd : decide (tM b n i = k + 1) = decide (lN (tW b n i) = lN (me k)) := by
      rcases Decidable.em (tM b n i = k + 1) with d | d
      · rw [decide_eq_true d, decide_eq_true ((mg_iff hk).1 d)]
      · rw [decide_eq_false d, decide_eq_false (fun z => d ((mg_iff hk).2 z))]
    simp (disch := omega) only [ob, nI_lit, ck_of (tS_55 S), gI_of (tS_55 S), M.kt.kd, k2, if_true, gL_of (tS_55 S), h15, packed_n h hk, decide_eq_true e, Bool.true_and, hd]
    rcases Decidable.em (lN (tW b n i) = lN (me k)) with d | d
    · have hc : lg_cmp (lN (tW b n i)) (lN (me k)) = nI 0 := (lg_cmp_eq _ _).2 d
      simp only [hc, if_true, decide_eq_true d]
      rfl
    · have hc : (lg_cmp (lN (tW b n i)) (lN (me k)) = nI 0) = False := eq_false (fun z => d ((lg_cmp_eq _ _).1 z))
      simp only [hc, if_false, decide_eq_false d]
      rfl
  · simp (disch := omega) only [ob, nI_lit, ck_of (tS_55 S), gI_of (tS_55 S), M.kt.kd, nI_eq, if_neg, decide_eq_false e, Bool.false_and, Bool.toNat_false]
theorem MS.isn (M : MS h0 p b n ρ τ i h) : f_X13_isName h 55 = some (nI (isN b n i).toNat) := by
  have S := M.mp.sh
  have hl := tk_lt b n i
  have hm := km_i hl
  have hM := tM_le b n i
  have w : ∀ k, k < 20 → f_X13_isWord h 55 k = some (nI (isW b n i k).toNat) := fun k hk => M.isw hk
  unfold f_X13_isName f_X13_isName_95
  rcases Decidable.em (tk b n i = 1) with e | e
  · have k2 : km (tk b n i) = 2 := hm.2.2.1.2 e
    have v : ∀ k, isW b n i k = decide (tM b n i = k + 1) := fun k => by
      unfold isW
      rw [decide_eq_true e, Bool.true_and]
    have vN : isN b n i = (decide (tM b n i = 0) || decide (10 ≤ tM b n i)) := by
      unfold isN
      rw [decide_eq_true e, Bool.true_and]
    rw [vN]
    simp only [ob, nI_lit, ck_of (tS_55 S), gI_of (tS_55 S), M.kt.kd, k2, if_true, w 0 (by decide), w 1 (by decide), w 2 (by decide), w 3 (by decide), w 4 (by decide), w 5 (by decide), w 6 (by decide), w 7 (by decide), w 8 (by decide), nI_b0, v, decide_eq_false_iff_not, ite_not]
    generalize tM b n i = t at hM ⊢
    rcases (show t = 1 ∨ t = 2 ∨ t = 3 ∨ t = 4 ∨ t = 5 ∨ t = 6 ∨ t = 7 ∨ t = 8 ∨ t = 9 ∨ t = 0 ∨ 10 ≤ t by omega) with z | z | z | z | z | z | z | z | z | z | z
    · subst z; rfl
    · subst z; rfl
    · subst z; rfl
    · subst z; rfl
    · subst z; rfl
    · subst z; rfl
    · subst z; rfl
    · subst z; rfl
    · subst z; rfl
    · subst z; rfl
    · rw [decide_eq_false (show ¬ t = 0 by omega), decide_eq_true z]
      simp (disch := omega) only [if_neg]
      rfl
  · have v : isN b n i = false := by
      unfold isN
      rw [decide_eq_false e, Bool.false_and]
    rw [v]
    simp (disch := omega) only [ob, nI_lit, ck_of (tS_55 S), gI_of (tS_55 S), M.kt.kd, nI_eq, if_neg, Bool.toNat_false]
theorem MS.find (M : MS h0 p b n ρ τ i h) (h17 : τ 3 0 ≤ 17) (w : Nat) : f_X12_find h p (lN w) = some (nI (fN τ w) - nI 1) := by
  rw [m_find M.bo.pk M.nm.nd h17, pw_congr (g := fun k => lN (τ 0 k)) (fun k hk => M.nm.nw k hk)]
  rfl
def sU (h0 : Mem) (p : Nat) (b : Nat → Nat) (n : Nat) (ρ τ : RO) (j : Nat) (e : FA ⊕ Unit) (q : Mem) : Prop := match e with
  | .inl f => MO h0 p f q
  | .inr _ => MS h0 p b n ρ τ j q
def sN (h0 : Mem) (p : Nat) (b : Nat → Nat) (n : Nat) (ρ τ : RO) (j : Nat) (e : FA ⊕ Nat) (q : Int32 × Mem) : Prop := match e with
  | .inl f => MO h0 p f q.2
  | .inr v => q.1 = nI v ∧ MS h0 p b n ρ τ j q.2
def sLn (h0 : Mem) (p : Nat) (b : Nat → Nat) (n : Nat) (e : LR) (q : Mem) : Prop := match e with
  | .inl f => MO h0 p f q
  | .inr s => MS h0 p b n s.1 s.2.1 s.2.2 q
theorem MS.needs (M : MS h0 p b n ρ τ i h) (h17 : τ 3 0 ≤ 17) {k : Nat} (hk : k < 20) : OK (f_X13_needs h 55 k) (sU h0 p b n ρ τ (ta b n i) (pWord b n k i)) := by
  have S := M.mp.sh
  unfold f_X13_needs f_X13_needs_13 pWord
  simp only [ob, nI_lit, ck_of (tS_55 S), M.isw hk, nI_b0]
  rcases e : isW b n i k with _ | _
  · obtain ⟨h1, e1, O⟩ := M.flaw h17 1
    simp only [if_true, Bool.false_eq_true, if_false, e1, ob, O.goes]
    exact ⟨_, rfl, O⟩
  · obtain ⟨h', e1, M1⟩ := M.goes (by rw [(isW_tk e).1]; decide)
    simp only [Bool.true_eq_false, if_false, if_true, e1, ob]
    exact ⟨_, rfl, M1⟩
end
