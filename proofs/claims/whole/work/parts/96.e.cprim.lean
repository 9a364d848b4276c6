/-! ===== the class reads: its state, its smallest steps ===== -/
theorem n1_lt0 : ((-nI 1 : Int32) < nI 0) = True := eq_true (by decide)
theorem n1_ge0 : ((nI 0 : Int32) ≤ -nI 1) = False := eq_false (by decide)
theorem mI_if (h : Mem) (a k : Nat) (v : Int32) (x j : Nat) : mI (wI h a k v) x j = if x = a ∧ j = k then v else mI h x j := by
  rcases Decidable.em (x = a) with e | e
  · subst e
    rw [mI_wI_at]
    rcases Decidable.em (j = k) with d | d
    · rw [d, pk_us, if_pos ⟨rfl, rfl⟩]
    · rw [pk_un d, if_neg (fun q => d q.2)]
  · rw [mI_wI_ne _ _ _ e, if_neg (fun q => e q.1)]
theorem mL_if (h : Mem) (a k : Nat) (v : Int64) (x j : Nat) : mL (wL h a k v) x j = if x = a ∧ j = k then v else mL h x j := by
  rcases Decidable.em (x = a) with e | e
  · subst e
    rw [mL_wL_at]
    rcases Decidable.em (j = k) with d | d
    · subst d
      rw [if_pos ⟨rfl, rfl⟩]
      unfold vp_updL
      simp
    · rw [if_neg (fun q => d q.2)]
      unfold vp_updL
      simp [d]
  · rw [mL_wL_ne _ _ _ e, if_neg (fun q => e q.1)]
/-- what the reading may change -/
def FR (r : Nat) (h h' : Mem) : Prop := (mT h' = mT h ∧ mR h' = mR h ∧ mN h' = mN h) ∧ (∀ x, x ≠ 14 → x ≠ 18 → x ≠ 19 → x ≠ 20 → x < r ∨ r + 12 ≤ x → mI h' x = mI h x) ∧ ∀ x, x ≠ 14 → x ≠ 17 → mL h' x = mL h x
theorem FR.rf (r : Nat) (h : Mem) : FR r h h := ⟨⟨rfl, rfl, rfl⟩, fun _ _ _ _ _ _ => rfl, fun _ _ _ => rfl⟩
theorem FR.tr {r : Nat} {h h1 h2 : Mem} (a : FR r h h1) (c : FR r h1 h2) : FR r h h2 := ⟨⟨c.1.1.trans a.1.1, c.1.2.1.trans a.1.2.1, c.1.2.2.trans a.1.2.2⟩, fun x p q s t u => (c.2.1 x p q s t u).trans (a.2.1 x p q s t u), fun x p q => (c.2.2 x p q).trans (a.2.2 x p q)⟩
theorem FR.ft {r : Nat} {h h' : Mem} (f : FT h h') : FR r h h' := ⟨f.1, fun x p _ _ _ _ => f.2.1 x p, fun x p _ => f.2.2.1 x p⟩
theorem FR.w {r : Nat} (h : Mem) {a : Nat} (k : Nat) (v : Int32) (ha : a = 14 ∨ a = 18 ∨ a = 19 ∨ a = 20 ∨ (r ≤ a ∧ a < r + 12)) : FR r h (wI h a k v) := ⟨⟨rfl, rfl, rfl⟩, fun x p q s t u => mI_wI_ne _ _ _ (by omega), fun _ _ _ => rfl⟩
theorem FR.l {r : Nat} (h : Mem) {a : Nat} (k : Nat) (v : Int64) (ha : a = 14 ∨ a = 17) : FR r h (wL h a k v) := ⟨⟨rfl, rfl, rfl⟩, fun _ _ _ _ _ _ => rfl, fun x p q => mL_wL_ne _ _ _ (by omega)⟩
def CB (h : Mem) (r : Nat) (ρ τ : RO) : Prop := (RD h r) ∧ (∀ k, k < 9 → mI h r k = nI (ρ 0 k)) ∧ (∀ t, t < ρ 0 1 → mI h (r + 1) t = nI (ρ 1 t)) ∧ (∀ t i, t < ρ 0 1 → i < ρ 1 t → mI h (r + 2) (t * 8 + i) = nI (ρ 2 (8 * t + i))) ∧ (∀ j, j < ρ 0 3 → mI h (r + 3) (j * 2) = nI (ρ 3 j)) ∧ (∀ j, j < ρ 0 3 → mI h (r + 3) (j * 2 + 1) = nI (ρ 4 j)) ∧ (∀ j, j < ρ 0 3 → mI h (r + 4) j = nI (ρ 5 j)) ∧ (∀ j, j < 10 → mI h (r + 5) j = nI (ρ 6 j) - nI 1) ∧ (∀ j, j < 10 → ρ 6 j ≠ 0 → mI h (r + 6) j = nI (ρ 7 j)) ∧ (∀ p q, p < 7 → q < 7 → mI h (r + 7) (p * 7 + q) = nI (ρ 13 (7 * p + q)) - nI 1) ∧ (∀ k w, k < ρ 0 5 → w < 4 → mI h (r + 8) (k * 4 + w) = nI (ρ (8 + w) k)) ∧ (∀ k, k < ρ 0 8 → mI h (r + 9) k = nI (ρ 12 k)) ∧ (∀ x w, x < 4 → w < 5 → mI h (r + 11) (x * 5 + w) = nI (τ (4 + w) x)) ∧ (mI h (r + 11) 20 = nI (τ 9 0))
theorem CB.rd {h : Mem} {r : Nat} {ρ τ : RO} (H : CB h r ρ τ) : RD h r := H.1
theorem CB.sc {h : Mem} {r : Nat} {ρ τ : RO} (H : CB h r ρ τ) : ∀ k, k < 9 → mI h r k = nI (ρ 0 k) := H.2.1
theorem CB.len {h : Mem} {r : Nat} {ρ τ : RO} (H : CB h r ρ τ) : ∀ t, t < ρ 0 1 → mI h (r + 1) t = nI (ρ 1 t) := H.2.2.1
theorem CB.note {h : Mem} {r : Nat} {ρ τ : RO} (H : CB h r ρ τ) : ∀ t i, t < ρ 0 1 → i < ρ 1 t → mI h (r + 2) (t * 8 + i) = nI (ρ 2 (8 * t + i)) := H.2.2.2.1
theorem CB.e1 {h : Mem} {r : Nat} {ρ τ : RO} (H : CB h r ρ τ) : ∀ j, j < ρ 0 3 → mI h (r + 3) (j * 2) = nI (ρ 3 j) := H.2.2.2.2.1
theorem CB.e2 {h : Mem} {r : Nat} {ρ τ : RO} (H : CB h r ρ τ) : ∀ j, j < ρ 0 3 → mI h (r + 3) (j * 2 + 1) = nI (ρ 4 j) := H.2.2.2.2.2.1
theorem CB.min {h : Mem} {r : Nat} {ρ τ : RO} (H : CB h r ρ τ) : ∀ j, j < ρ 0 3 → mI h (r + 4) j = nI (ρ 5 j) := H.2.2.2.2.2.2.1
theorem CB.kd {h : Mem} {r : Nat} {ρ τ : RO} (H : CB h r ρ τ) : ∀ j, j < 10 → mI h (r + 5) j = nI (ρ 6 j) - nI 1 := H.2.2.2.2.2.2.2.1
theorem CB.gt {h : Mem} {r : Nat} {ρ τ : RO} (H : CB h r ρ τ) : ∀ j, j < 10 → ρ 6 j ≠ 0 → mI h (r + 6) j = nI (ρ 7 j) := H.2.2.2.2.2.2.2.2.1
theorem CB.bt {h : Mem} {r : Nat} {ρ τ : RO} (H : CB h r ρ τ) : ∀ p q, p < 7 → q < 7 → mI h (r + 7) (p * 7 + q) = nI (ρ 13 (7 * p + q)) - nI 1 := H.2.2.2.2.2.2.2.2.2.1
theorem CB.ip {h : Mem} {r : Nat} {ρ τ : RO} (H : CB h r ρ τ) : ∀ k w, k < ρ 0 5 → w < 4 → mI h (r + 8) (k * 4 + w) = nI (ρ (8 + w) k) := H.2.2.2.2.2.2.2.2.2.2.1
theorem CB.hd {h : Mem} {r : Nat} {ρ τ : RO} (H : CB h r ρ τ) : ∀ k, k < ρ 0 8 → mI h (r + 9) k = nI (ρ 12 k) := H.2.2.2.2.2.2.2.2.2.2.2.1
theorem CB.st {h : Mem} {r : Nat} {ρ τ : RO} (H : CB h r ρ τ) : ∀ x w, x < 4 → w < 5 → mI h (r + 11) (x * 5 + w) = nI (τ (4 + w) x) := H.2.2.2.2.2.2.2.2.2.2.2.2.1
theorem CB.s2 {h : Mem} {r : Nat} {ρ τ : RO} (H : CB h r ρ τ) : mI h (r + 11) 20 = nI (τ 9 0) := H.2.2.2.2.2.2.2.2.2.2.2.2.2
def CN (h : Mem) (τ : RO) : Prop := (mI h 14 7 = nI (τ 3 0)) ∧ (∀ k, k < τ 3 0 → mL h 17 k = lN (τ 0 k)) ∧ (∀ k, k < τ 3 0 → mI h 18 k = nI (τ 1 k)) ∧ (∀ k, k < τ 3 0 → mI h 19 k = nI (τ 2 k))
theorem CN.nd {h : Mem} {τ : RO} (H : CN h τ) : mI h 14 7 = nI (τ 3 0) := H.1
theorem CN.nw {h : Mem} {τ : RO} (H : CN h τ) : ∀ k, k < τ 3 0 → mL h 17 k = lN (τ 0 k) := H.2.1
theorem CN.ns {h : Mem} {τ : RO} (H : CN h τ) : ∀ k, k < τ 3 0 → mI h 18 k = nI (τ 1 k) := H.2.2.1
theorem CN.nn {h : Mem} {τ : RO} (H : CN h τ) : ∀ k, k < τ 3 0 → mI h 19 k = nI (τ 2 k) := H.2.2.2
def CS (h0 : Mem) (r : Nat) (b : Nat → Nat) (n : Nat) (ρ τ : RO) (L : Nat → Nat) (i : Nat) (h : Mem) : Prop := (FR r h0 h) ∧ (r = 2 ∨ r = 21) ∧ (TP h b n) ∧ (TK h b n i) ∧ (i ≤ n) ∧ (mR h 14 6 = r) ∧ (CB h r ρ τ) ∧ (CN h τ) ∧ (∀ k, k < 9 → mI h 20 k = nI (L k)) ∧ (mI h 14 15 = nI 0) ∧ (mI h 14 16 = nI 0) ∧ (mI h 14 17 = -nI 1)
theorem CS.fr {h0 : Mem} {r : Nat} {b : Nat → Nat} {n : Nat} {ρ τ : RO} {L : Nat → Nat} {i : Nat} {h : Mem} (H : CS h0 r b n ρ τ L i h) : FR r h0 h := H.1
theorem CS.rr {h0 : Mem} {r : Nat} {b : Nat → Nat} {n : Nat} {ρ τ : RO} {L : Nat → Nat} {i : Nat} {h : Mem} (H : CS h0 r b n ρ τ L i h) : r = 2 ∨ r = 21 := H.2.1
theorem CS.tp {h0 : Mem} {r : Nat} {b : Nat → Nat} {n : Nat} {ρ τ : RO} {L : Nat → Nat} {i : Nat} {h : Mem} (H : CS h0 r b n ρ τ L i h) : TP h b n := H.2.2.1
theorem CS.kt {h0 : Mem} {r : Nat} {b : Nat → Nat} {n : Nat} {ρ τ : RO} {L : Nat → Nat} {i : Nat} {h : Mem} (H : CS h0 r b n ρ τ L i h) : TK h b n i := H.2.2.2.1
theorem CS.le {h0 : Mem} {r : Nat} {b : Nat → Nat} {n : Nat} {ρ τ : RO} {L : Nat → Nat} {i : Nat} {h : Mem} (H : CS h0 r b n ρ τ L i h) : i ≤ n := H.2.2.2.2.1
theorem CS.rp {h0 : Mem} {r : Nat} {b : Nat → Nat} {n : Nat} {ρ τ : RO} {L : Nat → Nat} {i : Nat} {h : Mem} (H : CS h0 r b n ρ τ L i h) : mR h 14 6 = r := H.2.2.2.2.2.1
theorem CS.bo {h0 : Mem} {r : Nat} {b : Nat → Nat} {n : Nat} {ρ τ : RO} {L : Nat → Nat} {i : Nat} {h : Mem} (H : CS h0 r b n ρ τ L i h) : CB h r ρ τ := H.2.2.2.2.2.2.1
theorem CS.nm {h0 : Mem} {r : Nat} {b : Nat → Nat} {n : Nat} {ρ τ : RO} {L : Nat → Nat} {i : Nat} {h : Mem} (H : CS h0 r b n ρ τ L i h) : CN h τ := H.2.2.2.2.2.2.2.1
theorem CS.ls {h0 : Mem} {r : Nat} {b : Nat → Nat} {n : Nat} {ρ τ : RO} {L : Nat → Nat} {i : Nat} {h : Mem} (H : CS h0 r b n ρ τ L i h) : ∀ k, k < 9 → mI h 20 k = nI (L k) := H.2.2.2.2.2.2.2.2.1
theorem CS.fd {h0 : Mem} {r : Nat} {b : Nat → Nat} {n : Nat} {ρ τ : RO} {L : Nat → Nat} {i : Nat} {h : Mem} (H : CS h0 r b n ρ τ L i h) : mI h 14 15 = nI 0 := H.2.2.2.2.2.2.2.2.2.1
theorem CS.fl {h0 : Mem} {r : Nat} {b : Nat → Nat} {n : Nat} {ρ τ : RO} {L : Nat → Nat} {i : Nat} {h : Mem} (H : CS h0 r b n ρ τ L i h) : mI h 14 16 = nI 0 := H.2.2.2.2.2.2.2.2.2.2.1
theorem CS.fa {h0 : Mem} {r : Nat} {b : Nat → Nat} {n : Nat} {ρ τ : RO} {L : Nat → Nat} {i : Nat} {h : Mem} (H : CS h0 r b n ρ τ L i h) : mI h 14 17 = -nI 1 := H.2.2.2.2.2.2.2.2.2.2.2
def CF (h0 : Mem) (r : Nat) (f : FA) (h : Mem) : Prop := (FR r h0 h) ∧ (mI h 14 15 = nI 0) ∧ (mI h 14 16 = nI f.1) ∧ (mI h 14 17 = nI f.2)
theorem CF.fr {h0 : Mem} {r : Nat} {f : FA} {h : Mem} (H : CF h0 r f h) : FR r h0 h := H.1
theorem CF.fd {h0 : Mem} {r : Nat} {f : FA} {h : Mem} (H : CF h0 r f h) : mI h 14 15 = nI 0 := H.2.1
theorem CF.fl {h0 : Mem} {r : Nat} {f : FA} {h : Mem} (H : CF h0 r f h) : mI h 14 16 = nI f.1 := H.2.2.1
theorem CF.fa {h0 : Mem} {r : Nat} {f : FA} {h : Mem} (H : CF h0 r f h) : mI h 14 17 = nI f.2 := H.2.2.2
theorem CB.fr {h h' : Mem} {r : Nat} {ρ τ : RO} (et : mT h' = mT h) (er : mR h' = mR h) (ei : ∀ k, k < 12 → mI h' (r + k) = mI h (r + k)) (k : CB h r ρ τ) : CB h' r ρ τ := by
  have e0 := ei 0 (by decide)
  rw [Nat.add_zero] at e0
  obtain ⟨k0, k⟩ := k
  refine ⟨k0.fr (fun k _ => by rw [et]) (by rw [er]), ?_⟩
  rw [e0, ei 1 (by decide), ei 2 (by decide), ei 3 (by decide), ei 4 (by decide), ei 5 (by decide), ei 6 (by decide), ei 7 (by decide), ei 8 (by decide), ei 9 (by decide), ei 11 (by decide)]
  exact k
theorem CN.fr {h h' : Mem} {τ τ' : RO} (e7 : mI h' 14 7 = mI h 14 7) (el : mL h' 17 = mL h 17) (e18 : mI h' 18 = mI h 18) (e19 : mI h' 19 = mI h 19) (eτ : τ' 0 = τ 0 ∧ τ' 1 = τ 1 ∧ τ' 2 = τ 2 ∧ τ' 3 0 = τ 3 0) (k : CN h τ) : CN h' τ' := by
  unfold CN at *
  rw [e7, el, e18, e19, eτ.1, eτ.2.1, eτ.2.2.1, eτ.2.2.2]
  exact k
section
variable {h0 : Mem} {r : Nat} {b : Nat → Nat} {n : Nat} {ρ τ : RO} {L : Nat → Nat} {i : Nat} {h : Mem}
/-- a write into the ROAD -/
theorem CS.body (C : CS h0 r b n ρ τ L i h) {h' : Mem} {ρ' τ' : RO} (et : mT h' = mT h) (er : mR h' = mR h) (en : mN h' = mN h) (el : mL h' = mL h) (ei : ∀ x, x < r ∨ r + 12 ≤ x → mI h' x = mI h x) (eτ : τ' 0 = τ 0 ∧ τ' 1 = τ 1 ∧ τ' 2 = τ 2 ∧ τ' 3 0 = τ 3 0) (B : CB h' r ρ' τ') : CS h0 r b n ρ' τ' L i h' := by
  have hr := C.rr
  have e14 := ei 14 (by omega)
  have T := C.tp
  refine ⟨C.fr.tr ⟨⟨et, er, en⟩, fun x _ _ _ _ q => ei x q, fun x _ _ => by rw [el]⟩, hr, ⟨?_, ?_, T.n1, ?_, T.by, ?_⟩, ?_, C.le, by rw [er]; exact C.rp, B, C.nm.fr (by rw [e14]) (by rw [el]) (ei 18 (by omega)) (ei 19 (by omega)) eτ, ?_, by rw [e14]; exact C.fd, by rw [e14]; exact C.fl, by rw [e14]; exact C.fa⟩
  · have := T.sh
    unfold SH at *
    rw [et, er, en]
    exact this
  · rw [e14]; exact T.en
  · rw [ei 15 (by omega)]; exact T.tp
  · rw [el]; exact T.me
  · have K := C.kt
    unfold TK at *
    rw [e14, el]
    exact K
  · rw [ei 20 (by omega)]; exact C.ls
theorem CS.step (C : CS h0 r b n ρ τ L i h) : OK (f_X4_step h 14) (CS h0 r b n ρ τ L (ta b n i)) := by
  have hr := C.rr
  obtain ⟨h', e, F, K⟩ := c_step C.tp (ta_le b C.le) C.kt.af
  have e1 := F.2.1
  refine ⟨h', e, C.fr.tr (FR.ft F), hr, C.tp.ft F, K, ta_le b C.le, by rw [F.1.2.1]; exact C.rp, C.bo.fr F.1.1 F.1.2.1 (fun k hk => e1 _ (by omega)), C.nm.fr (F.2.2.2 7 (by decide) (by decide) (by decide) (by decide) (by decide)) (F.2.2.1 17 (by decide)) (e1 18 (by decide)) (e1 19 (by decide)) ⟨rfl, rfl, rfl, rfl⟩, ?_, ?_, ?_, ?_⟩
  · rw [e1 20 (by decide)]; exact C.ls
  · rw [F.2.2.2 15 (by decide) (by decide) (by decide) (by decide) (by decide)]; exact C.fd
  · rw [F.2.2.2 16 (by decide) (by decide) (by decide) (by decide) (by decide)]; exact C.fl
  · rw [F.2.2.2 17 (by decide) (by decide) (by decide) (by decide) (by decide)]; exact C.fa
theorem CS.fail (C : CS h0 r b n ρ τ L i h) (c : Nat) : OK (f_X4_fail h 14 (nI c)) (fun q => q.1 = nI 0 ∧ CF h0 r (c, sp b n i) q.2) := by
  have S := C.tp.sh
  have S1 : SH (wI h 14 16 (nI c)) := S
  have e : f_X4_fail h 14 (nI c) = some (nI 0, wI (wI h 14 16 (nI c)) 14 17 (nI (sp b n i))) := by
    have g : mI (wI h 14 16 (nI c)) 14 9 = nI (sp b n i) := by
      rw [mI_wI_at, pk_un (by decide)]
      exact C.kt.at
    unfold f_X4_fail
    simp only [ob, nI_lit, ck_of (tS_14 S), pI_of (tS_14 S), gI_of (tS_14 S1), g, pI_of (tS_14 S1)]
  refine ⟨_, e, rfl, C.fr.tr ((FR.w h 16 _ (Or.inl rfl)).tr (FR.w _ 17 _ (Or.inl rfl))), ?_, ?_, ?_⟩
  · show mI (wI (wI h 14 16 (nI c)) 14 17 (nI (sp b n i))) 14 15 = _
    rw [mI_wI_at, pk_un (by decide), mI_wI_at, pk_un (by decide)]
    exact C.fd
  · show mI (wI (wI h 14 16 (nI c)) 14 17 (nI (sp b n i))) 14 16 = _
    rw [mI_wI_at, pk_un (by decide), mI_wI_at, pk_us]
  · show mI (wI (wI h 14 16 (nI c)) 14 17 (nI (sp b n i))) 14 17 = _
    rw [mI_wI_at, pk_us]
theorem CS.ret (C : CS h0 r b n ρ τ L i h) (c : Nat) : OK ((f_X4_fail h 14 (nI c)).bind fun q => retZ q.1 (q.1, q.2)) (fun q => q.1 = nI 0 ∧ CF h0 r (c, sp b n i) q.2) := by
  obtain ⟨⟨v, h1⟩, e, v0, k⟩ := C.fail c
  have v0 : v = nI 0 := v0
  subst v0
  rw [e]
  refine ⟨(nI 0, h1), ?_, rfl, k⟩
  show retZ (nI 0) (nI 0, h1) = some (nI 0, h1)
  exact if_pos (Or.inl rfl)
theorem CS.neg (C : CS h0 r b n ρ τ L i h) (c : Nat) : OK ((f_X4_fail h 14 (nI c)).bind fun q => some (-nI 1, q.2)) (fun q => q.1 = -nI 1 ∧ CF h0 r (c, sp b n i) q.2) := by
  obtain ⟨q, e, v, k⟩ := C.fail c
  rw [e]
  exact ⟨_, rfl, rfl, k⟩
theorem tM_le (b : Nat → Nat) (n i : Nat) : tM b n i ≤ 20 := by
  unfold tM mg
  exact pw_le _ _ _
theorem CS.isw (C : CS h0 r b n ρ τ L i h) {k : Nat} (hk : k < 20) : f_X4_isWord h 14 (nI k) = some (nI (isW b n i k).toNat) := by
  have S := C.tp.sh
  have hl := tk_lt b n i
  unfold f_X4_isWord f_X4_isWord_20 isW
  rcases Decidable.em (tk b n i = 1) with e | e
  · have hm := tM_le b n i
    have h13 := (C.kt.wo e).2
    have h13 : mI h 14 13 = nI (tM b n i) - nI 1 := h13
    simp (disch := omega) only [ob, nI_lit, ck_of (tS_14 S), gI_of (tS_14 S), C.kt.kd, h13, nI_eq, if_pos e, kN_eq, decide_eq_true e, Bool.true_and]
    rcases Decidable.em (tM b n i = k + 1) with d | d
    · rw [if_pos d, decide_eq_true d]
      rfl
    · rw [if_neg d, decide_eq_false d]
      rfl
  · simp (disch := omega) only [ob, nI_lit, ck_of (tS_14 S), gI_of (tS_14 S), C.kt.kd, nI_eq, if_neg e, decide_eq_false e, Bool.false_and, Bool.toNat_false]
theorem kN_lt {k c : Nat} (h : k < 2 ^ 31) (hc : c + 1 < 2 ^ 31) (h0 : 0 < k) : (nI k - nI 1 < nI c) = (k < c + 1) := by
  obtain ⟨m, rfl⟩ : ∃ m, k = m + 1 := ⟨k - 1, by omega⟩
  rw [pk_sub (by omega), nI_ltI (by omega) (by omega)]
  apply propext
  constructor <;> intro q <;> omega
theorem CS.isn (C : CS h0 r b n ρ τ L i h) : f_X4_isName h 14 = some (nI (isN b n i).toNat) := by
  have S := C.tp.sh
  have hl := tk_lt b n i
  unfold f_X4_isName f_X4_isName_24 f_X4_isName_28 isN
  rcases Decidable.em (tk b n i = 1) with e | e
  · have hm := tM_le b n i
    have h13 : mI h 14 13 = nI (tM b n i) - nI 1 := (C.kt.wo e).2
    simp (disch := omega) only [ob, nI_lit, ck_of (tS_14 S), gI_of (tS_14 S), C.kt.kd, h13, nI_eq, if_pos e, kN_neg, decide_eq_true e, Bool.true_and]
    rcases Decidable.em (tM b n i = 0) with d | d
    · rw [if_pos d, decide_eq_true d]
      rfl
    · rw [if_neg d, decide_eq_false d]
      simp (disch := omega) only [kN_lt]
      rcases Nat.lt_or_ge (tM b n i) 10 with g | g
      · rw [if_pos g, decide_eq_false (by omega)]
        rfl
      · rw [if_neg (by omega), decide_eq_true g]
        rfl
  · simp (disch := omega) only [ob, nI_lit, ck_of (tS_14 S), gI_of (tS_14 S), C.kt.kd, nI_eq, if_neg e, decide_eq_false e, Bool.false_and, Bool.toNat_false]
theorem CS.find (C : CS h0 r b n ρ τ L i h) (h17 : τ 3 0 ≤ 17) (ht : tk b n i = 1) : f_X4_placeOfWord h 14 17 (nI (τ 3 0)) = some (nI (fN τ (tW b n i)) - nI 1) := by
  have S := C.tp.sh
  rw [c_place S (tS_17 S) h17 (by decide)]
  have e : mL h 14 12 = lN (tW b n i) := (C.kt.wo ht).1
  rw [e, pw_congr (g := fun k => lN (τ 0 k)) (fun k hk => C.nm.nw k hk)]
  rfl
/-- the answers of the readers -/
def rB (h0 : Mem) (r : Nat) (b : Nat → Nat) (n : Nat) (ρ τ : RO) (L : Nat → Nat) (j : Nat) (e : FA ⊕ Unit) (q : Int32 × Mem) : Prop := match e with
  | .inl f => q.1 = nI 0 ∧ CF h0 r f q.2
  | .inr _ => q.1 = nI 1 ∧ CS h0 r b n ρ τ L j q.2
def rN (h0 : Mem) (r : Nat) (b : Nat → Nat) (n : Nat) (ρ τ : RO) (L : Nat → Nat) (j : Nat) (e : FA ⊕ Nat) (q : Int32 × Mem) : Prop := match e with
  | .inl f => q.1 = -nI 1 ∧ CF h0 r f q.2
  | .inr v => q.1 = nI v ∧ CS h0 r b n ρ τ L j q.2
def rL (h0 : Mem) (r : Nat) (b : Nat → Nat) (n : Nat) (L : Nat → Nat) (e : LR) (q : Int32 × Mem) : Prop := match e with
  | .inl f => q.1 = nI 0 ∧ CF h0 r f q.2
  | .inr s => q.1 = nI 1 ∧ CS h0 r b n s.1 s.2.1 L s.2.2 q.2
theorem CS.word (C : CS h0 r b n ρ τ L i h) {k : Nat} (hk : k < 20) : OK (f_X4_readWord h 14 (nI k)) (rB h0 r b n ρ τ L (ta b n i) (pWord b n k i)) := by
  have S := C.tp.sh
  unfold f_X4_readWord pWord
  simp only [ob, nI_lit, ck_of (tS_14 S), C.isw hk, nI_b0]
  rcases e : isW b n i k with _ | _
  · simp only [if_true]
    exact C.ret 1
  · obtain ⟨h', e1, C1⟩ := C.step
    simp only [Bool.true_eq_false, if_false, if_true, e1, ob]
    exact ⟨_, rfl, rfl, C1⟩
theorem CS.num (C : CS h0 r b n ρ τ L i h) {lo hi : Nat} (hlo : lo ≤ 1000) (hhi : hi ≤ 1000) : OK (f_X4_readWhole h 14 (nI lo) (nI hi)) (rN h0 r b n ρ τ L (ta b n i) (pNum b n lo hi i)) := by
  have S := C.tp.sh
  have hl := tk_lt b n i
  unfold f_X4_readWhole f_X4_readWhole_31 pNum
  simp (disch := omega) only [ob, nI_lit, ck_of (tS_14 S), gI_of (tS_14 S), C.kt.kd, nI_eq]
  rcases Decidable.em (tk b n i = 2) with e | e
  · rw [if_pos e, if_pos e]
    have hv : mI h 14 14 = nI (tV b n i) := C.kt.nu e
    have hb : tV b n i < 1000 := by
      have h3 : ndg b n (sp b n i) ≤ 3 := by
        rcases Nat.lt_or_ge 3 (ndg b n (sp b n i)) with q | q
        · exfalso
          unfold tk at e
          repeat' split at e
          all_goals first | omega | cases e
        · exact q
      have hd : ∀ m, m ≤ ndg b n (sp b n i) → nv b (sp b n i) m < 10 ^ m := by
        intro m
        induction m with
        | zero => intro _; exact Nat.one_pos
        | succ m ih =>
          intro hm
          have h1 := ih (by omega)
          have h2 := isD_iff.1 (ndg_in b n (sp b n i) m (by omega))
          show nv b (sp b n i) m * 10 + (b (sp b n i + m) - 48) < 10 ^ (m + 1)
          rw [Nat.pow_succ]
          omega
      have h4 := hd _ (Nat.le_refl _)
      have h5 : (10 : Nat) ^ ndg b n (sp b n i) ≤ 10 ^ 3 := Nat.pow_le_pow_right (by decide) h3
      show nv b (sp b n i) (ndg b n (sp b n i)) < 1000
      omega
    simp (disch := omega) only [hv, nI_ltI, nI_leI]
    rcases Nat.lt_or_ge (tV b n i) lo with c | c
    · rw [if_pos c, if_neg (by omega)]
      exact C.neg 4
    · rw [if_neg (by omega)]
      rcases Nat.lt_or_ge hi (tV b n i) with d | d
      · rw [if_neg (by omega), if_neg (by omega)]
        exact C.neg 4
      · obtain ⟨h', e1, C1⟩ := C.step
        rw [if_pos d, if_pos ⟨c, d⟩, e1]
        exact ⟨_, rfl, rfl, C1⟩
  · rw [if_neg e, if_neg e]
    exact C.neg 1
theorem CS.name1 (C : CS h0 r b n ρ τ L i h) (h17 : τ 3 0 ≤ 17) {s : Nat} (hs : s < 10) (hn : ∀ k, k < τ 3 0 → τ 1 k < 10) : OK (f_X4_findName h 14 (nI s)) (rN h0 r b n ρ τ L i (pName b n τ s i)) := by
  have S := C.tp.sh
  unfold f_X4_findName f_X4_findName_42 pName
  simp only [ob, nI_lit, ck_of (tS_14 S), C.isn, nI_b0]
  rcases e : isN b n i with _ | _
  · simp only [if_true, Bool.false_eq_true, if_false]
    exact C.neg 1
  · have hw : fN τ (tW b n i) ≤ τ 3 0 := pw_le _ _ _
    simp (disch := omega) only [Bool.true_eq_false, if_false, if_true, ob, gR_of (tS_14 S), gI_of (tS_14 S), rS_14_2 S, rS_14_3 S, rS_14_4 S, C.nm.nd, C.find h17 (isN_tk e), kN_neg]
    rcases Decidable.em (fN τ (tW b n i) = 0) with d | d
    · rw [if_pos d, if_pos d]
      exact C.neg 2
    · rw [if_neg d, if_neg d]
      have hk := hn (fN τ (tW b n i) - 1) (by omega)
      simp (disch := omega) only [pk_sub, aI_of (tS_18 S), aI_of (tS_19 S), ob, C.nm.ns, C.nm.nn, nI_eq]
      rcases Decidable.em (τ 1 (fN τ (tW b n i) - 1) = s) with g | g
      · rw [if_pos g, if_pos g]
        exact ⟨_, rfl, rfl, C⟩
      · rw [if_neg g, if_neg g]
        exact C.neg 2
theorem CS.name (C : CS h0 r b n ρ τ L i h) (h17 : τ 3 0 ≤ 17) {s : Nat} (hs : s < 10) (hn : ∀ k, k < τ 3 0 → τ 1 k < 10 ∧ τ 2 k < 10) : OK (f_X4_readName h 14 (nI s)) (rN h0 r b n ρ τ L (ta b n i) (pName b n τ s i)) := by
  have S := C.tp.sh
  obtain ⟨⟨v, h1⟩, e, k⟩ := C.name1 h17 hs (fun k hk => (hn k hk).1)
  unfold f_X4_readName
  rcases e2 : pName b n τ s i with f | j
  · rw [e2] at k
    obtain ⟨rfl, k⟩ := k
    simp only [ob, nI_lit, ck_of (tS_14 S), e, n1_lt0, if_true]
    exact ⟨_, rfl, rfl, k⟩
  · rw [e2] at k
    obtain ⟨rfl, k⟩ := k
    have hj : j < 10 := by
      obtain ⟨-, m, h1, h2, h3⟩ := pName_r e2
      have := (hn m h1).2
      omega
    obtain ⟨h', e1, C1⟩ := CS.step k
    simp (disch := omega) only [ob, nI_lit, ck_of (tS_14 S), e, nI_ltI, Nat.not_lt_zero, if_false, e1]
    exact ⟨_, rfl, rfl, C1⟩
end
