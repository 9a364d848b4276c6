/-! ===== what a text makes of all that is ===== -/
def badA (a : AB) (f : FA) : AB := fun i => if i = 2 then (fun _ k => if k = 6 then 0 else if k = 7 then f.1 else if k = 8 then f.2 + 1 else a 2 0 k) else a i
theorem badA_i (a : AB) (f : FA) {i : Nat} (h : i ≠ 2) : badA a f i = a i := if_neg h
def newA (a : AB) (p : Nat) (ρ τ : RO) : AB := fun i => if i = 0 then ρ else if i = 1 then (fun w x => τ (4 + w) x) else if i = 2 then (fun _ k => if k = 0 then a 2 0 1 else if k = 1 then a 2 0 0 else if k = 2 then p else if k = 4 then a 2 0 4 else 0) else a i
theorem badA.iw {a : AB} {f : FA} {n : Nat} (W : IW a) (h : 1 ≤ f.1 ∧ f.1 ≤ 8 ∧ f.2 ≤ n) (hn : n ≤ 1000) : IW (badA a f) := by
  obtain ⟨k1, k2, k3, k4, k5, k6, k7, k8, k9, k10, k11, k12, k13⟩ := W
  refine ⟨k1, k2, k3, k4, k5, k6, Nat.zero_le _, fun j hj => ?_, fun j hj => ?_, fun i hi => (Nat.not_lt_zero _ hi).elim, h.2.1, ?_, k13⟩
  · rw [badA_i a f (i := 10 + j) (by omega)]; exact k8 j hj
  · rw [badA_i a f (i := 30 + j) (by omega)]; exact k9 j hj
  · show f.2 + 1 ≤ 1001
    omega
theorem newA.iw {a : AB} {p : Nat} {ρ τ : RO} (W : IW a) (P : PV ρ τ) (h2 : 0 < ρ 0 2) : IW (newA a p ρ τ) := by
  refine ⟨P.rw, P.nf, ?_, Nat.zero_le _, W.nx, Nat.zero_le _, Nat.zero_le _, fun j hj => (Nat.not_lt_zero _ hj).elim, fun j hj => (Nat.not_lt_zero _ hj).elim, fun j hj => (Nat.not_lt_zero _ hj).elim, Nat.zero_le _, Nat.zero_le _, fun q => absurd (show ρ 0 2 = 0 from q) (by omega)⟩
  rcases W.rr with q | q
  · exact Or.inr ⟨q.2, q.1⟩
  · exact Or.inl ⟨q.2, q.1⟩
/-! ===== the reference takes a text ===== -/
def FX (p : Nat) (h q : Mem) : Prop := (∀ x, x < p → mT q x = mT h x) ∧ (∀ x, x < p → x ≠ 55 → mR q x = mR h x ∧ mI q x = mI h x ∧ mL q x = mL h x) ∧ (∀ k, k ≠ 4 → mR q 55 k = mR h 55 k) ∧ (∀ k, 15 ≤ k → mI q 55 k = mI h 55 k) ∧ mN h ≤ mN q
section
variable {p : Nat} {h q q2 : Mem}
theorem FX.tr (a : FX p h q) (c : FX p q q2) : FX p h q2 := ⟨fun x hx => (c.1 x hx).trans (a.1 x hx), fun x hx h5 => ⟨(c.2.1 x hx h5).1.trans (a.2.1 x hx h5).1, (c.2.1 x hx h5).2.1.trans (a.2.1 x hx h5).2.1, (c.2.1 x hx h5).2.2.trans (a.2.1 x hx h5).2.2⟩, fun k hk => (c.2.2.1 k hk).trans (a.2.2.1 k hk), fun k hk => (c.2.2.2.1 k hk).trans (a.2.2.2.1 k hk), Nat.le_trans a.2.2.2.2 c.2.2.2.2⟩
theorem FX.w (h : Mem) {k : Nat} (v : Int32) (hk : k < 15) : FX p h (wI h 55 k v) := ⟨fun _ _ => rfl, fun x _ hx => ⟨rfl, mI_wI_ne _ _ _ hx, rfl⟩, fun _ _ => rfl, fun j hj => by rw [mI_wI_at, pk_un (by omega)], Nat.le_refl _⟩
theorem FX.r4 (h : Mem) (v : Nat) : FX p h (wR h 55 4 v) := ⟨fun _ _ => rfl, fun x _ hx => ⟨mR_wR_ne _ _ _ hx, rfl, rfl⟩, fun k hk => by rw [mR_wR_at]; exact if_neg hk, fun _ _ => rfl, Nat.le_refl _⟩
theorem FX.ni (hp : 69 ≤ mN h) (N : NI h q) : FX (mN h) h q := ⟨fun x hx => (N.fr x hx).1, fun x hx _ => ⟨(N.fr x hx).2.2.2, (N.fr x hx).2.1, (N.fr x hx).2.2.1⟩, fun k _ => by rw [(N.fr 55 (by omega)).2.2.2], fun k _ => by rw [(N.fr 55 (by omega)).2.1], by rw [N.nx]; omega⟩
theorem FX.fg (f : FG h q) : FX p h q := ⟨fun x _ => by rw [f.1.1], fun x _ hx => ⟨by rw [f.1.2.1], f.2.1 x hx, f.2.2.1 x hx⟩, fun k _ => by rw [f.1.2.1], fun k hk => f.2.2.2 k (by omega) (by omega) (by omega) (by omega) (by omega), by rw [f.1.2.2]; exact Nat.le_refl _⟩
theorem FX.fp (pp : 69 ≤ p) (f : FP p h q) : FX p h q := ⟨f.1.1, fun x hx h5 => ⟨f.1.2.1 x hx, f.2.1 x hx h5, f.2.2.1 x hx h5⟩, fun k _ => by rw [f.1.2.1 55 (by omega)], fun k hk => f.2.2.2 k (Or.inr (by omega)), by rw [f.1.2.2]; exact Nat.le_refl _⟩
theorem FX.sh (pp : 69 ≤ p) (f : FX p h q) (S : SH h) : SH q := S.fr (fun x hx => f.1 x (by omega)) (fun x _ _ h5 hx => (f.2.1 x (by omega) h5).1) (fun k _ => by rw [(f.2.1 1 (by omega) (by decide)).1]) (fun k _ => by rw [(f.2.1 14 (by omega) (by decide)).1]) (fun k _ h4 => f.2.2.1 k h4) f.2.2.2.2
theorem FX.hi (pp : 69 ≤ p) (f : FX p h q) : FHi h q := ⟨fun x hx => f.1 x (by omega), fun x hx => ⟨(f.2.1 x (by omega) (by omega)).2.1, (f.2.1 x (by omega) (by omega)).1, (f.2.1 x (by omega) (by omega)).2.2⟩, f.2.2.2.2⟩
end
theorem FHi.tr3 {h q q2 : Mem} (a : FHi h q) (c : FHi q q2) : FHi h q2 := ⟨fun x hx => (c.1 x hx).trans (a.1 x hx), fun x hx => ⟨(c.2.1 x hx).1.trans (a.2.1 x hx).1, (c.2.1 x hx).2.1.trans (a.2.1 x hx).2.1, (c.2.1 x hx).2.2.trans (a.2.1 x hx).2.2⟩, Nat.le_trans a.2.2 c.2.2⟩
/-- what follows the reading -/
def mTail (h15 : Mem) (v0 : Nat) : Option (Int32 × Mem) := (gI h15 v0 12 11).bind fun x16 => (if x16 ≤ 0 then (gR h15 v0 4 11).bind fun r17 => (pR h15 v0 3 11 r17).bind fun h18 => (iter (fun (s : Int32 × Mem) => b_X13_turnpike_99 s.2 v0 s.1) FU (0, h18)).bind (fun q21 => (iter (fun (s : Int32 × Mem) => b_X13_turnpike_120 s.2 v0 s.1) FU (0, q21)).bind (fun q39 => (pI q39 v0 19 11 0).bind fun h40 => (pI h40 v0 20 11 0).bind fun h41 => (gR h41 v0 3 11).bind fun r42 => (gI h41 r42 2 10).bind fun x43 => (f_X13_good h41 v0 x43).bind fun q46 => some (q46.1, q46.2))) else (pI h15 v0 1 11 4).bind fun h47 => (gI h47 v0 13 11).bind fun x48 => (pI h47 v0 2 11 x48).bind fun h49 => some ((-1), h49))
theorem m_turn1 {h : Mem} {a : AB} (W : IW a) (M : IM h a) {n p : Nat} (hn : n ≤ a 2 0 6) (hp : mN h = p) : ∃ h14 h15, f_X13_turnpike h 55 (nI n) = mTail h15 55 ∧ FX p h h14 ∧ mI h14 55 6 = nI 0 ∧ p + 19 ≤ mN h14 ∧ sA h14 p (a 3 0) n (pAll (a 3 0) n (n + 1) Z0 Z0 0) h15 := by
  have S := M.sh
  have hfd := W.fd
  have pp : 69 ≤ p := by rw [← hp]; exact S.2.2
  obtain ⟨h9, e9⟩ : ∃ h9, wI (wI (wI (wI (wI h 55 0 (nI 0)) 55 7 (nI n)) 55 6 (nI 0)) 55 8 (nI 0)) 55 12 (nI 0) = h9 := ⟨_, rfl⟩
  have ep : mN h9 = mN h := by rw [← e9]; rfl
  have F9 : FX p h h9 := by
    rw [← e9]
    exact ((((FX.w h _ (by decide)).tr (FX.w _ _ (by decide))).tr (FX.w _ _ (by decide))).tr (FX.w _ _ (by decide))).tr (FX.w _ _ (by decide))
  have v9 : mI h9 55 7 = nI n ∧ mI h9 55 6 = nI 0 ∧ mI h9 55 8 = nI 0 ∧ mI h9 55 12 = nI 0 := by
    rw [← e9]
    refine ⟨?_, ?_, ?_, ?_⟩ <;> simp [mI_if]
  obtain ⟨h11, e11, N11⟩ := m_init h9
  have F11 : FX p h9 h11 := by
    have := FX.ni (by rw [ep, hp]; exact pp) N11
    rw [ep, hp] at this
    exact this
  have S11 : SH h11 := (F9.tr F11).sh pp S
  have i11 : mI h11 55 = mI h9 55 := (N11.fr 55 (by rw [ep, hp]; omega)).2.1
  have B11 : MB h11 p Z0 Z0 := by
    have := N11.bo
    rw [ep, hp] at this
    exact this
  have K11 : MN h11 p Z0 := by
    have := N11.nm
    rw [ep, hp] at this
    exact this
  have n11 : mN h11 = p + 19 := by rw [N11.nx, ep, hp]
  rw [ep, hp] at e11
  obtain ⟨h13, e13⟩ : ∃ h13, wI (wR h11 55 4 p) 55 9 (nI 0) = h13 := ⟨_, rfl⟩
  have F13 : FX p h11 h13 := by
    rw [← e13]
    exact (FX.r4 h11 p).tr (FX.w _ _ (by decide))
  have F13h := (F9.tr F11).tr F13
  have S13 : SH h13 := F13h.sh pp S
  have j13 : ∀ k, k ≠ 9 → mI h13 55 k = mI h9 55 k := by
    intro k hk
    rw [← e13, mI_wI_at, pk_un hk]
    show mI h11 55 k = _
    rw [i11]
  have T13 : MP h13 (a 3 0) n := by
    refine ⟨S13, ?_, by omega, fun i hi => ?_, fun i hi => W.tp i (by omega)⟩
    · rw [j13 7 (by decide)]; exact v9.1
    · rw [(F13h.2.1 56 (by omega) (by decide)).2.1]; exact M.tp i (by omega)
  obtain ⟨h14, e14, F14, K14⟩ := m_goesOn T13 (Nat.zero_le n) (by rw [j13 8 (by decide)]; exact v9.2.2.1) ⟨0, by decide, by rw [← e13, mI_wI_at, pk_us]⟩
  have x14 : ∀ x, x ≠ 55 → mI h14 x = mI h11 x ∧ mR h14 x = mR h11 x ∧ mL h14 x = mL h11 x := by
    intro x hx
    refine ⟨?_, ?_, ?_⟩
    · rw [F14.2.1 x hx, ← e13, mI_wI_ne _ _ _ hx]; rfl
    · rw [F14.1.2.1, ← e13]
      show mR (wR h11 55 4 p) x = _
      rw [mR_wR_ne _ _ _ hx]
    · rw [F14.2.2.1 x hx, ← e13]; rfl
  have y14 : mT h14 = mT h11 ∧ mN h14 = mN h11 := by
    rw [F14.1.1, F14.1.2.2, ← e13]
    exact ⟨rfl, rfl⟩
  have M14 : MS h14 p (a 3 0) n Z0 Z0 0 h14 := by
    refine ⟨FP.rf p h14, pp, T13.fg F14, K14, Nat.zero_le n, ?_, B11.fr (fun k _ => by rw [y14.1]) (x14 p (by omega)).2.1 (fun k _ => (x14 _ (by omega)).1), K11.fr (by rw [(x14 p (by omega)).1]) (x14 _ (by omega)).2.2 (x14 _ (by omega)).1 (x14 _ (by omega)).1 ⟨rfl, rfl, rfl, rfl⟩, ?_⟩
    · rw [F14.1.2.1, ← e13]
      show mR (wR h11 55 4 p) 55 4 = p
      rw [mR_wR]
    · rw [F14.2.2.2 12 (by decide) (by decide) (by decide) (by decide) (by decide), j13 12 (by decide)]
      exact v9.2.2.2
  obtain ⟨h15, e15, R15⟩ := m_readAll M14
  refine ⟨h14, h15, ?_, F13h.tr (FX.fg F14), ?_, by rw [y14.2, n11]; exact Nat.le_refl _, R15⟩
  · have t55 := tS_55 S
    unfold f_X13_turnpike mTail
    simp (disch := omega) only [ob, ck_d, pI_d, gI_d, gR_d, sI_n, aI_n, mT_wI, mR_wI, mI_if, nI_lit, nI_add, pk_mul, eq_self, true_and, and_true, if_true, if_pos, if_neg, t55, nI_ltI, nI_leI, M.fd, e9, ep, hp, e11, pR_of (tS_55 S11), mT_wR, tS_55 S11, e13, e14, e15]
  · rw [F14.2.2.2 6 (by decide) (by decide) (by decide) (by decide) (by decide), j13 6 (by decide)]
    exact v9.2.1
