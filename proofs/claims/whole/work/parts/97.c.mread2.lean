/-! ===== the reference reads a text ===== -/
def sA (h0 : Mem) (p : Nat) (b : Nat → Nat) (n : Nat) (e : FA ⊕ (RO × RO)) (q : Mem) : Prop := match e with
  | .inl f => MO h0 p f q
  | .inr s => PV s.1 s.2 ∧ 0 < s.1 0 2 ∧ ∃ i, MS h0 p b n s.1 s.2 i q
theorem m_readAll {h0 h : Mem} {p : Nat} {b : Nat → Nat} {n : Nat} (M0 : MS h0 p b n Z0 Z0 0 h) : OK (f_X13_readAll h 55) (sA h0 p b n (pAll b n (n + 1) Z0 Z0 0)) := by
  have S := M0.mp.sh
  have hn := M0.mp.n1
  obtain ⟨Rz, eR⟩ : ∃ Rz, pAll b n (n + 1) Z0 Z0 0 = Rz := ⟨_, rfl⟩
  rw [eR]
  have loop : OK (iter (fun (s : Int32 × Mem) => b_X13_readAll_2 s.2 55 s.1) FU (nI 1, h)) (fun q => (∃ f, Rz = .inl f ∧ MO h0 p f q) ∨ ∃ ρ τ i, MS h0 p b n ρ τ i q ∧ PV ρ τ ∧ Rz = if tk b n i = 0 then (if 0 < ρ 0 2 then .inr (ρ, τ) else .inl (6, sp b n i)) else .inl (1, sp b n i)) := by
    refine iter_ok (fun k s => (s.1 = nI 1 ∧ ∃ ρ τ i, MS h0 p b n ρ τ i s.2 ∧ PV ρ τ ∧ ρ 0 4 ≤ i ∧ k ≤ i ∧ pAll b n (n + 1 - k) ρ τ i = Rz) ∨ (s.1 = nI 0 ∧ ((∃ f, Rz = .inl f ∧ MO h0 p f s.2) ∨ ∃ ρ τ i, MS h0 p b n ρ τ i s.2 ∧ PV ρ τ ∧ Rz = if tk b n i = 0 then (if 0 < ρ 0 2 then .inr (ρ, τ) else .inl (6, sp b n i)) else .inl (1, sp b n i)))) (n + 1) (FU_lt (by omega)) (fun k s hk hI => ?_) (Or.inl ⟨rfl, Z0, Z0, 0, M0, PV.zero, Nat.le_refl 0, Nat.le_refl 0, eR⟩)
    obtain ⟨v, h2⟩ := s
    show OK (b_X13_readAll_2 h2 55 v) _
    unfold b_X13_readAll_2
    rcases hI with ⟨e, ρ, τ, i, M, P, h4, hki, hp⟩ | ⟨e, hI⟩
    · have e : v = nI 1 := e
      subst e
      have M : MS h0 p b n ρ τ i h2 := M
      have hle := M.le
      obtain ⟨h3, e3, k3⟩ := M.line P
      rw [show n + 1 - k = (n - k) + 1 by omega] at hp
      unfold pAll at hp
      have n04 : (nI 0 = nI 4) = False := eq_false (by decide)
      rcases w : pLine b n ρ τ i with f | s
      · rw [w] at k3 hp
        have O : MO h0 p f h3 := k3
        have es : f_X13_eatsSemicolon h3 55 = some (nI 0, h3) := by
          unfold f_X13_eatsSemicolon f_X13_eatsSemicolon_13
          simp only [ob, nI_lit, ck_of (tS_55 O.sh), gI_of (tS_55 O.sh), O.o5, n54, if_false, if_true]
          exact if_pos (Or.inl rfl)
        simp only [ob, nI_lit, nI_10, if_false, e3, es]
        exact ⟨_, rfl, by omega, Or.inr ⟨rfl, Or.inl ⟨f, hp.symm, O⟩⟩⟩
      · rw [w] at k3 hp
        have M3 : MS h0 p b n s.1 s.2.1 s.2.2 h3 := k3
        obtain ⟨o1, o2, o3, o4⟩ := pLine_ok P hle hn h4 w
        have S3 := M3.mp.sh
        have hl := tk_lt b n s.2.2
        have hm := km_i hl
        rw [eb_r] at hp
        rcases Decidable.em (tk b n s.2.2 = 3) with t3 | t3
        · rw [if_neg (by omega), if_pos t3] at hp
          obtain ⟨h5, e5, M5⟩ := M3.goes (by omega)
          have hgt := tk_end t3
          have hle5 := M5.le
          have kd : mI h3 55 9 = nI 4 := by rw [M3.kt.kd, hm.2.2.2.2.2 t3]
          have es : f_X13_eatsSemicolon h3 55 = some (nI 1, h5) := by
            unfold f_X13_eatsSemicolon f_X13_eatsSemicolon_13
            simp only [ob, nI_lit, ck_of (tS_55 S3), gI_of (tS_55 S3), kd, nI_10, if_false, if_true, e5]
            exact if_pos (Or.inr rfl)
          simp only [ob, nI_lit, nI_10, if_false, e3, es]
          refine ⟨_, rfl, by omega, Or.inl ⟨rfl, s.1, s.2.1, ta b n s.2.2, M5, o1, by omega, by omega, ?_⟩⟩
          rw [show n + 1 - (k + 1) = n - k by omega]
          exact hp
        · have es : f_X13_eatsSemicolon h3 55 = some (nI 0, h3) := by
            unfold f_X13_eatsSemicolon f_X13_eatsSemicolon_13
            simp (disch := omega) only [ob, nI_lit, ck_of (tS_55 S3), gI_of (tS_55 S3), M3.kt.kd, nI_eq, if_neg, if_true]
            exact if_pos (Or.inl rfl)
          simp only [ob, nI_lit, nI_10, if_false, e3, es]
          refine ⟨_, rfl, by omega, Or.inr ⟨rfl, Or.inr ⟨s.1, s.2.1, s.2.2, M3, o1, ?_⟩⟩⟩
          rw [if_neg t3] at hp
          exact hp.symm
    · have e : v = nI 0 := e
      subst e
      simp only [nI_lit, if_true]
      exact ⟨_, rfl, hI⟩
  obtain ⟨q, e2, hq⟩ := loop
  unfold f_X13_readAll f_X13_readAll_31
  simp only [ob, nI_lit, ck_of (tS_55 S), e2]
  rcases hq with ⟨f, g1, O⟩ | ⟨ρ, τ, i, M, P, g⟩
  · subst g1
    simp only [ob, gI_of (tS_55 O.sh), O.o5, n51, if_false, O.flaw, gR_of (tS_55 O.sh), O.rp, gI_of (tP O.pk), ite_self]
    exact ⟨_, rfl, O⟩
  · have S3 := M.mp.sh
    have hl := tk_lt b n i
    have hm := km_i hl
    have h7 := P.rw.pl
    rcases Decidable.em (tk b n i = 0) with t0 | t0
    · rw [if_pos t0] at g
      have kd : mI q 55 9 = nI 1 := by rw [M.kt.kd, hm.2.1.2 t0]
      rcases Nat.eq_zero_or_pos (ρ 0 2) with z | z
      · rw [if_neg (by omega)] at g
        subst g
        obtain ⟨h6, e6, O⟩ := M.flaw P.n17 6
        simp (disch := omega) only [ob, gI_of (tS_55 S3), kd, if_true, gR_of (tS_55 S3), M.rp, gI_of (tP M.bo.pk), M.bo.sc 2, z, e6]
        exact ⟨_, rfl, O⟩
      · rw [if_pos z] at g
        subst g
        simp (disch := omega) only [ob, gI_of (tS_55 S3), kd, if_true, gR_of (tS_55 S3), M.rp, gI_of (tP M.bo.pk), M.bo.sc 2, nI_eq, if_neg]
        exact ⟨_, rfl, P, z, i, M⟩
    · rw [if_neg t0] at g
      subst g
      obtain ⟨h6, e6, O⟩ := M.flaw P.n17 1
      simp (disch := omega) only [ob, gI_of (tS_55 S3), M.kt.kd, nI_eq, if_neg, e6, O.flaw, gR_of (tS_55 O.sh), O.rp, gI_of (tP O.pk), ite_self]
      exact ⟨_, rfl, O⟩
