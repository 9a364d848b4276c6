/-! ===== the reference reads lines ===== -/
section
variable {h0 : Mem} {p : Nat} {b : Nat → Nat} {n : Nat} {ρ τ : RO} {i : Nat} {h : Mem}
theorem PV.s3 (P : PV ρ τ) : ∀ k, k < τ 3 0 → τ 1 k = 1 ∨ τ 1 k = 2 ∨ τ 1 k = 6 := fun k hk => by
  rcases P.nk k hk with q | q | q <;> omega
theorem MS.k5 (M : MS h0 p b n ρ τ i h) : (mI h 55 9 = nI 5) = False := by
  have hl := tk_lt b n i
  have := km_i hl
  rw [M.kt.kd, nI_eq (by omega) (by omega)]
  exact eq_false (by omega)
theorem MS.lTurn (M : MS h0 p b n ρ τ i h) (P : PV ρ τ) (ht : tk b n i = 1) (h1 : τ 3 1 = 0) : OK (f_X13_readTurnpike h 55) (sLn h0 p b n (pTurn b n ρ τ (ta b n i))) := by
  have S := M.mp.sh
  have hr : mI h p 0 = -nI 1 := by rw [M.bo.rn, if_pos h1]
  obtain ⟨h2, e2, M2⟩ := M.goes (by rw [ht]; decide)
  obtain ⟨⟨v3, h3⟩, e3, k3⟩ := M2.part P.n17 (k := 9) (lo := 0) (hi := 100) (by decide) (by decide) (by decide)
  unfold f_X13_readTurnpike f_X13_readTurnpike_16 pTurn
  rcases w1 : pWord b n 9 (ta b n i) with f | u
  · rw [w1, eb_l] at k3
    have O : MO h0 p f h3 := k3
    simp only [ob, nI_lit, ck_of (tS_55 S), gR_of (tS_55 S), M.rp, gI_of (tP M.bo.pk), hr, if_true, e2, e3, gI_of (tS_55 O.sh), O.o5]
    exact ⟨_, rfl, O⟩
  · rw [w1, eb_r] at k3
    rcases w2 : pNum b n 0 100 (ta b n (ta b n i)) with f | m
    · rw [w2] at k3
      have O : MO h0 p f h3 := k3
      simp only [ob, nI_lit, ck_of (tS_55 S), gR_of (tS_55 S), M.rp, gI_of (tP M.bo.pk), hr, if_true, e2, e3, gI_of (tS_55 O.sh), O.o5, eb_r, eb_l]
      exact ⟨_, rfl, O⟩
    · rw [w2] at k3
      obtain ⟨rfl, k3⟩ := k3
      have M3 : MS h0 p b n ρ τ (ta b n (ta b n (ta b n i))) h3 := k3
      have S3 := M3.mp.sh
      have pp := M3.pp
      simp only [ob, nI_lit, ck_of (tS_55 S), gR_of (tS_55 S), M.rp, gI_of (tP M.bo.pk), hr, if_true, e2, e3, gI_of (tS_55 S3), M3.k5, if_false, gR_of (tS_55 S3), M3.rp, pI_of (tP M3.bo.pk), eb_r]
      exact ⟨_, rfl, M3.body rfl rfl rfl rfl (fun x hx => mI_wI_ne _ _ _ (by omega)) (by rw [mI_wI_at, pk_un (by decide)]) (mI_wI_ne _ _ _ (by omega)) (mI_wI_ne _ _ _ (by omega)) ⟨by funext j; simp [rup], by funext j; simp [rup], by funext j; simp [rup], by simp [rup]⟩ (M3.bo.turn m)⟩
theorem MS.lTurnA (M : MS h0 p b n ρ τ i h) (P : PV ρ τ) (h1 : τ 3 1 ≠ 0) : OK (f_X13_readTurnpike h 55) (MO h0 p (3, sp b n i)) := by
  have S := M.mp.sh
  have hr : (mI h p 0 = -nI 1) = False := by
    have := P.rw.all 0 0
    rw [M.bo.rn, if_neg h1, nI_nem (by omega) (by omega) (by omega)]
  obtain ⟨h2, e2, O⟩ := M.flaw P.n17 3
  unfold f_X13_readTurnpike
  simp only [ob, nI_lit, ck_of (tS_55 S), gR_of (tS_55 S), M.rp, gI_of (tP M.bo.pk), hr, if_false, e2, O.turn16]
  exact ⟨_, rfl, O⟩
theorem MS.lPlace (M : MS h0 p b n ρ τ i h) (P : PV ρ τ) (ht : tk b n i = 1) (h1 : τ 3 1 ≠ 0) (hk : ρ 0 2 ≠ 7) : OK (f_X13_readPlace h 55) (sLn h0 p b n (pPlace b n ρ τ (ta b n i))) := by
  have S := M.mp.sh
  have q2 := P.rw.pl
  have q1 := P.rw.tu
  have q6 := P.rw.pe
  have qn := P.nm
  have hr := P.rw.all 0 0
  obtain ⟨h2, e2, M2⟩ := M.lb (by rw [ht]; decide) hr h1 (v := ρ 0 2) (w := 7) (by omega) (by omega) hk
  obtain ⟨⟨v3, h3⟩, e3, k3⟩ := M2.fresh P.n17
  unfold f_X13_readPlace pPlace
  rcases w1 : pNew b n τ (ta b n i) with f | u
  · rw [w1] at k3
    have O : MO h0 p f h3 := k3
    simp (disch := omega) only [ob, nI_lit, ck_of (tS_55 S), gR_of (tS_55 S), M.rp, gI_of (tP M.bo.pk), M.bo.sc 2, e2, e3, gI_of (tS_55 O.sh), O.o5, if_true, eb_l]
    exact ⟨_, rfl, O⟩
  · rw [w1] at k3
    obtain ⟨rfl, k3⟩ := k3
    have M3 : MS h0 p b n ρ τ (ta b n (ta b n i)) h3 := k3
    have S3 := M3.mp.sh
    obtain ⟨h4, e4, M4⟩ := M3.names (by omega) (tW b n (ta b n i)) 2 (ρ 0 2)
    have e4 : f_X13_names h3 55 (lN (tW b n (ta b n i))) (nI 1) (nI (ρ 0 2)) = some h4 := e4
    have S4 := M4.mp.sh
    have pp := M4.pp
    simp (disch := omega) only [ob, nI_lit, ck_of (tS_55 S), gR_of (tS_55 S), M.rp, gI_of (tP M.bo.pk), M.bo.sc 2, e2, e3, gI_of (tS_55 S3), M3.k5, if_false, gR_of (tS_55 S3), M3.rp, gI_of (tP M3.bo.pk), M3.bo.sc 2, e4, gR_of (tS_55 S4), M4.rp, gI_of (tP M4.bo.pk), M4.bo.sc 2, nI_add, pI_of (tP M4.bo.pk), eb_r]
    exact ⟨_, rfl, M4.body rfl rfl rfl rfl (fun x hx => mI_wI_ne _ _ _ (by omega)) (by rw [mI_wI_at, pk_un (by decide)]) (mI_wI_ne _ _ _ (by omega)) (mI_wI_ne _ _ _ (by omega)) ⟨rfl, rfl, rfl, rfl⟩ (M4.bo.cnt (by decide) (fun k => by simp [rup]) (by decide) (fun k hk => by funext j; simp [rup, hk]) (fun k hk => rfl) rfl)⟩
end
