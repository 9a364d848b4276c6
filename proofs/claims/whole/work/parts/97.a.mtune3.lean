theorem ff_all {P : Nat → Bool} {m : Nat} : ff P m = m ↔ ∀ k, k < m → P k = false := by
  constructor
  · intro h k hk
    exact ff_no P m k (by omega)
  · intro h
    exact ff_eq (Nat.le_refl m) h (fun q => absurd q (Nat.lt_irrefl m))
theorem ff_rev (P : Nat → Bool) (m : Nat) : ff (fun j => P (m - 1 - j)) m = m ↔ ff P m = m := by
  rw [ff_all, ff_all]
  constructor
  · intro h k hk
    have := h (m - 1 - k) (by omega)
    rw [show m - 1 - (m - 1 - k) = k by omega] at this
    exact this
  · intro h k hk
    exact h _ (by omega)
section
variable {h0 : Mem} {p : Nat} {b : Nat → Nat} {n : Nat} {ρ τ : RO} {i : Nat} {h : Mem}
theorem MS.are (M : MS h0 p b n ρ τ i h) (P : PV ρ τ) (ht : tk b n i = 1) (hk : ρ 0 1 < 6) : OK (f_X13_areNotes h 55 (nI (ρ 0 1))) (fun q => MS h0 p b n ρ τ i q.2 ∧ ((q.1 = nI 0 ∧ ¬ (2 ≤ tL b n i ∧ ff (fun k => decide (103 < b (sp b n i + k))) (tL b n i) = tL b n i)) ∨ (q.1 = nI 1 ∧ (2 ≤ tL b n i ∧ ff (fun k => decide (103 < b (sp b n i + k))) (tL b n i) = tL b n i) ∧ mI q.2 (p + 1) (ρ 0 1) = nI (tL b n i) ∧ ∀ j, j < tL b n i → mI q.2 (p + 2) (8 * ρ 0 1 + j) = nI (b (sp b n i + j) - 97)))) := by
  have S := M.mp.sh
  have pp := M.pp
  have hw := tk_word ht
  have h14 : mI h 55 14 = nI (tL b n i) := (M.kt.wo ht).2
  have h15 : mL h 55 15 = lN (tW b n i) := (M.kt.wo ht).1
  have q := M.notes ht hk
  have hrev := ff_rev (fun k => decide (103 < b (sp b n i + k))) (tL b n i)
  have hle := ff_le (fun j => decide (103 < b (sp b n i + (tL b n i - 1 - j)))) (tL b n i)
  unfold f_X13_areNotes
  rcases Nat.lt_or_ge (tL b n i) 2 with c | c
  · simp (disch := omega) only [ob, nI_lit, ck_of (tS_55 S), gI_of (tS_55 S), h14, nI_leI, if_neg]
    exact ⟨_, rfl, M, Or.inl ⟨rfl, by omega⟩⟩
  · rcases Nat.lt_or_ge (ff (fun j => decide (103 < b (sp b n i + (tL b n i - 1 - j)))) (tL b n i)) (tL b n i) with d | d
    · rw [if_pos d] at q
      simp (disch := omega) only [ob, nI_lit, ck_of (tS_55 S), gI_of (tS_55 S), gL_of (tS_55 S), h14, h15, nI_leI, if_pos, q, Sum.elim_inl]
      refine ⟨_, rfl, M.body rfl rfl rfl rfl (fun x hx => nr_ne _ _ _ _ _ _ _ (by omega)) (by rw [nr_ne _ _ _ _ _ _ _ (by omega)]) (nr_ne _ _ _ _ _ _ _ (by omega)) (nr_ne _ _ _ _ _ _ _ (by omega)) ⟨rfl, rfl, rfl, rfl⟩ (M.bo.nr1 P.rw b _ _ _), Or.inl ⟨rfl, fun z => ?_⟩⟩
      have z2 := hrev.2 z.2
      omega
    · have e : ff (fun j => decide (103 < b (sp b n i + (tL b n i - 1 - j)))) (tL b n i) = tL b n i := by omega
      rw [if_neg (by omega), e, Nat.sub_self] at q
      have M2 : MS h0 p b n ρ τ i (wI (nr h (p + 2) b (sp b n i) (ρ 0 1) (tL b n i) 0) (p + 1) (ρ 0 1) (nI (tL b n i))) := M.body rfl rfl rfl rfl (fun x hx => by rw [mI_wI_ne _ _ _ (by omega), nr_ne _ _ _ _ _ _ _ (by omega)]) (by rw [mI_wI_ne _ _ _ (by omega), nr_ne _ _ _ _ _ _ _ (by omega)]) (by rw [mI_wI_ne _ _ _ (by omega), nr_ne _ _ _ _ _ _ _ (by omega)]) (by rw [mI_wI_ne _ _ _ (by omega), nr_ne _ _ _ _ _ _ _ (by omega)]) ⟨rfl, rfl, rfl, rfl⟩ ((M.bo.nr1 P.rw b _ _ _).len1 _)
      obtain ⟨h3, e3⟩ : ∃ h3, nr h (p + 2) b (sp b n i) (ρ 0 1) (tL b n i) 0 = h3 := ⟨_, rfl⟩
      have S3 : SH h3 := e3 ▸ S
      have K3 : PK h3 p := e3 ▸ M.bo.pk
      have r3 : mR h3 55 4 = p := by
        rw [← e3]
        exact M.rp
      have x14 : mI h3 55 14 = nI (tL b n i) := by
        rw [← e3, nr_ne _ _ _ _ _ _ _ (by omega)]
        exact h14
      rw [e3] at q M2
      simp (disch := omega) only [ob, nI_lit, ck_of (tS_55 S), gI_of (tS_55 S), gL_of (tS_55 S), h14, h15, nI_leI, if_pos, q, Sum.elim_inr, gR_of (tS_55 S3), r3, gR_of (tP K3), rP_10 K3, gI_of (tS_55 S3), x14, sI_of (tP_1 K3)]
      refine ⟨_, rfl, M2, Or.inr ⟨rfl, ⟨c, hrev.1 e⟩, by rw [mI_wI_at, pk_us], fun j hj => ?_⟩⟩
      rw [mI_wI_ne _ _ _ (by omega), ← e3, nr_at, if_pos (by omega), Nat.add_sub_cancel_left]
theorem MS.lTune (M : MS h0 p b n ρ τ i h) (P : PV ρ τ) (ht : tk b n i = 1) (h1 : τ 3 1 ≠ 0) (hk : ρ 0 1 ≠ 6) : OK (f_X13_readTune h 55) (sLn h0 p b n (pTune b n ρ τ (ta b n i))) := by
  have S := M.mp.sh
  have q1 := P.rw.tu
  have q2 := P.rw.pl
  have q6 := P.rw.pe
  have qn := P.nm
  obtain ⟨h2, e2, M2⟩ := M.lb (by rw [ht]; decide) (P.rw.all 0 0) h1 (v := ρ 0 1) (w := 6) (by omega) (by omega) hk
  obtain ⟨⟨v3, h3⟩, e3, k3⟩ := M2.fresh P.n17
  unfold f_X13_readTune pTune
  rcases w1 : pNew b n τ (ta b n i) with f | u
  · rw [w1] at k3
    have O : MO h0 p f h3 := k3
    simp (disch := omega) only [ob, nI_lit, ck_of (tS_55 S), gR_of (tS_55 S), M.rp, gI_of (tP M.bo.pk), M.bo.sc 1, e2, e3, gI_of (tS_55 O.sh), O.o5, n52, if_false, O.flaw, O.tune31, eb_l]
    exact ⟨_, rfl, O⟩
  · rw [w1] at k3
    obtain ⟨rfl, k3⟩ := k3
    have M3 : MS h0 p b n ρ τ (ta b n (ta b n i)) h3 := k3
    have S3 := M3.mp.sh
    have hl := tk_lt b n (ta b n (ta b n i))
    have hm := km_i hl
    unfold pNotes
    rcases Decidable.em (tk b n (ta b n (ta b n i)) = 1) with t1 | t1
    · have k2 : km (tk b n (ta b n (ta b n i))) = 2 := hm.2.2.1.2 t1
      have kd : mI h3 55 9 = nI 2 := by rw [M3.kt.kd, k2]
      have n25 : (nI 2 = nI 5) = False := eq_false (by decide)
      obtain ⟨⟨v4, h4⟩, e4, M4, k4⟩ := M3.are P t1 (by omega)
      have M4 : MS h0 p b n ρ τ (ta b n (ta b n i)) h4 := M4
      rcases k4 with ⟨g1, g2⟩ | ⟨g1, g2, g3, g4⟩
      · have g1 : v4 = nI 0 := g1
        subst g1
        obtain ⟨h5, e5, O⟩ := M4.flaw P.n17 7
        unfold f_X13_readTune_31
        simp (disch := omega) only [ob, nI_lit, ck_of (tS_55 S), gR_of (tS_55 S), M.rp, gI_of (tP M.bo.pk), M.bo.sc 1, e2, e3, gI_of (tS_55 S3), kd, if_true, n25, if_false, gR_of (tS_55 S3), M3.rp, gI_of (tP M3.bo.pk), M3.bo.sc 1, e4, e5, O.tune59, eb_r, if_pos t1, if_neg g2, eb_l]
        exact ⟨_, rfl, O⟩
      · have g1 : v4 = nI 1 := g1
        subst g1
        obtain ⟨h5, e5, f5, M5⟩ := M4.goesX (by rw [t1]; decide)
        have S5 := M5.mp.sh
        obtain ⟨h6, e6, f6, M6⟩ := M5.namesX (by omega) (tW b n (ta b n i)) 1 (ρ 0 1)
        have e6 : f_X13_names h5 55 (lN (tW b n (ta b n i))) (nI 0) (nI (ρ 0 1)) = some h6 := e6
        have S6 := M6.mp.sh
        have pp := M6.pp
        unfold f_X13_readTune_31 f_X13_readTune_59
        simp (disch := omega) only [ob, nI_lit, ck_of (tS_55 S), gR_of (tS_55 S), M.rp, gI_of (tP M.bo.pk), M.bo.sc 1, e2, e3, gI_of (tS_55 S3), kd, if_true, n25, if_false, gR_of (tS_55 S3), M3.rp, gI_of (tP M3.bo.pk), M3.bo.sc 1, e4, nI_10, e5, gI_of (tS_55 S5), M5.k5, gR_of (tS_55 S5), M5.rp, gI_of (tP M5.bo.pk), M5.bo.sc 1, e6, gR_of (tS_55 S6), M6.rp, gI_of (tP M6.bo.pk), M6.bo.sc 1, nI_add, pI_of (tP M6.bo.pk), eb_r, if_pos t1, if_pos g2]
        exact ⟨_, rfl, M6.body rfl rfl rfl rfl (fun x hx => mI_wI_ne _ _ _ (by omega)) (by rw [mI_wI_at, pk_un (by decide)]) (mI_wI_ne _ _ _ (by omega)) (mI_wI_ne _ _ _ (by omega)) ⟨rfl, rfl, rfl, rfl⟩ (M6.bo.tune P.rw b n (ta b n (ta b n i)) (by rw [f6 1 (by decide) (by decide), f5]; exact g3) (fun j hj => by rw [f6 2 (by decide) (by decide), f5]; exact g4 j hj))⟩
    · obtain ⟨h5, e5, O⟩ := M3.flaw P.n17 1
      simp (disch := omega) only [ob, nI_lit, ck_of (tS_55 S), gR_of (tS_55 S), M.rp, gI_of (tP M.bo.pk), M.bo.sc 1, e2, e3, gI_of (tS_55 S3), M3.kt.kd, nI_eq, if_neg, e5, O.tune31, eb_r, if_neg t1, eb_l]
      exact ⟨_, rfl, O⟩
end
