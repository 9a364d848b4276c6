section
variable {h0 : Mem} {p : Nat} {b : Nat → Nat} {n : Nat} {ρ τ : RO} {i : Nat} {h : Mem} {f : FA}
theorem MS.gate158 (M : MS h0 p b n ρ τ i h) (P : PV ρ τ) (ht : tk b n i = 1) {x y k0 : Nat} (hx : x < ρ 0 2) (hy : y < ρ 0 2) (h13 : ρ 13 (7 * x + y) ≠ 0) : OK (f_X13_readGate_158 h 55 (nI x) (nI y) (nI k0)) (sLn h0 p b n (eb (pName b n τ 1 (ta b n i)) fun t => .inr (gateR ρ (ρ 13 (7 * x + y) - 1) k0 t, τ, ta b n (ta b n i)))) := by
  have q2 := P.rw.pl
  obtain ⟨h2, e2, M2⟩ := M.goes (by rw [ht]; decide)
  obtain ⟨⟨v3, h3⟩, e3, k3⟩ := M2.known P.n17 (s := 1) (by decide) P.s3
  have e3 : f_X13_readKnown h2 55 (nI 0) = some (v3, h3) := e3
  unfold f_X13_readGate_158
  rcases w1 : pName b n τ 1 (ta b n i) with f | t
  · rw [w1] at k3
    have O : MO h0 p f h3 := k3
    simp (disch := omega) only [ob, nI_lit, e2, e3, gI_of (tS_55 O.sh), O.o5, if_true, eb_l]
    exact ⟨_, rfl, O⟩
  · rw [w1] at k3
    obtain ⟨rfl, k3⟩ := k3
    have M3 : MS h0 p b n ρ τ (ta b n (ta b n i)) h3 := k3
    have B := M3.bo
    have t55 := tS_55 M3.mp.sh
    have pp := M3.pp
    simp (disch := omega) only [ob, nI_lit, e2, e3, gI_of t55, M3.k5, if_false, eb_r]
    simp (disch := omega) only [ob, ck_d, pI_d, gI_d, gR_d, sI_n, aI_n, mT_wI, mR_wI, mI_if, nI_lit, nI_add, pk_mul, eq_self, true_and, and_true, if_true, if_pos, if_neg, tP B.pk, tP_1 B.pk, tP_2 B.pk, tP_3 B.pk, tP_4 B.pk, tP_5 B.pk, tP_6 B.pk, tP_7 B.pk, tP_8 B.pk, tP_9 B.pk, tP_10 B.pk, tP_11 B.pk, tP_12 B.pk, tP_13 B.pk, tP_14 B.pk, tP_15 B.pk, tP_16 B.pk, tP_17 B.pk, tP_18 B.pk, rP_10 B.pk, rP_11 B.pk, rP_12 B.pk, rP_13 B.pk, rP_14 B.pk, rP_15 B.pk, rP_16 B.pk, rP_17 B.pk, rP_18 B.pk, rP_19 B.pk, rP_20 B.pk, rP_21 B.pk, rP_22 B.pk, rP_23 B.pk, rP_24 B.pk, rP_25 B.pk, rP_26 B.pk, rP_27 B.pk, t55, M3.rp, B.sc 4]
    exact ⟨_, rfl, M3.body rfl rfl rfl rfl (fun x hx => by rw [mI_wI_ne _ _ _ (by omega), mI_wI_ne _ _ _ (by omega), mI_wI_ne _ _ _ (by omega), mI_wI_ne _ _ _ (by omega), mI_wI_ne _ _ _ (by omega)]) (by simp (disch := omega) only [mI_if, if_neg]) (by rw [mI_wI_ne _ _ _ (by omega), mI_wI_ne _ _ _ (by omega), mI_wI_ne _ _ _ (by omega), mI_wI_ne _ _ _ (by omega), mI_wI_ne _ _ _ (by omega)]) (by rw [mI_wI_ne _ _ _ (by omega), mI_wI_ne _ _ _ (by omega), mI_wI_ne _ _ _ (by omega), mI_wI_ne _ _ _ (by omega), mI_wI_ne _ _ _ (by omega)]) ⟨rfl, rfl, rfl, rfl⟩ (B.gate P hx hy h13)⟩
theorem MS.gate86 (M : MS h0 p b n ρ τ i h) (P : PV ρ τ) (ht : tk b n i = 1) {x y : Nat} (hx : x < ρ 0 2) (hy : y < ρ 0 2) (h13 : ρ 13 (7 * x + y) ≠ 0) : OK (f_X13_readGate_86 h 55 (nI x) (nI y)) (sLn h0 p b n (eb (pKind b n (ta b n i)) fun k => eb (pName b n τ 1 (ta b n (ta b n i))) fun t => .inr (gateR ρ (ρ 13 (7 * x + y) - 1) k t, τ, ta b n (ta b n (ta b n i))))) := by
  obtain ⟨h2, e2, M2⟩ := M.goes (by rw [ht]; decide)
  have hm := tM_le b n (ta b n i)
  have w : ∀ k, k < 20 → f_X13_isWord h2 55 k = some (nI (isW b n (ta b n i) k).toNat) := fun k hk => M2.isw hk
  unfold f_X13_readGate_86 f_X13_readGate_147 pKind
  simp only [ob, e2, w 11 (by decide), w 12 (by decide), w 13 (by decide), w 14 (by decide), nI_lit, nI_b0]
  rcases Decidable.em (tk b n (ta b n i) = 1) with t1 | t1
  · have v : ∀ k, isW b n (ta b n i) k = decide (tM b n (ta b n i) = k + 1) := fun k => by
      unfold isW
      rw [decide_eq_true t1, Bool.true_and]
    have n0 : (nI 0 = -nI 1) = False := eq_false (by decide)
    have n1 : (nI 1 = -nI 1) = False := eq_false (by decide)
    have n2 : (nI 2 = -nI 1) = False := eq_false (by decide)
    have n3 : (nI 3 = -nI 1) = False := eq_false (by decide)
    have g := fun k0 => MS.gate158 M2 P t1 (k0 := k0) hx hy h13
    simp only [v, decide_eq_false_iff_not, ite_not, n0, n1, n2, n3, if_false]
    generalize tM b n (ta b n i) = m at hm ⊢
    rcases (show m = 12 ∨ m = 13 ∨ m = 14 ∨ m = 15 ∨ ¬ (12 ≤ m ∧ m ≤ 15) by omega) with z | z | z | z | z
    · subst z
      simp only [t1, Nat.reduceAdd, Nat.reduceEqDiff, Nat.reduceLeDiff, Nat.le_refl, and_self, if_true, if_false, Nat.reduceSub, Nat.sub_self, eb_r]
      exact g 0
    · subst z
      simp only [t1, Nat.reduceAdd, Nat.reduceEqDiff, Nat.reduceLeDiff, Nat.le_refl, and_self, if_true, if_false, Nat.reduceSub, Nat.sub_self, eb_r]
      exact g 1
    · subst z
      simp only [t1, Nat.reduceAdd, Nat.reduceEqDiff, Nat.reduceLeDiff, Nat.le_refl, and_self, if_true, if_false, Nat.reduceSub, Nat.sub_self, eb_r]
      exact g 2
    · subst z
      simp only [t1, Nat.reduceAdd, Nat.reduceEqDiff, Nat.reduceLeDiff, Nat.le_refl, and_self, if_true, if_false, Nat.reduceSub, Nat.sub_self, eb_r]
      exact g 3
    · obtain ⟨h6, e6, O⟩ := M2.flaw P.n17 1
      have and0 : (tk b n (ta b n i) = 1 ∧ 12 ≤ m ∧ m ≤ 15) = False := eq_false (fun y => z y.2)
      simp (disch := omega) only [and0, if_false, if_neg, if_true, e6, ob, O.gate158, eb_l]
      exact ⟨_, rfl, O⟩
  · have v : ∀ k, isW b n (ta b n i) k = false := fun k => by
      unfold isW
      rw [decide_eq_false t1, Bool.false_and]
    obtain ⟨h6, e6, O⟩ := M2.flaw P.n17 1
    have and0 : (tk b n (ta b n i) = 1 ∧ 12 ≤ tM b n (ta b n i) ∧ tM b n (ta b n i) ≤ 15) = False := eq_false (fun y => t1 y.1)
    simp only [and0, if_false, v, if_true, e6, ob, O.gate158, eb_l]
    exact ⟨_, rfl, O⟩
theorem MS.lGate (M : MS h0 p b n ρ τ i h) (P : PV ρ τ) (ht : tk b n i = 1) (h1 : τ 3 1 ≠ 0) : OK (f_X13_readGate h 55) (sLn h0 p b n (pGate b n ρ τ (ta b n i))) := by
  have S := M.mp.sh
  have q2 := P.rw.pl
  obtain ⟨h2, e2, M2⟩ := M.lb (by rw [ht]; decide) (P.rw.all 0 0) h1 (v := 0) (w := 1) (by decide) (by decide) (by decide)
  obtain ⟨⟨v3, h3⟩, e3, k3⟩ := M2.known P.n17 (s := 2) (by decide) P.s3
  have e3 : f_X13_readKnown h2 55 (nI 1) = some (v3, h3) := e3
  unfold f_X13_readGate f_X13_readGate_50 pGate
  rcases w1 : pName b n τ 2 (ta b n i) with f | x
  · rw [w1] at k3
    have O : MO h0 p f h3 := k3
    simp (disch := omega) only [ob, nI_lit, ck_of (tS_55 S), e2, e3, O.known1, gI_of (tS_55 O.sh), O.o5, if_true, O.gate55, eb_l]
    exact ⟨_, rfl, O⟩
  · rw [w1] at k3
    obtain ⟨rfl, k3⟩ := k3
    have M3 : MS h0 p b n ρ τ (ta b n (ta b n i)) h3 := k3
    have hx := P.place w1
    obtain ⟨⟨v4, h4⟩, e4, k4⟩ := M3.known1 P.n17 (s := 2) (by decide) P.s3
    have e4 : f_X13_knownOne h3 55 (nI 1) = some (v4, h4) := e4
    rcases w2 : pName b n τ 2 (ta b n (ta b n i)) with f | y
    · rw [w2] at k4
      have O : MO h0 p f h4 := k4
      simp (disch := omega) only [ob, nI_lit, ck_of (tS_55 S), e2, e3, e4, gI_of (tS_55 O.sh), O.o5, if_true, O.gate55, eb_l, eb_r]
      exact ⟨_, rfl, O⟩
    · rw [w2] at k4
      obtain ⟨rfl, k4⟩ := k4
      have M4 : MS h0 p b n ρ τ (ta b n (ta b n i)) h4 := k4
      have S4 := M4.mp.sh
      have hy := P.place w2
      have k5 := M4.k5
      obtain ⟨h6, e6, O⟩ := M4.flaw P.n17 3
      have hmin := M4.bo.min x y (by omega) (by omega)
      have hkd := M4.bo.kd x y (by omega) (by omega)
      rcases Decidable.em (x = y) with c | c
      · subst c
        simp (disch := omega) only [ob, nI_lit, ck_of (tS_55 S), e2, e3, e4, gI_of (tS_55 S4), k5, if_false, if_true, e6, O.gate55, eb_r]
        exact ⟨_, rfl, O⟩
      · rcases Decidable.em (ρ 13 (7 * x + y) = 0) with d | d
        · have hq : qm ρ x y = 0 := by
            unfold qm
            rw [if_pos d]
          have hq2 : qk ρ x y = 0 := by
            unfold qk
            rw [if_pos d]
          rw [hq] at hmin
          rw [if_pos hq2] at hkd
          obtain ⟨h7, e7, O7⟩ := M4.flaw P.n17 8
          unfold f_X13_readGate_55
          simp (disch := omega) only [ob, nI_lit, ck_of (tS_55 S), e2, e3, e4, gI_of (tS_55 S4), k5, if_false, if_true, nI_eq, if_neg c, gR_of (tS_55 S4), M4.rp, gR_of (tP M4.bo.pk), rP_12 M4.bo.pk, rP_13 M4.bo.pk, pk_mul, nI_add, aI_of (tP_3 M4.bo.pk), aI_of (tP_4 M4.bo.pk), hmin, hkd, e7, O7.gate86, eb_r, if_pos d]
          exact ⟨_, rfl, O7⟩
        · obtain ⟨-, -, j, j1, j2, -⟩ := P.below (a := x) (c := y) (by omega) (by omega) d
          have hm := P.rw.min j j1
          have hal := P.rw.all 6 j
          have ej : ρ 13 (7 * x + y) - 1 = j := by omega
          have hq : qm ρ x y = ρ 5 j := by
            unfold qm
            rw [if_neg d, ej]
          have hq2 : qk ρ x y = ρ 6 j := by
            unfold qk
            rw [if_neg d, ej]
          rw [hq] at hmin
          rw [hq2] at hkd
          rcases Decidable.em (ρ 6 j = 0) with g | g
          · rw [if_pos g] at hkd
            have kk := M4.gate86 P (pName_r w2).1 hx hy d
            rw [ej] at kk
            simp only [eb_r, if_neg c, if_neg d, ej, g, ne_eq, not_true_eq_false, if_false]
            unfold f_X13_readGate_55
            simp (disch := omega) only [ob, nI_lit, ck_of (tS_55 S), e2, e3, e4, gI_of (tS_55 S4), k5, if_false, if_true, nI_eq, if_neg c, if_neg, gR_of (tS_55 S4), M4.rp, gR_of (tP M4.bo.pk), rP_12 M4.bo.pk, rP_13 M4.bo.pk, pk_mul, nI_add, aI_of (tP_3 M4.bo.pk), aI_of (tP_4 M4.bo.pk), hmin, hkd]
            exact kk
          · rw [if_neg g] at hkd
            simp only [eb_r, if_neg c, if_neg d, ej, ne_eq, g, not_false_eq_true, if_true]
            simp (disch := omega) only [ob, nI_lit, ck_of (tS_55 S), e2, e3, e4, gI_of (tS_55 S4), k5, if_false, if_true, nI_eq, nI_nem, if_neg c, gR_of (tS_55 S4), M4.rp, gR_of (tP M4.bo.pk), rP_13 M4.bo.pk, pk_mul, nI_add, aI_of (tP_4 M4.bo.pk), hkd, e6, O.gate55]
            exact ⟨_, rfl, O⟩
end
