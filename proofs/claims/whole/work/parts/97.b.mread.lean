/-! ===== the reference reads a line ===== -/
section
variable {h0 : Mem} {p : Nat} {b : Nat → Nat} {n : Nat} {ρ τ : RO} {i : Nat} {h : Mem}
theorem ok_id {o : Option Mem} {Q : Mem → Prop} (k : OK o Q) : OK (o.bind fun h1 => some h1) Q := by
  obtain ⟨q, e, k⟩ := k
  exact ⟨q, by rw [e]; rfl, k⟩
theorem MS.line (M : MS h0 p b n ρ τ i h) (P : PV ρ τ) : OK (f_X13_readLine h 55) (sLn h0 p b n (pLine b n ρ τ i)) := by
  have S := M.mp.sh
  have hM := tM_le b n i
  have P7 := P.k7
  have q1 := P.rw.tu
  have q2 := P.rw.pl
  have q3 := P.rw.ro
  have q5 := P.rw.inn
  have q6 := P.rw.pe
  have q8 := P.rw.he
  have hr := P.rw.all 0 0
  have w : ∀ k, k < 20 → f_X13_isWord h 55 k = some (nI (isW b n i k).toNat) := fun k hk => M.isw hk
  unfold f_X13_readLine pLine
  simp only [ob, ck_of (tS_55 S), w 0 (by decide), w 1 (by decide), w 2 (by decide), w 3 (by decide), w 4 (by decide), w 5 (by decide), w 6 (by decide), w 7 (by decide), w 8 (by decide), nI_lit, nI_b0]
  rcases Decidable.em (tk b n i = 1) with t1 | t1
  · have v : ∀ k, isW b n i k = decide (tM b n i = k + 1) := fun k => by
      unfold isW
      rw [decide_eq_true t1, Bool.true_and]
    simp only [v, decide_eq_false_iff_not, ite_not, t1, if_true]
    generalize tM b n i = m at hM ⊢
    rcases (show m = 1 ∨ (m = 0 ∨ 10 ≤ m) ∨ m = 2 ∨ m = 3 ∨ m = 4 ∨ m = 5 ∨ m = 6 ∨ m = 7 ∨ m = 8 ∨ m = 9 by omega) with z | z | z | z | z | z | z | z | z | z
    · subst z
      simp only [Nat.reduceAdd, Nat.reduceEqDiff, if_true]
      rcases Decidable.em (τ 3 1 = 0) with t0 | t0
      · simp only [if_pos t0]
        exact ok_id (M.lTurn P t1 t0)
      · simp only [if_neg t0]
        exact ok_id (M.lTurnA P t0)
    · obtain ⟨h6, e6, O⟩ := M.flaw P.n17 1
      simp (disch := omega) only [if_neg, if_pos z, e6, ob]
      exact ⟨_, rfl, O⟩
    · subst z
      simp only [Nat.reduceAdd, Nat.reduceEqDiff, Nat.reduceLeDiff, if_true, if_false, or_self]
      rcases Decidable.em (τ 3 1 = 0) with t0 | t0
      · simp only [if_pos t0]
        exact ok_id (M.oTune (M.lbl P.n17 hr t0 (by omega) (by omega) (by rw [P.t0 t0]; decide)))
      · simp only [if_neg t0]
        rcases Decidable.em (ρ 0 1 = 6) with g | g
        · simp only [if_pos g]
          exact ok_id (M.oTune (by rw [g]; exact M.lbm P.n17))
        · simp only [if_neg g]
          exact ok_id (M.lTune P t1 t0 g)
    · subst z
      simp only [Nat.reduceAdd, Nat.reduceEqDiff, Nat.reduceLeDiff, if_true, if_false, or_self]
      rcases Decidable.em (τ 3 1 = 0) with t0 | t0
      · simp only [if_pos t0]
        exact ok_id (M.oPlace (M.lbl P.n17 hr t0 (by omega) (by omega) (by rw [P.t0 t0]; decide)))
      · simp only [if_neg t0]
        rcases Decidable.em (ρ 0 2 = 7) with g | g
        · simp only [if_pos g]
          exact ok_id (M.oPlace (by rw [g]; exact M.lbm P.n17))
        · simp only [if_neg g]
          exact ok_id (M.lPlace P t1 t0 g)
    · subst z
      simp only [Nat.reduceAdd, Nat.reduceEqDiff, Nat.reduceLeDiff, if_true, if_false, or_self]
      rcases Decidable.em (τ 3 1 = 0) with t0 | t0
      · simp only [if_pos t0]
        exact ok_id (M.oRoad (M.lbl P.n17 hr t0 (by omega) (by omega) (by rw [P.t0 t0]; decide)))
      · simp only [if_neg t0]
        rcases Decidable.em (ρ 0 3 = 10) with g | g
        · simp only [if_pos g]
          exact ok_id (M.oRoad (by rw [g]; exact M.lbm P.n17))
        · simp only [if_neg g]
          exact ok_id (M.lRoad P t1 t0 g)
    · subst z
      simp only [Nat.reduceAdd, Nat.reduceEqDiff, Nat.reduceLeDiff, if_true, if_false, or_self]
      rcases Decidable.em (τ 3 1 = 0) with t0 | t0
      · simp only [if_pos t0]
        exact ok_id (M.oGate (M.lbl P.n17 hr t0 (by omega) (by omega) (by decide)))
      · simp only [if_neg t0]
        exact ok_id (M.lGate P t1 t0)
    · subst z
      simp only [Nat.reduceAdd, Nat.reduceEqDiff, Nat.reduceLeDiff, if_true, if_false, or_self]
      rcases Decidable.em (τ 3 1 = 0) with t0 | t0
      · simp only [if_pos t0]
        exact ok_id (M.oInn (M.lbl P.n17 hr t0 (by omega) (by omega) (by rw [P.t0 t0]; decide)))
      · simp only [if_neg t0]
        rcases Decidable.em (ρ 0 5 = 6) with g | g
        · simp only [if_pos g]
          exact ok_id (M.oInn (by rw [g]; exact M.lbm P.n17))
        · simp only [if_neg g]
          exact ok_id (M.lInn P t1 t0 g)
    · subst z
      simp only [Nat.reduceAdd, Nat.reduceEqDiff, Nat.reduceLeDiff, if_true, if_false, or_self]
      rcases Decidable.em (τ 3 1 = 0) with t0 | t0
      · simp only [if_pos t0]
        exact ok_id (M.oPers (M.lbl P.n17 hr t0 (by omega) (by omega) (by rw [P.t0 t0]; decide)))
      · simp only [if_neg t0]
        rcases Decidable.em (ρ 0 6 = 4) with g | g
        · simp only [if_pos g]
          exact ok_id (M.oPers (by rw [g]; exact M.lbm P.n17))
        · simp only [if_neg g]
          exact ok_id (M.lPers P t1 t0 g)
    · subst z
      simp only [Nat.reduceAdd, Nat.reduceEqDiff, Nat.reduceLeDiff, if_true, if_false, or_self]
      rcases Decidable.em (τ 3 1 = 0) with t0 | t0
      · simp only [if_pos t0]
        exact ok_id (M.oKnow (M.lbl P.n17 hr t0 (by omega) (by omega) (by rw [P.t0 t0]; decide)))
      · simp only [if_neg t0]
        rcases Decidable.em (ρ 0 7 = 8) with g | g
        · simp only [if_pos g]
          exact ok_id (M.oKnow (by rw [g]; exact M.lbm P.n17))
        · simp only [if_neg g]
          exact ok_id (M.lKnow P t1 t0 g)
    · subst z
      simp only [Nat.reduceAdd, Nat.reduceEqDiff, Nat.reduceLeDiff, if_true, if_false, or_self]
      rcases Decidable.em (τ 3 1 = 0) with t0 | t0
      · simp only [if_pos t0]
        exact ok_id (M.oHear (M.lbl P.n17 hr t0 (by omega) (by omega) (by rw [P.t0 t0]; decide)))
      · simp only [if_neg t0]
        rcases Decidable.em (ρ 0 8 = 5) with g | g
        · simp only [if_pos g]
          exact ok_id (M.oHear (by rw [g]; exact M.lbm P.n17))
        · simp only [if_neg g]
          exact ok_id (M.lHear P t1 t0 g)
  · have v : ∀ k, isW b n i k = false := fun k => by
      unfold isW
      rw [decide_eq_false t1, Bool.false_and]
    obtain ⟨h6, e6, O⟩ := M.flaw P.n17 1
    simp only [v, if_true, e6, ob, if_neg t1]
    exact ⟨_, rfl, O⟩
end
