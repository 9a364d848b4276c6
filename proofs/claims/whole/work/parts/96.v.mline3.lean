section
variable {h0 : Mem} {p : Nat} {b : Nat → Nat} {n : Nat} {ρ τ : RO} {i : Nat} {h : Mem} {f : FA}
theorem MS.lRoad (M : MS h0 p b n ρ τ i h) (P : PV ρ τ) (ht : tk b n i = 1) (h1 : τ 3 1 ≠ 0) (hk : ρ 0 3 ≠ 10) : OK (f_X13_readRoad h 55) (sLn h0 p b n (pRoad b n ρ τ (ta b n i))) := by
  have S := M.mp.sh
  have q3 := P.rw.ro
  have q2 := P.rw.pl
  obtain ⟨h2, e2, M2⟩ := M.lb (by rw [ht]; decide) (P.rw.all 0 0) h1 (v := ρ 0 3) (w := 10) (by omega) (by omega) hk
  obtain ⟨⟨v3, h3⟩, e3, k3⟩ := M2.known P.n17 (s := 2) (by decide) P.s3
  have e3 : f_X13_readKnown h2 55 (nI 1) = some (v3, h3) := e3
  unfold f_X13_readRoad f_X13_readRoad_55 pRoad
  rcases w1 : pName b n τ 2 (ta b n i) with f | x
  · rw [w1] at k3
    have O : MO h0 p f h3 := k3
    simp (disch := omega) only [ob, nI_lit, ck_of (tS_55 S), gR_of (tS_55 S), M.rp, gI_of (tP M.bo.pk), M.bo.sc 3, e2, e3, O.known1, gI_of (tS_55 O.sh), O.o5, if_true, O.road60, eb_l]
    exact ⟨_, rfl, O⟩
  · rw [w1] at k3
    obtain ⟨rfl, k3⟩ := k3
    have M3 : MS h0 p b n ρ τ (ta b n (ta b n i)) h3 := k3
    have hx := P.place w1
    obtain ⟨⟨v4, h4⟩, e4, k4⟩ := M3.known1 P.n17 (s := 2) (by decide) P.s3
    have e4 : f_X13_knownOne h3 55 (nI 1) = some (v4, h4) := e4
    rcases w2 : pName b n τ 2 (ta b n (ta b n i)) with f | y
    · rw [w2] at k4
      have O : MO h0 p f h4 := k4
      simp (disch := omega) only [ob, nI_lit, ck_of (tS_55 S), gR_of (tS_55 S), M.rp, gI_of (tP M.bo.pk), M.bo.sc 3, e2, e3, e4, gI_of (tS_55 O.sh), O.o5, if_true, O.road60, eb_l, eb_r]
      exact ⟨_, rfl, O⟩
    · rw [w2] at k4
      obtain ⟨rfl, k4⟩ := k4
      have M4 : MS h0 p b n ρ τ (ta b n (ta b n i)) h4 := k4
      have S4 := M4.mp.sh
      have hy := P.place w2
      have k5 := M4.k5
      obtain ⟨h6, e6, O⟩ := M4.flaw P.n17 3
      have hmin := M4.bo.min x y (by omega) (by omega)
      rcases Decidable.em (x = y) with c | c
      · subst c
        simp (disch := omega) only [ob, nI_lit, ck_of (tS_55 S), gR_of (tS_55 S), M.rp, gI_of (tP M.bo.pk), M.bo.sc 3, e2, e3, e4, gI_of (tS_55 S4), k5, if_false, if_true, e6, O.road60, eb_r, true_or]
        exact ⟨_, rfl, O⟩
      · rcases Decidable.em (ρ 13 (7 * x + y) = 0) with d | d
        · have hq : qm ρ x y = 0 := by
            unfold qm
            rw [if_pos d]
          rw [hq] at hmin
          have or0 : (x = y ∨ ρ 13 (7 * x + y) ≠ 0) = False := eq_false (by omega)
          have le0 : (nI 0 ≤ nI 0) = True := eq_true (by decide)
          obtain ⟨h7, e7, M7⟩ := M4.goes (by rw [(pName_r w2).1]; decide)
          obtain ⟨⟨v8, h8⟩, e8, k8⟩ := M7.part P.n17 (k := 10) (lo := 1) (hi := 99) (by decide) (by decide) (by decide)
          have head : ∀ {Q : Mem → Prop}, OK (f_X13_readRoad_60 h4 55 (nI x) (nI y)) Q → OK ((ck h 55 11).bind fun _ => (gR h 55 4 11).bind fun r1 => (gI h r1 3 10).bind fun x2 => (f_X13_lineBegins h 55 x2 10).bind fun h3 => (f_X13_readKnown h3 55 1).bind fun q6 => (f_X13_knownOne q6.2 55 1).bind fun q9 => (gI q9.2 55 9 11).bind fun x10 => (if x10 = 5 then f_X13_readRoad_60 q9.2 55 q6.1 q9.1 else (if q6.1 = q9.1 then ((f_X13_flaw q9.2 55 3).bind fun h35 => f_X13_readRoad_60 h35 55 q6.1 q9.1) else (gR q9.2 55 4 11).bind fun r36 => (gR q9.2 r36 12 10).bind fun r37 => (aI q9.2 r37 ((7 * q6.1) + q9.1)).bind fun x38 => (if x38 ≤ 0 then f_X13_readRoad_60 q9.2 55 q6.1 q9.1 else ((f_X13_flaw q9.2 55 3).bind fun h35 => f_X13_readRoad_60 h35 55 q6.1 q9.1))))) Q := by
            intro Q hQ
            simp (disch := omega) only [ob, nI_lit, ck_of (tS_55 S), gR_of (tS_55 S), M.rp, gI_of (tP M.bo.pk), M.bo.sc 3, e2, e3, e4, gI_of (tS_55 S4), k5, if_false, nI_eq, if_neg c, gR_of (tS_55 S4), M4.rp, gR_of (tP M4.bo.pk), rP_12 M4.bo.pk, pk_mul, nI_add, aI_of (tP_3 M4.bo.pk), hmin, le0, if_true]
            exact hQ
          simp only [eb_r, or0, if_false]
          refine head ?_
          unfold f_X13_readRoad_60
          rcases w3 : pWord b n 10 (ta b n (ta b n (ta b n i))) with f | u
          · rw [w3, eb_l] at k8
            have O : MO h0 p f h8 := k8
            simp (disch := omega) only [ob, nI_lit, e7, e8, gI_of (tS_55 O.sh), O.o5, if_true, eb_l]
            exact ⟨_, rfl, O⟩
          · rw [w3, eb_r] at k8
            rcases w4 : pNum b n 1 99 (ta b n (ta b n (ta b n (ta b n i)))) with f | m
            · rw [w4] at k8
              have O : MO h0 p f h8 := k8
              simp (disch := omega) only [ob, nI_lit, e7, e8, gI_of (tS_55 O.sh), O.o5, if_true, eb_l, eb_r]
              exact ⟨_, rfl, O⟩
            · rw [w4] at k8
              obtain ⟨rfl, k8⟩ := k8
              have M8 : MS h0 p b n ρ τ (ta b n (ta b n (ta b n (ta b n (ta b n i))))) h8 := k8
              have B := M8.bo
              have t55 := tS_55 M8.mp.sh
              have pp := M8.pp
              simp (disch := omega) only [ob, nI_lit, e7, e8, gI_of t55, M8.k5, if_false, eb_r]
              simp (disch := omega) only [ob, ck_d, pI_d, gI_d, gR_d, sI_n, aI_n, mT_wI, mR_wI, mI_if, nI_lit, nI_add, pk_mul, eq_self, true_and, and_true, if_true, if_pos, if_neg, tP B.pk, tP_1 B.pk, tP_2 B.pk, tP_3 B.pk, tP_4 B.pk, tP_5 B.pk, tP_6 B.pk, tP_7 B.pk, tP_8 B.pk, tP_9 B.pk, tP_10 B.pk, tP_11 B.pk, tP_12 B.pk, tP_13 B.pk, tP_14 B.pk, tP_15 B.pk, tP_16 B.pk, tP_17 B.pk, tP_18 B.pk, rP_10 B.pk, rP_11 B.pk, rP_12 B.pk, rP_13 B.pk, rP_14 B.pk, rP_15 B.pk, rP_16 B.pk, rP_17 B.pk, rP_18 B.pk, rP_19 B.pk, rP_20 B.pk, rP_21 B.pk, rP_22 B.pk, rP_23 B.pk, rP_24 B.pk, rP_25 B.pk, rP_26 B.pk, rP_27 B.pk, t55, M8.rp, B.sc 3]
              exact ⟨_, rfl, M8.body rfl rfl rfl rfl (fun x hx => by rw [mI_wI_ne _ _ _ (by omega), mI_wI_ne _ _ _ (by omega), mI_wI_ne _ _ _ (by omega), mI_wI_ne _ _ _ (by omega), mI_wI_ne _ _ _ (by omega)]) (by simp (disch := omega) only [mI_if, if_neg]) (by rw [mI_wI_ne _ _ _ (by omega), mI_wI_ne _ _ _ (by omega), mI_wI_ne _ _ _ (by omega), mI_wI_ne _ _ _ (by omega), mI_wI_ne _ _ _ (by omega)]) (by rw [mI_wI_ne _ _ _ (by omega), mI_wI_ne _ _ _ (by omega), mI_wI_ne _ _ _ (by omega), mI_wI_ne _ _ _ (by omega), mI_wI_ne _ _ _ (by omega)]) ⟨rfl, rfl, rfl, rfl⟩ (B.road P hx hy c d (by omega))⟩
        · obtain ⟨-, -, j, j1, j2, -⟩ := P.below (a := x) (c := y) (by omega) (by omega) d
          have hm := P.rw.min j j1
          have hq : qm ρ x y = ρ 5 j := by
            unfold qm
            rw [if_neg d, j2, Nat.add_sub_cancel]
          rw [hq] at hmin
          have or1 : (x = y ∨ ρ 13 (7 * x + y) ≠ 0) = True := eq_true (Or.inr d)
          have le0 : (nI (ρ 5 j) ≤ nI 0) = False := by
            rw [nI_leI (by omega) (by omega)]
            exact eq_false (by omega)
          simp (disch := omega) only [ob, nI_lit, ck_of (tS_55 S), gR_of (tS_55 S), M.rp, gI_of (tP M.bo.pk), M.bo.sc 3, e2, e3, e4, gI_of (tS_55 S4), k5, if_false, if_true, nI_eq, if_neg c, gR_of (tS_55 S4), M4.rp, gR_of (tP M4.bo.pk), rP_12 M4.bo.pk, pk_mul, nI_add, aI_of (tP_3 M4.bo.pk), hmin, le0, e6, O.road60, eb_r, or1]
          exact ⟨_, rfl, O⟩
theorem MS.lInn (M : MS h0 p b n ρ τ i h) (P : PV ρ τ) (ht : tk b n i = 1) (h1 : τ 3 1 ≠ 0) (hk : ρ 0 5 ≠ 6) : OK (f_X13_readInn h 55) (sLn h0 p b n (pInn b n ρ τ (ta b n i))) := by
  have S := M.mp.sh
  have q5 := P.rw.inn
  have q2 := P.rw.pl
  have q1 := P.rw.tu
  obtain ⟨h2, e2, M2⟩ := M.lb (by rw [ht]; decide) (P.rw.all 0 0) h1 (v := ρ 0 5) (w := 6) (by omega) (by omega) hk
  obtain ⟨⟨v3, h3⟩, e3, k3⟩ := M2.known P.n17 (s := 2) (by decide) P.s3
  have e3 : f_X13_readKnown h2 55 (nI 1) = some (v3, h3) := e3
  unfold f_X13_readInn pInn
  rcases w1 : pName b n τ 2 (ta b n i) with f | x
  · rw [w1] at k3
    have O : MO h0 p f h3 := k3
    simp (disch := omega) only [ob, nI_lit, ck_of (tS_55 S), gR_of (tS_55 S), M.rp, gI_of (tP M.bo.pk), M.bo.sc 5, e2, e3, O.isw, if_true, O.flaw, O.inn46, eb_l]
    exact ⟨_, rfl, O⟩
  · rw [w1] at k3
    obtain ⟨rfl, k3⟩ := k3
    have M3 : MS h0 p b n ρ τ (ta b n (ta b n i)) h3 := k3
    have hx := P.place w1
    have i16 := M3.isw (k := 16) (by decide)
    have i15 := M3.isw (k := 15) (by decide)
    have key : ∀ g, g ≤ 1 → tk b n (ta b n (ta b n i)) = 1 → OK (f_X13_readInn_46 h3 55 (nI x) (nI g)) (sLn h0 p b n (eb (pName b n τ 1 (ta b n (ta b n (ta b n i)))) fun t => eb (pWord b n 17 (ta b n (ta b n (ta b n (ta b n i))))) fun _ => eb (pNum b n 0 99 (ta b n (ta b n (ta b n (ta b n (ta b n i)))))) fun m => .inr (innR ρ x t g m, τ, ta b n (ta b n (ta b n (ta b n (ta b n (ta b n i)))))))) := by
      intro g hg tt
      obtain ⟨h4, e4, M4⟩ := M3.goes (by rw [tt]; decide)
      obtain ⟨⟨v5, h5⟩, e5, k5⟩ := M4.known P.n17 (s := 1) (by decide) P.s3
      have e5 : f_X13_readKnown h4 55 (nI 0) = some (v5, h5) := e5
      unfold f_X13_readInn_46
      rcases w3 : pName b n τ 1 (ta b n (ta b n (ta b n i))) with f | t
      · rw [w3] at k5
        have O : MO h0 p f h5 := k5
        simp (disch := omega) only [ob, nI_lit, e4, e5, O.part, gI_of (tS_55 O.sh), O.o5, if_true, eb_l]
        exact ⟨_, rfl, O⟩
      · rw [w3] at k5
        obtain ⟨rfl, k5⟩ := k5
        have M5 : MS h0 p b n ρ τ (ta b n (ta b n (ta b n (ta b n i)))) h5 := k5
        obtain ⟨⟨v6, h6⟩, e6, k6⟩ := M5.part P.n17 (k := 17) (lo := 0) (hi := 99) (by decide) (by decide) (by decide)
        rcases w4 : pWord b n 17 (ta b n (ta b n (ta b n (ta b n i)))) with f | u
        · rw [w4, eb_l] at k6
          have O : MO h0 p f h6 := k6
          simp (disch := omega) only [ob, nI_lit, e4, e5, e6, gI_of (tS_55 O.sh), O.o5, if_true, eb_l, eb_r]
          exact ⟨_, rfl, O⟩
        · rw [w4, eb_r] at k6
          rcases w5 : pNum b n 0 99 (ta b n (ta b n (ta b n (ta b n (ta b n i))))) with f | m
          · rw [w5] at k6
            have O : MO h0 p f h6 := k6
            simp (disch := omega) only [ob, nI_lit, e4, e5, e6, gI_of (tS_55 O.sh), O.o5, if_true, eb_l, eb_r]
            exact ⟨_, rfl, O⟩
          · rw [w5] at k6
            obtain ⟨rfl, k6⟩ := k6
            have M6 : MS h0 p b n ρ τ (ta b n (ta b n (ta b n (ta b n (ta b n (ta b n i)))))) h6 := k6
            have B := M6.bo
            have t55 := tS_55 M6.mp.sh
            have pp := M6.pp
            have fin : MS h0 p b n (innR ρ x t g m) τ (ta b n (ta b n (ta b n (ta b n (ta b n (ta b n i)))))) (wI (wI (wI (wI (wI h6 (p + 8) (ρ 0 5) (nI x)) (p + 9) (ρ 0 5) (nI t)) (p + 10) (ρ 0 5) (nI g)) (p + 11) (ρ 0 5) (nI m)) p 5 (nI (ρ 0 5 + 1))) := M6.body rfl rfl rfl rfl (fun x hx => by rw [mI_wI_ne _ _ _ (by omega), mI_wI_ne _ _ _ (by omega), mI_wI_ne _ _ _ (by omega), mI_wI_ne _ _ _ (by omega), mI_wI_ne _ _ _ (by omega)]) (by simp (disch := omega) only [mI_if, if_neg]) (by rw [mI_wI_ne _ _ _ (by omega), mI_wI_ne _ _ _ (by omega), mI_wI_ne _ _ _ (by omega), mI_wI_ne _ _ _ (by omega), mI_wI_ne _ _ _ (by omega)]) (by rw [mI_wI_ne _ _ _ (by omega), mI_wI_ne _ _ _ (by omega), mI_wI_ne _ _ _ (by omega), mI_wI_ne _ _ _ (by omega), mI_wI_ne _ _ _ (by omega)]) ⟨rfl, rfl, rfl, rfl⟩ B.inn
            unfold f_X13_readInn_132
            simp (disch := omega) only [ob, nI_lit, e4, e5, e6, gI_of t55, M6.k5, if_false, eb_r]
            rcases (show g = 0 ∨ g = 1 by omega) with z | z
            · subst z
              simp (disch := omega) only [ob, ck_d, pI_d, gI_d, gR_d, sI_n, aI_n, mT_wI, mR_wI, mI_if, nI_lit, nI_add, pk_mul, eq_self, true_and, and_true, if_true, if_pos, if_neg, tP B.pk, tP_1 B.pk, tP_2 B.pk, tP_3 B.pk, tP_4 B.pk, tP_5 B.pk, tP_6 B.pk, tP_7 B.pk, tP_8 B.pk, tP_9 B.pk, tP_10 B.pk, tP_11 B.pk, tP_12 B.pk, tP_13 B.pk, tP_14 B.pk, tP_15 B.pk, tP_16 B.pk, tP_17 B.pk, tP_18 B.pk, rP_10 B.pk, rP_11 B.pk, rP_12 B.pk, rP_13 B.pk, rP_14 B.pk, rP_15 B.pk, rP_16 B.pk, rP_17 B.pk, rP_18 B.pk, rP_19 B.pk, rP_20 B.pk, rP_21 B.pk, rP_22 B.pk, rP_23 B.pk, rP_24 B.pk, rP_25 B.pk, rP_26 B.pk, rP_27 B.pk, t55, M6.rp, B.sc 5]
              exact ⟨_, rfl, fin⟩
            · subst z
              simp (disch := omega) only [ob, ck_d, pI_d, gI_d, gR_d, sI_n, aI_n, mT_wI, mR_wI, mI_if, nI_lit, nI_add, pk_mul, eq_self, true_and, and_true, if_true, if_pos, if_neg, tP B.pk, tP_1 B.pk, tP_2 B.pk, tP_3 B.pk, tP_4 B.pk, tP_5 B.pk, tP_6 B.pk, tP_7 B.pk, tP_8 B.pk, tP_9 B.pk, tP_10 B.pk, tP_11 B.pk, tP_12 B.pk, tP_13 B.pk, tP_14 B.pk, tP_15 B.pk, tP_16 B.pk, tP_17 B.pk, tP_18 B.pk, rP_10 B.pk, rP_11 B.pk, rP_12 B.pk, rP_13 B.pk, rP_14 B.pk, rP_15 B.pk, rP_16 B.pk, rP_17 B.pk, rP_18 B.pk, rP_19 B.pk, rP_20 B.pk, rP_21 B.pk, rP_22 B.pk, rP_23 B.pk, rP_24 B.pk, rP_25 B.pk, rP_26 B.pk, rP_27 B.pk, t55, M6.rp, B.sc 5, nI_10, if_false]
              exact ⟨_, rfl, fin⟩
    unfold pSell
    rcases c16 : isW b n (ta b n (ta b n i)) 16 with _ | _
    · rw [c16] at i16
      rcases c15 : isW b n (ta b n (ta b n i)) 15 with _ | _
      · rw [c15] at i15
        obtain ⟨h6, e6, O⟩ := M3.flaw P.n17 1
        simp (disch := omega) only [ob, nI_lit, ck_of (tS_55 S), gR_of (tS_55 S), M.rp, gI_of (tP M.bo.pk), M.bo.sc 5, e2, e3, i16, i15, Bool.toNat_false, if_true, e6, O.inn46, eb_r, eb_l, Bool.false_eq_true, if_false]
        exact ⟨_, rfl, O⟩
      · rw [c15] at i15
        have k := key 0 (by decide) (isW_tk c15).1
        simp (disch := omega) only [ob, nI_lit, ck_of (tS_55 S), gR_of (tS_55 S), M.rp, gI_of (tP M.bo.pk), M.bo.sc 5, e2, e3, i16, i15, Bool.toNat_false, Bool.toNat_true, nI_10, if_true, if_false, eb_r, Bool.false_eq_true]
        exact k
    · rw [c16] at i16
      have k := key 1 (by decide) (isW_tk c16).1
      simp (disch := omega) only [ob, nI_lit, ck_of (tS_55 S), gR_of (tS_55 S), M.rp, gI_of (tP M.bo.pk), M.bo.sc 5, e2, e3, i16, Bool.toNat_true, nI_10, if_true, if_false, eb_r]
      exact k
end
