section
variable {h0 : Mem} {p : Nat} {b : Nat → Nat} {n : Nat} {ρ τ : RO} {i : Nat} {h : Mem} {f : FA}
/-! over at the line's first word -/
theorem MS.oPlace (M : MS h0 p b n ρ τ i h) (k : OK (f_X13_lineBegins h 55 (nI (ρ 0 2)) (nI 7)) (MO h0 p f)) : OK (f_X13_readPlace h 55) (MO h0 p f) := by
  have S := M.mp.sh
  obtain ⟨h2, e2, O⟩ := k
  unfold f_X13_readPlace
  simp (disch := omega) only [ob, nI_lit, ck_of (tS_55 S), gR_of (tS_55 S), M.rp, gI_of (tP M.bo.pk), M.bo.sc 2, e2, O.fresh, gI_of (tS_55 O.sh), O.o5, if_true]
  exact ⟨_, rfl, O⟩
theorem MS.oTune (M : MS h0 p b n ρ τ i h) (k : OK (f_X13_lineBegins h 55 (nI (ρ 0 1)) (nI 6)) (MO h0 p f)) : OK (f_X13_readTune h 55) (MO h0 p f) := by
  have S := M.mp.sh
  obtain ⟨h2, e2, O⟩ := k
  unfold f_X13_readTune
  simp (disch := omega) only [ob, nI_lit, ck_of (tS_55 S), gR_of (tS_55 S), M.rp, gI_of (tP M.bo.pk), M.bo.sc 1, e2, O.fresh, gI_of (tS_55 O.sh), O.o5, n52, if_false, O.flaw, O.tune31]
  exact ⟨_, rfl, O⟩
theorem MS.oRoad (M : MS h0 p b n ρ τ i h) (k : OK (f_X13_lineBegins h 55 (nI (ρ 0 3)) (nI 10)) (MO h0 p f)) : OK (f_X13_readRoad h 55) (MO h0 p f) := by
  have S := M.mp.sh
  obtain ⟨h2, e2, O⟩ := k
  unfold f_X13_readRoad
  simp (disch := omega) only [ob, nI_lit, ck_of (tS_55 S), gR_of (tS_55 S), M.rp, gI_of (tP M.bo.pk), M.bo.sc 3, e2, O.known, O.known1, gI_of (tS_55 O.sh), O.o5, if_true, O.road60]
  exact ⟨_, rfl, O⟩
theorem MS.oGate (M : MS h0 p b n ρ τ i h) (k : OK (f_X13_lineBegins h 55 (nI 0) (nI 1)) (MO h0 p f)) : OK (f_X13_readGate h 55) (MO h0 p f) := by
  have S := M.mp.sh
  obtain ⟨h2, e2, O⟩ := k
  unfold f_X13_readGate
  simp (disch := omega) only [ob, nI_lit, ck_of (tS_55 S), e2, O.known, O.known1, gI_of (tS_55 O.sh), O.o5, if_true, O.gate55]
  exact ⟨_, rfl, O⟩
theorem MS.oInn (M : MS h0 p b n ρ τ i h) (k : OK (f_X13_lineBegins h 55 (nI (ρ 0 5)) (nI 6)) (MO h0 p f)) : OK (f_X13_readInn h 55) (MO h0 p f) := by
  have S := M.mp.sh
  obtain ⟨h2, e2, O⟩ := k
  unfold f_X13_readInn
  simp (disch := omega) only [ob, nI_lit, ck_of (tS_55 S), gR_of (tS_55 S), M.rp, gI_of (tP M.bo.pk), M.bo.sc 5, e2, O.known, O.isw, if_true, O.flaw, O.inn46]
  exact ⟨_, rfl, O⟩
theorem MS.oPers (M : MS h0 p b n ρ τ i h) (k : OK (f_X13_lineBegins h 55 (nI (ρ 0 6)) (nI 4)) (MO h0 p f)) : OK (f_X13_readPerson h 55) (MO h0 p f) := by
  have S := M.mp.sh
  obtain ⟨h2, e2, O⟩ := k
  unfold f_X13_readPerson
  simp (disch := omega) only [ob, nI_lit, ck_of (tS_55 S), gR_of (tS_55 S), M.rp, gI_of (tP M.bo.pk), M.bo.sc 6, e2, O.fresh, O.needs, O.known, O.part, gI_of (tS_55 O.sh), O.o5, if_true]
  exact ⟨_, rfl, O⟩
theorem MS.oKnow (M : MS h0 p b n ρ τ i h) (k : OK (f_X13_lineBegins h 55 (nI (ρ 0 7)) (nI 8)) (MO h0 p f)) : OK (f_X13_readKnows h 55) (MO h0 p f) := by
  have S := M.mp.sh
  obtain ⟨h2, e2, O⟩ := k
  unfold f_X13_readKnows
  simp (disch := omega) only [ob, nI_lit, ck_of (tS_55 S), gR_of (tS_55 S), M.rp, gI_of (tP M.bo.pk), M.bo.sc 7, e2, O.known, O.known1, gI_of (tS_55 O.sh), O.o5, if_true, O.know54]
  exact ⟨_, rfl, O⟩
theorem MS.oHear (M : MS h0 p b n ρ τ i h) (k : OK (f_X13_lineBegins h 55 (nI (ρ 0 8)) (nI 5)) (MO h0 p f)) : OK (f_X13_readHeard h 55) (MO h0 p f) := by
  have S := M.mp.sh
  obtain ⟨h2, e2, O⟩ := k
  unfold f_X13_readHeard
  simp (disch := omega) only [ob, nI_lit, ck_of (tS_55 S), gR_of (tS_55 S), M.rp, gI_of (tP M.bo.pk), M.bo.sc 8, e2, O.known, gI_of (tS_55 O.sh), O.o5, if_true]
  exact ⟨_, rfl, O⟩
/-! lines -/
theorem MS.lHear (M : MS h0 p b n ρ τ i h) (P : PV ρ τ) (ht : tk b n i = 1) (h1 : τ 3 1 ≠ 0) (hk : ρ 0 8 ≠ 5) : OK (f_X13_readHeard h 55) (sLn h0 p b n (pHear b n ρ τ (ta b n i))) := by
  have S := M.mp.sh
  have q8 := P.rw.he
  have q1 := P.rw.tu
  obtain ⟨h2, e2, M2⟩ := M.lb (by rw [ht]; decide) (P.rw.all 0 0) h1 (v := ρ 0 8) (w := 5) (by omega) (by omega) hk
  obtain ⟨⟨v3, h3⟩, e3, k3⟩ := M2.known P.n17 (s := 1) (by decide) P.s3
  have e3 : f_X13_readKnown h2 55 (nI 0) = some (v3, h3) := e3
  unfold f_X13_readHeard pHear
  rcases w1 : pName b n τ 1 (ta b n i) with f | t
  · rw [w1] at k3
    have O : MO h0 p f h3 := k3
    simp (disch := omega) only [ob, nI_lit, ck_of (tS_55 S), gR_of (tS_55 S), M.rp, gI_of (tP M.bo.pk), M.bo.sc 8, e2, e3, gI_of (tS_55 O.sh), O.o5, if_true, eb_l]
    exact ⟨_, rfl, O⟩
  · rw [w1] at k3
    obtain ⟨rfl, k3⟩ := k3
    have M3 : MS h0 p b n ρ τ (ta b n (ta b n i)) h3 := k3
    have S3 := M3.mp.sh
    have pp := M3.pp
    have B := M3.bo
    have t55 := tS_55 S3
    have k5 := M3.k5
    have g55 : gI h3 55 9 11 = some (mI h3 55 9) := gI_of t55
    simp (disch := omega) only [ob, nI_lit, ck_of (tS_55 S), gR_of (tS_55 S), M.rp, gI_of (tP M.bo.pk), M.bo.sc 8, e2, e3, g55, k5, if_false, eb_r]
    simp (disch := omega) only [ob, ck_d, pI_d, gI_d, gR_d, sI_n, aI_n, mT_wI, mR_wI, mI_if, nI_lit, nI_add, pk_mul, eq_self, true_and, and_true, if_true, if_pos, if_neg, tP B.pk, tP_1 B.pk, tP_2 B.pk, tP_3 B.pk, tP_4 B.pk, tP_5 B.pk, tP_6 B.pk, tP_7 B.pk, tP_8 B.pk, tP_9 B.pk, tP_10 B.pk, tP_11 B.pk, tP_12 B.pk, tP_13 B.pk, tP_14 B.pk, tP_15 B.pk, tP_16 B.pk, tP_17 B.pk, tP_18 B.pk, rP_10 B.pk, rP_11 B.pk, rP_12 B.pk, rP_13 B.pk, rP_14 B.pk, rP_15 B.pk, rP_16 B.pk, rP_17 B.pk, rP_18 B.pk, rP_19 B.pk, rP_20 B.pk, rP_21 B.pk, rP_22 B.pk, rP_23 B.pk, rP_24 B.pk, rP_25 B.pk, rP_26 B.pk, rP_27 B.pk, t55, M3.rp, B.sc 8]
    exact ⟨_, rfl, M3.body rfl rfl rfl rfl (fun x hx => by rw [mI_wI_ne _ _ _ (by omega), mI_wI_ne _ _ _ (by omega)]) (by simp (disch := omega) only [mI_if, if_neg]) (by rw [mI_wI_ne _ _ _ (by omega), mI_wI_ne _ _ _ (by omega)]) (by rw [mI_wI_ne _ _ _ (by omega), mI_wI_ne _ _ _ (by omega)]) ⟨rfl, rfl, rfl, rfl⟩ (B.hear t)⟩
theorem MS.lKnow (M : MS h0 p b n ρ τ i h) (P : PV ρ τ) (ht : tk b n i = 1) (h1 : τ 3 1 ≠ 0) (hk : ρ 0 7 ≠ 8) : OK (f_X13_readKnows h 55) (sLn h0 p b n (pKnow b n ρ τ (ta b n i))) := by
  have S := M.mp.sh
  have q7 := P.k7
  have q1 := P.rw.tu
  have q6 := P.rw.pe
  obtain ⟨h2, e2, M2⟩ := M.lb (by rw [ht]; decide) (P.rw.all 0 0) h1 (v := ρ 0 7) (w := 8) (by omega) (by omega) hk
  obtain ⟨⟨v3, h3⟩, e3, k3⟩ := M2.known P.n17 (s := 6) (by decide) P.s3
  have e3 : f_X13_readKnown h2 55 (nI 2) = some (v3, h3) := e3
  unfold f_X13_readKnows pKnow
  rcases w1 : pName b n τ 6 (ta b n i) with f | x
  · rw [w1] at k3
    have O : MO h0 p f h3 := k3
    simp (disch := omega) only [ob, nI_lit, ck_of (tS_55 S), gR_of (tS_55 S), M.rp, gI_of (tP M.bo.pk), M.bo.sc 7, e2, e3, O.known1, gI_of (tS_55 O.sh), O.o5, if_true, O.know54, eb_l]
    exact ⟨_, rfl, O⟩
  · rw [w1] at k3
    obtain ⟨rfl, k3⟩ := k3
    have M3 : MS h0 p b n ρ τ (ta b n (ta b n i)) h3 := k3
    have hx := P.pers w1
    obtain ⟨⟨v4, h4⟩, e4, k4⟩ := M3.known1 P.n17 (s := 1) (by decide) P.s3
    have e4 : f_X13_knownOne h3 55 (nI 0) = some (v4, h4) := e4
    rcases w2 : pName b n τ 1 (ta b n (ta b n i)) with f | t
    · rw [w2] at k4
      have O : MO h0 p f h4 := k4
      simp (disch := omega) only [ob, nI_lit, ck_of (tS_55 S), gR_of (tS_55 S), M.rp, gI_of (tP M.bo.pk), M.bo.sc 7, e2, e3, e4, gI_of (tS_55 O.sh), O.o5, if_true, O.know54, eb_l, eb_r]
      exact ⟨_, rfl, O⟩
    · rw [w2] at k4
      obtain ⟨rfl, k4⟩ := k4
      have M4 : MS h0 p b n ρ τ (ta b n (ta b n i)) h4 := k4
      have S4 := M4.mp.sh
      have htt := P.tune w2
      have h64 : τ 6 x < 64 := P.nf.kn x hx
      have hbit : f_X13_bit h4 (nI (τ 6 x)) (nI t) = some (nI ((τ 6 x).testBit t).toNat) := by
        unfold f_X13_bit
        simp (disch := omega) only [nI_lit, nI_bit]
        rcases (τ 6 x).testBit t with _ | _ <;> rfl
      have kn := M4.bo.kn x (by omega)
      have k5 := M4.k5
      rcases c : (τ 6 x).testBit t with _ | _
      · rw [c] at hbit
        obtain ⟨h6, e6, M6⟩ := M4.goes (by rw [(pName_r w2).1]; decide)
        have B := M6.bo
        have t55 := tS_55 M6.mp.sh
        have pp := M6.pp
        have k56 := M6.k5
        have g56 : gI h6 55 9 11 = some (mI h6 55 9) := gI_of t55
        have kn6 := B.kn x (by omega)
        have ht6 : t < 6 := by omega
        have h2t : 2 ^ t < 64 := Nat.pow_lt_pow_right (a := 2) (by decide) ht6
        unfold f_X13_readKnows_54
        simp (disch := omega) only [ob, nI_lit, ck_of (tS_55 S), gR_of (tS_55 S), M.rp, gI_of (tP M.bo.pk), M.bo.sc 7, e2, e3, e4, gI_of (tS_55 S4), k5, if_false, gR_of (tS_55 S4), M4.rp, gR_of (tP M4.bo.pk), rP_23 M4.bo.pk, aI_of (tP_14 M4.bo.pk), kn, hbit, Bool.toNat_false, if_true, e6, g56, k56, eb_r, c, Bool.false_eq_true]
        simp (disch := omega) only [ob, ck_d, pI_d, gI_d, gR_d, sI_n, aI_n, mT_wI, mR_wI, mI_if, nI_lit, nI_add, pk_mul, eq_self, true_and, and_true, if_true, if_pos, if_neg, tP B.pk, tP_1 B.pk, tP_2 B.pk, tP_3 B.pk, tP_4 B.pk, tP_5 B.pk, tP_6 B.pk, tP_7 B.pk, tP_8 B.pk, tP_9 B.pk, tP_10 B.pk, tP_11 B.pk, tP_12 B.pk, tP_13 B.pk, tP_14 B.pk, tP_15 B.pk, tP_16 B.pk, tP_17 B.pk, tP_18 B.pk, rP_10 B.pk, rP_11 B.pk, rP_12 B.pk, rP_13 B.pk, rP_14 B.pk, rP_15 B.pk, rP_16 B.pk, rP_17 B.pk, rP_18 B.pk, rP_19 B.pk, rP_20 B.pk, rP_21 B.pk, rP_22 B.pk, rP_23 B.pk, rP_24 B.pk, rP_25 B.pk, rP_26 B.pk, rP_27 B.pk, t55, M6.rp, B.sc 7, kn6, nI_sh1, nI_or]
        exact ⟨_, rfl, M6.body rfl rfl rfl rfl (fun x hx => by rw [mI_wI_ne _ _ _ (by omega), mI_wI_ne _ _ _ (by omega)]) (by simp (disch := omega) only [mI_if, if_neg]) (by rw [mI_wI_ne _ _ _ (by omega), mI_wI_ne _ _ _ (by omega)]) (by rw [mI_wI_ne _ _ _ (by omega), mI_wI_ne _ _ _ (by omega)]) ⟨by funext j; simp [rup], by funext j; simp [rup], by funext j; simp [rup], by simp [rup]⟩ (B.know (by omega))⟩
      · rw [c] at hbit
        obtain ⟨h6, e6, O⟩ := M4.flaw P.n17 3
        simp (disch := omega) only [ob, nI_lit, ck_of (tS_55 S), gR_of (tS_55 S), M.rp, gI_of (tP M.bo.pk), M.bo.sc 7, e2, e3, e4, gI_of (tS_55 S4), k5, if_false, gR_of (tS_55 S4), M4.rp, gR_of (tP M4.bo.pk), rP_23 M4.bo.pk, aI_of (tP_14 M4.bo.pk), kn, hbit, Bool.toNat_true, nI_10, if_true, e6, O.know54, eb_r, c]
        exact ⟨_, rfl, O⟩
theorem MS.lPers (M : MS h0 p b n ρ τ i h) (P : PV ρ τ) (ht : tk b n i = 1) (h1 : τ 3 1 ≠ 0) (hk : ρ 0 6 ≠ 4) : OK (f_X13_readPerson h 55) (sLn h0 p b n (pPers b n ρ τ (ta b n i))) := by
  have S := M.mp.sh
  have q6 := P.rw.pe
  have q1 := P.rw.tu
  have q2 := P.rw.pl
  have qn := P.nm
  obtain ⟨h2, e2, M2⟩ := M.lb (by rw [ht]; decide) (P.rw.all 0 0) h1 (v := ρ 0 6) (w := 4) (by omega) (by omega) hk
  obtain ⟨⟨v3, h3⟩, e3, k3⟩ := M2.fresh P.n17
  unfold f_X13_readPerson pPers
  rcases w1 : pNew b n τ (ta b n i) with f | u
  · rw [w1] at k3
    have O : MO h0 p f h3 := k3
    simp (disch := omega) only [ob, nI_lit, ck_of (tS_55 S), gR_of (tS_55 S), M.rp, gI_of (tP M.bo.pk), M.bo.sc 6, e2, e3, O.needs, O.known, O.part, gI_of (tS_55 O.sh), O.o5, if_true, eb_l]
    exact ⟨_, rfl, O⟩
  · rw [w1] at k3
    obtain ⟨rfl, k3⟩ := k3
    have M3 : MS h0 p b n ρ τ (ta b n (ta b n i)) h3 := k3
    obtain ⟨h4, e4, k4⟩ := M3.needs P.n17 (k := 18) (by decide)
    rcases w2 : pWord b n 18 (ta b n (ta b n i)) with f | u
    · rw [w2] at k4
      have O : MO h0 p f h4 := k4
      simp (disch := omega) only [ob, nI_lit, ck_of (tS_55 S), gR_of (tS_55 S), M.rp, gI_of (tP M.bo.pk), M.bo.sc 6, e2, e3, e4, O.known, O.part, gI_of (tS_55 O.sh), O.o5, if_true, eb_l, eb_r]
      exact ⟨_, rfl, O⟩
    · rw [w2] at k4
      have M4 : MS h0 p b n ρ τ (ta b n (ta b n (ta b n i))) h4 := k4
      obtain ⟨⟨v5, h5⟩, e5, k5⟩ := M4.known P.n17 (s := 2) (by decide) P.s3
      have e5 : f_X13_readKnown h4 55 (nI 1) = some (v5, h5) := e5
      rcases w3 : pName b n τ 2 (ta b n (ta b n (ta b n i))) with f | q
      · rw [w3] at k5
        have O : MO h0 p f h5 := k5
        simp (disch := omega) only [ob, nI_lit, ck_of (tS_55 S), gR_of (tS_55 S), M.rp, gI_of (tP M.bo.pk), M.bo.sc 6, e2, e3, e4, e5, O.part, gI_of (tS_55 O.sh), O.o5, if_true, eb_l, eb_r]
        exact ⟨_, rfl, O⟩
      · rw [w3] at k5
        obtain ⟨rfl, k5⟩ := k5
        have M5 : MS h0 p b n ρ τ (ta b n (ta b n (ta b n (ta b n i)))) h5 := k5
        obtain ⟨⟨v6, h6⟩, e6, k6⟩ := M5.part P.n17 (k := 19) (lo := 0) (hi := 999) (by decide) (by decide) (by decide)
        rcases w4 : pWord b n 19 (ta b n (ta b n (ta b n (ta b n i)))) with f | u
        · rw [w4, eb_l] at k6
          have O : MO h0 p f h6 := k6
          simp (disch := omega) only [ob, nI_lit, ck_of (tS_55 S), gR_of (tS_55 S), M.rp, gI_of (tP M.bo.pk), M.bo.sc 6, e2, e3, e4, e5, e6, gI_of (tS_55 O.sh), O.o5, if_true, eb_l, eb_r]
          exact ⟨_, rfl, O⟩
        · rw [w4, eb_r] at k6
          rcases w5 : pNum b n 0 999 (ta b n (ta b n (ta b n (ta b n (ta b n i))))) with f | m
          · rw [w5] at k6
            have O : MO h0 p f h6 := k6
            simp (disch := omega) only [ob, nI_lit, ck_of (tS_55 S), gR_of (tS_55 S), M.rp, gI_of (tP M.bo.pk), M.bo.sc 6, e2, e3, e4, e5, e6, gI_of (tS_55 O.sh), O.o5, if_true, eb_l, eb_r]
            exact ⟨_, rfl, O⟩
          · rw [w5] at k6
            obtain ⟨rfl, k6⟩ := k6
            have M6 : MS h0 p b n ρ τ (ta b n (ta b n (ta b n (ta b n (ta b n (ta b n i)))))) h6 := k6
            have S6 := M6.mp.sh
            obtain ⟨h7, e7, M7⟩ := M6.names (by omega) (tW b n (ta b n i)) 6 (ρ 0 6)
            have e7 : f_X13_names h6 55 (lN (tW b n (ta b n i))) (nI 2) (nI (ρ 0 6)) = some h7 := e7
            have B := M7.bo
            have t55 := tS_55 M7.mp.sh
            have pp := M7.pp
            simp (disch := omega) only [ob, nI_lit, ck_of (tS_55 S), gR_of (tS_55 S), M.rp, gI_of (tP M.bo.pk), M.bo.sc 6, e2, e3, e4, e5, e6, gI_of (tS_55 S6), M6.k5, if_false, gR_of (tS_55 S6), M6.rp, gI_of (tP M6.bo.pk), M6.bo.sc 6, e7, eb_r]
            simp (disch := omega) only [ob, ck_d, pI_d, gI_d, gR_d, sI_n, aI_n, mT_wI, mR_wI, mI_if, nI_lit, nI_add, pk_mul, eq_self, true_and, and_true, if_true, if_pos, if_neg, tP B.pk, tP_1 B.pk, tP_2 B.pk, tP_3 B.pk, tP_4 B.pk, tP_5 B.pk, tP_6 B.pk, tP_7 B.pk, tP_8 B.pk, tP_9 B.pk, tP_10 B.pk, tP_11 B.pk, tP_12 B.pk, tP_13 B.pk, tP_14 B.pk, tP_15 B.pk, tP_16 B.pk, tP_17 B.pk, tP_18 B.pk, rP_10 B.pk, rP_11 B.pk, rP_12 B.pk, rP_13 B.pk, rP_14 B.pk, rP_15 B.pk, rP_16 B.pk, rP_17 B.pk, rP_18 B.pk, rP_19 B.pk, rP_20 B.pk, rP_21 B.pk, rP_22 B.pk, rP_23 B.pk, rP_24 B.pk, rP_25 B.pk, rP_26 B.pk, rP_27 B.pk, t55, M7.rp, B.sc 6]
            exact ⟨_, rfl, M7.body rfl rfl rfl rfl (fun x hx => by rw [mI_wI_ne _ _ _ (by omega), mI_wI_ne _ _ _ (by omega), mI_wI_ne _ _ _ (by omega)]) (by simp (disch := omega) only [mI_if, if_neg]) (by rw [mI_wI_ne _ _ _ (by omega), mI_wI_ne _ _ _ (by omega), mI_wI_ne _ _ _ (by omega)]) (by rw [mI_wI_ne _ _ _ (by omega), mI_wI_ne _ _ _ (by omega), mI_wI_ne _ _ _ (by omega)]) ⟨by funext j; simp [rup], by funext j; simp [rup], by funext j; simp [rup], by simp [rup]⟩ B.pers⟩
end
