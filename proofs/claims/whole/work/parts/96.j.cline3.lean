section
variable {h0 : Mem} {r : Nat} {b : Nat → Nat} {n : Nat} {ρ τ : RO} {L : Nat → Nat} {i : Nat} {h : Mem}
theorem kN_le {k c : Nat} (h : k < 2 ^ 31) (hc : c + 1 < 2 ^ 31) (h0 : 0 < k) : (nI k - nI 1 ≤ nI c) = (k ≤ c + 1) := by
  obtain ⟨m, rfl⟩ : ∃ m, k = m + 1 := ⟨k - 1, by omega⟩
  rw [pk_sub (by omega), nI_leI (by omega) (by omega)]
  apply propext
  constructor <;> intro q <;> omega
theorem kN_lt0 {c : Nat} (hc : 0 < c) (hc2 : c < 2 ^ 31) : (nI 0 - nI 1 < nI c) = True := by
  apply eq_true
  rw [Int32.lt_iff_toInt_lt, nI_toInt hc2]
  have : (nI 0 - nI 1).toInt = -1 := by decide
  omega
set_option maxHeartbeats 4000000 in
theorem CS.lGate (C : CS h0 r b n ρ τ L i h) (P : PV ρ τ) : OK (f_X4_readGate h 14) (rL h0 r b n L (pGate b n ρ τ i)) := by
  have S := C.tp.sh
  have rr := C.rr
  have h7 := P.rw.pl
  have h6 := P.rw.tu
  have h10 := P.rw.ro
  obtain ⟨⟨v1, h1⟩, e1, k1⟩ := C.name P.n17 (s := 2) (by decide) P.sn
  unfold f_X4_readGate f_X4_readGate_19 f_X4_readGate_105 pGate
  rcases w1 : pName b n τ 2 i with f | p
  · rw [w1] at k1
    obtain ⟨rfl, k1⟩ := k1
    simp only [ob, nI_lit, eq_self, if_true, if_false, nI_10, n1_lt0, n1_ge0, eb_l, eb_r, ck_of (tS_14 S), e1]
    exact ⟨_, rfl, rfl, k1⟩
  · rw [w1] at k1
    obtain ⟨rfl, k1⟩ := k1
    have k1 : CS h0 r b n ρ τ L (ta b n i) h1 := k1
    have hp := P.place w1
    obtain ⟨⟨v2, h2⟩, e2, k2⟩ := k1.name1 P.n17 (s := 2) (by decide) (fun k hk => (P.sn k hk).1)
    rcases w2 : pName b n τ 2 (ta b n i) with f | q
    · rw [w2] at k2
      obtain ⟨rfl, k2⟩ := k2
      simp (disch := omega) only [ob, nI_lit, eq_self, if_true, if_false, nI_10, n1_lt0, n1_ge0, eb_l, eb_r, ck_of (tS_14 S), e1, nI_leI, Nat.zero_le, e2]
      exact ⟨_, rfl, rfl, k2⟩
    · rw [w2] at k2
      obtain ⟨rfl, k2⟩ := k2
      have k2 : CS h0 r b n ρ τ L (ta b n i) h2 := k2
      have hq := P.place w2
      have S2 := k2.tp.sh
      have B := k2.bo
      have hb : f_X5_roadBetween h2 r (nI p) (nI q) = some (nI (ρ 13 (7 * p + q)) - nI 1) := by
        unfold f_X5_roadBetween
        simp (disch := omega) only [ob, ck_d, pI_d, gI_d, gR_d, sI_n, aI_n, mT_wI, mR_wI, mI_if, nI_lit, nI_add, pk_mul, eq_self, true_and, and_true, if_true, if_pos, if_neg, tR B.rd, tR_1 B.rd, tR_2 B.rd, tR_3 B.rd, tR_4 B.rd, tR_5 B.rd, tR_6 B.rd, tR_7 B.rd, tR_8 B.rd, tR_9 B.rd, tR_11 B.rd, rR_9 B.rd, rR_10 B.rd, rR_11 B.rd, rR_12 B.rd, rR_13 B.rd, rR_14 B.rd, rR_15 B.rd, rR_16 B.rd, rR_17 B.rd, rR_19 B.rd, B.bt]
      have hal := P.rw.all 13 (7 * p + q)
      rcases Decidable.em (p = q) with c | c
      · subst c
        simp (disch := omega) only [ob, nI_lit, eq_self, if_true, if_false, nI_10, n1_lt0, n1_ge0, eb_l, eb_r, ck_of (tS_14 S), e1, nI_leI, Nat.zero_le, e2, nI_eq]
        exact k2.ret 3
      · rcases Decidable.em (ρ 13 (7 * p + q) = 0) with d | d
        · have ne0 : (ρ 13 (7 * p + q) ≠ 0) = False := eq_false (fun z => z d)
          simp (disch := omega) only [ob, nI_lit, eq_self, if_true, if_false, nI_10, n1_lt0, n1_ge0, eb_l, eb_r, ck_of (tS_14 S), e1, nI_leI, Nat.zero_le, e2, nI_eq, if_neg, gR_of (tS_14 S2), k2.rp, hb, kN_pos, ne0]
          simp only [d, if_true]
          exact k2.ret 8
        · have hj : ρ 13 (7 * p + q) - 1 < ρ 0 3 := by
            rcases P.rw.bt p q hp hq with g | ⟨j, g1, g2, -⟩ <;> omega
          obtain ⟨j, ej⟩ : ∃ j, ρ 13 (7 * p + q) - 1 = j := ⟨_, rfl⟩
          rw [ej] at hj
          have ej2 : nI (ρ 13 (7 * p + q)) - nI 1 = nI j := by rw [pk_sub (by omega), ej]
          rw [ej2] at hb
          have hal6 := P.rw.all 6 j
          have hg : f_X5_hasGate h2 r (nI j) = some (if ρ 6 j = 0 then nI 0 else nI 1) := by
            unfold f_X5_hasGate
            simp (disch := omega) only [ob, ck_d, pI_d, gI_d, gR_d, sI_n, aI_n, mT_wI, mR_wI, mI_if, nI_lit, nI_add, pk_mul, eq_self, true_and, and_true, if_true, if_pos, if_neg, tR B.rd, tR_1 B.rd, tR_2 B.rd, tR_3 B.rd, tR_4 B.rd, tR_5 B.rd, tR_6 B.rd, tR_7 B.rd, tR_8 B.rd, tR_9 B.rd, tR_11 B.rd, rR_9 B.rd, rR_10 B.rd, rR_11 B.rd, rR_12 B.rd, rR_13 B.rd, rR_14 B.rd, rR_15 B.rd, rR_16 B.rd, rR_17 B.rd, rR_19 B.rd, B.kd, kN_neg]
            split <;> rfl
          simp only [eb_r]
          rw [ej]
          rcases Decidable.em (ρ 6 j = 0) with g | g
          · rw [if_pos g] at hg
            obtain ⟨h3, e3, k3⟩ := k2.step
            have S3 := k3.tp.sh
            have htk := tk_lt b n (ta b n (ta b n i))
            unfold pKind
            rcases Decidable.em (tk b n (ta b n (ta b n i)) = 1) with t1 | t1
            · have hm := tM_le b n (ta b n (ta b n i))
              have h13 : mI h3 14 13 = nI (tM b n (ta b n (ta b n i))) - nI 1 := (k3.kt.wo t1).2
              rcases Nat.lt_or_ge (tM b n (ta b n (ta b n i))) 12 with y | y
              · have lt11 : (nI (tM b n (ta b n (ta b n i))) - nI 1 < nI 11) = True := by
                  rcases Nat.eq_zero_or_pos (tM b n (ta b n (ta b n i))) with z | z
                  · rw [z]
                    exact kN_lt0 (by decide) (by decide)
                  · rw [kN_lt (by omega) (by omega) z]
                    exact eq_true (by omega)
                simp (disch := omega) only [ob, nI_lit, eq_self, if_true, if_false, nI_10, n1_lt0, n1_ge0, eb_l, eb_r, ck_of (tS_14 S), e1, nI_leI, Nat.zero_le, e2, nI_eq, if_neg, if_pos, gR_of (tS_14 S2), k2.rp, hb, hg, e3, gI_of (tS_14 S3), k3.kt.kd, h13, lt11, ne_eq, not_true_eq_false, not_false_eq_true, g]
                exact k3.ret 1
              · have lt11 : (nI (tM b n (ta b n (ta b n i))) - nI 1 < nI 11) = False := by
                  rw [kN_lt (by omega) (by omega) (by omega)]
                  exact eq_false (by omega)
                rcases Nat.lt_or_ge 15 (tM b n (ta b n (ta b n i))) with x | x
                · have le14 : (nI (tM b n (ta b n (ta b n i))) - nI 1 ≤ nI 14) = False := by
                    rw [kN_le (by omega) (by omega) (by omega)]
                    exact eq_false (by omega)
                  simp (disch := omega) only [ob, nI_lit, eq_self, if_true, if_false, nI_10, n1_lt0, n1_ge0, eb_l, eb_r, ck_of (tS_14 S), e1, nI_leI, Nat.zero_le, e2, nI_eq, if_neg, if_pos, gR_of (tS_14 S2), k2.rp, hb, hg, e3, gI_of (tS_14 S3), k3.kt.kd, h13, lt11, le14, ne_eq, not_true_eq_false, not_false_eq_true, g]
                  exact k3.ret 1
                · have le14 : (nI (tM b n (ta b n (ta b n i))) - nI 1 ≤ nI 14) = True := by
                    rw [kN_le (by omega) (by omega) (by omega)]
                    exact eq_true (by omega)
                  have hsub : nI (tM b n (ta b n (ta b n i))) - nI 1 - nI 11 = nI (tM b n (ta b n (ta b n i)) - 12) := by
                    rw [pk_sub (by omega), pk_sub (by omega)]
                    exact congrArg nI (by omega)
                  obtain ⟨h4, e4, k4⟩ := k3.step
                  obtain ⟨⟨v5, h5⟩, e5, k5⟩ := k4.name P.n17 (s := 1) (by decide) P.sn
                  have and1 : (tk b n (ta b n (ta b n i)) = 1 ∧ 12 ≤ tM b n (ta b n (ta b n i)) ∧ tM b n (ta b n (ta b n i)) ≤ 15) = True := eq_true ⟨t1, y, x⟩
                  rcases w5 : pName b n τ 1 (ta b n (ta b n (ta b n i))) with f | t
                  · rw [w5] at k5
                    obtain ⟨rfl, k5⟩ := k5
                    simp (disch := omega) only [ob, nI_lit, eq_self, if_true, if_false, nI_10, n1_lt0, n1_ge0, eb_l, eb_r, and1, ck_of (tS_14 S), e1, nI_leI, Nat.zero_le, e2, nI_eq, if_neg, if_pos, gR_of (tS_14 S2), k2.rp, hb, hg, e3, gI_of (tS_14 S3), k3.kt.kd, h13, lt11, le14, e4, e5, ne_eq, not_true_eq_false, not_false_eq_true, g]
                    exact ⟨_, rfl, rfl, k5⟩
                  · rw [w5] at k5
                    obtain ⟨rfl, k5⟩ := k5
                    have k5 : CS h0 r b n ρ τ L (ta b n (ta b n (ta b n (ta b n i)))) h5 := k5
                    have ht := P.tune w5
                    have S5 := k5.tp.sh
                    have ha := c_addGate k5.bo (j := j) (k := tM b n (ta b n (ta b n i)) - 12) (t := t) (by omega)
                    simp (disch := omega) only [ob, nI_lit, eq_self, if_true, if_false, nI_10, n1_lt0, n1_ge0, eb_l, eb_r, and1, ck_of (tS_14 S), e1, nI_leI, Nat.zero_le, e2, nI_eq, if_neg, if_pos, gR_of (tS_14 S2), k2.rp, hb, hg, e3, gI_of (tS_14 S3), k3.kt.kd, h13, lt11, le14, e4, e5, gR_of (tS_14 S5), k5.rp, hsub, ha, ne_eq, not_true_eq_false, not_false_eq_true, g]
                    exact ⟨_, rfl, rfl, k5.body rfl rfl rfl rfl (fun x hx => by rw [mI_wI_ne _ _ _ (by omega), mI_wI_ne _ _ _ (by omega), mI_wI_ne _ _ _ (by omega)]) ⟨rfl, rfl, rfl, rfl⟩ (k5.bo.gate (by omega))⟩
            · have and0 : (tk b n (ta b n (ta b n i)) = 1 ∧ 12 ≤ tM b n (ta b n (ta b n i)) ∧ tM b n (ta b n (ta b n i)) ≤ 15) = False := eq_false (fun z => t1 z.1)
              simp (disch := omega) only [ob, nI_lit, eq_self, if_true, if_false, nI_10, n1_lt0, n1_ge0, eb_l, eb_r, and0, ck_of (tS_14 S), e1, nI_leI, Nat.zero_le, e2, nI_eq, if_neg, if_pos, gR_of (tS_14 S2), k2.rp, hb, hg, e3, gI_of (tS_14 S3), k3.kt.kd, ne_eq, not_true_eq_false, not_false_eq_true, g]
              exact k3.ret 1
          · rw [if_neg g] at hg
            simp (disch := omega) only [ob, nI_lit, eq_self, if_true, if_false, nI_10, n1_lt0, n1_ge0, eb_l, eb_r, ck_of (tS_14 S), e1, nI_leI, Nat.zero_le, e2, nI_eq, if_neg, if_pos, gR_of (tS_14 S2), k2.rp, hb, hg, ne_eq, not_false_eq_true, g]
            exact k2.ret 3
theorem CS.lPers (C : CS h0 r b n ρ τ L i h) (P : PV ρ τ) (hL : L 6 = ρ 0 6 + 1) (hk : ρ 0 6 < 4) : OK (f_X4_readPerson h 14) (rL h0 r b n L (pPers b n ρ τ i)) := by
  have S := C.tp.sh
  have rr := C.rr
  have h7 := P.rw.pl
  have h17 : τ 3 0 < 17 := by
    have := P.nm
    have := P.rw.tu
    omega
  obtain ⟨⟨v1, h1⟩, e1, k1⟩ := C.fresh h17 (s := 6) (by decide) hL (by omega)
  unfold f_X4_readPerson f_X4_readPerson_26 f_X4_readPerson_27 f_X4_readPerson_52 f_X4_readPerson_53 pPers
  rcases w1 : pNew b n τ i with f | u
  · rw [w1] at k1
    obtain ⟨rfl, k1⟩ := k1
    simp only [ob, nI_lit, eq_self, if_true, if_false, nI_10, n1_lt0, n1_ge0, eb_l, eb_r, ck_of (tS_14 S), e1]
    exact ⟨_, rfl, rfl, k1⟩
  · rw [w1] at k1
    obtain ⟨rfl, k1⟩ := k1
    have k1 : CS h0 r b n ρ (addN τ (tW b n i) 6 (ρ 0 6)) L (ta b n i) h1 := k1
    obtain ⟨⟨v2, h2⟩, e2, k2⟩ := k1.word (k := 18) (by decide)
    rcases w2 : pWord b n 18 (ta b n i) with f | u
    · rw [w2] at k2
      obtain ⟨rfl, k2⟩ := k2
      simp only [ob, nI_lit, eq_self, if_true, if_false, nI_10, n1_lt0, n1_ge0, eb_l, eb_r, ck_of (tS_14 S), e1, e2]
      exact ⟨_, rfl, rfl, k2⟩
    · rw [w2] at k2
      obtain ⟨rfl, k2⟩ := k2
      have k2 : CS h0 r b n ρ (addN τ (tW b n i) 6 (ρ 0 6)) L (ta b n (ta b n i)) h2 := k2
      obtain ⟨⟨v3, h3⟩, e3, k3⟩ := k2.name (by rw [addN_3]; omega) (s := 2) (by decide) (fun k hk => by
        rw [addN_3] at hk
        rw [addN_1, addN_2]
        split
        · omega
        · exact P.sn k (by omega))
      rw [pName_add b n _ _ _ (by decide)] at k3
      rcases w3 : pName b n τ 2 (ta b n (ta b n i)) with f | p
      · rw [w3] at k3
        obtain ⟨rfl, k3⟩ := k3
        simp only [ob, nI_lit, eq_self, if_true, if_false, nI_10, n1_lt0, n1_ge0, eb_l, eb_r, ck_of (tS_14 S), e1, e2, e3]
        exact ⟨_, rfl, rfl, k3⟩
      · rw [w3] at k3
        obtain ⟨rfl, k3⟩ := k3
        have k3 : CS h0 r b n ρ (addN τ (tW b n i) 6 (ρ 0 6)) L (ta b n (ta b n (ta b n i))) h3 := k3
        have hp := P.place w3
        obtain ⟨⟨v4, h4⟩, e4, k4⟩ := k3.word (k := 19) (by decide)
        rcases w4 : pWord b n 19 (ta b n (ta b n (ta b n i))) with f | u
        · rw [w4] at k4
          obtain ⟨rfl, k4⟩ := k4
          simp (disch := omega) only [ob, nI_lit, eq_self, if_true, if_false, nI_10, n1_lt0, n1_ge0, eb_l, eb_r, ck_of (tS_14 S), e1, e2, e3, nI_ltI, Nat.not_lt_zero, e4]
          exact ⟨_, rfl, rfl, k4⟩
        · rw [w4] at k4
          obtain ⟨rfl, k4⟩ := k4
          have k4 : CS h0 r b n ρ (addN τ (tW b n i) 6 (ρ 0 6)) L (ta b n (ta b n (ta b n (ta b n i)))) h4 := k4
          obtain ⟨⟨v5, h5⟩, e5, k5⟩ := k4.num (lo := 0) (hi := 999) (by decide) (by decide)
          rcases w5 : pNum b n 0 999 (ta b n (ta b n (ta b n (ta b n i)))) with f | m
          · rw [w5] at k5
            obtain ⟨rfl, k5⟩ := k5
            simp (disch := omega) only [ob, nI_lit, eq_self, if_true, if_false, nI_10, n1_lt0, n1_ge0, eb_l, eb_r, ck_of (tS_14 S), e1, e2, e3, nI_ltI, Nat.not_lt_zero, e4, e5]
            exact ⟨_, rfl, rfl, k5⟩
          · rw [w5] at k5
            obtain ⟨rfl, k5⟩ := k5
            have k5 : CS h0 r b n ρ (addN τ (tW b n i) 6 (ρ 0 6)) L (ta b n (ta b n (ta b n (ta b n (ta b n i))))) h5 := k5
            have hm := pNum_r w5
            have S5 := k5.tp.sh
            have ha := c_addPers k5.bo (p := p) (m := m) hk
            simp (disch := omega) only [ob, nI_lit, eq_self, if_true, if_false, nI_10, n1_lt0, n1_ge0, eb_l, eb_r, ck_of (tS_14 S), e1, e2, e3, nI_ltI, Nat.not_lt_zero, e4, e5, nI_leI, Nat.zero_le, gR_of (tS_14 S5), k5.rp, ha]
            exact ⟨_, rfl, rfl, k5.body rfl rfl rfl rfl (fun x hx => by rw [mI_wI_ne _ _ _ (by omega), mI_wI_ne _ _ _ (by omega), mI_wI_ne _ _ _ (by omega)]) ⟨by funext j; simp [rup], by funext j; simp [rup], by funext j; simp [rup], by simp [rup]⟩ (k5.bo.pers hk)⟩
theorem CS.notes (C : CS h0 r b n ρ τ L i h) (ht : tk b n i = 1) (hk : ρ 0 1 < 6) : iter (fun (s : Int32 × Mem) => b_X4_readTune_48 s.2 14 (nI (tL b n i)) s.1) FU (nI 0, h) = some (if ff (fun k => decide (103 < b (sp b n i + k))) (tL b n i) < tL b n i then .inl (nt h (r + 2) b (sp b n i) (ρ 0 1) (ff (fun k => decide (103 < b (sp b n i + k))) (tL b n i))) else .inr (nt h (r + 2) b (sp b n i) (ρ 0 1) (ff (fun k => decide (103 < b (sp b n i + k))) (tL b n i)))) := by
  have S := C.tp.sh
  have rr := C.rr
  have hw := tk_word ht
  have hn := C.tp.n1
  have hta := ta_le b C.le
  have q := iter_ff (b := fun (s : Int32 × Mem) => b_X4_readTune_48 s.2 14 (nI (tL b n i)) s.1) (fun k => (nI k, nt h (r + 2) b (sp b n i) (ρ 0 1) k)) (fun k => decide (103 < b (sp b n i + k))) (tL b n i) (r := if ff (fun k => decide (103 < b (sp b n i + k))) (tL b n i) < tL b n i then .inl (nt h (r + 2) b (sp b n i) (ρ 0 1) (ff (fun k => decide (103 < b (sp b n i + k))) (tL b n i))) else .inr (nt h (r + 2) b (sp b n i) (ρ 0 1) (ff (fun k => decide (103 < b (sp b n i + k))) (tL b n i)))) (FU_lt (by omega))
  have fac : ∀ k, k < tL b n i → mI (nt h (r + 2) b (sp b n i) (ρ 0 1) k) 14 9 = nI (sp b n i) ∧ mI (nt h (r + 2) b (sp b n i) (ρ 0 1) k) 15 (sp b n i + k) = nI (b (sp b n i + k)) ∧ mI (nt h (r + 2) b (sp b n i) (ρ 0 1) k) r 1 = nI (ρ 0 1) ∧ b (sp b n i + k) < 256 ∧ 97 ≤ b (sp b n i + k) := fun k hk => by
    rw [nt_ne _ _ _ _ _ _ (by omega), nt_ne _ _ _ _ _ _ (by omega), nt_ne _ _ _ _ _ _ (by omega)]
    have hl := isL_iff.1 (nl_in b n (sp b n i) k hk)
    exact ⟨C.kt.at, C.tp.tp _ (by omega), C.bo.sc 1 (by decide), C.tp.by _ (by omega), hl.1⟩
  have st : ∀ k, SH (nt h (r + 2) b (sp b n i) (ρ 0 1) k) := fun k => S
  have rdn : ∀ k, RD (nt h (r + 2) b (sp b n i) (ρ 0 1) k) r := fun k => C.bo.rd
  have rp : ∀ k, mR (nt h (r + 2) b (sp b n i) (ρ 0 1) k) 14 6 = r := fun k => C.rp
  have e0 := nt_0 h (r + 2) b (sp b n i) (ρ 0 1)
  rw [e0] at q
  refine q (fun k hk hp => ?_) ?_
  · obtain ⟨f1, f2, f3, f4, f5⟩ := fac k hk
    have hp : ¬ 103 < b (sp b n i + k) := of_decide_eq_false hp
    show b_X4_readTune_48 (nt h (r + 2) b (sp b n i) (ρ 0 1) k) 14 (nI (tL b n i)) (nI k) = some (.inl (nI (k + 1), nt h (r + 2) b (sp b n i) (ρ 0 1) (k + 1)))
    have hs := nt_s h (r + 2) b (sp b n i) (ρ 0 1) k
    rw [Nat.mul_comm 8] at hs
    unfold b_X4_readTune_48
    simp (disch := omega) only [ob, nI_lit, eq_self, if_true, if_false, nI_10, n1_lt0, n1_ge0, eb_l, eb_r, nI_leI, if_neg, if_pos, gR_of (tS_14 (st k)), rS_14_0 (st k), gI_of (tS_14 (st k)), f1, nI_add, aI_of (tS_15 (st k)), f2, rp k, gR_of (tR (rdn k)), rR_10 (rdn k), gI_of (tR (rdn k)), f3, pk_mul, sI_of (tR_2 (rdn k)), pk_sub, hs]
  · show b_X4_readTune_48 (nt h (r + 2) b (sp b n i) (ρ 0 1) (ff (fun k => decide (103 < b (sp b n i + k))) (tL b n i))) 14 (nI (tL b n i)) (nI (ff (fun k => decide (103 < b (sp b n i + k))) (tL b n i))) = _
    have hle := ff_le (fun k => decide (103 < b (sp b n i + k))) (tL b n i)
    unfold b_X4_readTune_48
    rcases Nat.lt_or_ge (ff (fun k => decide (103 < b (sp b n i + k))) (tL b n i)) (tL b n i) with c | c
    · obtain ⟨f1, f2, f3, f4, f5⟩ := fac _ c
      have hp : 103 < b (sp b n i + ff (fun k => decide (103 < b (sp b n i + k))) (tL b n i)) := of_decide_eq_true (ff_at (fun k => decide (103 < b (sp b n i + k))) (tL b n i) c)
      simp (disch := omega) only [ob, nI_lit, eq_self, if_true, if_false, nI_10, n1_lt0, n1_ge0, eb_l, eb_r, nI_leI, if_neg, if_pos c, gR_of (tS_14 (st _)), rS_14_0 (st _), gI_of (tS_14 (st _)), f1, nI_add, aI_of (tS_15 (st _)), f2]
    · simp (disch := omega) only [ob, nI_lit, eq_self, if_true, if_false, nI_10, n1_lt0, n1_ge0, eb_l, eb_r, nI_leI, if_neg, if_pos]
theorem CS.lTune (C : CS h0 r b n ρ τ L i h) (P : PV ρ τ) (hL : L 1 = ρ 0 1 + 1) (hk : ρ 0 1 < 6) : OK (f_X4_readTune h 14) (rL h0 r b n L (pTune b n ρ τ i)) := by
  have S := C.tp.sh
  have rr := C.rr
  have h17 : τ 3 0 < 17 := by
    have := P.nm
    have := P.rw.pe
    have := P.rw.pl
    omega
  obtain ⟨⟨v1, h1⟩, e1, k1⟩ := C.fresh h17 (s := 1) (by decide) hL (by omega)
  unfold f_X4_readTune pTune
  rcases w1 : pNew b n τ i with f | u
  · rw [w1] at k1
    obtain ⟨rfl, k1⟩ := k1
    simp only [ob, nI_lit, eq_self, if_true, if_false, nI_10, n1_lt0, n1_ge0, eb_l, eb_r, ck_of (tS_14 S), e1]
    exact ⟨_, rfl, rfl, k1⟩
  · rw [w1] at k1
    obtain ⟨rfl, k1⟩ := k1
    have k1 : CS h0 r b n ρ (addN τ (tW b n i) 1 (ρ 0 1)) L (ta b n i) h1 := k1
    have S1 := k1.tp.sh
    have htk := tk_lt b n (ta b n i)
    unfold pNotes
    rcases Decidable.em (tk b n (ta b n i) = 1) with t1 | t1
    · have hw := tk_word t1
      have hn := k1.tp.n1
      have htl := ta_le b k1.le
      have hsub : mI h1 14 10 - mI h1 14 9 = nI (tL b n (ta b n i)) := by
        rw [k1.kt.af, k1.kt.at, hw.2.2.2.2, pk_sub (by omega)]
        congr 1
        omega
      rcases Nat.lt_or_ge (tL b n (ta b n i)) 2 with c | c
      · have and0 : (2 ≤ tL b n (ta b n i) ∧ ff (fun k => decide (103 < b (sp b n (ta b n i) + k))) (tL b n (ta b n i)) = tL b n (ta b n i)) = False := eq_false (by omega)
        simp (disch := omega) only [ob, nI_lit, eq_self, if_true, if_false, nI_10, n1_lt0, n1_ge0, eb_l, eb_r, and0, ck_of (tS_14 S), e1, gI_of (tS_14 S1), k1.kt.kd, nI_eq, t1, hsub, nI_leI, if_neg]
        exact k1.ret 7
      · have q := k1.notes t1 hk
        have hle := ff_le (fun k => decide (103 < b (sp b n (ta b n i) + k))) (tL b n (ta b n i))
        rcases Nat.lt_or_ge (ff (fun k => decide (103 < b (sp b n (ta b n i) + k))) (tL b n (ta b n i))) (tL b n (ta b n i)) with d | d
        · have and0 : (2 ≤ tL b n (ta b n i) ∧ ff (fun k => decide (103 < b (sp b n (ta b n i) + k))) (tL b n (ta b n i)) = tL b n (ta b n i)) = False := eq_false (by omega)
          rw [if_pos d] at q
          simp (disch := omega) only [ob, nI_lit, eq_self, if_true, if_false, nI_10, n1_lt0, n1_ge0, eb_l, eb_r, and0, ck_of (tS_14 S), e1, gI_of (tS_14 S1), k1.kt.kd, nI_eq, t1, hsub, nI_leI, if_pos c, q, Sum.elim_inl]
          exact (k1.body (h' := nt h1 (r + 2) b (sp b n (ta b n i)) (ρ 0 1) (ff (fun k => decide (103 < b (sp b n (ta b n i) + k))) (tL b n (ta b n i)))) rfl rfl rfl rfl (fun x hx => nt_ne _ _ _ _ _ _ (by omega)) ⟨rfl, rfl, rfl, rfl⟩ (k1.bo.notes P.rw b _ _)).ret 7
        · have e : ff (fun k => decide (103 < b (sp b n (ta b n i) + k))) (tL b n (ta b n i)) = tL b n (ta b n i) := by omega
          have and1 : (2 ≤ tL b n (ta b n i) ∧ ff (fun k => decide (103 < b (sp b n (ta b n i) + k))) (tL b n (ta b n i)) = tL b n (ta b n i)) = True := eq_true ⟨c, e⟩
          rw [if_neg (by omega), e] at q
          obtain ⟨h2, e2⟩ : ∃ h2, nt h1 (r + 2) b (sp b n (ta b n i)) (ρ 0 1) (tL b n (ta b n i)) = h2 := ⟨_, rfl⟩
          have B := k1.bo.tune P.rw b n (ta b n i) hk
          have C3 := k1.body (h' := wI (wI (nt h1 (r + 2) b (sp b n (ta b n i)) (ρ 0 1) (tL b n (ta b n i))) (r + 1) (ρ 0 1) (nI (tL b n (ta b n i)))) r 1 (nI (ρ 0 1 + 1))) rfl rfl rfl rfl (fun x hx => by rw [mI_wI_ne _ _ _ (by omega), mI_wI_ne _ _ _ (by omega), nt_ne _ _ _ _ _ _ (by omega)]) ⟨rfl, rfl, rfl, rfl⟩ B
          obtain ⟨h4, e4, k4⟩ := C3.step
          have S2 : SH h2 := e2 ▸ S1
          have R2 : RD h2 r := e2 ▸ k1.bo.rd
          have rp2 : mR h2 14 6 = r := by
            rw [← e2]
            exact k1.rp
          have x2 : mI h2 r 1 = nI (ρ 0 1) := by
            rw [← e2, nt_ne _ _ _ _ _ _ (by omega)]
            exact k1.bo.sc 1 (by decide)
          have S3 : SH (wI h2 (r + 1) (ρ 0 1) (nI (tL b n (ta b n i)))) := S2
          have R3 : RD (wI h2 (r + 1) (ρ 0 1) (nI (tL b n (ta b n i)))) r := R2
          have rp3 : mR (wI h2 (r + 1) (ρ 0 1) (nI (tL b n (ta b n i)))) 14 6 = r := rp2
          have x3 : mI (wI h2 (r + 1) (ρ 0 1) (nI (tL b n (ta b n i)))) r 1 = nI (ρ 0 1) := by
            rw [mI_wI_ne _ _ _ (by omega)]
            exact x2
          rw [e2] at q e4
          simp (disch := omega) only [ob, nI_lit, eq_self, if_true, if_false, nI_10, n1_lt0, n1_ge0, eb_l, eb_r, and1, ck_of (tS_14 S), e1, gI_of (tS_14 S1), k1.kt.kd, nI_eq, t1, hsub, nI_leI, if_pos c, q, Sum.elim_inr, gR_of (tS_14 S2), rp2, gR_of (tR R2), rR_9 R2, gI_of (tR R2), x2, sI_of (tR_1 R2), gR_of (tS_14 S3), rp3, gI_of (tR R3), x3, nI_add, pI_of (tR R3), e4]
          exact ⟨_, rfl, rfl, k4⟩
    · simp (disch := omega) only [ob, nI_lit, eq_self, if_true, if_false, nI_10, n1_lt0, n1_ge0, eb_l, eb_r, ck_of (tS_14 S), e1, gI_of (tS_14 S1), k1.kt.kd, nI_eq, if_neg t1]
      exact k1.ret 1
end
