section
variable {h0 : Mem} {r : Nat} {b : Nat → Nat} {n : Nat} {ρ τ : RO} {L : Nat → Nat} {i : Nat} {h : Mem}
theorem pNum_r {lo hi m : Nat} (w : pNum b n lo hi i = .inr m) : tk b n i = 2 ∧ lo ≤ m ∧ m ≤ hi := by
  unfold pNum at w
  split at w
  · rename_i h1
    split at w
    · rename_i hq
      have := Sum.inr.inj w
      exact ⟨h1, by omega, by omega⟩
    · cases w
  · cases w
theorem CS.lRoad (C : CS h0 r b n ρ τ L i h) (P : PV ρ τ) (hk : ρ 0 3 < 10) : OK (f_X4_readRoad h 14) (rL h0 r b n L (pRoad b n ρ τ i)) := by
  have S := C.tp.sh
  have rr := C.rr
  have h7 := P.rw.pl
  obtain ⟨⟨v1, h1⟩, e1, k1⟩ := C.name P.n17 (s := 2) (by decide) P.sn
  unfold f_X4_readRoad f_X4_readRoad_19 f_X4_readRoad_43 f_X4_readRoad_73 pRoad
  rcases w1 : pName b n τ 2 i with f | p
  · rw [w1] at k1
    obtain ⟨rfl, k1⟩ := k1
    simp only [ob, nI_lit, eq_self, if_true, if_false, nI_10, n1_lt0, n1_ge0, eb_l, eb_r, ck_of (tS_14 S), e1]
    exact ⟨_, rfl, rfl, k1⟩
  · rw [w1] at k1
    obtain ⟨rfl, k1⟩ := k1
    have k1 : CS h0 r b n ρ τ L (ta b n i) h1 := k1
    have hp := P.place w1
    obtain ⟨⟨v2, h2⟩, e2, k2⟩ := k1.name1 P.n17 (s := 2) (by decide) (fun k hk => (P.sn k hk).1)
    rcases w2 : pName b n τ 2 (ta b n i) with f | q
    · rw [w2] at k2
      obtain ⟨rfl, k2⟩ := k2
      simp (disch := omega) only [ob, nI_lit, eq_self, if_true, if_false, nI_10, n1_lt0, n1_ge0, eb_l, eb_r, ck_of (tS_14 S), e1, nI_leI, Nat.zero_le, e2]
      exact ⟨_, rfl, rfl, k2⟩
    · rw [w2] at k2
      obtain ⟨rfl, k2⟩ := k2
      have k2 : CS h0 r b n ρ τ L (ta b n i) h2 := k2
      have hq := P.place w2
      have S2 := k2.tp.sh
      have B := k2.bo
      have hb : f_X5_roadBetween h2 r (nI p) (nI q) = some (nI (ρ 13 (7 * p + q)) - nI 1) := by
        unfold f_X5_roadBetween
        simp (disch := omega) only [ob, ck_d, pI_d, gI_d, gR_d, sI_n, aI_n, mT_wI, mR_wI, mI_if, nI_lit, nI_add, pk_mul, eq_self, true_and, and_true, if_true, if_pos, if_neg, tR B.rd, tR_1 B.rd, tR_2 B.rd, tR_3 B.rd, tR_4 B.rd, tR_5 B.rd, tR_6 B.rd, tR_7 B.rd, tR_8 B.rd, tR_9 B.rd, tR_11 B.rd, rR_9 B.rd, rR_10 B.rd, rR_11 B.rd, rR_12 B.rd, rR_13 B.rd, rR_14 B.rd, rR_15 B.rd, rR_16 B.rd, rR_17 B.rd, rR_19 B.rd, B.bt]
      have hal := P.rw.all 13 (7 * p + q)
      rcases Decidable.em (p = q) with c | c
      · subst c
        simp (disch := omega) only [ob, nI_lit, eq_self, if_true, if_false, nI_10, n1_lt0, n1_ge0, eb_l, eb_r, ck_of (tS_14 S), e1, nI_leI, Nat.zero_le, e2, nI_eq, true_or]
        exact k2.ret 3
      · rcases Decidable.em (ρ 13 (7 * p + q) = 0) with d | d
        · obtain ⟨h3, e3, k3⟩ := k2.step
          obtain ⟨⟨v4, h4⟩, e4, k4⟩ := k3.word (k := 10) (by decide)
          rcases w4 : pWord b n 10 (ta b n (ta b n i)) with f | u
          · rw [w4] at k4
            obtain ⟨rfl, k4⟩ := k4
            simp (disch := omega) only [ob, nI_lit, eq_self, if_true, if_false, nI_10, n1_lt0, n1_ge0, eb_l, eb_r, ck_of (tS_14 S), e1, nI_leI, Nat.zero_le, e2, nI_eq, if_neg, gR_of (tS_14 S2), k2.rp, hb, kN_neg, d, e3, e4]
            exact ⟨_, rfl, rfl, k4⟩
          · rw [w4] at k4
            obtain ⟨rfl, k4⟩ := k4
            have k4 : CS h0 r b n ρ τ L (ta b n (ta b n (ta b n i))) h4 := k4
            obtain ⟨⟨v5, h5⟩, e5, k5⟩ := k4.num (lo := 1) (hi := 99) (by decide) (by decide)
            rcases w5 : pNum b n 1 99 (ta b n (ta b n (ta b n i))) with f | m
            · rw [w5] at k5
              obtain ⟨rfl, k5⟩ := k5
              simp (disch := omega) only [ob, nI_lit, eq_self, if_true, if_false, nI_10, n1_lt0, n1_ge0, eb_l, eb_r, ck_of (tS_14 S), e1, nI_leI, Nat.zero_le, e2, nI_eq, if_neg, gR_of (tS_14 S2), k2.rp, hb, kN_neg, d, e3, e4, e5]
              exact ⟨_, rfl, rfl, k5⟩
            · rw [w5] at k5
              obtain ⟨rfl, k5⟩ := k5
              have k5 : CS h0 r b n ρ τ L (ta b n (ta b n (ta b n (ta b n i)))) h5 := k5
              have hm := pNum_r w5
              have S5 := k5.tp.sh
              have ha := c_addRoad k5.bo (p := p) (q := q) (m := m) (by omega) (by omega) hk
              simp (disch := omega) only [ob, nI_lit, eq_self, if_true, if_false, nI_10, n1_lt0, n1_ge0, eb_l, eb_r, ck_of (tS_14 S), e1, nI_leI, Nat.zero_le, e2, nI_eq, if_neg, gR_of (tS_14 S2), k2.rp, hb, kN_neg, d, e3, e4, e5, gR_of (tS_14 S5), k5.rp, ha]
              exact ⟨_, rfl, rfl, k5.body rfl rfl rfl rfl (fun x hx => by rw [mI_wI_ne _ _ _ (by omega), mI_wI_ne _ _ _ (by omega), mI_wI_ne _ _ _ (by omega), mI_wI_ne _ _ _ (by omega), mI_wI_ne _ _ _ (by omega), mI_wI_ne _ _ _ (by omega)]) ⟨rfl, rfl, rfl, rfl⟩ (k5.bo.road (by omega) (by omega) hk)⟩
        · have or1 : (p = q ∨ ρ 13 (7 * p + q) ≠ 0) = True := eq_true (Or.inr d)
          simp (disch := omega) only [ob, nI_lit, eq_self, if_true, if_false, nI_10, n1_lt0, n1_ge0, eb_l, eb_r, ck_of (tS_14 S), e1, nI_leI, Nat.zero_le, e2, nI_eq, or1, if_neg, gR_of (tS_14 S2), k2.rp, hb, kN_neg]
          exact k2.ret 3
theorem CS.lKnow (C : CS h0 r b n ρ τ L i h) (P : PV ρ τ) : OK (f_X4_readKnows h 14) (rL h0 r b n L (pKnow b n ρ τ i)) := by
  have S := C.tp.sh
  have rr := C.rr
  have h4 := P.rw.pe
  have h6 := P.rw.tu
  obtain ⟨⟨v1, h1⟩, e1, k1⟩ := C.name P.n17 (s := 6) (by decide) P.sn
  unfold f_X4_readKnows f_X4_readKnows_20 pKnow
  rcases w1 : pName b n τ 6 i with f | x
  · rw [w1] at k1
    obtain ⟨rfl, k1⟩ := k1
    simp only [ob, nI_lit, eq_self, if_true, if_false, nI_10, n1_lt0, n1_ge0, eb_l, eb_r, ck_of (tS_14 S), e1]
    exact ⟨_, rfl, rfl, k1⟩
  · rw [w1] at k1
    obtain ⟨rfl, k1⟩ := k1
    have k1 : CS h0 r b n ρ τ L (ta b n i) h1 := k1
    have hx := P.pers w1
    obtain ⟨⟨v2, h2⟩, e2, k2⟩ := k1.name1 P.n17 (s := 1) (by decide) (fun k hk => (P.sn k hk).1)
    rcases w2 : pName b n τ 1 (ta b n i) with f | t
    · rw [w2] at k2
      obtain ⟨rfl, k2⟩ := k2
      simp (disch := omega) only [ob, nI_lit, eq_self, if_true, if_false, nI_10, n1_lt0, n1_ge0, eb_l, eb_r, ck_of (tS_14 S), e1, nI_leI, Nat.zero_le, e2]
      exact ⟨_, rfl, rfl, k2⟩
    · rw [w2] at k2
      obtain ⟨rfl, k2⟩ := k2
      have k2 : CS h0 r b n ρ τ L (ta b n i) h2 := k2
      have ht := P.tune w2
      have S2 := k2.tp.sh
      have h64 : τ 6 x < 64 := P.nf.kn x hx
      have hb := c_knows k2.bo (x := x) (t := t) (by omega) (by omega) h64
      have ha := c_addKnow k2.bo (x := x) (t := t) (by omega) (by omega) h64
      rcases c : (τ 6 x).testBit t with _ | _
      · rw [c] at hb
        have k3 : CS h0 r b n (rup ρ 0 7 (ρ 0 7 + 1)) (rup τ 6 x (τ 6 x ||| 2 ^ t)) L (ta b n i) (wI (wI h2 (r + 11) (x * 5 + 2) (nI (τ 6 x ||| 2 ^ t))) r 7 (nI (ρ 0 7 + 1))) := k2.body rfl rfl rfl rfl (fun x hx => by rw [mI_wI_ne _ _ _ (by omega), mI_wI_ne _ _ _ (by omega)]) ⟨by funext j; simp [rup], by funext j; simp [rup], by funext j; simp [rup], by simp [rup]⟩ (k2.bo.know (by omega))
        obtain ⟨h3, e3, k3⟩ := k3.step
        simp (disch := omega) only [ob, nI_lit, eq_self, if_true, if_false, nI_10, n1_lt0, n1_ge0, eb_l, eb_r, ck_of (tS_14 S), e1, nI_leI, Nat.zero_le, e2, gR_of (tS_14 S2), k2.rp, hb, Bool.toNat_false, ha, e3, c, Bool.false_eq_true]
        exact ⟨_, rfl, rfl, k3⟩
      · rw [c] at hb
        simp (disch := omega) only [ob, nI_lit, eq_self, if_true, if_false, nI_10, n1_lt0, n1_ge0, eb_l, eb_r, ck_of (tS_14 S), e1, nI_leI, Nat.zero_le, e2, gR_of (tS_14 S2), k2.rp, hb, c, Bool.toNat_true]
        exact k2.ret 3
theorem CS.lInn (C : CS h0 r b n ρ τ L i h) (P : PV ρ τ) (hk : ρ 0 5 < 6) : OK (f_X4_readInn h 14) (rL h0 r b n L (pInn b n ρ τ i)) := by
  have S := C.tp.sh
  have rr := C.rr
  have h7 := P.rw.pl
  have h6 := P.rw.tu
  obtain ⟨⟨v1, h1⟩, e1, k1⟩ := C.name P.n17 (s := 2) (by decide) P.sn
  unfold f_X4_readInn f_X4_readInn_38 f_X4_readInn_71 f_X4_readInn_72 pInn
  rcases w1 : pName b n τ 2 i with f | p
  · rw [w1] at k1
    obtain ⟨rfl, k1⟩ := k1
    simp only [ob, nI_lit, eq_self, if_true, if_false, nI_10, n1_lt0, n1_ge0, eb_l, eb_r, ck_of (tS_14 S), e1]
    exact ⟨_, rfl, rfl, k1⟩
  · rw [w1] at k1
    obtain ⟨rfl, k1⟩ := k1
    have k1 : CS h0 r b n ρ τ L (ta b n i) h1 := k1
    have hp := P.place w1
    have i16 := k1.isw (k := 16) (by decide)
    have i15 := k1.isw (k := 15) (by decide)
    have key : ∀ f, f ≤ 1 → OK ((f_X4_step h1 14).bind fun h5 => (f_X4_readName h5 14 1).bind fun q8 => (if q8.1 < 0 then f_X4_readInn_71 q8.2 14 (nI p) (nI f) q8.1 else (f_X4_readWord q8.2 14 17).bind fun q13 => (if q13.1 = 0 then f_X4_readInn_71 q13.2 14 (nI p) (nI f) q8.1 else (f_X4_readWhole q13.2 14 0 99).bind fun q16 => f_X4_readInn_72 q16.2 14 (nI p) (nI f) q8.1 q16.1))) (rL h0 r b n L (eb (pName b n τ 1 (ta b n (ta b n i))) fun t => eb (pWord b n 17 (ta b n (ta b n (ta b n i)))) fun _ => eb (pNum b n 0 99 (ta b n (ta b n (ta b n (ta b n i))))) fun m => .inr (innR ρ p t f m, τ, ta b n (ta b n (ta b n (ta b n (ta b n i))))))) := by
      intro f hf
      obtain ⟨h2, e2, k2⟩ := k1.step
      obtain ⟨⟨v3, h3⟩, e3, k3⟩ := k2.name P.n17 (s := 1) (by decide) P.sn
      unfold f_X4_readInn_71 f_X4_readInn_72
      rcases w3 : pName b n τ 1 (ta b n (ta b n i)) with g | t
      · rw [w3] at k3
        obtain ⟨rfl, k3⟩ := k3
        simp (disch := omega) only [ob, nI_lit, eq_self, if_true, if_false, nI_10, n1_lt0, n1_ge0, eb_l, eb_r, e2, e3]
        exact ⟨_, rfl, rfl, k3⟩
      · rw [w3] at k3
        obtain ⟨rfl, k3⟩ := k3
        have k3 : CS h0 r b n ρ τ L (ta b n (ta b n (ta b n i))) h3 := k3
        have ht := P.tune w3
        obtain ⟨⟨v4, h4⟩, e4, k4⟩ := k3.word (k := 17) (by decide)
        rcases w4 : pWord b n 17 (ta b n (ta b n (ta b n i))) with g | u
        · rw [w4] at k4
          obtain ⟨rfl, k4⟩ := k4
          simp (disch := omega) only [ob, nI_lit, eq_self, if_true, if_false, nI_10, n1_lt0, n1_ge0, eb_l, eb_r, e2, e3, nI_ltI, Nat.not_lt_zero, e4]
          exact ⟨_, rfl, rfl, k4⟩
        · rw [w4] at k4
          obtain ⟨rfl, k4⟩ := k4
          have k4 : CS h0 r b n ρ τ L (ta b n (ta b n (ta b n (ta b n i)))) h4 := k4
          obtain ⟨⟨v5, h5⟩, e5, k5⟩ := k4.num (lo := 0) (hi := 99) (by decide) (by decide)
          rcases w5 : pNum b n 0 99 (ta b n (ta b n (ta b n (ta b n i)))) with g | m
          · rw [w5] at k5
            obtain ⟨rfl, k5⟩ := k5
            simp (disch := omega) only [ob, nI_lit, eq_self, if_true, if_false, nI_10, n1_lt0, n1_ge0, eb_l, eb_r, e2, e3, nI_ltI, Nat.not_lt_zero, e4, e5]
            exact ⟨_, rfl, rfl, k5⟩
          · rw [w5] at k5
            obtain ⟨rfl, k5⟩ := k5
            have k5 : CS h0 r b n ρ τ L (ta b n (ta b n (ta b n (ta b n (ta b n i))))) h5 := k5
            have hm := pNum_r w5
            have S5 := k5.tp.sh
            have ha := c_addInn k5.bo (p := p) (t := t) (f := f) (m := m) hf hk
            simp (disch := omega) only [ob, nI_lit, eq_self, if_true, if_false, nI_10, n1_lt0, n1_ge0, eb_l, eb_r, e2, e3, nI_ltI, Nat.not_lt_zero, e4, e5, nI_leI, Nat.zero_le, gR_of (tS_14 S5), k5.rp, ha]
            exact ⟨_, rfl, rfl, k5.body rfl rfl rfl rfl (fun x hx => by rw [mI_wI_ne _ _ _ (by omega), mI_wI_ne _ _ _ (by omega), mI_wI_ne _ _ _ (by omega), mI_wI_ne _ _ _ (by omega), mI_wI_ne _ _ _ (by omega)]) ⟨rfl, rfl, rfl, rfl⟩ (k5.bo.inn hk)⟩
    unfold pSell
    rcases c16 : isW b n (ta b n i) 16 with _ | _
    · rw [c16] at i16
      rcases c15 : isW b n (ta b n i) 15 with _ | _
      · rw [c15] at i15
        simp (disch := omega) only [ob, nI_lit, eq_self, if_true, if_false, nI_10, n1_lt0, n1_ge0, eb_l, eb_r, ck_of (tS_14 S), e1, nI_leI, Nat.zero_le, i16, i15, Bool.toNat_false, Bool.false_eq_true]
        exact k1.ret 1
      · rw [c15] at i15
        have k := key 0 (by decide)
        unfold f_X4_readInn_71 f_X4_readInn_72 at k
        simp (disch := omega) only [nI_lit] at k
        simp (disch := omega) only [ob, nI_lit, eq_self, if_true, if_false, nI_10, n1_lt0, n1_ge0, eb_l, eb_r, ck_of (tS_14 S), e1, nI_leI, Nat.zero_le, i16, i15, Bool.toNat_false, Bool.toNat_true, Bool.false_eq_true]
        exact k
    · rw [c16] at i16
      have k := key 1 (by decide)
      unfold f_X4_readInn_71 f_X4_readInn_72 at k
      simp (disch := omega) only [nI_lit] at k
      simp (disch := omega) only [ob, nI_lit, eq_self, if_true, if_false, nI_10, n1_lt0, n1_ge0, eb_l, eb_r, ck_of (tS_14 S), e1, nI_leI, Nat.zero_le, i16, Bool.toNat_true]
      exact k
end
