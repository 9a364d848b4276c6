/-! ===== the class chooses what is sung next ===== -/
section
variable {h : Mem} {r : Nat} {ρ : RO} {nd : Nat}
theorem tl_all (W : RW ρ) (t o : Nat) : ∀ x, x ∈ tl ρ t o → x < 1024 := by
  intro x hx
  unfold tl at hx
  obtain ⟨i, _, e⟩ := List.mem_map.1 hx
  rw [← e]
  exact W.all _ _
theorem bs_all (W : RW ρ) : ∀ k b l x, x ∈ (bs ρ nd k b l).2 → x < 1024
  | 0, b, l, x => fun hx => by simp [bs] at hx
  | k + 1, b, l, x => fun hx => by
    have I := BI.fo (ρ := ρ) nd k b l (ρ 0 1)
    rw [← bs_succ] at I
    rcases Decidable.em ((bs ρ nd (k + 1) b l).1 = 0) with z | z
    · rw [(I.no z).1] at hx
      simp at hx
    · obtain ⟨a1, a2, a3, _⟩ := I.at z
      rw [a3] at hx
      unfold bV at hx
      rcases List.mem_append.1 hx with q | q
      · exact tl_all W _ _ x q
      · exact bs_all W k _ _ x q
theorem bV_all (W : RW ρ) (b l t i : Nat) : (bV ρ nd 6 b l t).getD i 0 < 1024 := by
  rcases Nat.lt_or_ge i (bV ρ nd 6 b l t).length with c | c
  · rw [List.getD_eq_getElem?_getD, List.getElem?_eq_getElem c]
    have : (bV ρ nd 6 b l t)[i] ∈ bV ρ nd 6 b l t := List.getElem_mem c
    show (bV ρ nd 6 b l t)[i] < 1024
    generalize (bV ρ nd 6 b l t)[i] = x at *
    unfold bV at this
    rcases List.mem_append.1 this with q | q
    · exact tl_all W _ _ x q
    · exact bs_all W 6 _ _ x q
  · rw [List.getD_eq_getElem?_getD, List.getElem?_eq_none c]
    decide
theorem c_ahead (W : RW ρ) (G : SG h r ρ nd) (hnd : nd < 64) (hT : ∀ t, nd.testBit t = true → t < ρ 0 1) {U D : Nat → Int32} (e46 : mI h 46 = D) {b : Nat} (T : TB ρ nd (fun b' _ => b < b') U D) {l t c : Nat} (hl : l = 6 ∨ l < ρ 0 1) (hb : b &&& nd = b) (ht : (nd.testBit t && !b.testBit t) = true) (hc : (nd.testBit c && !b.testBit c) = true) (e : (bV ρ nd 6 b l t).length = (bV ρ nd 6 b l c).length) (ec : D (b * 7 + l) = nI c) : f_X6_isAhead h 43 r (nI b) (nI l) (nI t) (nI (bV ρ nd 6 b l t).length) = some (nI (lx (bV ρ nd 6 b l t) (bV ρ nd 6 b l c)).toNat) := by
  have h64 := sub_lt hnd hb
  have htu := W.tu
  have htT : t < ρ 0 1 := hT t (by revert ht; cases nd.testBit t <;> simp)
  have h56 := bV_len (nd := nd) (b := b) (l := l) W htT
  have q : (iter (fun (s : Int32) => b_X6_isAhead_16 h 43 r (nI b) (nI l) (nI t) (nI (bV ρ nd 6 b l t).length) (nI c) s) FU (nI 0)).bind (Sum.elim (fun e6 => (if e6.2 ≤ e6.1 then some (nI 0) else some (nI 1))) (fun e7 => some (nI 0))) = some (nI (lx (bV ρ nd 6 b l t) (bV ρ nd 6 b l c)).toNat) := by
    refine iter_lx (fun i => nI i) (fun i => (nI ((bV ρ nd 6 b l t).getD i 0), nI ((bV ρ nd 6 b l c).getD i 0))) _ (bV ρ nd 6 b l t) (bV ρ nd 6 b l c) _ rfl e.symm (fun i hi => ?_) ?_ (fun i hi => ?_) rfl (bV ρ nd 6 b l t).length 0 FU (FU_lt (by omega)) (by omega)
    · have b1 := bV_all (nd := nd) W b l t i
      have b2 := bV_all (nd := nd) W b l c i
      show b_X6_isAhead_16 h 43 r (nI b) (nI l) (nI t) (nI (bV ρ nd 6 b l t).length) (nI c) (nI i) = _
      unfold b_X6_isAhead_16
      simp (disch := omega) only [ob, nI_lit, nI_add, pk_mul, nI_eq, nI_ltI, nI_leI, if_true, if_false, if_pos, if_neg, c_noteBehind W G hnd hT e46 T hl hb ht hi, c_noteBehind W G hnd hT e46 T hl hb hc (show i < (bV ρ nd 6 b l c).length by omega)]
    · show b_X6_isAhead_16 h 43 r (nI b) (nI l) (nI t) (nI (bV ρ nd 6 b l t).length) (nI c) (nI (bV ρ nd 6 b l t).length) = _
      unfold b_X6_isAhead_16
      simp (disch := omega) only [ob, nI_lit, nI_add, pk_mul, nI_eq, nI_ltI, nI_leI, if_true, if_false, if_pos, if_neg]
    · have b1 := bV_all (nd := nd) W b l t i
      have b2 := bV_all (nd := nd) W b l c i
      simp only [Sum.elim_inl]
      rcases Nat.lt_or_ge ((bV ρ nd 6 b l t).getD i 0) ((bV ρ nd 6 b l c).getD i 0) with z | z
      · simp (disch := omega) only [nI_leI, if_neg]
        rw [decide_eq_true z]
        rfl
      · simp (disch := omega) only [nI_leI, if_pos]
        rw [decide_eq_false (by omega)]
        rfl
  unfold f_X6_isAhead
  have hl6 : l ≤ 6 := by omega
  simp (disch := omega) only [ob, nI_lit, nI_add, pk_mul, nI_eq, nI_ltI, nI_leI, if_true, if_false, if_pos, if_neg, ck_of (tS_43 G.ct.sh), gR_of (tS_43 G.ct.sh), rS_43_2 G.ct.sh, aI_of (tS_46 G.ct.sh), e46, ec]
  exact q
theorem nI_neg1 : -nI 1 = nI 0 - nI 1 := by decide
theorem c_choose (W : RW ρ) (G : SG h r ρ nd) (hnd : nd < 64) (hT : ∀ t, nd.testBit t = true → t < ρ 0 1) {U D : Nat → Int32} {b : Nat} (T : TB ρ nd (fun b' _ => b < b') U D) {l : Nat} (hl : l = 6 ∨ l < ρ 0 1) (hb : b &&& nd = b) : f_X6_chooseNext (tbM h U D) 43 r (nI b) (nI l) = some (tbM h (upd U (b * 7 + l) (nI (bs ρ nd 6 b l).2.length)) (upd D (b * 7 + l) (nI (bs ρ nd 6 b l).1 - nI 1))) := by
  have h64 := sub_lt hnd hb
  have htu := W.tu
  have hl6 : l ≤ 6 := by omega
  have S := G.ct.sh
  have q : iter (fun (s : Int32 × Mem) => b_X6_chooseNext_27 s.2 43 r (nI b) (nI l) (nI (b * 7 + l)) s.1) FU (nI 0, tbM h (upd U (b * 7 + l) (nI 0)) (upd D (b * 7 + l) (-nI 1))) = some (tbM h (upd U (b * 7 + l) (nI (bs ρ nd 6 b l).2.length)) (upd D (b * 7 + l) (nI (bs ρ nd 6 b l).1 - nI 1))) := by
    rw [nI_neg1, bs6 hnd]
    refine iter_foI (fun (a : Nat × List Nat) i => (nI i, tbM h (upd U (b * 7 + l) (nI a.2.length)) (upd D (b * 7 + l) (nI a.1 - nI 1)))) (bF ρ nd 6 b l) (0, []) (ρ 0 1) (BI ρ nd 6 b l) (FU_lt (by omega)) (BI.fo nd 6 b l 0) (fun i x _ => BI.st) (fun t a ht I => ?_) ?_
    · show b_X6_chooseNext_27 (tbM h (upd U (b * 7 + l) (nI a.2.length)) (upd D (b * 7 + l) (nI a.1 - nI 1))) 43 r (nI b) (nI l) (nI (b * 7 + l)) (nI t) = some (Sum.inl (nI (t + 1), _))
      have T2 : TB ρ nd (fun b' _ => b < b') (upd U (b * 7 + l) (nI a.2.length)) (upd D (b * 7 + l) (nI a.1 - nI 1)) := by
        intro b' l' hs hlt
        rw [pk_un (by omega), pk_un (by omega)]
        exact T b' l' hs hlt
      have G2 := G.tb (upd U (b * 7 + l) (nI a.2.length)) (upd D (b * 7 + l) (nI a.1 - nI 1))
      have x45 : mI (tbM h (upd U (b * 7 + l) (nI a.2.length)) (upd D (b * 7 + l) (nI a.1 - nI 1))) 45 (b * 7 + l) = nI a.2.length := by rw [tbM_45, pk_us]
      have x46 : mI (tbM h (upd U (b * 7 + l) (nI a.2.length)) (upd D (b * 7 + l) (nI a.1 - nI 1))) 46 (b * 7 + l) = nI a.1 - nI 1 := by rw [tbM_46, pk_us]
      have y46 : mI (tbM h (upd U (b * 7 + l) (nI a.2.length)) (upd D (b * 7 + l) (nI a.1 - nI 1))) 46 = upd D (b * 7 + l) (nI a.1 - nI 1) := tbM_46 _ _ _
      have y45 : mI (tbM h (upd U (b * 7 + l) (nI a.2.length)) (upd D (b * 7 + l) (nI a.1 - nI 1))) 45 = upd U (b * 7 + l) (nI a.2.length) := tbM_45 _ _ _
      have hw : wI (wI (tbM h (upd U (b * 7 + l) (nI a.2.length)) (upd D (b * 7 + l) (nI a.1 - nI 1))) 45 (b * 7 + l) (nI (bV ρ nd 6 b l t).length)) 46 (b * 7 + l) (nI t) = tbM h (upd U (b * 7 + l) (nI (bV ρ nd 6 b l t).length)) (upd D (b * 7 + l) (nI (t + 1) - nI 1)) := by
        rw [tbM_u, tbM_d, upd_us, upd_us, pk_sub (by omega)]
        rfl
      have hr : (if (nI nd &&& (nI b ^^^ -nI 1)) >>> (nI t &&& nI 31) &&& nI 1 = nI 0 then true else false) = !(nd.testBit t && !b.testBit t) := by
        rw [nI_anot (by omega) (by omega)]
        have := rest_lt (b := b) hnd
        rw [← rest_bit]
        simp only [nI_bit0 (show nd ^^^ (nd &&& b) < 2 ^ 31 by omega) (show t < 32 by omega)]
        cases (nd ^^^ (nd &&& b)).testBit t <;> rfl
      have hal : a.2.length ≤ 56 ∧ a.1 ≤ 6 := by
        rcases Decidable.em (a.1 = 0) with z | z
        · rw [(I.no z).1, z]
          exact ⟨by simp, by omega⟩
        · obtain ⟨a1, a2, a3, _⟩ := I.at z
          rw [a3]
          exact ⟨bV_len W (by omega), by omega⟩
      generalize hh : tbM h (upd U (b * 7 + l) (nI a.2.length)) (upd D (b * 7 + l) (nI a.1 - nI 1)) = h2 at *
      have S2 := G2.ct.sh
      have k161 : f_X6_chooseNext_161 h2 43 r (nI b) (nI l) (nI (b * 7 + l)) (nI t) = some (.inl (nI (t + 1), h2)) := by
        unfold f_X6_chooseNext_161
        simp (disch := omega) only [ob, nI_lit, nI_add, pk_mul, nI_eq, nI_ltI, nI_leI, if_true, if_false, if_pos, if_neg]
      have k143 : f_X6_chooseNext_143 h2 43 r (nI b) (nI l) (nI (b * 7 + l)) (nI t) (nI (bV ρ nd 6 b l t).length) = some (.inl (nI (t + 1), tbM h (upd U (b * 7 + l) (nI (bV ρ nd 6 b l t).length)) (upd D (b * 7 + l) (nI (t + 1) - nI 1)))) := by
        unfold f_X6_chooseNext_143 f_X6_chooseNext_161
        simp (disch := omega) only [ob, nI_lit, nI_add, pk_mul, nI_eq, nI_ltI, nI_leI, if_true, if_false, if_pos, if_neg, gR_of (tS_43 S2), rS_43_1 S2, sI_of (tS_45 S2), gR_of (tS_43 (S2.wI 45 (b * 7 + l) (nI (bV ρ nd 6 b l t).length))), rS_43_2 (S2.wI 45 (b * 7 + l) (nI (bV ρ nd 6 b l t).length)), sI_of (tS_46 (S2.wI 45 (b * 7 + l) (nI (bV ρ nd 6 b l t).length))), hw]
      unfold b_X6_chooseNext_27 f_X6_chooseNext_105 f_X6_chooseNext_110
      unfold bF
      cases c : (nd.testBit t && !b.testBit t)
      · rw [c] at hr
        have hr2 : (nI nd &&& (nI b ^^^ -nI 1)) >>> (nI t &&& nI 31) &&& nI 1 = nI 0 := by
          rcases Decidable.em ((nI nd &&& (nI b ^^^ -nI 1)) >>> (nI t &&& nI 31) &&& nI 1 = nI 0) with z | z
          · exact z
          · rw [if_neg z] at hr
            cases hr
        simp (disch := omega) only [ob, nI_lit, nI_add, pk_mul, nI_eq, nI_ltI, nI_leI, if_true, if_false, if_pos, if_neg, gI_of (tR G2.ct.rd.rd), G2.ct.rd.sc, gI_of (tS_43 S2), G2.nd, hr2, Bool.false_eq_true, k161]
        rw [hh]
      · rw [c] at hr
        have hr2 : ¬ ((nI nd &&& (nI b ^^^ -nI 1)) >>> (nI t &&& nI 31) &&& nI 1 = nI 0) := by
          intro z
          rw [if_pos z] at hr
          cases hr
        have c2 := c
        rw [Bool.and_eq_true] at c2
        have hn := c2.1
        have hbt : b.testBit t = false := by simpa using c2.2
        have hor := or_and hb hn
        have ho64 := sub_lt hnd hor
        have hlt := or_grow hbt
        have hsh : nI 1 <<< (nI t &&& nI 31) = nI (2 ^ t) := nI_sh1 (by omega)
        have hp : 2 ^ t < 2 ^ 6 := Nat.pow_lt_pow_right (by decide) (by omega)
        have k45 : mI h2 45 ((b ||| 2 ^ t) * 7 + t) = nI (bs ρ nd 6 (b ||| 2 ^ t) t).2.length := by
          rw [y45]
          exact (T2 _ _ (or_st (by omega) hb hn) hlt).1
        have hbl : (ρ 1 t - o7 ρ l t) + (bs ρ nd 6 (b ||| 2 ^ t) t).2.length = (bV ρ nd 6 b l t).length := by
          unfold bV
          rw [List.length_append, tl_len]
        have h56 := bV_len (nd := nd) (b := b) (l := l) W ht
        simp (disch := omega) only [ob, nI_lit, nI_add, pk_mul, nI_eq, nI_ltI, nI_leI, if_true, if_false, if_pos, if_neg, gI_of (tR G2.ct.rd.rd), G2.ct.rd.sc, gI_of (tS_43 S2), G2.nd, hr2, c_own W G2 hl ht, gR_of (tS_43 S2), rS_43_1 S2, rS_43_2 S2, hsh, nI_or, aI_of (tS_45 S2), aI_of (tS_46 S2), k45, hbl, x45, x46, kN_neg, k143, k161]
        rcases Decidable.em (a.1 = 0) with z | z
        · simp only [z, if_true, true_or]
        · obtain ⟨a1, a2, a3, _⟩ := I.at z
          have hch := c_ahead W G2 hnd hT y46 T2 hl hb c a2
          simp only [z, if_false, false_or]
          rcases Nat.lt_trichotomy (bV ρ nd 6 b l t).length a.2.length with w | w | w
          · have e : bt2 (bV ρ nd 6 b l t) a.2 = true := (bt2_iff _ _).2 (Or.inl w)
            simp (disch := omega) only [ob, nI_lit, nI_add, pk_mul, nI_eq, nI_ltI, nI_leI, if_true, if_false, if_pos, if_neg, e]
          · rw [a3] at w
            have hc2 := hch w (by rw [pk_us, pk_sub (by omega)])
            rw [← a3] at hc2 w
            have e : bt2 (bV ρ nd 6 b l t) a.2 = lx (bV ρ nd 6 b l t) a.2 := by
              unfold bt2
              rw [w]
              simp
            rw [e, ← w]
            simp (disch := omega) only [ob, nI_lit, nI_add, pk_mul, nI_eq, nI_ltI, nI_leI, if_true, if_false, if_pos, if_neg, hc2]
            cases lx (bV ρ nd 6 b l t) a.2
            · simp only [Bool.toNat_false, if_true, Bool.false_eq_true, if_false]
              rw [← hh]
            · simp only [Bool.toNat_true]
              simp (disch := omega) only [ob, nI_lit, nI_add, pk_mul, nI_eq, nI_ltI, nI_leI, if_true, if_false, if_pos, if_neg]
          · have e : bt2 (bV ρ nd 6 b l t) a.2 = false := by
              unfold bt2
              rw [decide_eq_false (by omega), decide_eq_false (by omega)]
              rfl
            simp (disch := omega) only [ob, nI_lit, nI_add, pk_mul, nI_eq, nI_ltI, nI_leI, if_true, if_false, if_pos, if_neg, e, Bool.false_eq_true]
            rw [hh]
    · intro _
      have G2 := G.tb (upd U (b * 7 + l) (nI (fo (bF ρ nd 6 b l) (0, []) (ρ 0 1)).2.length)) (upd D (b * 7 + l) (nI (fo (bF ρ nd 6 b l) (0, []) (ρ 0 1)).1 - nI 1))
      show b_X6_chooseNext_27 _ 43 r (nI b) (nI l) (nI (b * 7 + l)) (nI (ρ 0 1)) = _
      unfold b_X6_chooseNext_27
      simp (disch := omega) only [ob, nI_lit, nI_add, pk_mul, nI_eq, nI_ltI, nI_leI, if_true, if_false, if_pos, if_neg, gI_of (tR G2.ct.rd.rd), G2.ct.rd.sc]
  unfold f_X6_chooseNext
  simp (disch := omega) only [ob, nI_lit, nI_add, pk_mul, nI_eq, nI_ltI, nI_leI, if_true, if_false, if_pos, if_neg, ck_of (tS_43 (S.tb U D)), gR_of (tS_43 (S.tb U D)), rS_43_1 (S.tb U D), sI_of (tS_45 (S.tb U D)), tbM_u, gR_of (tS_43 (S.tb (upd U (b * 7 + l) (nI 0)) D)), rS_43_2 (S.tb (upd U (b * 7 + l) (nI 0)) D), sI_of (tS_46 (S.tb (upd U (b * 7 + l) (nI 0)) D)), tbM_d, q]
end
