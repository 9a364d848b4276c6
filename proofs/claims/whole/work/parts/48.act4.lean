/-! ===== teach, rain ===== -/
theorem qq_teach {a : AB} (W : IW a) (z : Nat) (x y u : Int32) : ∃ a' v z', IW a' ∧ z' ≤ 6 ∧ AC a z a' z' (fun h => f_X11_teach h 1 x y u) v ∧ AM a z a' z' (fun h => f_X13_teach h 55 x y u) v := by
  have hpe := W.rw.pe
  have hpl := W.rw.pl
  have htu := W.rw.tu
  rcases hb : (ix (a 0 0 6) x && ix (a 0 0 6) y && decide (x ≠ y) && ix (a 0 0 1) u) with _ | _
  · refine ⟨a, nI 0, 1, W, by decide, AC.ofQ W (fun h C => ?_) z, AM.ofQ (fun h M0 => ?_) (by decide) z⟩
    · unfold f_X11_teach f_X11_teach_29
      simp only [ob, nI_lit, nI_add, pk_mul, nI_eq, nI_ltI, nI_leI, if_true, if_false, if_pos, if_neg, ck_of (tS_1 C.ct.sh), gR_of (tS_1 C.ct.sh), gI_of (tS_1 C.ct.sh), pI_of (tS_1 C.ct.sh), C.ct.rp, rS_1_2 C.ct.sh, rS_1_3 C.ct.sh, rS_1_4 C.ct.sh, rS_1_5 C.ct.sh, rS_1_6 C.ct.sh, rS_1_7 C.ct.sh, rS_1_8 C.ct.sh, rS_1_9 C.ct.sh, ck_of (tR C.ct.rd.rd), gR_of (tR C.ct.rd.rd), gI_of (tR C.ct.rd.rd), rR_9 C.ct.rd.rd, rR_10 C.ct.rd.rd, rR_11 C.ct.rd.rd, rR_12 C.ct.rd.rd, rR_13 C.ct.rd.rd, rR_14 C.ct.rd.rd, rR_15 C.ct.rd.rd, rR_16 C.ct.rd.rd, rR_17 C.ct.rd.rd, rR_18 C.ct.rd.rd, rR_19 C.ct.rd.rd, aI_of (tR_1 C.ct.rd.rd), aI_of (tR_2 C.ct.rd.rd), aI_of (tR_3 C.ct.rd.rd), aI_of (tR_4 C.ct.rd.rd), aI_of (tR_5 C.ct.rd.rd), aI_of (tR_6 C.ct.rd.rd), aI_of (tR_7 C.ct.rd.rd), aI_of (tR_8 C.ct.rd.rd), aI_of (tR_9 C.ct.rd.rd), C.ct.rd.sc, C.ct.rd.len, C.ct.rd.e1, C.ct.rd.e2, C.ct.rd.min, C.ct.rd.kd, C.ct.rd.gt, C.ct.rd.bt, C.ct.rd.ip, C.ct.rd.hd, c_refuse C.ct.sh, c_answer C.ct.sh, c_isPerson W C, c_isTune W C, nI_b0, c_allow1 C.ct.sh (z := 1) (by decide) (by decide), retZ0]
      rcases h1 : ix (a 0 0 6) x with _ | _ <;> rcases h2 : ix (a 0 0 6) y with _ | _ <;> rcases h3 : ix (a 0 0 1) u with _ | _ <;> rcases Decidable.em (x = y) with h4 | h4 <;> rw [h1, h2, h3] at hb <;> first | (simp [h4] at hb; done) | (simp only [h4, if_true, if_false, Bool.true_eq_false, Bool.false_eq_true]; exact qc_end C _ _)
    · unfold f_X13_teach f_X13_teach_34
      simp only [ck_of (tS_55 M0.sh), pI_of (tS_55 M0.sh), ob, nI_lit]; obtain ⟨h1, eh, M, F1⟩ : ∃ h1, wI h 55 0 (nI 0) = h1 ∧ IM h1 a ∧ FM h h1 := ⟨_, rfl, M0.th _, FM.w55 h _ (by decide)⟩; rw [eh]
      simp only [ob, nI_lit, nI_add, pk_mul, nI_eq, nI_ltI, nI_leI, if_true, if_false, if_pos, if_neg, ck_of (tS_55 M.sh), gR_of (tS_55 M.sh), gI_of (tS_55 M.sh), pI_of (tS_55 M.sh), rS_55_16 M.sh, rS_55_17 M.sh, rS_55_18 M.sh, rS_55_21 M.sh, rS_55_25 M.sh, rS_55_26 M.sh, rS_55_27 M.sh, rS_55_28 M.sh, rS_55_32 M.sh, rS_55_33 M.sh, rS_55_34 M.sh, m_refused M.sh, m_good M.sh, m_isPerson W M, m_isTune W M, nI_b0, m_denied M.sh, retZ0]
      rcases g1 : ix (a 0 0 6) x with _ | _ <;> rcases g2 : ix (a 0 0 6) y with _ | _ <;> rcases g3 : ix (a 0 0 1) u with _ | _ <;> rcases Decidable.em (x = y) with g4 | g4 <;> rw [g1, g2, g3] at hb <;> first | (simp [g4] at hb; done) | (simp only [g4, if_true, if_false, Bool.true_eq_false, Bool.false_eq_true]; exact qm_end F1 _ _)
  · simp only [Bool.and_eq_true, decide_eq_true_iff] at hb
    obtain ⟨⟨⟨hx, hy⟩, hne⟩, hu⟩ := hb
    obtain ⟨k, hk, rfl⟩ := ix_t hx (by omega)
    obtain ⟨l, hl, rfl⟩ := ix_t hy (by omega)
    obtain ⟨t, ht, rfl⟩ := ix_t hu (by omega)
    have hne : ¬ k = l := fun e => hne (by rw [e])
    have ti := told_of W (i := 0) (j := 6) (by omega)
    have hk1 := W.nf.pl k hk
    have hl1 := W.nf.pl l hl
    have hk2 := W.nf.kn k hk
    have hl2 := W.nf.kn l hl
    have h2t : 2 ^ t ≤ 2 ^ 5 := two_le (by omega)
    have hand : a 1 2 k &&& 2 ^ t < 64 := Nat.lt_of_le_of_lt Nat.and_le_left hk2
    have hand2 : a 1 2 l &&& 2 ^ t < 64 := Nat.lt_of_le_of_lt Nat.and_le_left hl2
    have hor : a 1 2 l ||| 2 ^ t < 2 ^ 6 := Nat.or_lt_two_pow hl2 (by omega)
    have hsh : nI 1 <<< (nI t &&& nI 31) = nI (2 ^ t) := nI_sh1 (by omega)
    have hafk : (nI (a 1 2 k) &&& nI (2 ^ t) = nI 0) = ((a 1 2 k).testBit t = false) := by
      rw [nI_and (by omega) (by omega), nI_eq (by omega) (by decide), and_pow0]
    have hafl : (nI (a 1 2 l) &&& nI (2 ^ t) = nI 0) = ((a 1 2 l).testBit t = false) := by
      rw [nI_and (by omega) (by omega), nI_eq (by omega) (by decide), and_pow0]
    have ee0 : ∀ (h : Mem) (M : IM h a), (mI h 57 (0 + k) = nI (a 1 0 k) ∧ mI h 57 (0 + l) = nI (a 1 0 l)) ∧ mI h 57 (8 + k) = nI (a 1 2 k) ∧ mI h 57 (8 + l) = nI (a 1 2 l) := fun h M => ⟨⟨by have := M.nw.at k 0 (by omega) (by decide); simpa using this, by have := M.nw.at l 0 (by omega) (by decide); simpa using this⟩, by have := M.nw.at k 2 (by omega) (by decide); simpa using this, by have := M.nw.at l 2 (by omega) (by decide); simpa using this⟩
    rcases Decidable.em (a 1 0 k = a 1 0 l ∧ (a 1 2 k).testBit t = true ∧ (a 1 2 l).testBit t = false) with hg | hg
    · obtain ⟨g1, g2, g3⟩ := hg
      have hN : NF (a 0) (nu (a 1) 2 l (a 1 2 l ||| 2 ^ t)) := by
        refine ⟨fun x hx => ?_, fun x hx => ?_, fun x hx => ?_, fun x hx => ?_, ?_⟩
        · rw [nu_w _ _ _ _ (by decide)]; exact W.nf.pl x hx
        · rw [nu_w _ _ _ _ (by decide)]; exact W.nf.co x hx
        · unfold nu
          split
          · exact hor
          · exact W.nf.kn x hx
        · rw [nu_w _ _ _ _ (by decide)]; exact W.nf.fg x hx
        · rw [nu_w _ _ _ _ (by decide)]; exact W.nf.rn
      refine ⟨actA a (nu (a 1) 2 l (a 1 2 l ||| 2 ^ t)), nI 1, 0, act_w W ti hN, by decide, fun h C _ => ?_, fun h M0 _ _ => ?_⟩
      · have S := C.ct.sh
        have e4 : mI (kpM h a) 34 (l * 5 + 2) = nI (a 1 2 l) := by
          rw [kpM_34]
          exact C.nw.at l 2 (by omega) (by decide)
        have g2' : ¬ (a 1 2 k).testBit t = false := by rw [g2]; decide
        show OK (f_X11_teach h 1 (nI k) (nI l) (nI t)) _
        unfold f_X11_teach f_X11_teach_66
        simp (disch := omega) only [ob, nI_lit, nI_add, pk_mul, nI_eq, nI_ltI, nI_leI, if_true, if_false, if_pos, if_neg, ck_of (tS_1 C.ct.sh), gR_of (tS_1 C.ct.sh), gI_of (tS_1 C.ct.sh), pI_of (tS_1 C.ct.sh), C.ct.rp, rS_1_2 C.ct.sh, rS_1_3 C.ct.sh, rS_1_4 C.ct.sh, rS_1_5 C.ct.sh, rS_1_6 C.ct.sh, rS_1_7 C.ct.sh, rS_1_8 C.ct.sh, rS_1_9 C.ct.sh, ck_of (tR C.ct.rd.rd), gR_of (tR C.ct.rd.rd), gI_of (tR C.ct.rd.rd), rR_9 C.ct.rd.rd, rR_10 C.ct.rd.rd, rR_11 C.ct.rd.rd, rR_12 C.ct.rd.rd, rR_13 C.ct.rd.rd, rR_14 C.ct.rd.rd, rR_15 C.ct.rd.rd, rR_16 C.ct.rd.rd, rR_17 C.ct.rd.rd, rR_18 C.ct.rd.rd, rR_19 C.ct.rd.rd, aI_of (tR_1 C.ct.rd.rd), aI_of (tR_2 C.ct.rd.rd), aI_of (tR_3 C.ct.rd.rd), aI_of (tR_4 C.ct.rd.rd), aI_of (tR_5 C.ct.rd.rd), aI_of (tR_6 C.ct.rd.rd), aI_of (tR_7 C.ct.rd.rd), aI_of (tR_8 C.ct.rd.rd), aI_of (tR_9 C.ct.rd.rd), C.ct.rd.sc, C.ct.rd.len, C.ct.rd.e1, C.ct.rd.e2, C.ct.rd.min, C.ct.rd.kd, C.ct.rd.gt, C.ct.rd.bt, C.ct.rd.ip, C.ct.rd.hd, c_refuse C.ct.sh, c_answer C.ct.sh, c_isPerson W C, hx, hy, hu, Bool.toNat_true, c_isTune W C, c_of S C.nw, g1, hsh, hafk, hafl, g2', g3, c_keep2 W C, gR_of (tS_1 (S.kp a)), rS_1_3 (S.kp a), c_of2 (S.kp a), e4, nI_or, c_set (S.kp a), c_allow0 ((S.kp a).wI 34 (l * 5 + 2) (nI (a 1 2 l ||| 2 ^ t))), retZ1]
        have hc := act_c (h' := wI (wI (kpM h a) 34 (l * 5 + 2) (nI (a 1 2 l ||| 2 ^ t))) 1 0 (nI 0)) (ν' := nu (a 1) 2 l (a 1 2 l ||| 2 ^ t)) W C ((FQ.w _ _ _ (by decide)).tr (FQ.w _ _ _ (by decide))) (by
          show rC (mI _ 34) 0 _
          rw [mI_wI_ne _ _ _ (by decide), mI_wI_at, kpM_34]
          exact rC_set C.nw _ (by omega) (by decide))
        exact ⟨_, rfl, rfl, hc.1, hc.2, by rw [mI_wI_at, pk_us]⟩
      · show OK (f_X13_teach h 55 (nI k) (nI l) (nI t)) _
        unfold f_X13_teach
        simp only [ck_of (tS_55 M0.sh), pI_of (tS_55 M0.sh), ob, nI_lit]; obtain ⟨h1, eh, M, F1⟩ : ∃ h1, wI h 55 0 (nI 0) = h1 ∧ IM h1 a ∧ FM h h1 := ⟨_, rfl, M0.th _, FM.w55 h _ (by decide)⟩; rw [eh]
        have S := M.sh
        obtain ⟨⟨n0, n1⟩, n2, n3⟩ := ee0 h1 M
        have eR0 : mR (rmM h1 a) = mR h1 := rfl
        have e57 : mI (rmM h1 a) 57 = mI h1 57 := rmM_57 h1 a
        simp (disch := omega) only [ob, nI_lit, nI_add, pk_mul, nI_eq, nI_ltI, nI_leI, if_true, if_false, if_pos, if_neg, ck_of (tS_55 M.sh), gR_of (tS_55 M.sh), gI_of (tS_55 M.sh), pI_of (tS_55 M.sh), rS_55_16 M.sh, rS_55_17 M.sh, rS_55_18 M.sh, rS_55_21 M.sh, rS_55_25 M.sh, rS_55_26 M.sh, rS_55_27 M.sh, rS_55_28 M.sh, rS_55_32 M.sh, rS_55_33 M.sh, rS_55_34 M.sh, m_refused M.sh, m_good M.sh, m_isPerson W M, hx, hy, hu, Bool.toNat_true, m_isTune W M, aI_of (tS_57 S), n0, n1, n2, n3, g1, h_bit, g2, g3, Bool.toNat_false, m_rem2 W M, gR_of (tS_55 (S.rm a)), eR0, aI_of (tS_57 (S.rm a)), e57, hsh, nI_or, sI_of (tS_57 (S.rm a)), m_granted ((S.rm a).wI 57 (8 + l) (nI (a 1 2 l ||| 2 ^ t))), retZ1]
        have hc := act_m (h' := wI (wI (wI (rmM h1 a) 57 (8 + l) (nI (a 1 2 l ||| 2 ^ t))) 55 1 (nI 0)) 55 2 (-nI 1)) (ν' := nu (a 1) 2 l (a 1 2 l ||| 2 ^ t)) W M (((FQ.w _ _ _ (by decide)).tr (FQ.w _ _ _ (by decide))).tr (FQ.w _ _ _ (by decide))) (fun i hi => by
            rw [mI_wI_at, pk_un (by omega), mI_wI_at, pk_un (by omega), mI_wI_ne _ _ _ (by decide)]) (by
          show rM (mI _ 57) 0 _
          rw [mI_wI_ne _ _ _ (by decide), mI_wI_ne _ _ _ (by decide), mI_wI_at, rmM_57]
          exact rM_set (w := 2) M.nw (a 1 2 l ||| 2 ^ t) (show l < 4 by omega) (by decide))
        refine ⟨_, rfl, rfl, FHi.f1 F1 hc.1, hc.2, ?_, ?_⟩
        · rw [mI_wI_at, pk_un (by decide), mI_wI_at, pk_us]
        · rw [mI_wI_at, pk_us]
          try rfl
    · refine ⟨a, nI 0, 5, W, by decide, AC.ofQ W (fun h C => ?_) z, AM.ofQ (fun h M0 => ?_) (by decide) z⟩
      · have S := C.ct.sh
        show OK (f_X11_teach h 1 (nI k) (nI l) (nI t)) _
        unfold f_X11_teach f_X11_teach_66 f_X11_teach_103
        simp (disch := omega) only [ob, nI_lit, nI_add, pk_mul, nI_eq, nI_ltI, nI_leI, if_true, if_false, if_pos, if_neg, ck_of (tS_1 C.ct.sh), gR_of (tS_1 C.ct.sh), gI_of (tS_1 C.ct.sh), pI_of (tS_1 C.ct.sh), C.ct.rp, rS_1_2 C.ct.sh, rS_1_3 C.ct.sh, rS_1_4 C.ct.sh, rS_1_5 C.ct.sh, rS_1_6 C.ct.sh, rS_1_7 C.ct.sh, rS_1_8 C.ct.sh, rS_1_9 C.ct.sh, ck_of (tR C.ct.rd.rd), gR_of (tR C.ct.rd.rd), gI_of (tR C.ct.rd.rd), rR_9 C.ct.rd.rd, rR_10 C.ct.rd.rd, rR_11 C.ct.rd.rd, rR_12 C.ct.rd.rd, rR_13 C.ct.rd.rd, rR_14 C.ct.rd.rd, rR_15 C.ct.rd.rd, rR_16 C.ct.rd.rd, rR_17 C.ct.rd.rd, rR_18 C.ct.rd.rd, rR_19 C.ct.rd.rd, aI_of (tR_1 C.ct.rd.rd), aI_of (tR_2 C.ct.rd.rd), aI_of (tR_3 C.ct.rd.rd), aI_of (tR_4 C.ct.rd.rd), aI_of (tR_5 C.ct.rd.rd), aI_of (tR_6 C.ct.rd.rd), aI_of (tR_7 C.ct.rd.rd), aI_of (tR_8 C.ct.rd.rd), aI_of (tR_9 C.ct.rd.rd), C.ct.rd.sc, C.ct.rd.len, C.ct.rd.e1, C.ct.rd.e2, C.ct.rd.min, C.ct.rd.kd, C.ct.rd.gt, C.ct.rd.bt, C.ct.rd.ip, C.ct.rd.hd, c_refuse C.ct.sh, c_answer C.ct.sh, c_isPerson W C, hx, hy, hu, Bool.toNat_true, c_isTune W C, c_of S C.nw, hsh, hafk, hafl, c_allow1 S (z := 5) (by decide) (by decide), retZ0]
        rcases Decidable.em (a 1 0 k = a 1 0 l) with g1 | g1
        · rcases g2 : (a 1 2 k).testBit t with _ | _
          · simp only [g1, if_true]
            try simp (disch := omega) only [ob, nI_lit, nI_add, pk_mul, nI_eq, nI_ltI, nI_leI, if_true, if_false, if_pos, if_neg]
            exact qc_end C _ _
          · rcases g3 : (a 1 2 l).testBit t with _ | _
            · exact absurd ⟨g1, g2, g3⟩ hg
            · simp only [g1, if_true]
              try simp (disch := omega) only [ob, nI_lit, nI_add, pk_mul, nI_eq, nI_ltI, nI_leI, if_true, if_false, if_pos, if_neg, Bool.true_eq_false]
              exact qc_end C _ _
        · try simp (disch := omega) only [ob, nI_lit, nI_add, pk_mul, nI_eq, nI_ltI, nI_leI, if_true, if_false, if_pos, if_neg]
          exact qc_end C _ _
      · show OK (f_X13_teach h 55 (nI k) (nI l) (nI t)) _
        unfold f_X13_teach f_X13_teach_91
        simp only [ck_of (tS_55 M0.sh), pI_of (tS_55 M0.sh), ob, nI_lit]; obtain ⟨h1, eh, M, F1⟩ : ∃ h1, wI h 55 0 (nI 0) = h1 ∧ IM h1 a ∧ FM h h1 := ⟨_, rfl, M0.th _, FM.w55 h _ (by decide)⟩; rw [eh]
        obtain ⟨⟨n0, n1⟩, n2, n3⟩ := ee0 h1 M
        simp (disch := omega) only [ob, nI_lit, nI_add, pk_mul, nI_eq, nI_ltI, nI_leI, if_true, if_false, if_pos, if_neg, ck_of (tS_55 M.sh), gR_of (tS_55 M.sh), gI_of (tS_55 M.sh), pI_of (tS_55 M.sh), rS_55_16 M.sh, rS_55_17 M.sh, rS_55_18 M.sh, rS_55_21 M.sh, rS_55_25 M.sh, rS_55_26 M.sh, rS_55_27 M.sh, rS_55_28 M.sh, rS_55_32 M.sh, rS_55_33 M.sh, rS_55_34 M.sh, m_refused M.sh, m_good M.sh, m_isPerson W M, hx, hy, hu, Bool.toNat_true, m_isTune W M, aI_of (tS_57 M.sh), n0, n1, n2, n3, h_bit, nI_b0, m_denied M.sh, retZ0]
        rcases Decidable.em (a 1 0 k = a 1 0 l) with g1 | g1
        · rcases g2 : (a 1 2 k).testBit t with _ | _
          · simp only [g1, if_true]
            exact qm_end F1 _ _
          · rcases g3 : (a 1 2 l).testBit t with _ | _
            · exact absurd ⟨g1, g2, g3⟩ hg
            · simp only [g1, if_true, Bool.true_eq_false, if_false]
              exact qm_end F1 _ _
        · try simp (disch := omega) only [ob, nI_lit, nI_add, pk_mul, nI_eq, nI_ltI, nI_leI, if_true, if_false, if_pos, if_neg]
          exact qm_end F1 _ _
theorem st_43 : StepOK INV lc_43 := by
  intro sc L i h hL hi hI
  unfold lc_43
  simp only [show (1 : Int32) = nI 1 from rfl, show (2 : Int32) = nI 2 from rfl, show (3 : Int32) = nI 3 from rfl, show (4 : Int32) = nI 4 from rfl, show (5 : Int32) = nI 5 from rfl, nI_add, sc_at hL (show i + 1 < L by omega), sc_at hL (show i + 2 < L by omega), sc_at hL (show i + 3 < L by omega), sc_at hL (show i + 4 < L by omega), sc_at hL (show i + 5 < L by omega), ob]
  exact a2 (f := fun h => f_X11_teach h 1 (sc (i + 1)) (sc (i + 2)) (sc (i + 3))) (g := fun h => f_X13_teach h 55 (sc (i + 1)) (sc (i + 2)) (sc (i + 3))) hI (fun a z W _ => qq_teach W z _ _ _)
theorem qq_rain {a : AB} (W : IW a) (z : Nat) (b : Bool) : ∃ a' v z', IW a' ∧ z' ≤ 6 ∧ AC a z a' z' (fun h => f_X11_rain h 1 (nI b.toNat)) v ∧ AM a z a' z' (fun h => f_X13_rain h 55 (nI b.toNat)) v := by
  have hr := W.nf.rn
  rcases Nat.eq_zero_or_pos (a 0 0 2) with e0 | e0
  · refine ⟨a, nI 0, 1, W, by decide, AC.ofQ W (fun h C => ?_) z, AM.ofQ (fun h M0 => ?_) (by decide) z⟩
    · unfold f_X11_rain
      simp (disch := omega) only [ob, nI_lit, nI_add, pk_mul, nI_eq, nI_ltI, nI_leI, if_true, if_false, if_pos, if_neg, ck_of (tS_1 C.ct.sh), gR_of (tS_1 C.ct.sh), gI_of (tS_1 C.ct.sh), pI_of (tS_1 C.ct.sh), C.ct.rp, rS_1_2 C.ct.sh, rS_1_3 C.ct.sh, rS_1_4 C.ct.sh, rS_1_5 C.ct.sh, rS_1_6 C.ct.sh, rS_1_7 C.ct.sh, rS_1_8 C.ct.sh, rS_1_9 C.ct.sh, ck_of (tR C.ct.rd.rd), gR_of (tR C.ct.rd.rd), gI_of (tR C.ct.rd.rd), rR_9 C.ct.rd.rd, rR_10 C.ct.rd.rd, rR_11 C.ct.rd.rd, rR_12 C.ct.rd.rd, rR_13 C.ct.rd.rd, rR_14 C.ct.rd.rd, rR_15 C.ct.rd.rd, rR_16 C.ct.rd.rd, rR_17 C.ct.rd.rd, rR_18 C.ct.rd.rd, rR_19 C.ct.rd.rd, aI_of (tR_1 C.ct.rd.rd), aI_of (tR_2 C.ct.rd.rd), aI_of (tR_3 C.ct.rd.rd), aI_of (tR_4 C.ct.rd.rd), aI_of (tR_5 C.ct.rd.rd), aI_of (tR_6 C.ct.rd.rd), aI_of (tR_7 C.ct.rd.rd), aI_of (tR_8 C.ct.rd.rd), aI_of (tR_9 C.ct.rd.rd), C.ct.rd.sc, C.ct.rd.len, C.ct.rd.e1, C.ct.rd.e2, C.ct.rd.min, C.ct.rd.kd, C.ct.rd.gt, C.ct.rd.bt, C.ct.rd.ip, C.ct.rd.hd, c_refuse C.ct.sh, c_answer C.ct.sh, c_told0 W C e0, c_allow1 C.ct.sh (z := 1) (by decide) (by decide), retZ0]
      exact qc_end C _ _
    · unfold f_X13_rain
      simp only [ck_of (tS_55 M0.sh), pI_of (tS_55 M0.sh), ob, nI_lit]; obtain ⟨h1, eh, M, F1⟩ : ∃ h1, wI h 55 0 (nI 0) = h1 ∧ IM h1 a ∧ FM h h1 := ⟨_, rfl, M0.th _, FM.w55 h _ (by decide)⟩; rw [eh]
      simp (disch := omega) only [ob, nI_lit, nI_add, pk_mul, nI_eq, nI_ltI, nI_leI, if_true, if_false, if_pos, if_neg, ck_of (tS_55 M.sh), gR_of (tS_55 M.sh), gI_of (tS_55 M.sh), pI_of (tS_55 M.sh), rS_55_16 M.sh, rS_55_17 M.sh, rS_55_18 M.sh, rS_55_21 M.sh, rS_55_25 M.sh, rS_55_26 M.sh, rS_55_27 M.sh, rS_55_28 M.sh, rS_55_32 M.sh, rS_55_33 M.sh, rS_55_34 M.sh, m_refused M.sh, m_good M.sh, m_null M e0, m_denied M.sh, retZ0]
      exact qm_end F1 _ _
  · rcases Decidable.em (rb (a 1) = b) with e | e
    · refine ⟨a, nI 0, 5, W, by decide, AC.ofQ W (fun h C => ?_) z, AM.ofQ (fun h M0 => ?_) (by decide) z⟩
      · unfold f_X11_rain
        simp only [ob, nI_lit, nI_add, pk_mul, nI_eq, nI_ltI, nI_leI, if_true, if_false, if_pos, if_neg, ck_of (tS_1 C.ct.sh), gR_of (tS_1 C.ct.sh), gI_of (tS_1 C.ct.sh), pI_of (tS_1 C.ct.sh), C.ct.rp, rS_1_2 C.ct.sh, rS_1_3 C.ct.sh, rS_1_4 C.ct.sh, rS_1_5 C.ct.sh, rS_1_6 C.ct.sh, rS_1_7 C.ct.sh, rS_1_8 C.ct.sh, rS_1_9 C.ct.sh, ck_of (tR C.ct.rd.rd), gR_of (tR C.ct.rd.rd), gI_of (tR C.ct.rd.rd), rR_9 C.ct.rd.rd, rR_10 C.ct.rd.rd, rR_11 C.ct.rd.rd, rR_12 C.ct.rd.rd, rR_13 C.ct.rd.rd, rR_14 C.ct.rd.rd, rR_15 C.ct.rd.rd, rR_16 C.ct.rd.rd, rR_17 C.ct.rd.rd, rR_18 C.ct.rd.rd, rR_19 C.ct.rd.rd, aI_of (tR_1 C.ct.rd.rd), aI_of (tR_2 C.ct.rd.rd), aI_of (tR_3 C.ct.rd.rd), aI_of (tR_4 C.ct.rd.rd), aI_of (tR_5 C.ct.rd.rd), aI_of (tR_6 C.ct.rd.rd), aI_of (tR_7 C.ct.rd.rd), aI_of (tR_8 C.ct.rd.rd), aI_of (tR_9 C.ct.rd.rd), C.ct.rd.sc, C.ct.rd.len, C.ct.rd.e1, C.ct.rd.e2, C.ct.rd.min, C.ct.rd.kd, C.ct.rd.gt, C.ct.rd.bt, C.ct.rd.ip, C.ct.rd.hd, c_refuse C.ct.sh, c_answer C.ct.sh, c_told1 W C e0, c_rains C.ct.sh C.nw hr, e, c_allow1 C.ct.sh (z := 5) (by decide) (by decide), retZ0]
        simp (disch := omega) only [ob, nI_lit, nI_add, pk_mul, nI_eq, nI_ltI, nI_leI, if_true, if_false, if_pos, if_neg]
        exact qc_end C _ _
      · unfold f_X13_rain
        simp only [ck_of (tS_55 M0.sh), pI_of (tS_55 M0.sh), ob, nI_lit]; obtain ⟨h1, eh, M, F1⟩ : ∃ h1, wI h 55 0 (nI 0) = h1 ∧ IM h1 a ∧ FM h h1 := ⟨_, rfl, M0.th _, FM.w55 h _ (by decide)⟩; rw [eh]
        have P := M.told e0
        have hz := P.nz
        simp (disch := omega) only [ob, nI_lit, nI_add, pk_mul, nI_eq, nI_ltI, nI_leI, if_true, if_false, if_pos, if_neg, ck_of (tS_55 M.sh), gR_of (tS_55 M.sh), gI_of (tS_55 M.sh), pI_of (tS_55 M.sh), rS_55_16 M.sh, rS_55_17 M.sh, rS_55_18 M.sh, rS_55_21 M.sh, rS_55_25 M.sh, rS_55_26 M.sh, rS_55_27 M.sh, rS_55_28 M.sh, rS_55_32 M.sh, rS_55_33 M.sh, rS_55_34 M.sh, m_refused M.sh, m_good M.sh, P.pp, m_rains M.sh M.nw hr, e, m_denied M.sh, retZ0]
        exact qm_end F1 _ _
    · have en : ¬ nI (rb (a 1)).toNat = nI b.toNat := by
        intro q
        apply e
        cases b <;> cases hb : rb (a 1) <;> rw [hb] at q <;> first | rfl | (exact absurd q (by decide))
      have hN : NF (a 0) (nu (a 1) 5 0 b.toNat) := by
        refine ⟨fun x hx => ?_, fun x hx => ?_, fun x hx => ?_, fun x hx => ?_, ?_⟩
        · rw [nu_w _ _ _ _ (by decide)]; exact W.nf.pl x hx
        · rw [nu_w _ _ _ _ (by decide)]; exact W.nf.co x hx
        · rw [nu_w _ _ _ _ (by decide)]; exact W.nf.kn x hx
        · rw [nu_w _ _ _ _ (by decide)]; exact W.nf.fg x hx
        · rw [nu_at]
          cases b <;> decide
      refine ⟨actA a (nu (a 1) 5 0 b.toNat), nI 1, 0, act_w W e0 hN, by decide, fun h C _ => ?_, fun h M0 _ _ => ?_⟩
      · have S := C.ct.sh
        have hset : f_X2_setRain (kpM h a) 33 (nI b.toNat) = some (wI (kpM h a) 34 20 (nI b.toNat)) := by
          unfold f_X2_setRain
          cases b <;> simp (disch := omega) only [ob, nI_lit, nI_add, pk_mul, nI_eq, nI_ltI, nI_leI, if_true, if_false, if_pos, if_neg, ck_of (tS_33 (S.kp a)), gR_of (tS_33 (S.kp a)), rS_33_0 (S.kp a), sI_of (tS_34 (S.kp a)), Bool.toNat_false, Bool.toNat_true]
        show OK (f_X11_rain h 1 (nI b.toNat)) _
        unfold f_X11_rain
        simp only [ob, nI_lit, nI_add, pk_mul, nI_eq, nI_ltI, nI_leI, if_true, if_false, if_pos, if_neg, ck_of (tS_1 C.ct.sh), gR_of (tS_1 C.ct.sh), gI_of (tS_1 C.ct.sh), pI_of (tS_1 C.ct.sh), C.ct.rp, rS_1_2 C.ct.sh, rS_1_3 C.ct.sh, rS_1_4 C.ct.sh, rS_1_5 C.ct.sh, rS_1_6 C.ct.sh, rS_1_7 C.ct.sh, rS_1_8 C.ct.sh, rS_1_9 C.ct.sh, ck_of (tR C.ct.rd.rd), gR_of (tR C.ct.rd.rd), gI_of (tR C.ct.rd.rd), rR_9 C.ct.rd.rd, rR_10 C.ct.rd.rd, rR_11 C.ct.rd.rd, rR_12 C.ct.rd.rd, rR_13 C.ct.rd.rd, rR_14 C.ct.rd.rd, rR_15 C.ct.rd.rd, rR_16 C.ct.rd.rd, rR_17 C.ct.rd.rd, rR_18 C.ct.rd.rd, rR_19 C.ct.rd.rd, aI_of (tR_1 C.ct.rd.rd), aI_of (tR_2 C.ct.rd.rd), aI_of (tR_3 C.ct.rd.rd), aI_of (tR_4 C.ct.rd.rd), aI_of (tR_5 C.ct.rd.rd), aI_of (tR_6 C.ct.rd.rd), aI_of (tR_7 C.ct.rd.rd), aI_of (tR_8 C.ct.rd.rd), aI_of (tR_9 C.ct.rd.rd), C.ct.rd.sc, C.ct.rd.len, C.ct.rd.e1, C.ct.rd.e2, C.ct.rd.min, C.ct.rd.kd, C.ct.rd.gt, C.ct.rd.bt, C.ct.rd.ip, C.ct.rd.hd, c_refuse C.ct.sh, c_answer C.ct.sh, c_told1 W C e0, c_rains C.ct.sh C.nw hr, en, c_keep2 W C, gR_of (tS_1 (S.kp a)), rS_1_3 (S.kp a), hset, c_allow0 ((S.kp a).wI 34 20 (nI b.toNat)), retZ1]
        simp (disch := omega) only [ob, nI_lit, nI_add, pk_mul, nI_eq, nI_ltI, nI_leI, if_true, if_false, if_pos, if_neg]
        have hc := act_c (h' := wI (wI (kpM h a) 34 20 (nI b.toNat)) 1 0 (nI 0)) (ν' := nu (a 1) 5 0 b.toNat) W C ((FQ.w _ _ _ (by decide)).tr (FQ.w _ _ _ (by decide))) (by
          show rC (mI _ 34) 0 _
          rw [mI_wI_ne _ _ _ (by decide), mI_wI_at, kpM_34]
          exact rC_rain C.nw _)
        exact ⟨_, rfl, rfl, hc.1, hc.2, by rw [mI_wI_at, pk_us]⟩
      · show OK (f_X13_rain h 55 (nI b.toNat)) _
        unfold f_X13_rain f_X13_rain_51
        simp only [ck_of (tS_55 M0.sh), pI_of (tS_55 M0.sh), ob, nI_lit]; obtain ⟨h1, eh, M, F1⟩ : ∃ h1, wI h 55 0 (nI 0) = h1 ∧ IM h1 a ∧ FM h h1 := ⟨_, rfl, M0.th _, FM.w55 h _ (by decide)⟩; rw [eh]
        have P := M.told e0
        have hz := P.nz
        have S := M.sh
        have hc := act_m (h' := wI (wI (wI (rmM h1 a) 57 20 (nI b.toNat)) 55 1 (nI 0)) 55 2 (-nI 1)) (ν' := nu (a 1) 5 0 b.toNat) W M (((FQ.w _ _ _ (by decide)).tr (FQ.w _ _ _ (by decide))).tr (FQ.w _ _ _ (by decide))) (fun i hi => by
            rw [mI_wI_at, pk_un (by omega), mI_wI_at, pk_un (by omega), mI_wI_ne _ _ _ (by decide)]) (by
          show rM (mI _ 57) 0 _
          rw [mI_wI_ne _ _ _ (by decide), mI_wI_ne _ _ _ (by decide), mI_wI_at, rmM_57]
          exact rM_rain M.nw _)
        have fin : OK (some (nI 1, wI (wI (wI (rmM h1 a) 57 20 (nI b.toNat)) 55 1 (nI 0)) 55 2 (-nI 1))) (fun q => q.1 = nI 1 ∧ FHi h q.2 ∧ IM q.2 (actA a (nu (a 1) 5 0 b.toNat)) ∧ mI q.2 55 1 = nI 0 ∧ mI q.2 55 2 = if (0 : Nat) = 4 then nI (actA a (nu (a 1) 5 0 b.toNat) 2 0 8) - nI 1 else -nI 1) := by
          refine ⟨_, rfl, rfl, FHi.f1 F1 hc.1, hc.2, ?_, ?_⟩
          · rw [mI_wI_at, pk_un (by decide), mI_wI_at, pk_us]
          · rw [mI_wI_at, pk_us]
            try rfl
        simp only [ob, nI_lit, nI_add, pk_mul, nI_eq, nI_ltI, nI_leI, if_true, if_false, if_pos, if_neg, ck_of (tS_55 M.sh), gR_of (tS_55 M.sh), gI_of (tS_55 M.sh), pI_of (tS_55 M.sh), rS_55_16 M.sh, rS_55_17 M.sh, rS_55_18 M.sh, rS_55_21 M.sh, rS_55_25 M.sh, rS_55_26 M.sh, rS_55_27 M.sh, rS_55_28 M.sh, rS_55_32 M.sh, rS_55_33 M.sh, rS_55_34 M.sh, m_refused M.sh, m_good M.sh, P.pp, hz, m_rains M.sh M.nw hr, en, m_rem2 W M, gR_of (tS_55 (S.rm a)), rS_55_16 (S.rm a)]
        cases b
        · simp (disch := omega) only [ob, nI_lit, nI_add, pk_mul, nI_eq, nI_ltI, nI_leI, if_true, if_false, if_pos, if_neg, Bool.toNat_false, sI_of (tS_57 (S.rm a)), m_granted ((S.rm a).wI 57 20 (nI 0)), retZ1]
          exact fin
        · simp (disch := omega) only [ob, nI_lit, nI_add, pk_mul, nI_eq, nI_ltI, nI_leI, if_true, if_false, if_pos, if_neg, Bool.toNat_true, sI_of (tS_57 (S.rm a)), m_granted ((S.rm a).wI 57 20 (nI 1)), retZ1]
          exact fin
theorem st_44 : StepOK INV lc_44 := by
  intro sc L i h hL hi hI
  unfold lc_44
  simp only [show (1 : Int32) = nI 1 from rfl, show (2 : Int32) = nI 2 from rfl, show (3 : Int32) = nI 3 from rfl, show (4 : Int32) = nI 4 from rfl, show (5 : Int32) = nI 5 from rfl, nI_add, sc_at hL (show i + 1 < L by omega), sc_at hL (show i + 2 < L by omega), sc_at hL (show i + 3 < L by omega), sc_at hL (show i + 4 < L by omega), sc_at hL (show i + 5 < L by omega), ob]
  rcases Decidable.em (sc (i + 1) = 0) with e | e
  · simp only [e, if_true]
    exact a2 (f := fun h => f_X11_rain h 1 (nI false.toNat)) (g := fun h => f_X13_rain h 55 (nI false.toNat)) hI (fun a z W _ => qq_rain W z _)
  · simp only [e, if_false]
    exact a2 (f := fun h => f_X11_rain h 1 (nI true.toNat)) (g := fun h => f_X13_rain h 55 (nI true.toNat)) hI (fun a z W _ => qq_rain W z _)
