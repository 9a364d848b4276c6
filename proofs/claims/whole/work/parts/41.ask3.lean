/-! ===== gate, inn, person, lifts, passes ===== -/
theorem qq_gate {a : AB} (W : IW a) (x y w : Int32) : ∃ v z, z ≤ 6 ∧ z ≠ 4 ∧ QC a (fun h => f_X11_gate h 1 x y w) v z ∧ QM a (fun h => f_X13_gate h 55 x y w) v z := by
  have := W.rw.pl
  have := W.rw.ro
  rcases hx : i2 (a 0 0 2) x y with _ | _
  · refine ⟨-nI 1, 1, by decide, by decide, fun h C => ?_, fun h M0 => ?_⟩
    · simp only [f_X11_gate, f_X11_gate_18, ob, nI_lit, nI_add, pk_mul, nI_eq, nI_ltI, nI_leI, if_true, if_false, if_pos, if_neg, ck_of (tS_1 C.ct.sh), gR_of (tS_1 C.ct.sh), gI_of (tS_1 C.ct.sh), pI_of (tS_1 C.ct.sh), C.ct.rp, rS_1_2 C.ct.sh, rS_1_3 C.ct.sh, rS_1_4 C.ct.sh, rS_1_5 C.ct.sh, rS_1_6 C.ct.sh, rS_1_7 C.ct.sh, rS_1_8 C.ct.sh, rS_1_9 C.ct.sh, ck_of (tR C.ct.rd.rd), gR_of (tR C.ct.rd.rd), gI_of (tR C.ct.rd.rd), rR_9 C.ct.rd.rd, rR_10 C.ct.rd.rd, rR_11 C.ct.rd.rd, rR_12 C.ct.rd.rd, rR_13 C.ct.rd.rd, rR_14 C.ct.rd.rd, rR_15 C.ct.rd.rd, rR_16 C.ct.rd.rd, rR_17 C.ct.rd.rd, rR_18 C.ct.rd.rd, rR_19 C.ct.rd.rd, aI_of (tR_1 C.ct.rd.rd), aI_of (tR_2 C.ct.rd.rd), aI_of (tR_3 C.ct.rd.rd), aI_of (tR_4 C.ct.rd.rd), aI_of (tR_5 C.ct.rd.rd), aI_of (tR_6 C.ct.rd.rd), aI_of (tR_7 C.ct.rd.rd), aI_of (tR_8 C.ct.rd.rd), aI_of (tR_9 C.ct.rd.rd), C.ct.rd.sc, C.ct.rd.len, C.ct.rd.e1, C.ct.rd.e2, C.ct.rd.min, C.ct.rd.kd, C.ct.rd.gt, C.ct.rd.bt, C.ct.rd.ip, C.ct.rd.hd, c_refuse C.ct.sh, c_answer C.ct.sh, c_areTwoPlaces W C, hx, Bool.toNat_false]
      exact qc_end C _ _
    · unfold f_X13_gate f_X13_gate_23
      simp only [ck_of (tS_55 M0.sh), pI_of (tS_55 M0.sh), ob, nI_lit]; obtain ⟨h1, eh, M, F1⟩ : ∃ h1, wI h 55 0 (nI 0) = h1 ∧ IM h1 a ∧ FM h h1 := ⟨_, rfl, M0.th _, FM.w55 h _ (by decide)⟩; rw [eh]
      simp only [ob, nI_lit, nI_add, pk_mul, nI_eq, nI_ltI, nI_leI, if_true, if_false, if_pos, if_neg, ck_of (tS_55 M.sh), gR_of (tS_55 M.sh), gI_of (tS_55 M.sh), pI_of (tS_55 M.sh), rS_55_16 M.sh, rS_55_17 M.sh, rS_55_18 M.sh, rS_55_21 M.sh, rS_55_25 M.sh, rS_55_26 M.sh, rS_55_27 M.sh, rS_55_28 M.sh, rS_55_32 M.sh, rS_55_33 M.sh, rS_55_34 M.sh, m_refused M.sh, m_good M.sh, m_areTwo W M, hx, Bool.toNat_false]
      exact qm_end F1 _ _
  · obtain ⟨p, q, hp, hq, hne, rfl, rfl⟩ := i2_t hx (by omega)
    have hb := b_le W.rw hp hq
    rcases hw : ix 2 w with _ | _
    · refine ⟨-nI 1, 1, by decide, by decide, fun h C => ?_, fun h M0 => ?_⟩
      · unfold f_X11_gate f_X11_gate_18
        simp (disch := omega) only [ob, nI_lit, nI_add, pk_mul, nI_eq, nI_ltI, nI_leI, if_true, if_false, if_pos, if_neg, ck_of (tS_1 C.ct.sh), gR_of (tS_1 C.ct.sh), gI_of (tS_1 C.ct.sh), pI_of (tS_1 C.ct.sh), C.ct.rp, rS_1_2 C.ct.sh, rS_1_3 C.ct.sh, rS_1_4 C.ct.sh, rS_1_5 C.ct.sh, rS_1_6 C.ct.sh, rS_1_7 C.ct.sh, rS_1_8 C.ct.sh, rS_1_9 C.ct.sh, ck_of (tR C.ct.rd.rd), gR_of (tR C.ct.rd.rd), gI_of (tR C.ct.rd.rd), rR_9 C.ct.rd.rd, rR_10 C.ct.rd.rd, rR_11 C.ct.rd.rd, rR_12 C.ct.rd.rd, rR_13 C.ct.rd.rd, rR_14 C.ct.rd.rd, rR_15 C.ct.rd.rd, rR_16 C.ct.rd.rd, rR_17 C.ct.rd.rd, rR_18 C.ct.rd.rd, rR_19 C.ct.rd.rd, aI_of (tR_1 C.ct.rd.rd), aI_of (tR_2 C.ct.rd.rd), aI_of (tR_3 C.ct.rd.rd), aI_of (tR_4 C.ct.rd.rd), aI_of (tR_5 C.ct.rd.rd), aI_of (tR_6 C.ct.rd.rd), aI_of (tR_7 C.ct.rd.rd), aI_of (tR_8 C.ct.rd.rd), aI_of (tR_9 C.ct.rd.rd), C.ct.rd.sc, C.ct.rd.len, C.ct.rd.e1, C.ct.rd.e2, C.ct.rd.min, C.ct.rd.kd, C.ct.rd.gt, C.ct.rd.bt, C.ct.rd.ip, C.ct.rd.hd, c_refuse C.ct.sh, c_answer C.ct.sh, c_areTwoPlaces W C, hx, Bool.toNat_true]
        rcases ix_f hw (by decide) with e | ⟨e, e2, -⟩
        · simp only [e, if_true]
          exact qc_end C _ _
        · simp only [e, e2, if_false]
          exact qc_end C _ _
      · unfold f_X13_gate f_X13_gate_23
        simp only [ck_of (tS_55 M0.sh), pI_of (tS_55 M0.sh), ob, nI_lit]; obtain ⟨h1, eh, M, F1⟩ : ∃ h1, wI h 55 0 (nI 0) = h1 ∧ IM h1 a ∧ FM h h1 := ⟨_, rfl, M0.th _, FM.w55 h _ (by decide)⟩; rw [eh]
        have hi := h_in h1 w 1 (by decide)
        rw [hw] at hi
        simp (disch := omega) only [ob, nI_lit, nI_add, pk_mul, nI_eq, nI_ltI, nI_leI, if_true, if_false, if_pos, if_neg, ck_of (tS_55 M.sh), gR_of (tS_55 M.sh), gI_of (tS_55 M.sh), pI_of (tS_55 M.sh), rS_55_16 M.sh, rS_55_17 M.sh, rS_55_18 M.sh, rS_55_21 M.sh, rS_55_25 M.sh, rS_55_26 M.sh, rS_55_27 M.sh, rS_55_28 M.sh, rS_55_32 M.sh, rS_55_33 M.sh, rS_55_34 M.sh, m_refused M.sh, m_good M.sh, m_areTwo W M, hx, hi, Bool.toNat_true, Bool.toNat_false]
        exact qm_end F1 _ _
    · obtain ⟨k, hk, rfl⟩ := ix_t hw (by decide)
      rcases Decidable.em (qk (a 0) p q = 0) with e0 | e0
      · refine ⟨-nI 2, 0, by decide, by decide, fun h C => ?_, fun h M0 => ?_⟩
        · unfold f_X11_gate f_X11_gate_18 f_X11_gate_52
          simp (disch := omega) only [ob, nI_lit, nI_add, pk_mul, nI_eq, nI_ltI, nI_leI, if_true, if_false, if_pos, if_neg, ck_of (tS_1 C.ct.sh), gR_of (tS_1 C.ct.sh), gI_of (tS_1 C.ct.sh), pI_of (tS_1 C.ct.sh), C.ct.rp, rS_1_2 C.ct.sh, rS_1_3 C.ct.sh, rS_1_4 C.ct.sh, rS_1_5 C.ct.sh, rS_1_6 C.ct.sh, rS_1_7 C.ct.sh, rS_1_8 C.ct.sh, rS_1_9 C.ct.sh, ck_of (tR C.ct.rd.rd), gR_of (tR C.ct.rd.rd), gI_of (tR C.ct.rd.rd), rR_9 C.ct.rd.rd, rR_10 C.ct.rd.rd, rR_11 C.ct.rd.rd, rR_12 C.ct.rd.rd, rR_13 C.ct.rd.rd, rR_14 C.ct.rd.rd, rR_15 C.ct.rd.rd, rR_16 C.ct.rd.rd, rR_17 C.ct.rd.rd, rR_18 C.ct.rd.rd, rR_19 C.ct.rd.rd, aI_of (tR_1 C.ct.rd.rd), aI_of (tR_2 C.ct.rd.rd), aI_of (tR_3 C.ct.rd.rd), aI_of (tR_4 C.ct.rd.rd), aI_of (tR_5 C.ct.rd.rd), aI_of (tR_6 C.ct.rd.rd), aI_of (tR_7 C.ct.rd.rd), aI_of (tR_8 C.ct.rd.rd), aI_of (tR_9 C.ct.rd.rd), C.ct.rd.sc, C.ct.rd.len, C.ct.rd.e1, C.ct.rd.e2, C.ct.rd.min, C.ct.rd.kd, C.ct.rd.gt, C.ct.rd.bt, C.ct.rd.ip, C.ct.rd.hd, c_refuse C.ct.sh, c_answer C.ct.sh, c_areTwoPlaces W C, hx, Bool.toNat_true, c_between W C hp hq, kN_neg]
          rcases Decidable.em (a 0 13 (7 * p + q) = 0) with e | e
          · simp only [e, if_true]
            exact qc_end C _ _
          · rw [qk, if_neg e] at e0
            simp (disch := omega) only [e, if_false, pk_sub, c_gate W.rw C.ct.rd, e0, ob, ob, nI_lit, nI_add, pk_mul, nI_eq, nI_ltI, nI_leI, if_true, if_false, if_pos, if_neg]
            exact qc_end C _ _
        · unfold f_X13_gate f_X13_gate_23 f_X13_gate_77
          simp only [ck_of (tS_55 M0.sh), pI_of (tS_55 M0.sh), ob, nI_lit]; obtain ⟨h1, eh, M, F1⟩ : ∃ h1, wI h 55 0 (nI 0) = h1 ∧ IM h1 a ∧ FM h h1 := ⟨_, rfl, M0.th _, FM.w55 h _ (by decide)⟩; rw [eh]
          have P := M.told (by omega)
          have hi := h_in h1 (nI k) 1 (by decide)
          rw [hw] at hi
          simp (disch := omega) only [ob, nI_lit, nI_add, pk_mul, nI_eq, nI_ltI, nI_leI, if_true, if_false, if_pos, if_neg, ck_of (tS_55 M.sh), gR_of (tS_55 M.sh), gI_of (tS_55 M.sh), pI_of (tS_55 M.sh), rS_55_16 M.sh, rS_55_17 M.sh, rS_55_18 M.sh, rS_55_21 M.sh, rS_55_25 M.sh, rS_55_26 M.sh, rS_55_27 M.sh, rS_55_28 M.sh, rS_55_32 M.sh, rS_55_33 M.sh, rS_55_34 M.sh, m_refused M.sh, m_good M.sh, P.pp, ck_of (tP P.rd.pk), gR_of (tP P.rd.pk), gI_of (tP P.rd.pk), rP_10 P.rd.pk, rP_11 P.rd.pk, rP_12 P.rd.pk, rP_13 P.rd.pk, rP_14 P.rd.pk, rP_15 P.rd.pk, rP_16 P.rd.pk, rP_17 P.rd.pk, rP_18 P.rd.pk, rP_19 P.rd.pk, rP_20 P.rd.pk, rP_21 P.rd.pk, rP_22 P.rd.pk, rP_23 P.rd.pk, rP_24 P.rd.pk, aI_of (tP_1 P.rd.pk), aI_of (tP_2 P.rd.pk), aI_of (tP_3 P.rd.pk), aI_of (tP_4 P.rd.pk), aI_of (tP_5 P.rd.pk), aI_of (tP_6 P.rd.pk), aI_of (tP_7 P.rd.pk), aI_of (tP_8 P.rd.pk), aI_of (tP_9 P.rd.pk), aI_of (tP_10 P.rd.pk), aI_of (tP_11 P.rd.pk), aI_of (tP_12 P.rd.pk), aI_of (tP_13 P.rd.pk), aI_of (tP_14 P.rd.pk), aI_of (tP_15 P.rd.pk), P.rd.sc, P.rd.len, P.rd.note, P.rd.min, P.rd.kd, P.rd.gt, P.rd.e1, P.rd.e2, P.rd.i8, P.rd.i9, P.rd.i10, P.rd.i11, P.rd.hd, m_areTwo W M, hx, hi, Bool.toNat_true, f_X13_of]
          exact qm_end F1 _ _
      · have e : a 0 13 (7 * p + q) ≠ 0 := fun e => e0 (by rw [qk, if_pos e])
        have ek : qk (a 0) p q = a 0 6 (a 0 13 (7 * p + q) - 1) := if_neg e
        have et : qt (a 0) p q = a 0 7 (a 0 13 (7 * p + q) - 1) := if_neg e
        have hk4 := qk_le W.rw hp hq
        refine ⟨if k = 0 then nI (qk (a 0) p q - 1) else nI (qt (a 0) p q), 0, by decide, by decide, fun h C => ?_, fun h M0 => ?_⟩
        · unfold f_X11_gate f_X11_gate_18 f_X11_gate_52 f_X11_gate_87
          rw [ek] at e0 hk4
          simp (disch := omega) only [ob, nI_lit, nI_add, pk_mul, nI_eq, nI_ltI, nI_leI, if_true, if_false, if_pos, if_neg, ck_of (tS_1 C.ct.sh), gR_of (tS_1 C.ct.sh), gI_of (tS_1 C.ct.sh), pI_of (tS_1 C.ct.sh), C.ct.rp, rS_1_2 C.ct.sh, rS_1_3 C.ct.sh, rS_1_4 C.ct.sh, rS_1_5 C.ct.sh, rS_1_6 C.ct.sh, rS_1_7 C.ct.sh, rS_1_8 C.ct.sh, rS_1_9 C.ct.sh, ck_of (tR C.ct.rd.rd), gR_of (tR C.ct.rd.rd), gI_of (tR C.ct.rd.rd), rR_9 C.ct.rd.rd, rR_10 C.ct.rd.rd, rR_11 C.ct.rd.rd, rR_12 C.ct.rd.rd, rR_13 C.ct.rd.rd, rR_14 C.ct.rd.rd, rR_15 C.ct.rd.rd, rR_16 C.ct.rd.rd, rR_17 C.ct.rd.rd, rR_18 C.ct.rd.rd, rR_19 C.ct.rd.rd, aI_of (tR_1 C.ct.rd.rd), aI_of (tR_2 C.ct.rd.rd), aI_of (tR_3 C.ct.rd.rd), aI_of (tR_4 C.ct.rd.rd), aI_of (tR_5 C.ct.rd.rd), aI_of (tR_6 C.ct.rd.rd), aI_of (tR_7 C.ct.rd.rd), aI_of (tR_8 C.ct.rd.rd), aI_of (tR_9 C.ct.rd.rd), C.ct.rd.sc, C.ct.rd.len, C.ct.rd.e1, C.ct.rd.e2, C.ct.rd.min, C.ct.rd.kd, C.ct.rd.gt, C.ct.rd.bt, C.ct.rd.ip, C.ct.rd.hd, c_refuse C.ct.sh, c_answer C.ct.sh, c_areTwoPlaces W C, hx, Bool.toNat_true, c_between W C hp hq, kN_neg, pk_sub, c_gate W.rw C.ct.rd, decide_true]
          simp only [e0, not_false_iff, decide_true, Bool.toNat_true, ne_eq]
          simp (disch := omega) only [ob, nI_lit, nI_add, pk_mul, nI_eq, nI_ltI, nI_leI, if_true, if_false, if_pos, if_neg]
          rw [ek, et]
          rcases Decidable.em (k = 0) with k0 | k0
          · simp only [k0, if_true]
            exact qc_end C _ _
          · simp only [k0, if_false]
            exact qc_end C _ _
        · unfold f_X13_gate f_X13_gate_23 f_X13_gate_77
          simp only [ck_of (tS_55 M0.sh), pI_of (tS_55 M0.sh), ob, nI_lit]; obtain ⟨h1, eh, M, F1⟩ : ∃ h1, wI h 55 0 (nI 0) = h1 ∧ IM h1 a ∧ FM h h1 := ⟨_, rfl, M0.th _, FM.w55 h _ (by decide)⟩; rw [eh]
          have P := M.told (by omega)
          have hi := h_in h1 (nI k) 1 (by decide)
          rw [hw] at hi
          simp (disch := omega) only [ob, nI_lit, nI_add, pk_mul, nI_eq, nI_ltI, nI_leI, if_true, if_false, if_pos, if_neg, ck_of (tS_55 M.sh), gR_of (tS_55 M.sh), gI_of (tS_55 M.sh), pI_of (tS_55 M.sh), rS_55_16 M.sh, rS_55_17 M.sh, rS_55_18 M.sh, rS_55_21 M.sh, rS_55_25 M.sh, rS_55_26 M.sh, rS_55_27 M.sh, rS_55_28 M.sh, rS_55_32 M.sh, rS_55_33 M.sh, rS_55_34 M.sh, m_refused M.sh, m_good M.sh, P.pp, ck_of (tP P.rd.pk), gR_of (tP P.rd.pk), gI_of (tP P.rd.pk), rP_10 P.rd.pk, rP_11 P.rd.pk, rP_12 P.rd.pk, rP_13 P.rd.pk, rP_14 P.rd.pk, rP_15 P.rd.pk, rP_16 P.rd.pk, rP_17 P.rd.pk, rP_18 P.rd.pk, rP_19 P.rd.pk, rP_20 P.rd.pk, rP_21 P.rd.pk, rP_22 P.rd.pk, rP_23 P.rd.pk, rP_24 P.rd.pk, aI_of (tP_1 P.rd.pk), aI_of (tP_2 P.rd.pk), aI_of (tP_3 P.rd.pk), aI_of (tP_4 P.rd.pk), aI_of (tP_5 P.rd.pk), aI_of (tP_6 P.rd.pk), aI_of (tP_7 P.rd.pk), aI_of (tP_8 P.rd.pk), aI_of (tP_9 P.rd.pk), aI_of (tP_10 P.rd.pk), aI_of (tP_11 P.rd.pk), aI_of (tP_12 P.rd.pk), aI_of (tP_13 P.rd.pk), aI_of (tP_14 P.rd.pk), aI_of (tP_15 P.rd.pk), P.rd.sc, P.rd.len, P.rd.note, P.rd.min, P.rd.kd, P.rd.gt, P.rd.e1, P.rd.e2, P.rd.i8, P.rd.i9, P.rd.i10, P.rd.i11, P.rd.hd, m_areTwo W M, hx, hi, Bool.toNat_true, f_X13_of, nI_nem]
          rcases Decidable.em (k = 0) with k0 | k0
          · simp only [k0, if_true]
            exact qm_end F1 _ _
          · simp only [k0, if_false]
            exact qm_end F1 _ _
theorem st_7 : StepOK INV lc_7 := by
  intro sc L i h hL hi hI
  unfold lc_7
  simp only [show (1 : Int32) = nI 1 from rfl, show (2 : Int32) = nI 2 from rfl, show (3 : Int32) = nI 3 from rfl, show (4 : Int32) = nI 4 from rfl, show (5 : Int32) = nI 5 from rfl, nI_add, sc_at hL (show i + 1 < L by omega), sc_at hL (show i + 2 < L by omega), sc_at hL (show i + 3 < L by omega), sc_at hL (show i + 4 < L by omega), sc_at hL (show i + 5 < L by omega), ob]
  exact q2 (f := fun h => f_X11_gate h 1 (sc (i + 1)) (sc (i + 2)) (sc (i + 3))) (g := fun h => f_X13_gate h 55 (sc (i + 1)) (sc (i + 2)) (sc (i + 3))) hI (fun a W => qq_gate W _ _ _)
theorem c_inn {h : Mem} {a : AB} (W : IW a) (C : IC h a) {k w : Nat} (hk : k < a 0 0 5) (hw : w < 4) : f_X5_innPart h (a 2 0 0) (nI k) (nI w) = some (nI (a 0 (8 + w) k)) := by
  have := W.rw.inn
  unfold f_X5_innPart
  simp (disch := omega) only [ob, nI_lit, nI_add, pk_mul, nI_eq, nI_ltI, nI_leI, if_true, if_false, if_pos, if_neg, ck_of (tS_1 C.ct.sh), gR_of (tS_1 C.ct.sh), gI_of (tS_1 C.ct.sh), pI_of (tS_1 C.ct.sh), C.ct.rp, rS_1_2 C.ct.sh, rS_1_3 C.ct.sh, rS_1_4 C.ct.sh, rS_1_5 C.ct.sh, rS_1_6 C.ct.sh, rS_1_7 C.ct.sh, rS_1_8 C.ct.sh, rS_1_9 C.ct.sh, ck_of (tR C.ct.rd.rd), gR_of (tR C.ct.rd.rd), gI_of (tR C.ct.rd.rd), rR_9 C.ct.rd.rd, rR_10 C.ct.rd.rd, rR_11 C.ct.rd.rd, rR_12 C.ct.rd.rd, rR_13 C.ct.rd.rd, rR_14 C.ct.rd.rd, rR_15 C.ct.rd.rd, rR_16 C.ct.rd.rd, rR_17 C.ct.rd.rd, rR_18 C.ct.rd.rd, rR_19 C.ct.rd.rd, aI_of (tR_1 C.ct.rd.rd), aI_of (tR_2 C.ct.rd.rd), aI_of (tR_3 C.ct.rd.rd), aI_of (tR_4 C.ct.rd.rd), aI_of (tR_5 C.ct.rd.rd), aI_of (tR_6 C.ct.rd.rd), aI_of (tR_7 C.ct.rd.rd), aI_of (tR_8 C.ct.rd.rd), aI_of (tR_9 C.ct.rd.rd), C.ct.rd.sc, C.ct.rd.len, C.ct.rd.e1, C.ct.rd.e2, C.ct.rd.min, C.ct.rd.kd, C.ct.rd.gt, C.ct.rd.bt, C.ct.rd.ip, C.ct.rd.hd, c_refuse C.ct.sh, c_answer C.ct.sh]
theorem qq_inn {a : AB} (W : IW a) (x w : Int32) : ∃ v z, z ≤ 6 ∧ z ≠ 4 ∧ QC a (fun h => f_X11_inn h 1 x w) v z ∧ QM a (fun h => f_X13_inn h 55 x w) v z := by
  have := W.rw.inn
  rcases hx : ix (a 0 0 5) x with _ | _
  · refine ⟨-nI 1, 1, by decide, by decide, fun h C => ?_, fun h M0 => ?_⟩
    · simp only [f_X11_inn, f_X11_inn_17, ob, nI_lit, nI_add, pk_mul, nI_eq, nI_ltI, nI_leI, if_true, if_false, if_pos, if_neg, ck_of (tS_1 C.ct.sh), gR_of (tS_1 C.ct.sh), gI_of (tS_1 C.ct.sh), pI_of (tS_1 C.ct.sh), C.ct.rp, rS_1_2 C.ct.sh, rS_1_3 C.ct.sh, rS_1_4 C.ct.sh, rS_1_5 C.ct.sh, rS_1_6 C.ct.sh, rS_1_7 C.ct.sh, rS_1_8 C.ct.sh, rS_1_9 C.ct.sh, ck_of (tR C.ct.rd.rd), gR_of (tR C.ct.rd.rd), gI_of (tR C.ct.rd.rd), rR_9 C.ct.rd.rd, rR_10 C.ct.rd.rd, rR_11 C.ct.rd.rd, rR_12 C.ct.rd.rd, rR_13 C.ct.rd.rd, rR_14 C.ct.rd.rd, rR_15 C.ct.rd.rd, rR_16 C.ct.rd.rd, rR_17 C.ct.rd.rd, rR_18 C.ct.rd.rd, rR_19 C.ct.rd.rd, aI_of (tR_1 C.ct.rd.rd), aI_of (tR_2 C.ct.rd.rd), aI_of (tR_3 C.ct.rd.rd), aI_of (tR_4 C.ct.rd.rd), aI_of (tR_5 C.ct.rd.rd), aI_of (tR_6 C.ct.rd.rd), aI_of (tR_7 C.ct.rd.rd), aI_of (tR_8 C.ct.rd.rd), aI_of (tR_9 C.ct.rd.rd), C.ct.rd.sc, C.ct.rd.len, C.ct.rd.e1, C.ct.rd.e2, C.ct.rd.min, C.ct.rd.kd, C.ct.rd.gt, C.ct.rd.bt, C.ct.rd.ip, C.ct.rd.hd, c_refuse C.ct.sh, c_answer C.ct.sh, c_isInn W C, hx, Bool.toNat_false]
      exact qc_end C _ _
    · unfold f_X13_inn f_X13_inn_36
      simp only [ck_of (tS_55 M0.sh), pI_of (tS_55 M0.sh), ob, nI_lit]; obtain ⟨h1, eh, M, F1⟩ : ∃ h1, wI h 55 0 (nI 0) = h1 ∧ IM h1 a ∧ FM h h1 := ⟨_, rfl, M0.th _, FM.w55 h _ (by decide)⟩; rw [eh]
      rcases M.pk with ⟨-, e1⟩ | ⟨-, P, -, -⟩
      · simp only [ob, nI_lit, nI_add, pk_mul, nI_eq, nI_ltI, nI_leI, if_true, if_false, if_pos, if_neg, ck_of (tS_55 M.sh), gR_of (tS_55 M.sh), gI_of (tS_55 M.sh), pI_of (tS_55 M.sh), rS_55_16 M.sh, rS_55_17 M.sh, rS_55_18 M.sh, rS_55_21 M.sh, rS_55_25 M.sh, rS_55_26 M.sh, rS_55_27 M.sh, rS_55_28 M.sh, rS_55_32 M.sh, rS_55_33 M.sh, rS_55_34 M.sh, m_refused M.sh, m_good M.sh, e1]
        exact qm_end F1 _ _
      · have hz := P.nz
        unfold ix at hx
        simp (disch := omega) only [ob, nI_lit, nI_add, pk_mul, nI_eq, nI_ltI, nI_leI, if_true, if_false, if_pos, if_neg, ck_of (tS_55 M.sh), gR_of (tS_55 M.sh), gI_of (tS_55 M.sh), pI_of (tS_55 M.sh), rS_55_16 M.sh, rS_55_17 M.sh, rS_55_18 M.sh, rS_55_21 M.sh, rS_55_25 M.sh, rS_55_26 M.sh, rS_55_27 M.sh, rS_55_28 M.sh, rS_55_32 M.sh, rS_55_33 M.sh, rS_55_34 M.sh, m_refused M.sh, m_good M.sh, P.pp, ck_of (tP P.rd.pk), gR_of (tP P.rd.pk), gI_of (tP P.rd.pk), rP_10 P.rd.pk, rP_11 P.rd.pk, rP_12 P.rd.pk, rP_13 P.rd.pk, rP_14 P.rd.pk, rP_15 P.rd.pk, rP_16 P.rd.pk, rP_17 P.rd.pk, rP_18 P.rd.pk, rP_19 P.rd.pk, rP_20 P.rd.pk, rP_21 P.rd.pk, rP_22 P.rd.pk, rP_23 P.rd.pk, rP_24 P.rd.pk, aI_of (tP_1 P.rd.pk), aI_of (tP_2 P.rd.pk), aI_of (tP_3 P.rd.pk), aI_of (tP_4 P.rd.pk), aI_of (tP_5 P.rd.pk), aI_of (tP_6 P.rd.pk), aI_of (tP_7 P.rd.pk), aI_of (tP_8 P.rd.pk), aI_of (tP_9 P.rd.pk), aI_of (tP_10 P.rd.pk), aI_of (tP_11 P.rd.pk), aI_of (tP_12 P.rd.pk), aI_of (tP_13 P.rd.pk), aI_of (tP_14 P.rd.pk), aI_of (tP_15 P.rd.pk), P.rd.sc, P.rd.len, P.rd.note, P.rd.min, P.rd.kd, P.rd.gt, P.rd.e1, P.rd.e2, P.rd.i8, P.rd.i9, P.rd.i10, P.rd.i11, P.rd.hd]
        rcases Decidable.em (x < nI 0) with e | e
        · simp only [e, if_true]
          exact qm_end F1 _ _
        · rcases Decidable.em (nI (a 0 0 5) ≤ x) with e2 | e2
          · simp only [e, e2, if_true, if_false]
            exact qm_end F1 _ _
          · simp [e, e2] at hx
  · obtain ⟨k, hk, rfl⟩ := ix_t hx (by omega)
    rcases hw : ix 4 w with _ | _
    · refine ⟨-nI 1, 1, by decide, by decide, fun h C => ?_, fun h M0 => ?_⟩
      · unfold f_X11_inn f_X11_inn_17
        simp (disch := omega) only [ob, nI_lit, nI_add, pk_mul, nI_eq, nI_ltI, nI_leI, if_true, if_false, if_pos, if_neg, ck_of (tS_1 C.ct.sh), gR_of (tS_1 C.ct.sh), gI_of (tS_1 C.ct.sh), pI_of (tS_1 C.ct.sh), C.ct.rp, rS_1_2 C.ct.sh, rS_1_3 C.ct.sh, rS_1_4 C.ct.sh, rS_1_5 C.ct.sh, rS_1_6 C.ct.sh, rS_1_7 C.ct.sh, rS_1_8 C.ct.sh, rS_1_9 C.ct.sh, ck_of (tR C.ct.rd.rd), gR_of (tR C.ct.rd.rd), gI_of (tR C.ct.rd.rd), rR_9 C.ct.rd.rd, rR_10 C.ct.rd.rd, rR_11 C.ct.rd.rd, rR_12 C.ct.rd.rd, rR_13 C.ct.rd.rd, rR_14 C.ct.rd.rd, rR_15 C.ct.rd.rd, rR_16 C.ct.rd.rd, rR_17 C.ct.rd.rd, rR_18 C.ct.rd.rd, rR_19 C.ct.rd.rd, aI_of (tR_1 C.ct.rd.rd), aI_of (tR_2 C.ct.rd.rd), aI_of (tR_3 C.ct.rd.rd), aI_of (tR_4 C.ct.rd.rd), aI_of (tR_5 C.ct.rd.rd), aI_of (tR_6 C.ct.rd.rd), aI_of (tR_7 C.ct.rd.rd), aI_of (tR_8 C.ct.rd.rd), aI_of (tR_9 C.ct.rd.rd), C.ct.rd.sc, C.ct.rd.len, C.ct.rd.e1, C.ct.rd.e2, C.ct.rd.min, C.ct.rd.kd, C.ct.rd.gt, C.ct.rd.bt, C.ct.rd.ip, C.ct.rd.hd, c_refuse C.ct.sh, c_answer C.ct.sh, c_isInn W C, hx, Bool.toNat_true]
        rcases ix_f hw (by decide) with e | ⟨e, e2, -⟩
        · simp only [e, if_true]
          exact qc_end C _ _
        · simp only [e, e2, if_false]
          exact qc_end C _ _
      · unfold f_X13_inn f_X13_inn_36
        simp only [ck_of (tS_55 M0.sh), pI_of (tS_55 M0.sh), ob, nI_lit]; obtain ⟨h1, eh, M, F1⟩ : ∃ h1, wI h 55 0 (nI 0) = h1 ∧ IM h1 a ∧ FM h h1 := ⟨_, rfl, M0.th _, FM.w55 h _ (by decide)⟩; rw [eh]
        have P := M.told (told_of W (i := 0) (j := 5) (by omega))
        have hz := P.nz
        have hi := h_in h1 w 3 (by decide)
        rw [hw] at hi
        simp (disch := omega) only [ob, nI_lit, nI_add, pk_mul, nI_eq, nI_ltI, nI_leI, if_true, if_false, if_pos, if_neg, ck_of (tS_55 M.sh), gR_of (tS_55 M.sh), gI_of (tS_55 M.sh), pI_of (tS_55 M.sh), rS_55_16 M.sh, rS_55_17 M.sh, rS_55_18 M.sh, rS_55_21 M.sh, rS_55_25 M.sh, rS_55_26 M.sh, rS_55_27 M.sh, rS_55_28 M.sh, rS_55_32 M.sh, rS_55_33 M.sh, rS_55_34 M.sh, m_refused M.sh, m_good M.sh, P.pp, ck_of (tP P.rd.pk), gR_of (tP P.rd.pk), gI_of (tP P.rd.pk), rP_10 P.rd.pk, rP_11 P.rd.pk, rP_12 P.rd.pk, rP_13 P.rd.pk, rP_14 P.rd.pk, rP_15 P.rd.pk, rP_16 P.rd.pk, rP_17 P.rd.pk, rP_18 P.rd.pk, rP_19 P.rd.pk, rP_20 P.rd.pk, rP_21 P.rd.pk, rP_22 P.rd.pk, rP_23 P.rd.pk, rP_24 P.rd.pk, aI_of (tP_1 P.rd.pk), aI_of (tP_2 P.rd.pk), aI_of (tP_3 P.rd.pk), aI_of (tP_4 P.rd.pk), aI_of (tP_5 P.rd.pk), aI_of (tP_6 P.rd.pk), aI_of (tP_7 P.rd.pk), aI_of (tP_8 P.rd.pk), aI_of (tP_9 P.rd.pk), aI_of (tP_10 P.rd.pk), aI_of (tP_11 P.rd.pk), aI_of (tP_12 P.rd.pk), aI_of (tP_13 P.rd.pk), aI_of (tP_14 P.rd.pk), aI_of (tP_15 P.rd.pk), P.rd.sc, P.rd.len, P.rd.note, P.rd.min, P.rd.kd, P.rd.gt, P.rd.e1, P.rd.e2, P.rd.i8, P.rd.i9, P.rd.i10, P.rd.i11, P.rd.hd, hi, Bool.toNat_false]
        exact qm_end F1 _ _
    · obtain ⟨j, hj, rfl⟩ := ix_t hw (by decide)
      refine ⟨nI (a 0 (8 + j) k), 0, by decide, by decide, fun h C => ?_, fun h M0 => ?_⟩
      · unfold f_X11_inn f_X11_inn_17
        simp (disch := omega) only [ob, nI_lit, nI_add, pk_mul, nI_eq, nI_ltI, nI_leI, if_true, if_false, if_pos, if_neg, ck_of (tS_1 C.ct.sh), gR_of (tS_1 C.ct.sh), gI_of (tS_1 C.ct.sh), pI_of (tS_1 C.ct.sh), C.ct.rp, rS_1_2 C.ct.sh, rS_1_3 C.ct.sh, rS_1_4 C.ct.sh, rS_1_5 C.ct.sh, rS_1_6 C.ct.sh, rS_1_7 C.ct.sh, rS_1_8 C.ct.sh, rS_1_9 C.ct.sh, ck_of (tR C.ct.rd.rd), gR_of (tR C.ct.rd.rd), gI_of (tR C.ct.rd.rd), rR_9 C.ct.rd.rd, rR_10 C.ct.rd.rd, rR_11 C.ct.rd.rd, rR_12 C.ct.rd.rd, rR_13 C.ct.rd.rd, rR_14 C.ct.rd.rd, rR_15 C.ct.rd.rd, rR_16 C.ct.rd.rd, rR_17 C.ct.rd.rd, rR_18 C.ct.rd.rd, rR_19 C.ct.rd.rd, aI_of (tR_1 C.ct.rd.rd), aI_of (tR_2 C.ct.rd.rd), aI_of (tR_3 C.ct.rd.rd), aI_of (tR_4 C.ct.rd.rd), aI_of (tR_5 C.ct.rd.rd), aI_of (tR_6 C.ct.rd.rd), aI_of (tR_7 C.ct.rd.rd), aI_of (tR_8 C.ct.rd.rd), aI_of (tR_9 C.ct.rd.rd), C.ct.rd.sc, C.ct.rd.len, C.ct.rd.e1, C.ct.rd.e2, C.ct.rd.min, C.ct.rd.kd, C.ct.rd.gt, C.ct.rd.bt, C.ct.rd.ip, C.ct.rd.hd, c_refuse C.ct.sh, c_answer C.ct.sh, c_isInn W C, hx, Bool.toNat_true, c_inn W C hk hj]
        exact qc_end C _ _
      · unfold f_X13_inn f_X13_inn_36 f_X13_inn_102
        simp only [ck_of (tS_55 M0.sh), pI_of (tS_55 M0.sh), ob, nI_lit]; obtain ⟨h1, eh, M, F1⟩ : ∃ h1, wI h 55 0 (nI 0) = h1 ∧ IM h1 a ∧ FM h h1 := ⟨_, rfl, M0.th _, FM.w55 h _ (by decide)⟩; rw [eh]
        have P := M.told (told_of W (i := 0) (j := 5) (by omega))
        have hz := P.nz
        have hi := h_in h1 (nI j) 3 (by decide)
        rw [hw] at hi
        simp (disch := omega) only [ob, nI_lit, nI_add, pk_mul, nI_eq, nI_ltI, nI_leI, if_true, if_false, if_pos, if_neg, ck_of (tS_55 M.sh), gR_of (tS_55 M.sh), gI_of (tS_55 M.sh), pI_of (tS_55 M.sh), rS_55_16 M.sh, rS_55_17 M.sh, rS_55_18 M.sh, rS_55_21 M.sh, rS_55_25 M.sh, rS_55_26 M.sh, rS_55_27 M.sh, rS_55_28 M.sh, rS_55_32 M.sh, rS_55_33 M.sh, rS_55_34 M.sh, m_refused M.sh, m_good M.sh, P.pp, ck_of (tP P.rd.pk), gR_of (tP P.rd.pk), gI_of (tP P.rd.pk), rP_10 P.rd.pk, rP_11 P.rd.pk, rP_12 P.rd.pk, rP_13 P.rd.pk, rP_14 P.rd.pk, rP_15 P.rd.pk, rP_16 P.rd.pk, rP_17 P.rd.pk, rP_18 P.rd.pk, rP_19 P.rd.pk, rP_20 P.rd.pk, rP_21 P.rd.pk, rP_22 P.rd.pk, rP_23 P.rd.pk, rP_24 P.rd.pk, aI_of (tP_1 P.rd.pk), aI_of (tP_2 P.rd.pk), aI_of (tP_3 P.rd.pk), aI_of (tP_4 P.rd.pk), aI_of (tP_5 P.rd.pk), aI_of (tP_6 P.rd.pk), aI_of (tP_7 P.rd.pk), aI_of (tP_8 P.rd.pk), aI_of (tP_9 P.rd.pk), aI_of (tP_10 P.rd.pk), aI_of (tP_11 P.rd.pk), aI_of (tP_12 P.rd.pk), aI_of (tP_13 P.rd.pk), aI_of (tP_14 P.rd.pk), aI_of (tP_15 P.rd.pk), P.rd.sc, P.rd.len, P.rd.note, P.rd.min, P.rd.kd, P.rd.gt, P.rd.e1, P.rd.e2, P.rd.i8, P.rd.i9, P.rd.i10, P.rd.i11, P.rd.hd, hi, Bool.toNat_true]
        rcases (show j = 0 ∨ j = 1 ∨ j = 2 ∨ j = 3 by omega) with rfl | rfl | rfl | rfl
        · exact qm_end F1 _ _
        · exact qm_end F1 _ _
        · exact qm_end F1 _ _
        · exact qm_end F1 _ _
theorem st_8 : StepOK INV lc_8 := by
  intro sc L i h hL hi hI
  unfold lc_8
  simp only [show (1 : Int32) = nI 1 from rfl, show (2 : Int32) = nI 2 from rfl, show (3 : Int32) = nI 3 from rfl, show (4 : Int32) = nI 4 from rfl, show (5 : Int32) = nI 5 from rfl, nI_add, sc_at hL (show i + 1 < L by omega), sc_at hL (show i + 2 < L by omega), sc_at hL (show i + 3 < L by omega), sc_at hL (show i + 4 < L by omega), sc_at hL (show i + 5 < L by omega), ob]
  exact q2 (f := fun h => f_X11_inn h 1 (sc (i + 1)) (sc (i + 2))) (g := fun h => f_X13_inn h 55 (sc (i + 1)) (sc (i + 2))) hI (fun a W => qq_inn W _ _)
theorem qq_person {a : AB} (W : IW a) (x w : Int32) : ∃ v z, z ≤ 6 ∧ z ≠ 4 ∧ QC a (fun h => f_X11_person h 1 x w) v z ∧ QM a (fun h => f_X13_person h 55 x w) v z := by
  have := W.rw.pe
  rcases hx : ix (a 0 0 6) x with _ | _
  · refine ⟨-nI 1, 1, by decide, by decide, fun h C => ?_, fun h M0 => ?_⟩
    · simp only [f_X11_person, f_X11_person_17, ob, nI_lit, nI_add, pk_mul, nI_eq, nI_ltI, nI_leI, if_true, if_false, if_pos, if_neg, ck_of (tS_1 C.ct.sh), gR_of (tS_1 C.ct.sh), gI_of (tS_1 C.ct.sh), pI_of (tS_1 C.ct.sh), C.ct.rp, rS_1_2 C.ct.sh, rS_1_3 C.ct.sh, rS_1_4 C.ct.sh, rS_1_5 C.ct.sh, rS_1_6 C.ct.sh, rS_1_7 C.ct.sh, rS_1_8 C.ct.sh, rS_1_9 C.ct.sh, ck_of (tR C.ct.rd.rd), gR_of (tR C.ct.rd.rd), gI_of (tR C.ct.rd.rd), rR_9 C.ct.rd.rd, rR_10 C.ct.rd.rd, rR_11 C.ct.rd.rd, rR_12 C.ct.rd.rd, rR_13 C.ct.rd.rd, rR_14 C.ct.rd.rd, rR_15 C.ct.rd.rd, rR_16 C.ct.rd.rd, rR_17 C.ct.rd.rd, rR_18 C.ct.rd.rd, rR_19 C.ct.rd.rd, aI_of (tR_1 C.ct.rd.rd), aI_of (tR_2 C.ct.rd.rd), aI_of (tR_3 C.ct.rd.rd), aI_of (tR_4 C.ct.rd.rd), aI_of (tR_5 C.ct.rd.rd), aI_of (tR_6 C.ct.rd.rd), aI_of (tR_7 C.ct.rd.rd), aI_of (tR_8 C.ct.rd.rd), aI_of (tR_9 C.ct.rd.rd), C.ct.rd.sc, C.ct.rd.len, C.ct.rd.e1, C.ct.rd.e2, C.ct.rd.min, C.ct.rd.kd, C.ct.rd.gt, C.ct.rd.bt, C.ct.rd.ip, C.ct.rd.hd, c_refuse C.ct.sh, c_answer C.ct.sh, c_isPerson W C, hx, Bool.toNat_false]
      exact qc_end C _ _
    · unfold f_X13_person f_X13_person_22
      simp only [ck_of (tS_55 M0.sh), pI_of (tS_55 M0.sh), ob, nI_lit]; obtain ⟨h1, eh, M, F1⟩ : ∃ h1, wI h 55 0 (nI 0) = h1 ∧ IM h1 a ∧ FM h h1 := ⟨_, rfl, M0.th _, FM.w55 h _ (by decide)⟩; rw [eh]
      simp only [ob, nI_lit, nI_add, pk_mul, nI_eq, nI_ltI, nI_leI, if_true, if_false, if_pos, if_neg, ck_of (tS_55 M.sh), gR_of (tS_55 M.sh), gI_of (tS_55 M.sh), pI_of (tS_55 M.sh), rS_55_16 M.sh, rS_55_17 M.sh, rS_55_18 M.sh, rS_55_21 M.sh, rS_55_25 M.sh, rS_55_26 M.sh, rS_55_27 M.sh, rS_55_28 M.sh, rS_55_32 M.sh, rS_55_33 M.sh, rS_55_34 M.sh, m_refused M.sh, m_good M.sh, m_isPerson W M, hx, Bool.toNat_false]
      exact qm_end F1 _ _
  · obtain ⟨k, hk, rfl⟩ := ix_t hx (by omega)
    rcases hw : ix 5 w with _ | _
    · refine ⟨-nI 1, 1, by decide, by decide, fun h C => ?_, fun h M0 => ?_⟩
      · unfold f_X11_person f_X11_person_17
        simp (disch := omega) only [ob, nI_lit, nI_add, pk_mul, nI_eq, nI_ltI, nI_leI, if_true, if_false, if_pos, if_neg, ck_of (tS_1 C.ct.sh), gR_of (tS_1 C.ct.sh), gI_of (tS_1 C.ct.sh), pI_of (tS_1 C.ct.sh), C.ct.rp, rS_1_2 C.ct.sh, rS_1_3 C.ct.sh, rS_1_4 C.ct.sh, rS_1_5 C.ct.sh, rS_1_6 C.ct.sh, rS_1_7 C.ct.sh, rS_1_8 C.ct.sh, rS_1_9 C.ct.sh, ck_of (tR C.ct.rd.rd), gR_of (tR C.ct.rd.rd), gI_of (tR C.ct.rd.rd), rR_9 C.ct.rd.rd, rR_10 C.ct.rd.rd, rR_11 C.ct.rd.rd, rR_12 C.ct.rd.rd, rR_13 C.ct.rd.rd, rR_14 C.ct.rd.rd, rR_15 C.ct.rd.rd, rR_16 C.ct.rd.rd, rR_17 C.ct.rd.rd, rR_18 C.ct.rd.rd, rR_19 C.ct.rd.rd, aI_of (tR_1 C.ct.rd.rd), aI_of (tR_2 C.ct.rd.rd), aI_of (tR_3 C.ct.rd.rd), aI_of (tR_4 C.ct.rd.rd), aI_of (tR_5 C.ct.rd.rd), aI_of (tR_6 C.ct.rd.rd), aI_of (tR_7 C.ct.rd.rd), aI_of (tR_8 C.ct.rd.rd), aI_of (tR_9 C.ct.rd.rd), C.ct.rd.sc, C.ct.rd.len, C.ct.rd.e1, C.ct.rd.e2, C.ct.rd.min, C.ct.rd.kd, C.ct.rd.gt, C.ct.rd.bt, C.ct.rd.ip, C.ct.rd.hd, c_refuse C.ct.sh, c_answer C.ct.sh, c_isPerson W C, hx, Bool.toNat_true]
        rcases ix_f hw (by decide) with e | ⟨e, e2, -⟩
        · simp only [e, if_true]
          exact qc_end C _ _
        · simp only [e, e2, if_false]
          exact qc_end C _ _
      · unfold f_X13_person f_X13_person_22
        simp only [ck_of (tS_55 M0.sh), pI_of (tS_55 M0.sh), ob, nI_lit]; obtain ⟨h1, eh, M, F1⟩ : ∃ h1, wI h 55 0 (nI 0) = h1 ∧ IM h1 a ∧ FM h h1 := ⟨_, rfl, M0.th _, FM.w55 h _ (by decide)⟩; rw [eh]
        have hi := h_in h1 w 4 (by decide)
        rw [hw] at hi
        simp (disch := omega) only [ob, nI_lit, nI_add, pk_mul, nI_eq, nI_ltI, nI_leI, if_true, if_false, if_pos, if_neg, ck_of (tS_55 M.sh), gR_of (tS_55 M.sh), gI_of (tS_55 M.sh), pI_of (tS_55 M.sh), rS_55_16 M.sh, rS_55_17 M.sh, rS_55_18 M.sh, rS_55_21 M.sh, rS_55_25 M.sh, rS_55_26 M.sh, rS_55_27 M.sh, rS_55_28 M.sh, rS_55_32 M.sh, rS_55_33 M.sh, rS_55_34 M.sh, m_refused M.sh, m_good M.sh, m_isPerson W M, hx, hi, Bool.toNat_true, Bool.toNat_false]
        exact qm_end F1 _ _
    · obtain ⟨j, hj, rfl⟩ := ix_t hw (by decide)
      refine ⟨nI (a 1 j k), 0, by decide, by decide, fun h C => ?_, fun h M0 => ?_⟩
      · unfold f_X11_person f_X11_person_17
        simp (disch := omega) only [ob, nI_lit, nI_add, pk_mul, nI_eq, nI_ltI, nI_leI, if_true, if_false, if_pos, if_neg, ck_of (tS_1 C.ct.sh), gR_of (tS_1 C.ct.sh), gI_of (tS_1 C.ct.sh), pI_of (tS_1 C.ct.sh), C.ct.rp, rS_1_2 C.ct.sh, rS_1_3 C.ct.sh, rS_1_4 C.ct.sh, rS_1_5 C.ct.sh, rS_1_6 C.ct.sh, rS_1_7 C.ct.sh, rS_1_8 C.ct.sh, rS_1_9 C.ct.sh, ck_of (tR C.ct.rd.rd), gR_of (tR C.ct.rd.rd), gI_of (tR C.ct.rd.rd), rR_9 C.ct.rd.rd, rR_10 C.ct.rd.rd, rR_11 C.ct.rd.rd, rR_12 C.ct.rd.rd, rR_13 C.ct.rd.rd, rR_14 C.ct.rd.rd, rR_15 C.ct.rd.rd, rR_16 C.ct.rd.rd, rR_17 C.ct.rd.rd, rR_18 C.ct.rd.rd, rR_19 C.ct.rd.rd, aI_of (tR_1 C.ct.rd.rd), aI_of (tR_2 C.ct.rd.rd), aI_of (tR_3 C.ct.rd.rd), aI_of (tR_4 C.ct.rd.rd), aI_of (tR_5 C.ct.rd.rd), aI_of (tR_6 C.ct.rd.rd), aI_of (tR_7 C.ct.rd.rd), aI_of (tR_8 C.ct.rd.rd), aI_of (tR_9 C.ct.rd.rd), C.ct.rd.sc, C.ct.rd.len, C.ct.rd.e1, C.ct.rd.e2, C.ct.rd.min, C.ct.rd.kd, C.ct.rd.gt, C.ct.rd.bt, C.ct.rd.ip, C.ct.rd.hd, c_refuse C.ct.sh, c_answer C.ct.sh, c_isPerson W C, hx, Bool.toNat_true, c_of C.ct.sh C.nw]
        exact qc_end C _ _
      · unfold f_X13_person f_X13_person_22
        simp only [ck_of (tS_55 M0.sh), pI_of (tS_55 M0.sh), ob, nI_lit]; obtain ⟨h1, eh, M, F1⟩ : ∃ h1, wI h 55 0 (nI 0) = h1 ∧ IM h1 a ∧ FM h h1 := ⟨_, rfl, M0.th _, FM.w55 h _ (by decide)⟩; rw [eh]
        have hi := h_in h1 (nI j) 4 (by decide)
        rw [hw] at hi
        simp (disch := omega) only [ob, nI_lit, nI_add, pk_mul, nI_eq, nI_ltI, nI_leI, if_true, if_false, if_pos, if_neg, ck_of (tS_55 M.sh), gR_of (tS_55 M.sh), gI_of (tS_55 M.sh), pI_of (tS_55 M.sh), rS_55_16 M.sh, rS_55_17 M.sh, rS_55_18 M.sh, rS_55_21 M.sh, rS_55_25 M.sh, rS_55_26 M.sh, rS_55_27 M.sh, rS_55_28 M.sh, rS_55_32 M.sh, rS_55_33 M.sh, rS_55_34 M.sh, m_refused M.sh, m_good M.sh, m_isPerson W M, hx, hi, Bool.toNat_true, aI_of (tS_57 M.sh), M.nw.at]
        exact qm_end F1 _ _
theorem st_9 : StepOK INV lc_9 := by
  intro sc L i h hL hi hI
  unfold lc_9
  simp only [show (1 : Int32) = nI 1 from rfl, show (2 : Int32) = nI 2 from rfl, show (3 : Int32) = nI 3 from rfl, show (4 : Int32) = nI 4 from rfl, show (5 : Int32) = nI 5 from rfl, nI_add, sc_at hL (show i + 1 < L by omega), sc_at hL (show i + 2 < L by omega), sc_at hL (show i + 3 < L by omega), sc_at hL (show i + 4 < L by omega), sc_at hL (show i + 5 < L by omega), ob]
  exact q2 (f := fun h => f_X11_person h 1 (sc (i + 1)) (sc (i + 2))) (g := fun h => f_X13_person h 55 (sc (i + 1)) (sc (i + 2))) hI (fun a W => qq_person W _ _)
/-! a road between two -/
def rb2 (ρ : RO) (x y : Int32) : Int32 := if i2 (ρ 0 2) x y = true then nI (ρ 13 (7 * x.toNatClampNeg + y.toNatClampNeg)) - nI 1 else -nI 1
theorem c_roadOf {h : Mem} {a : AB} (W : IW a) (C : IC h a) (x y : Int32) : f_X11_roadOf h 1 x y = some (rb2 (a 0) x y) := by
  have := W.rw.pl
  unfold f_X11_roadOf rb2
  rcases hx : i2 (a 0 0 2) x y with _ | _
  · simp [ob, nI_lit, nI_add, pk_mul, nI_eq, nI_ltI, nI_leI, if_true, if_false, if_pos, if_neg, ck_of (tS_1 C.ct.sh), gR_of (tS_1 C.ct.sh), gI_of (tS_1 C.ct.sh), pI_of (tS_1 C.ct.sh), C.ct.rp, rS_1_2 C.ct.sh, rS_1_3 C.ct.sh, rS_1_4 C.ct.sh, rS_1_5 C.ct.sh, rS_1_6 C.ct.sh, rS_1_7 C.ct.sh, rS_1_8 C.ct.sh, rS_1_9 C.ct.sh, ck_of (tR C.ct.rd.rd), gR_of (tR C.ct.rd.rd), gI_of (tR C.ct.rd.rd), rR_9 C.ct.rd.rd, rR_10 C.ct.rd.rd, rR_11 C.ct.rd.rd, rR_12 C.ct.rd.rd, rR_13 C.ct.rd.rd, rR_14 C.ct.rd.rd, rR_15 C.ct.rd.rd, rR_16 C.ct.rd.rd, rR_17 C.ct.rd.rd, rR_18 C.ct.rd.rd, rR_19 C.ct.rd.rd, aI_of (tR_1 C.ct.rd.rd), aI_of (tR_2 C.ct.rd.rd), aI_of (tR_3 C.ct.rd.rd), aI_of (tR_4 C.ct.rd.rd), aI_of (tR_5 C.ct.rd.rd), aI_of (tR_6 C.ct.rd.rd), aI_of (tR_7 C.ct.rd.rd), aI_of (tR_8 C.ct.rd.rd), aI_of (tR_9 C.ct.rd.rd), C.ct.rd.sc, C.ct.rd.len, C.ct.rd.e1, C.ct.rd.e2, C.ct.rd.min, C.ct.rd.kd, C.ct.rd.gt, C.ct.rd.bt, C.ct.rd.ip, C.ct.rd.hd, c_refuse C.ct.sh, c_answer C.ct.sh, c_areTwoPlaces W C, hx, Bool.toNat_false]
  · obtain ⟨p, q, hp, hq, hne, rfl, rfl⟩ := i2_t hx (by omega)
    simp (disch := omega) only [ob, nI_lit, nI_add, pk_mul, nI_eq, nI_ltI, nI_leI, if_true, if_false, if_pos, if_neg, ck_of (tS_1 C.ct.sh), gR_of (tS_1 C.ct.sh), gI_of (tS_1 C.ct.sh), pI_of (tS_1 C.ct.sh), C.ct.rp, rS_1_2 C.ct.sh, rS_1_3 C.ct.sh, rS_1_4 C.ct.sh, rS_1_5 C.ct.sh, rS_1_6 C.ct.sh, rS_1_7 C.ct.sh, rS_1_8 C.ct.sh, rS_1_9 C.ct.sh, ck_of (tR C.ct.rd.rd), gR_of (tR C.ct.rd.rd), gI_of (tR C.ct.rd.rd), rR_9 C.ct.rd.rd, rR_10 C.ct.rd.rd, rR_11 C.ct.rd.rd, rR_12 C.ct.rd.rd, rR_13 C.ct.rd.rd, rR_14 C.ct.rd.rd, rR_15 C.ct.rd.rd, rR_16 C.ct.rd.rd, rR_17 C.ct.rd.rd, rR_18 C.ct.rd.rd, rR_19 C.ct.rd.rd, aI_of (tR_1 C.ct.rd.rd), aI_of (tR_2 C.ct.rd.rd), aI_of (tR_3 C.ct.rd.rd), aI_of (tR_4 C.ct.rd.rd), aI_of (tR_5 C.ct.rd.rd), aI_of (tR_6 C.ct.rd.rd), aI_of (tR_7 C.ct.rd.rd), aI_of (tR_8 C.ct.rd.rd), aI_of (tR_9 C.ct.rd.rd), C.ct.rd.sc, C.ct.rd.len, C.ct.rd.e1, C.ct.rd.e2, C.ct.rd.min, C.ct.rd.kd, C.ct.rd.gt, C.ct.rd.bt, C.ct.rd.ip, C.ct.rd.hd, c_refuse C.ct.sh, c_answer C.ct.sh, c_areTwoPlaces W C, hx, Bool.toNat_true, c_between W C hp hq, nI_clamp]
/-- there is a road between the two -/
def ir (ρ : RO) (x y : Int32) : Bool := i2 (ρ 0 2) x y && decide (ρ 13 (7 * x.toNatClampNeg + y.toNatClampNeg) ≠ 0)
theorem ir_neg {ρ : RO} (W : RW ρ) {x y : Int32} (h : ir ρ x y = false) : rb2 ρ x y < nI 0 := by
  have := W.pl
  have := W.ro
  unfold rb2
  unfold ir at h
  rcases hx : i2 (ρ 0 2) x y with _ | _
  · simp only [Bool.false_eq_true, if_false]
    decide
  · obtain ⟨p, q, hp, hq, hne, rfl, rfl⟩ := i2_t hx (by omega)
    have hb := b_le W hp hq
    rw [hx] at h
    simp (disch := omega) only [nI_clamp] at h ⊢
    simp at h
    rw [if_pos trivial, h]
    decide
theorem ir_t {ρ : RO} (W : RW ρ) {x y : Int32} (h : ir ρ x y = true) : ∃ p q j, p < ρ 0 2 ∧ q < ρ 0 2 ∧ p ≠ q ∧ x = nI p ∧ y = nI q ∧ j < ρ 0 3 ∧ ρ 13 (7 * p + q) = j + 1 ∧ rb2 ρ x y = nI j := by
  have := W.pl
  have := W.ro
  unfold rb2
  unfold ir at h
  rcases hx : i2 (ρ 0 2) x y with _ | _
  · rw [hx] at h
    simp at h
  · obtain ⟨p, q, hp, hq, hne, rfl, rfl⟩ := i2_t hx (by omega)
    rw [hx] at h
    simp (disch := omega) only [nI_clamp] at h ⊢
    simp at h
    rcases b_or W hp hq with e | ⟨j, hj, e⟩
    · exact absurd e h
    · refine ⟨p, q, j, hp, hq, hne, rfl, rfl, hj, e, ?_⟩
      rw [if_pos trivial, e, pk_sub (by omega)]
      rfl
theorem m_isRoad {h : Mem} {a : AB} (W : IW a) (M : IM h a) (x y : Int32) : f_X13_isRoad h 55 x y = some (nI (ir (a 0) x y).toNat) := by
  have := W.rw.pl
  unfold f_X13_isRoad f_X13_isRoad_28 ir
  rcases hx : i2 (a 0 0 2) x y with _ | _
  · simp [ob, nI_lit, nI_add, pk_mul, nI_eq, nI_ltI, nI_leI, if_true, if_false, if_pos, if_neg, ck_of (tS_55 M.sh), gR_of (tS_55 M.sh), gI_of (tS_55 M.sh), pI_of (tS_55 M.sh), rS_55_16 M.sh, rS_55_17 M.sh, rS_55_18 M.sh, rS_55_21 M.sh, rS_55_25 M.sh, rS_55_26 M.sh, rS_55_27 M.sh, rS_55_28 M.sh, rS_55_32 M.sh, rS_55_33 M.sh, rS_55_34 M.sh, m_refused M.sh, m_good M.sh, m_areTwo W M, hx, Bool.toNat_false]
  · obtain ⟨p, q, hp, hq, hne, rfl, rfl⟩ := i2_t hx (by omega)
    have P := M.told (by omega)
    have hm := qm_le W.rw hp hq
    have h0 := qm_0 W.rw hp hq
    simp (disch := omega) only [ob, nI_lit, nI_add, pk_mul, nI_eq, nI_ltI, nI_leI, if_true, if_false, if_pos, if_neg, ck_of (tS_55 M.sh), gR_of (tS_55 M.sh), gI_of (tS_55 M.sh), pI_of (tS_55 M.sh), rS_55_16 M.sh, rS_55_17 M.sh, rS_55_18 M.sh, rS_55_21 M.sh, rS_55_25 M.sh, rS_55_26 M.sh, rS_55_27 M.sh, rS_55_28 M.sh, rS_55_32 M.sh, rS_55_33 M.sh, rS_55_34 M.sh, m_refused M.sh, m_good M.sh, P.pp, ck_of (tP P.rd.pk), gR_of (tP P.rd.pk), gI_of (tP P.rd.pk), rP_10 P.rd.pk, rP_11 P.rd.pk, rP_12 P.rd.pk, rP_13 P.rd.pk, rP_14 P.rd.pk, rP_15 P.rd.pk, rP_16 P.rd.pk, rP_17 P.rd.pk, rP_18 P.rd.pk, rP_19 P.rd.pk, rP_20 P.rd.pk, rP_21 P.rd.pk, rP_22 P.rd.pk, rP_23 P.rd.pk, rP_24 P.rd.pk, aI_of (tP_1 P.rd.pk), aI_of (tP_2 P.rd.pk), aI_of (tP_3 P.rd.pk), aI_of (tP_4 P.rd.pk), aI_of (tP_5 P.rd.pk), aI_of (tP_6 P.rd.pk), aI_of (tP_7 P.rd.pk), aI_of (tP_8 P.rd.pk), aI_of (tP_9 P.rd.pk), aI_of (tP_10 P.rd.pk), aI_of (tP_11 P.rd.pk), aI_of (tP_12 P.rd.pk), aI_of (tP_13 P.rd.pk), aI_of (tP_14 P.rd.pk), aI_of (tP_15 P.rd.pk), P.rd.sc, P.rd.len, P.rd.note, P.rd.min, P.rd.kd, P.rd.gt, P.rd.e1, P.rd.e2, P.rd.i8, P.rd.i9, P.rd.i10, P.rd.i11, P.rd.hd, m_areTwo W M, hx, Bool.toNat_true, f_X13_of, nI_clamp]
    rcases Decidable.em (a 0 13 (7 * p + q) = 0) with e | e
    · simp (disch := omega) only [if_pos, if_neg]
      simp [e]
    · simp (disch := omega) only [if_pos, if_neg]
      simp [e]
theorem qq_lifts {a : AB} (W : IW a) (x y t : Int32) (fo : Bool) : ∃ v z, z ≤ 6 ∧ z ≠ 4 ∧ QC a (fun h => f_X11_lifts h 1 x y t (nI fo.toNat)) v z ∧ QM a (fun h => f_X13_lifts h 55 x y t (nI fo.toNat)) v z := by
  have := W.rw.tu
  have := W.rw.ro
  have hr := W.nf.rn
  rcases hx : ir (a 0) x y with _ | _
  · have hn := ir_neg W.rw hx
    refine ⟨-nI 1, 1, by decide, by decide, fun h C => ?_, fun h M0 => ?_⟩
    · unfold f_X11_lifts f_X11_lifts_21
      simp only [ob, nI_lit, nI_add, pk_mul, nI_eq, nI_ltI, nI_leI, if_true, if_false, if_pos, if_neg, ck_of (tS_1 C.ct.sh), gR_of (tS_1 C.ct.sh), gI_of (tS_1 C.ct.sh), pI_of (tS_1 C.ct.sh), C.ct.rp, rS_1_2 C.ct.sh, rS_1_3 C.ct.sh, rS_1_4 C.ct.sh, rS_1_5 C.ct.sh, rS_1_6 C.ct.sh, rS_1_7 C.ct.sh, rS_1_8 C.ct.sh, rS_1_9 C.ct.sh, ck_of (tR C.ct.rd.rd), gR_of (tR C.ct.rd.rd), gI_of (tR C.ct.rd.rd), rR_9 C.ct.rd.rd, rR_10 C.ct.rd.rd, rR_11 C.ct.rd.rd, rR_12 C.ct.rd.rd, rR_13 C.ct.rd.rd, rR_14 C.ct.rd.rd, rR_15 C.ct.rd.rd, rR_16 C.ct.rd.rd, rR_17 C.ct.rd.rd, rR_18 C.ct.rd.rd, rR_19 C.ct.rd.rd, aI_of (tR_1 C.ct.rd.rd), aI_of (tR_2 C.ct.rd.rd), aI_of (tR_3 C.ct.rd.rd), aI_of (tR_4 C.ct.rd.rd), aI_of (tR_5 C.ct.rd.rd), aI_of (tR_6 C.ct.rd.rd), aI_of (tR_7 C.ct.rd.rd), aI_of (tR_8 C.ct.rd.rd), aI_of (tR_9 C.ct.rd.rd), C.ct.rd.sc, C.ct.rd.len, C.ct.rd.e1, C.ct.rd.e2, C.ct.rd.min, C.ct.rd.kd, C.ct.rd.gt, C.ct.rd.bt, C.ct.rd.ip, C.ct.rd.hd, c_refuse C.ct.sh, c_answer C.ct.sh, c_roadOf W C, hn]
      exact qc_end C _ _
    · unfold f_X13_lifts f_X13_lifts_22
      simp only [ck_of (tS_55 M0.sh), pI_of (tS_55 M0.sh), ob, nI_lit]; obtain ⟨h1, eh, M, F1⟩ : ∃ h1, wI h 55 0 (nI 0) = h1 ∧ IM h1 a ∧ FM h h1 := ⟨_, rfl, M0.th _, FM.w55 h _ (by decide)⟩; rw [eh]
      simp only [ob, nI_lit, nI_add, pk_mul, nI_eq, nI_ltI, nI_leI, if_true, if_false, if_pos, if_neg, ck_of (tS_55 M.sh), gR_of (tS_55 M.sh), gI_of (tS_55 M.sh), pI_of (tS_55 M.sh), rS_55_16 M.sh, rS_55_17 M.sh, rS_55_18 M.sh, rS_55_21 M.sh, rS_55_25 M.sh, rS_55_26 M.sh, rS_55_27 M.sh, rS_55_28 M.sh, rS_55_32 M.sh, rS_55_33 M.sh, rS_55_34 M.sh, m_refused M.sh, m_good M.sh, m_isRoad W M, hx, Bool.toNat_false]
      exact qm_end F1 _ _
  · obtain ⟨p, q, j, hp, hq, hne, rfl, rfl, hj, e, hrb⟩ := ir_t W.rw hx
    rcases ht : ix (a 0 0 1) t with _ | _
    · refine ⟨-nI 1, 1, by decide, by decide, fun h C => ?_, fun h M0 => ?_⟩
      · unfold f_X11_lifts f_X11_lifts_21
        simp (disch := omega) only [ob, nI_lit, nI_add, pk_mul, nI_eq, nI_ltI, nI_leI, if_true, if_false, if_pos, if_neg, ck_of (tS_1 C.ct.sh), gR_of (tS_1 C.ct.sh), gI_of (tS_1 C.ct.sh), pI_of (tS_1 C.ct.sh), C.ct.rp, rS_1_2 C.ct.sh, rS_1_3 C.ct.sh, rS_1_4 C.ct.sh, rS_1_5 C.ct.sh, rS_1_6 C.ct.sh, rS_1_7 C.ct.sh, rS_1_8 C.ct.sh, rS_1_9 C.ct.sh, ck_of (tR C.ct.rd.rd), gR_of (tR C.ct.rd.rd), gI_of (tR C.ct.rd.rd), rR_9 C.ct.rd.rd, rR_10 C.ct.rd.rd, rR_11 C.ct.rd.rd, rR_12 C.ct.rd.rd, rR_13 C.ct.rd.rd, rR_14 C.ct.rd.rd, rR_15 C.ct.rd.rd, rR_16 C.ct.rd.rd, rR_17 C.ct.rd.rd, rR_18 C.ct.rd.rd, rR_19 C.ct.rd.rd, aI_of (tR_1 C.ct.rd.rd), aI_of (tR_2 C.ct.rd.rd), aI_of (tR_3 C.ct.rd.rd), aI_of (tR_4 C.ct.rd.rd), aI_of (tR_5 C.ct.rd.rd), aI_of (tR_6 C.ct.rd.rd), aI_of (tR_7 C.ct.rd.rd), aI_of (tR_8 C.ct.rd.rd), aI_of (tR_9 C.ct.rd.rd), C.ct.rd.sc, C.ct.rd.len, C.ct.rd.e1, C.ct.rd.e2, C.ct.rd.min, C.ct.rd.kd, C.ct.rd.gt, C.ct.rd.bt, C.ct.rd.ip, C.ct.rd.hd, c_refuse C.ct.sh, c_answer C.ct.sh, c_roadOf W C, hrb, c_isTune W C, ht, Bool.toNat_false]
        exact qc_end C _ _
      · unfold f_X13_lifts f_X13_lifts_22
        simp only [ck_of (tS_55 M0.sh), pI_of (tS_55 M0.sh), ob, nI_lit]; obtain ⟨h1, eh, M, F1⟩ : ∃ h1, wI h 55 0 (nI 0) = h1 ∧ IM h1 a ∧ FM h h1 := ⟨_, rfl, M0.th _, FM.w55 h _ (by decide)⟩; rw [eh]
        simp (disch := omega) only [ob, nI_lit, nI_add, pk_mul, nI_eq, nI_ltI, nI_leI, if_true, if_false, if_pos, if_neg, ck_of (tS_55 M.sh), gR_of (tS_55 M.sh), gI_of (tS_55 M.sh), pI_of (tS_55 M.sh), rS_55_16 M.sh, rS_55_17 M.sh, rS_55_18 M.sh, rS_55_21 M.sh, rS_55_25 M.sh, rS_55_26 M.sh, rS_55_27 M.sh, rS_55_28 M.sh, rS_55_32 M.sh, rS_55_33 M.sh, rS_55_34 M.sh, m_refused M.sh, m_good M.sh, m_isRoad W M, hx, Bool.toNat_true, m_isTune W M, ht, Bool.toNat_false]
        exact qm_end F1 _ _
    · obtain ⟨k, hk, rfl⟩ := ix_t ht (by omega)
      have hv : (2 : Nat) ^ (if fo = true then 6 + k else k) < 8192 := by
        have : (2 : Nat) ^ (if fo = true then 6 + k else k) ≤ 2 ^ 12 := two_le (by split <;> omega)
        omega
      have hv0 : (2 : Nat) ^ (if fo = true then 6 + k else k) ≠ 0 := Nat.ne_of_gt (Nat.two_pow_pos _)
      have hop : op (a 0) j (2 ^ (if fo = true then 6 + k else k)) (rb (a 1)) = lq (a 0) p q k fo (rb (a 1)) := by
        unfold op og lq
        have ek : qk (a 0) p q = a 0 6 j := by unfold qk; rw [e, if_neg (by omega)]; rfl
        have et : qt (a 0) p q = a 0 7 j := by unfold qt; rw [e, if_neg (by omega)]; rfl
        rw [ek, et]
        congr 1
        cases fo
        · rcases hl : lf (a 0) (a 0 6 j) (a 0 7 j) k false (rb (a 1)) with _ | _
          · refine ex_no (fun i hi => ?_)
            simp only [Bool.false_eq_true, if_false, bit_pow]
            rcases Decidable.em (k = i) with e1 | e1
            · subst e1
              simp [hl, show ¬ k = 6 + k by omega]
            · simp [e1, show ¬ k = 6 + i by omega]
          · refine ex_iff.mpr ⟨k, hk, ?_⟩
            simp [bit_pow, hl]
        · rcases hl : lf (a 0) (a 0 6 j) (a 0 7 j) k true (rb (a 1)) with _ | _
          · refine ex_no (fun i hi => ?_)
            simp only [if_true, bit_pow]
            rcases Decidable.em (k = i) with e1 | e1
            · subst e1
              simp [hl, show ¬ 6 + k = k by omega]
            · simp [show ¬ 6 + k = i by omega, show ¬ 6 + k = 6 + i by omega, e1]
          · refine ex_iff.mpr ⟨k, hk, ?_⟩
            simp [bit_pow, hl]
      refine ⟨nI (lq (a 0) p q k fo (rb (a 1))).toNat, 0, by decide, by decide, fun h C => ?_, fun h M0 => ?_⟩
      · unfold f_X11_lifts f_X11_lifts_21 f_X11_lifts_58
        simp (disch := omega) only [ob, nI_lit, nI_add, pk_mul, nI_eq, nI_ltI, nI_leI, if_true, if_false, if_pos, if_neg, ck_of (tS_1 C.ct.sh), gR_of (tS_1 C.ct.sh), gI_of (tS_1 C.ct.sh), pI_of (tS_1 C.ct.sh), C.ct.rp, rS_1_2 C.ct.sh, rS_1_3 C.ct.sh, rS_1_4 C.ct.sh, rS_1_5 C.ct.sh, rS_1_6 C.ct.sh, rS_1_7 C.ct.sh, rS_1_8 C.ct.sh, rS_1_9 C.ct.sh, ck_of (tR C.ct.rd.rd), gR_of (tR C.ct.rd.rd), gI_of (tR C.ct.rd.rd), rR_9 C.ct.rd.rd, rR_10 C.ct.rd.rd, rR_11 C.ct.rd.rd, rR_12 C.ct.rd.rd, rR_13 C.ct.rd.rd, rR_14 C.ct.rd.rd, rR_15 C.ct.rd.rd, rR_16 C.ct.rd.rd, rR_17 C.ct.rd.rd, rR_18 C.ct.rd.rd, rR_19 C.ct.rd.rd, aI_of (tR_1 C.ct.rd.rd), aI_of (tR_2 C.ct.rd.rd), aI_of (tR_3 C.ct.rd.rd), aI_of (tR_4 C.ct.rd.rd), aI_of (tR_5 C.ct.rd.rd), aI_of (tR_6 C.ct.rd.rd), aI_of (tR_7 C.ct.rd.rd), aI_of (tR_8 C.ct.rd.rd), aI_of (tR_9 C.ct.rd.rd), C.ct.rd.sc, C.ct.rd.len, C.ct.rd.e1, C.ct.rd.e2, C.ct.rd.min, C.ct.rd.kd, C.ct.rd.gt, C.ct.rd.bt, C.ct.rd.ip, C.ct.rd.hd, c_refuse C.ct.sh, c_answer C.ct.sh, c_roadOf W C, hrb, c_isTune W C, ht, Bool.toNat_true, h_voice h fo (show k < 6 by omega), c_rains C.ct.sh C.nw hr, c_open W.rw C.ct (rb (a 1)) hj hv hv0, hop, nI_b0]
        cases lq (a 0) p q k fo (rb (a 1))
        · exact qc_end C _ _
        · exact qc_end C _ _
      · unfold f_X13_lifts f_X13_lifts_22 f_X13_lifts_50
        simp only [ck_of (tS_55 M0.sh), pI_of (tS_55 M0.sh), ob, nI_lit]; obtain ⟨h1, eh, M, F1⟩ : ∃ h1, wI h 55 0 (nI 0) = h1 ∧ IM h1 a ∧ FM h h1 := ⟨_, rfl, M0.th _, FM.w55 h _ (by decide)⟩; rw [eh]
        have P := M.told (by omega)
        simp (disch := omega) only [ob, nI_lit, nI_add, pk_mul, nI_eq, nI_ltI, nI_leI, if_true, if_false, if_pos, if_neg, ck_of (tS_55 M.sh), gR_of (tS_55 M.sh), gI_of (tS_55 M.sh), pI_of (tS_55 M.sh), rS_55_16 M.sh, rS_55_17 M.sh, rS_55_18 M.sh, rS_55_21 M.sh, rS_55_25 M.sh, rS_55_26 M.sh, rS_55_27 M.sh, rS_55_28 M.sh, rS_55_32 M.sh, rS_55_33 M.sh, rS_55_34 M.sh, m_refused M.sh, m_good M.sh, m_isRoad W M, hx, Bool.toNat_true, m_isTune W M, ht, m_rains M.sh M.nw hr, m_lifts W.rw P fo (rb (a 1)) hp hq hk, nI_b0]
        cases lq (a 0) p q k fo (rb (a 1))
        · exact qm_end F1 _ _
        · exact qm_end F1 _ _
theorem st_10 : StepOK INV lc_10 := by
  intro sc L i h hL hi hI
  unfold lc_10
  simp only [show (1 : Int32) = nI 1 from rfl, show (2 : Int32) = nI 2 from rfl, show (3 : Int32) = nI 3 from rfl, show (4 : Int32) = nI 4 from rfl, show (5 : Int32) = nI 5 from rfl, nI_add, sc_at hL (show i + 1 < L by omega), sc_at hL (show i + 2 < L by omega), sc_at hL (show i + 3 < L by omega), sc_at hL (show i + 4 < L by omega), sc_at hL (show i + 5 < L by omega), ob]
  rcases Decidable.em (sc (i + 4) = 0) with e | e
  · simp only [e, if_true]
    exact q2 (f := fun h => f_X11_lifts h 1 (sc (i + 1)) (sc (i + 2)) (sc (i + 3)) (nI false.toNat)) (g := fun h => f_X13_lifts h 55 (sc (i + 1)) (sc (i + 2)) (sc (i + 3)) (nI false.toNat)) hI (fun a W => qq_lifts W _ _ _ _)
  · simp only [e, if_false]
    exact q2 (f := fun h => f_X11_lifts h 1 (sc (i + 1)) (sc (i + 2)) (sc (i + 3)) (nI true.toNat)) (g := fun h => f_X13_lifts h 55 (sc (i + 1)) (sc (i + 2)) (sc (i + 3)) (nI true.toNat)) hI (fun a W => qq_lifts W _ _ _ _)
theorem qq_passes {a : AB} (W : IW a) (x y t : Int32) : ∃ v z, z ≤ 6 ∧ z ≠ 4 ∧ QC a (fun h => f_X11_passes h 1 x y t) v z ∧ QM a (fun h => f_X13_passes h 55 x y t) v z := by
  have := W.rw.pe
  have := W.rw.ro
  have hr := W.nf.rn
  rcases hp : ix (a 0 0 6) x with _ | _
  · refine ⟨-nI 1, 1, by decide, by decide, fun h C => ?_, fun h M0 => ?_⟩
    · unfold f_X11_passes f_X11_passes_21
      simp only [ob, nI_lit, nI_add, pk_mul, nI_eq, nI_ltI, nI_leI, if_true, if_false, if_pos, if_neg, ck_of (tS_1 C.ct.sh), gR_of (tS_1 C.ct.sh), gI_of (tS_1 C.ct.sh), pI_of (tS_1 C.ct.sh), C.ct.rp, rS_1_2 C.ct.sh, rS_1_3 C.ct.sh, rS_1_4 C.ct.sh, rS_1_5 C.ct.sh, rS_1_6 C.ct.sh, rS_1_7 C.ct.sh, rS_1_8 C.ct.sh, rS_1_9 C.ct.sh, ck_of (tR C.ct.rd.rd), gR_of (tR C.ct.rd.rd), gI_of (tR C.ct.rd.rd), rR_9 C.ct.rd.rd, rR_10 C.ct.rd.rd, rR_11 C.ct.rd.rd, rR_12 C.ct.rd.rd, rR_13 C.ct.rd.rd, rR_14 C.ct.rd.rd, rR_15 C.ct.rd.rd, rR_16 C.ct.rd.rd, rR_17 C.ct.rd.rd, rR_18 C.ct.rd.rd, rR_19 C.ct.rd.rd, aI_of (tR_1 C.ct.rd.rd), aI_of (tR_2 C.ct.rd.rd), aI_of (tR_3 C.ct.rd.rd), aI_of (tR_4 C.ct.rd.rd), aI_of (tR_5 C.ct.rd.rd), aI_of (tR_6 C.ct.rd.rd), aI_of (tR_7 C.ct.rd.rd), aI_of (tR_8 C.ct.rd.rd), aI_of (tR_9 C.ct.rd.rd), C.ct.rd.sc, C.ct.rd.len, C.ct.rd.e1, C.ct.rd.e2, C.ct.rd.min, C.ct.rd.kd, C.ct.rd.gt, C.ct.rd.bt, C.ct.rd.ip, C.ct.rd.hd, c_refuse C.ct.sh, c_answer C.ct.sh, c_roadOf W C, c_isPerson W C, hp, Bool.toNat_false]
      split
      · exact qc_end C _ _
      · exact qc_end C _ _
    · unfold f_X13_passes f_X13_passes_22
      simp only [ck_of (tS_55 M0.sh), pI_of (tS_55 M0.sh), ob, nI_lit]; obtain ⟨h1, eh, M, F1⟩ : ∃ h1, wI h 55 0 (nI 0) = h1 ∧ IM h1 a ∧ FM h h1 := ⟨_, rfl, M0.th _, FM.w55 h _ (by decide)⟩; rw [eh]
      simp only [ob, nI_lit, nI_add, pk_mul, nI_eq, nI_ltI, nI_leI, if_true, if_false, if_pos, if_neg, ck_of (tS_55 M.sh), gR_of (tS_55 M.sh), gI_of (tS_55 M.sh), pI_of (tS_55 M.sh), rS_55_16 M.sh, rS_55_17 M.sh, rS_55_18 M.sh, rS_55_21 M.sh, rS_55_25 M.sh, rS_55_26 M.sh, rS_55_27 M.sh, rS_55_28 M.sh, rS_55_32 M.sh, rS_55_33 M.sh, rS_55_34 M.sh, m_refused M.sh, m_good M.sh, m_isPerson W M, hp, Bool.toNat_false]
      exact qm_end F1 _ _
  · rcases hx : ir (a 0) y t with _ | _
    · have hn := ir_neg W.rw hx
      refine ⟨-nI 1, 1, by decide, by decide, fun h C => ?_, fun h M0 => ?_⟩
      · unfold f_X11_passes f_X11_passes_21
        simp only [ob, nI_lit, nI_add, pk_mul, nI_eq, nI_ltI, nI_leI, if_true, if_false, if_pos, if_neg, ck_of (tS_1 C.ct.sh), gR_of (tS_1 C.ct.sh), gI_of (tS_1 C.ct.sh), pI_of (tS_1 C.ct.sh), C.ct.rp, rS_1_2 C.ct.sh, rS_1_3 C.ct.sh, rS_1_4 C.ct.sh, rS_1_5 C.ct.sh, rS_1_6 C.ct.sh, rS_1_7 C.ct.sh, rS_1_8 C.ct.sh, rS_1_9 C.ct.sh, ck_of (tR C.ct.rd.rd), gR_of (tR C.ct.rd.rd), gI_of (tR C.ct.rd.rd), rR_9 C.ct.rd.rd, rR_10 C.ct.rd.rd, rR_11 C.ct.rd.rd, rR_12 C.ct.rd.rd, rR_13 C.ct.rd.rd, rR_14 C.ct.rd.rd, rR_15 C.ct.rd.rd, rR_16 C.ct.rd.rd, rR_17 C.ct.rd.rd, rR_18 C.ct.rd.rd, rR_19 C.ct.rd.rd, aI_of (tR_1 C.ct.rd.rd), aI_of (tR_2 C.ct.rd.rd), aI_of (tR_3 C.ct.rd.rd), aI_of (tR_4 C.ct.rd.rd), aI_of (tR_5 C.ct.rd.rd), aI_of (tR_6 C.ct.rd.rd), aI_of (tR_7 C.ct.rd.rd), aI_of (tR_8 C.ct.rd.rd), aI_of (tR_9 C.ct.rd.rd), C.ct.rd.sc, C.ct.rd.len, C.ct.rd.e1, C.ct.rd.e2, C.ct.rd.min, C.ct.rd.kd, C.ct.rd.gt, C.ct.rd.bt, C.ct.rd.ip, C.ct.rd.hd, c_refuse C.ct.sh, c_answer C.ct.sh, c_roadOf W C, hn]
        exact qc_end C _ _
      · unfold f_X13_passes f_X13_passes_22
        simp only [ck_of (tS_55 M0.sh), pI_of (tS_55 M0.sh), ob, nI_lit]; obtain ⟨h1, eh, M, F1⟩ : ∃ h1, wI h 55 0 (nI 0) = h1 ∧ IM h1 a ∧ FM h h1 := ⟨_, rfl, M0.th _, FM.w55 h _ (by decide)⟩; rw [eh]
        simp (disch := omega) only [ob, nI_lit, nI_add, pk_mul, nI_eq, nI_ltI, nI_leI, if_true, if_false, if_pos, if_neg, ck_of (tS_55 M.sh), gR_of (tS_55 M.sh), gI_of (tS_55 M.sh), pI_of (tS_55 M.sh), rS_55_16 M.sh, rS_55_17 M.sh, rS_55_18 M.sh, rS_55_21 M.sh, rS_55_25 M.sh, rS_55_26 M.sh, rS_55_27 M.sh, rS_55_28 M.sh, rS_55_32 M.sh, rS_55_33 M.sh, rS_55_34 M.sh, m_refused M.sh, m_good M.sh, m_isPerson W M, hp, Bool.toNat_true, m_isRoad W M, hx, Bool.toNat_false]
        exact qm_end F1 _ _
    · obtain ⟨p, q, j, hp1, hq, hne, rfl, rfl, hj, e, hrb⟩ := ir_t W.rw hx
      obtain ⟨k, hk, rfl⟩ := ix_t hp (by omega)
      have h2 := W.nf.kn k hk
      have h3 := W.nf.fg k hk
      have hop : pq (a 0) p q (vo (a 1 2 k) (a 1 3 k)) (rb (a 1)) = op (a 0) j (vo (a 1 2 k) (a 1 3 k)) (rb (a 1)) := by
        unfold pq
        rw [e]
        simp
      refine ⟨nI (op (a 0) j (vo (a 1 2 k) (a 1 3 k)) (rb (a 1))).toNat, 0, by decide, by decide, fun h C => ?_, fun h M0 => ?_⟩
      · unfold f_X11_passes f_X11_passes_21 f_X11_passes_60
        simp (disch := omega) only [ob, nI_lit, nI_add, pk_mul, nI_eq, nI_ltI, nI_leI, if_true, if_false, if_pos, if_neg, ck_of (tS_1 C.ct.sh), gR_of (tS_1 C.ct.sh), gI_of (tS_1 C.ct.sh), pI_of (tS_1 C.ct.sh), C.ct.rp, rS_1_2 C.ct.sh, rS_1_3 C.ct.sh, rS_1_4 C.ct.sh, rS_1_5 C.ct.sh, rS_1_6 C.ct.sh, rS_1_7 C.ct.sh, rS_1_8 C.ct.sh, rS_1_9 C.ct.sh, ck_of (tR C.ct.rd.rd), gR_of (tR C.ct.rd.rd), gI_of (tR C.ct.rd.rd), rR_9 C.ct.rd.rd, rR_10 C.ct.rd.rd, rR_11 C.ct.rd.rd, rR_12 C.ct.rd.rd, rR_13 C.ct.rd.rd, rR_14 C.ct.rd.rd, rR_15 C.ct.rd.rd, rR_16 C.ct.rd.rd, rR_17 C.ct.rd.rd, rR_18 C.ct.rd.rd, rR_19 C.ct.rd.rd, aI_of (tR_1 C.ct.rd.rd), aI_of (tR_2 C.ct.rd.rd), aI_of (tR_3 C.ct.rd.rd), aI_of (tR_4 C.ct.rd.rd), aI_of (tR_5 C.ct.rd.rd), aI_of (tR_6 C.ct.rd.rd), aI_of (tR_7 C.ct.rd.rd), aI_of (tR_8 C.ct.rd.rd), aI_of (tR_9 C.ct.rd.rd), C.ct.rd.sc, C.ct.rd.len, C.ct.rd.e1, C.ct.rd.e2, C.ct.rd.min, C.ct.rd.kd, C.ct.rd.gt, C.ct.rd.bt, C.ct.rd.ip, C.ct.rd.hd, c_refuse C.ct.sh, c_answer C.ct.sh, c_roadOf W C, hrb, c_isPerson W C, hp, Bool.toNat_true, c_voices C.ct.sh C.nw (show k < 4 by omega) h2 h3, c_rains C.ct.sh C.nw hr, c_open W.rw C.ct (rb (a 1)) hj (vo_lt h2 h3) (vo_ne _ _), nI_b0]
        cases op (a 0) j (vo (a 1 2 k) (a 1 3 k)) (rb (a 1))
        · exact qc_end C _ _
        · exact qc_end C _ _
      · unfold f_X13_passes f_X13_passes_22 f_X13_passes_65
        simp only [ck_of (tS_55 M0.sh), pI_of (tS_55 M0.sh), ob, nI_lit]; obtain ⟨h1, eh, M, F1⟩ : ∃ h1, wI h 55 0 (nI 0) = h1 ∧ IM h1 a ∧ FM h h1 := ⟨_, rfl, M0.th _, FM.w55 h _ (by decide)⟩; rw [eh]
        have P := M.told (by omega)
        have n2 := M.nw.at k 2 (by omega) (by decide)
        have n3 := M.nw.at k 3 (by omega) (by decide)
        simp only [Nat.reduceMul] at n2 n3
        simp (disch := omega) only [ob, nI_lit, nI_add, pk_mul, nI_eq, nI_ltI, nI_leI, if_true, if_false, if_pos, if_neg, ck_of (tS_55 M.sh), gR_of (tS_55 M.sh), gI_of (tS_55 M.sh), pI_of (tS_55 M.sh), rS_55_16 M.sh, rS_55_17 M.sh, rS_55_18 M.sh, rS_55_21 M.sh, rS_55_25 M.sh, rS_55_26 M.sh, rS_55_27 M.sh, rS_55_28 M.sh, rS_55_32 M.sh, rS_55_33 M.sh, rS_55_34 M.sh, m_refused M.sh, m_good M.sh, m_isPerson W M, hp, Bool.toNat_true, m_isRoad W M, hx, aI_of (tS_57 M.sh), n2, n3, m_rains M.sh M.nw hr, m_passes W.rw P (rb (a 1)) hp1 hq h2 h3, hop, nI_b0]
        cases op (a 0) j (vo (a 1 2 k) (a 1 3 k)) (rb (a 1))
        · exact qm_end F1 _ _
        · exact qm_end F1 _ _
theorem st_11 : StepOK INV lc_11 := by
  intro sc L i h hL hi hI
  unfold lc_11
  simp only [show (1 : Int32) = nI 1 from rfl, show (2 : Int32) = nI 2 from rfl, show (3 : Int32) = nI 3 from rfl, show (4 : Int32) = nI 4 from rfl, show (5 : Int32) = nI 5 from rfl, nI_add, sc_at hL (show i + 1 < L by omega), sc_at hL (show i + 2 < L by omega), sc_at hL (show i + 3 < L by omega), sc_at hL (show i + 4 < L by omega), sc_at hL (show i + 5 < L by omega), ob]
  exact q2 (f := fun h => f_X11_passes h 1 (sc (i + 1)) (sc (i + 2)) (sc (i + 3))) (g := fun h => f_X13_passes h 55 (sc (i + 1)) (sc (i + 2)) (sc (i + 3))) hI (fun a W => qq_passes W _ _ _)
