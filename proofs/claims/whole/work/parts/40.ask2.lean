/-! ===== sung, road, gate, inn, person ===== -/
theorem qq_sung {a : AB} (W : IW a) (x y : Int32) (fo : Bool) : ∃ v z, z ≤ 6 ∧ z ≠ 4 ∧ QC a (fun h => f_X11_sung h 1 x y (nI fo.toNat)) v z ∧ QM a (fun h => f_X13_sung h 55 x y (nI fo.toNat)) v z := by
  have := W.rw.tu
  have hr := W.nf.rn
  rcases hx : ix (a 0 0 1) x with _ | _
  · refine ⟨-nI 1, 1, by decide, by decide, fun h C => ?_, fun h M0 => ?_⟩
    · simp only [f_X11_sung, f_X11_sung_25, ob, nI_lit, nI_add, pk_mul, nI_eq, nI_ltI, nI_leI, if_true, if_false, if_pos, if_neg, ck_of (tS_1 C.ct.sh), gR_of (tS_1 C.ct.sh), gI_of (tS_1 C.ct.sh), pI_of (tS_1 C.ct.sh), C.ct.rp, rS_1_2 C.ct.sh, rS_1_3 C.ct.sh, rS_1_4 C.ct.sh, rS_1_5 C.ct.sh, rS_1_6 C.ct.sh, rS_1_7 C.ct.sh, rS_1_8 C.ct.sh, rS_1_9 C.ct.sh, ck_of (tR C.ct.rd.rd), gR_of (tR C.ct.rd.rd), gI_of (tR C.ct.rd.rd), rR_9 C.ct.rd.rd, rR_10 C.ct.rd.rd, rR_11 C.ct.rd.rd, rR_12 C.ct.rd.rd, rR_13 C.ct.rd.rd, rR_14 C.ct.rd.rd, rR_15 C.ct.rd.rd, rR_16 C.ct.rd.rd, rR_17 C.ct.rd.rd, rR_18 C.ct.rd.rd, rR_19 C.ct.rd.rd, aI_of (tR_1 C.ct.rd.rd), aI_of (tR_2 C.ct.rd.rd), aI_of (tR_3 C.ct.rd.rd), aI_of (tR_4 C.ct.rd.rd), aI_of (tR_5 C.ct.rd.rd), aI_of (tR_6 C.ct.rd.rd), aI_of (tR_7 C.ct.rd.rd), aI_of (tR_8 C.ct.rd.rd), aI_of (tR_9 C.ct.rd.rd), C.ct.rd.sc, C.ct.rd.len, C.ct.rd.e1, C.ct.rd.e2, C.ct.rd.min, C.ct.rd.kd, C.ct.rd.gt, C.ct.rd.bt, C.ct.rd.ip, C.ct.rd.hd, c_refuse C.ct.sh, c_answer C.ct.sh, c_isTune W C, hx, Bool.toNat_false]
      exact qc_end C _ _
    · unfold f_X13_sung f_X13_sung_48
      simp only [ck_of (tS_55 M0.sh), pI_of (tS_55 M0.sh), ob, nI_lit]; obtain ⟨h1, eh, M, F1⟩ : ∃ h1, wI h 55 0 (nI 0) = h1 ∧ IM h1 a ∧ FM h h1 := ⟨_, rfl, M0.th _, FM.w55 h _ (by decide)⟩; rw [eh]
      simp only [ob, nI_lit, nI_add, pk_mul, nI_eq, nI_ltI, nI_leI, if_true, if_false, if_pos, if_neg, ck_of (tS_55 M.sh), gR_of (tS_55 M.sh), gI_of (tS_55 M.sh), pI_of (tS_55 M.sh), rS_55_16 M.sh, rS_55_17 M.sh, rS_55_18 M.sh, rS_55_21 M.sh, rS_55_25 M.sh, rS_55_26 M.sh, rS_55_27 M.sh, rS_55_28 M.sh, rS_55_32 M.sh, rS_55_33 M.sh, rS_55_34 M.sh, m_refused M.sh, m_good M.sh, m_isTune W M, hx, Bool.toNat_false]
      exact qm_end F1 _ _
  · obtain ⟨t, ht, rfl⟩ := ix_t hx (by omega)
    have hl := W.rw.len t ht
    have ti := told_of W (i := 0) (j := 1) (by omega)
    rcases pk_ix y (n := a 0 1 t) (by omega) with q | q | ⟨i, hi, rfl⟩
    · refine ⟨-nI 1, 1, by decide, by decide, fun h C => ?_, fun h M0 => ?_⟩
      · unfold f_X11_sung f_X11_sung_25
        simp (disch := omega) only [ob, nI_lit, nI_add, pk_mul, nI_eq, nI_ltI, nI_leI, if_true, if_false, if_pos, if_neg, ck_of (tS_1 C.ct.sh), gR_of (tS_1 C.ct.sh), gI_of (tS_1 C.ct.sh), pI_of (tS_1 C.ct.sh), C.ct.rp, rS_1_2 C.ct.sh, rS_1_3 C.ct.sh, rS_1_4 C.ct.sh, rS_1_5 C.ct.sh, rS_1_6 C.ct.sh, rS_1_7 C.ct.sh, rS_1_8 C.ct.sh, rS_1_9 C.ct.sh, ck_of (tR C.ct.rd.rd), gR_of (tR C.ct.rd.rd), gI_of (tR C.ct.rd.rd), rR_9 C.ct.rd.rd, rR_10 C.ct.rd.rd, rR_11 C.ct.rd.rd, rR_12 C.ct.rd.rd, rR_13 C.ct.rd.rd, rR_14 C.ct.rd.rd, rR_15 C.ct.rd.rd, rR_16 C.ct.rd.rd, rR_17 C.ct.rd.rd, rR_18 C.ct.rd.rd, rR_19 C.ct.rd.rd, aI_of (tR_1 C.ct.rd.rd), aI_of (tR_2 C.ct.rd.rd), aI_of (tR_3 C.ct.rd.rd), aI_of (tR_4 C.ct.rd.rd), aI_of (tR_5 C.ct.rd.rd), aI_of (tR_6 C.ct.rd.rd), aI_of (tR_7 C.ct.rd.rd), aI_of (tR_8 C.ct.rd.rd), aI_of (tR_9 C.ct.rd.rd), C.ct.rd.sc, C.ct.rd.len, C.ct.rd.e1, C.ct.rd.e2, C.ct.rd.min, C.ct.rd.kd, C.ct.rd.gt, C.ct.rd.bt, C.ct.rd.ip, C.ct.rd.hd, c_refuse C.ct.sh, c_answer C.ct.sh, c_isTune W C, hx, Bool.toNat_true]
        simp only [show y < nI 0 from q, if_true]
        exact qc_end C _ _
      · unfold f_X13_sung f_X13_sung_48
        simp only [ck_of (tS_55 M0.sh), pI_of (tS_55 M0.sh), ob, nI_lit]; obtain ⟨h1, eh, M, F1⟩ : ∃ h1, wI h 55 0 (nI 0) = h1 ∧ IM h1 a ∧ FM h h1 := ⟨_, rfl, M0.th _, FM.w55 h _ (by decide)⟩; rw [eh]
        simp (disch := omega) only [ob, nI_lit, nI_add, pk_mul, nI_eq, nI_ltI, nI_leI, if_true, if_false, if_pos, if_neg, ck_of (tS_55 M.sh), gR_of (tS_55 M.sh), gI_of (tS_55 M.sh), pI_of (tS_55 M.sh), rS_55_16 M.sh, rS_55_17 M.sh, rS_55_18 M.sh, rS_55_21 M.sh, rS_55_25 M.sh, rS_55_26 M.sh, rS_55_27 M.sh, rS_55_28 M.sh, rS_55_32 M.sh, rS_55_33 M.sh, rS_55_34 M.sh, m_refused M.sh, m_good M.sh, m_isTune W M, hx, Bool.toNat_true]
        simp only [show y < nI 0 from q, if_true]
        exact qm_end F1 _ _
    · have q1 : ¬ y < nI 0 := fun e => by
        have h1 := Int32.lt_iff_toInt_lt.mp e
        have h2 := Int32.le_iff_toInt_le.mp q
        rw [nI_toInt (by omega)] at h1 h2
        omega
      have q2 : ¬ y < nI (a 0 1 t) := fun e => by
        have h1 := Int32.lt_iff_toInt_lt.mp e
        have h2 := Int32.le_iff_toInt_le.mp q
        omega
      refine ⟨-nI 1, 1, by decide, by decide, fun h C => ?_, fun h M0 => ?_⟩
      · unfold f_X11_sung f_X11_sung_25
        simp (disch := omega) only [ob, nI_lit, nI_add, pk_mul, nI_eq, nI_ltI, nI_leI, if_true, if_false, if_pos, if_neg, ck_of (tS_1 C.ct.sh), gR_of (tS_1 C.ct.sh), gI_of (tS_1 C.ct.sh), pI_of (tS_1 C.ct.sh), C.ct.rp, rS_1_2 C.ct.sh, rS_1_3 C.ct.sh, rS_1_4 C.ct.sh, rS_1_5 C.ct.sh, rS_1_6 C.ct.sh, rS_1_7 C.ct.sh, rS_1_8 C.ct.sh, rS_1_9 C.ct.sh, ck_of (tR C.ct.rd.rd), gR_of (tR C.ct.rd.rd), gI_of (tR C.ct.rd.rd), rR_9 C.ct.rd.rd, rR_10 C.ct.rd.rd, rR_11 C.ct.rd.rd, rR_12 C.ct.rd.rd, rR_13 C.ct.rd.rd, rR_14 C.ct.rd.rd, rR_15 C.ct.rd.rd, rR_16 C.ct.rd.rd, rR_17 C.ct.rd.rd, rR_18 C.ct.rd.rd, rR_19 C.ct.rd.rd, aI_of (tR_1 C.ct.rd.rd), aI_of (tR_2 C.ct.rd.rd), aI_of (tR_3 C.ct.rd.rd), aI_of (tR_4 C.ct.rd.rd), aI_of (tR_5 C.ct.rd.rd), aI_of (tR_6 C.ct.rd.rd), aI_of (tR_7 C.ct.rd.rd), aI_of (tR_8 C.ct.rd.rd), aI_of (tR_9 C.ct.rd.rd), C.ct.rd.sc, C.ct.rd.len, C.ct.rd.e1, C.ct.rd.e2, C.ct.rd.min, C.ct.rd.kd, C.ct.rd.gt, C.ct.rd.bt, C.ct.rd.ip, C.ct.rd.hd, c_refuse C.ct.sh, c_answer C.ct.sh, c_isTune W C, hx, Bool.toNat_true]
        try simp only [q1, q2, if_false]
        exact qc_end C _ _
      · unfold f_X13_sung f_X13_sung_48
        simp only [ck_of (tS_55 M0.sh), pI_of (tS_55 M0.sh), ob, nI_lit]; obtain ⟨h1, eh, M, F1⟩ : ∃ h1, wI h 55 0 (nI 0) = h1 ∧ IM h1 a ∧ FM h h1 := ⟨_, rfl, M0.th _, FM.w55 h _ (by decide)⟩; rw [eh]
        have P := M.told ti
        simp (disch := omega) only [ob, nI_lit, nI_add, pk_mul, nI_eq, nI_ltI, nI_leI, if_true, if_false, if_pos, if_neg, ck_of (tS_55 M.sh), gR_of (tS_55 M.sh), gI_of (tS_55 M.sh), pI_of (tS_55 M.sh), rS_55_16 M.sh, rS_55_17 M.sh, rS_55_18 M.sh, rS_55_21 M.sh, rS_55_25 M.sh, rS_55_26 M.sh, rS_55_27 M.sh, rS_55_28 M.sh, rS_55_32 M.sh, rS_55_33 M.sh, rS_55_34 M.sh, m_refused M.sh, m_good M.sh, P.pp, ck_of (tP P.rd.pk), gR_of (tP P.rd.pk), gI_of (tP P.rd.pk), rP_10 P.rd.pk, rP_11 P.rd.pk, rP_12 P.rd.pk, rP_13 P.rd.pk, rP_14 P.rd.pk, rP_15 P.rd.pk, rP_16 P.rd.pk, rP_17 P.rd.pk, rP_18 P.rd.pk, rP_19 P.rd.pk, rP_20 P.rd.pk, rP_21 P.rd.pk, rP_22 P.rd.pk, rP_23 P.rd.pk, rP_24 P.rd.pk, aI_of (tP_1 P.rd.pk), aI_of (tP_2 P.rd.pk), aI_of (tP_3 P.rd.pk), aI_of (tP_4 P.rd.pk), aI_of (tP_5 P.rd.pk), aI_of (tP_6 P.rd.pk), aI_of (tP_7 P.rd.pk), aI_of (tP_8 P.rd.pk), aI_of (tP_9 P.rd.pk), aI_of (tP_10 P.rd.pk), aI_of (tP_11 P.rd.pk), aI_of (tP_12 P.rd.pk), aI_of (tP_13 P.rd.pk), aI_of (tP_14 P.rd.pk), aI_of (tP_15 P.rd.pk), P.rd.sc, P.rd.len, P.rd.note, P.rd.min, P.rd.kd, P.rd.gt, P.rd.e1, P.rd.e2, P.rd.i8, P.rd.i9, P.rd.i10, P.rd.i11, P.rd.hd, m_isTune W M, hx, Bool.toNat_true]
        try simp only [q1, q, if_false, if_true]
        exact qm_end F1 _ _
    · refine ⟨nI (sg (a 0) t i fo (rb (a 1))), 0, by decide, by decide, fun h C => ?_, fun h M0 => ?_⟩
      · unfold f_X11_sung f_X11_sung_25
        simp (disch := omega) only [ob, nI_lit, nI_add, pk_mul, nI_eq, nI_ltI, nI_leI, if_true, if_false, if_pos, if_neg, ck_of (tS_1 C.ct.sh), gR_of (tS_1 C.ct.sh), gI_of (tS_1 C.ct.sh), pI_of (tS_1 C.ct.sh), C.ct.rp, rS_1_2 C.ct.sh, rS_1_3 C.ct.sh, rS_1_4 C.ct.sh, rS_1_5 C.ct.sh, rS_1_6 C.ct.sh, rS_1_7 C.ct.sh, rS_1_8 C.ct.sh, rS_1_9 C.ct.sh, ck_of (tR C.ct.rd.rd), gR_of (tR C.ct.rd.rd), gI_of (tR C.ct.rd.rd), rR_9 C.ct.rd.rd, rR_10 C.ct.rd.rd, rR_11 C.ct.rd.rd, rR_12 C.ct.rd.rd, rR_13 C.ct.rd.rd, rR_14 C.ct.rd.rd, rR_15 C.ct.rd.rd, rR_16 C.ct.rd.rd, rR_17 C.ct.rd.rd, rR_18 C.ct.rd.rd, rR_19 C.ct.rd.rd, aI_of (tR_1 C.ct.rd.rd), aI_of (tR_2 C.ct.rd.rd), aI_of (tR_3 C.ct.rd.rd), aI_of (tR_4 C.ct.rd.rd), aI_of (tR_5 C.ct.rd.rd), aI_of (tR_6 C.ct.rd.rd), aI_of (tR_7 C.ct.rd.rd), aI_of (tR_8 C.ct.rd.rd), aI_of (tR_9 C.ct.rd.rd), C.ct.rd.sc, C.ct.rd.len, C.ct.rd.e1, C.ct.rd.e2, C.ct.rd.min, C.ct.rd.kd, C.ct.rd.gt, C.ct.rd.bt, C.ct.rd.ip, C.ct.rd.hd, c_refuse C.ct.sh, c_answer C.ct.sh, c_isTune W C, hx, Bool.toNat_true, c_rains C.ct.sh C.nw hr, c_sung W.rw C.ct.rd fo (rb (a 1)) ht hi]
        exact qc_end C _ _
      · unfold f_X13_sung f_X13_sung_48
        simp only [ck_of (tS_55 M0.sh), pI_of (tS_55 M0.sh), ob, nI_lit]; obtain ⟨h1, eh, M, F1⟩ : ∃ h1, wI h 55 0 (nI 0) = h1 ∧ IM h1 a ∧ FM h h1 := ⟨_, rfl, M0.th _, FM.w55 h _ (by decide)⟩; rw [eh]
        have P := M.told ti
        simp (disch := omega) only [ob, nI_lit, nI_add, pk_mul, nI_eq, nI_ltI, nI_leI, if_true, if_false, if_pos, if_neg, ck_of (tS_55 M.sh), gR_of (tS_55 M.sh), gI_of (tS_55 M.sh), pI_of (tS_55 M.sh), rS_55_16 M.sh, rS_55_17 M.sh, rS_55_18 M.sh, rS_55_21 M.sh, rS_55_25 M.sh, rS_55_26 M.sh, rS_55_27 M.sh, rS_55_28 M.sh, rS_55_32 M.sh, rS_55_33 M.sh, rS_55_34 M.sh, m_refused M.sh, m_good M.sh, P.pp, ck_of (tP P.rd.pk), gR_of (tP P.rd.pk), gI_of (tP P.rd.pk), rP_10 P.rd.pk, rP_11 P.rd.pk, rP_12 P.rd.pk, rP_13 P.rd.pk, rP_14 P.rd.pk, rP_15 P.rd.pk, rP_16 P.rd.pk, rP_17 P.rd.pk, rP_18 P.rd.pk, rP_19 P.rd.pk, rP_20 P.rd.pk, rP_21 P.rd.pk, rP_22 P.rd.pk, rP_23 P.rd.pk, rP_24 P.rd.pk, aI_of (tP_1 P.rd.pk), aI_of (tP_2 P.rd.pk), aI_of (tP_3 P.rd.pk), aI_of (tP_4 P.rd.pk), aI_of (tP_5 P.rd.pk), aI_of (tP_6 P.rd.pk), aI_of (tP_7 P.rd.pk), aI_of (tP_8 P.rd.pk), aI_of (tP_9 P.rd.pk), aI_of (tP_10 P.rd.pk), aI_of (tP_11 P.rd.pk), aI_of (tP_12 P.rd.pk), aI_of (tP_13 P.rd.pk), aI_of (tP_14 P.rd.pk), aI_of (tP_15 P.rd.pk), P.rd.sc, P.rd.len, P.rd.note, P.rd.min, P.rd.kd, P.rd.gt, P.rd.e1, P.rd.e2, P.rd.i8, P.rd.i9, P.rd.i10, P.rd.i11, P.rd.hd, m_isTune W M, hx, Bool.toNat_true, m_rains M.sh M.nw hr, m_sung W.rw P fo (rb (a 1)) ht hi]
        exact qm_end F1 _ _
theorem st_5 : StepOK INV lc_5 := by
  intro sc L i h hL hi hI
  unfold lc_5
  simp only [show (1 : Int32) = nI 1 from rfl, show (2 : Int32) = nI 2 from rfl, show (3 : Int32) = nI 3 from rfl, show (4 : Int32) = nI 4 from rfl, show (5 : Int32) = nI 5 from rfl, nI_add, sc_at hL (show i + 1 < L by omega), sc_at hL (show i + 2 < L by omega), sc_at hL (show i + 3 < L by omega), sc_at hL (show i + 4 < L by omega), sc_at hL (show i + 5 < L by omega), ob]
  rcases Decidable.em (sc (i + 3) = 0) with e | e
  · simp only [e, if_true]
    exact q2 (f := fun h => f_X11_sung h 1 (sc (i + 1)) (sc (i + 2)) (nI false.toNat)) (g := fun h => f_X13_sung h 55 (sc (i + 1)) (sc (i + 2)) (nI false.toNat)) hI (fun a W => qq_sung W _ _ _)
  · simp only [e, if_false]
    exact q2 (f := fun h => f_X11_sung h 1 (sc (i + 1)) (sc (i + 2)) (nI true.toNat)) (g := fun h => f_X13_sung h 55 (sc (i + 1)) (sc (i + 2)) (nI true.toNat)) hI (fun a W => qq_sung W _ _ _)
theorem i2_t {n : Nat} {x y : Int32} (h : i2 n x y = true) (hn : n < 2 ^ 31) : ∃ j k, j < n ∧ k < n ∧ j ≠ k ∧ x = nI j ∧ y = nI k := by
  unfold i2 at h
  simp only [Bool.and_eq_true, decide_eq_true_iff] at h
  obtain ⟨⟨h1, h2⟩, h3⟩ := h
  obtain ⟨j, hj, rfl⟩ := ix_t h1 hn
  obtain ⟨k, hk, rfl⟩ := ix_t h2 hn
  exact ⟨j, k, hj, hk, fun e => h3 (by rw [e]), rfl, rfl⟩
theorem c_between {h : Mem} {a : AB} (W : IW a) (C : IC h a) {p q : Nat} (hp : p < a 0 0 2) (hq : q < a 0 0 2) : f_X5_roadBetween h (a 2 0 0) (nI p) (nI q) = some (nI (a 0 13 (7 * p + q)) - nI 1) := by
  have := W.rw.pl
  unfold f_X5_roadBetween
  simp (disch := omega) only [ob, nI_lit, nI_add, pk_mul, nI_eq, nI_ltI, nI_leI, if_true, if_false, if_pos, if_neg, ck_of (tS_1 C.ct.sh), gR_of (tS_1 C.ct.sh), gI_of (tS_1 C.ct.sh), pI_of (tS_1 C.ct.sh), C.ct.rp, rS_1_2 C.ct.sh, rS_1_3 C.ct.sh, rS_1_4 C.ct.sh, rS_1_5 C.ct.sh, rS_1_6 C.ct.sh, rS_1_7 C.ct.sh, rS_1_8 C.ct.sh, rS_1_9 C.ct.sh, ck_of (tR C.ct.rd.rd), gR_of (tR C.ct.rd.rd), gI_of (tR C.ct.rd.rd), rR_9 C.ct.rd.rd, rR_10 C.ct.rd.rd, rR_11 C.ct.rd.rd, rR_12 C.ct.rd.rd, rR_13 C.ct.rd.rd, rR_14 C.ct.rd.rd, rR_15 C.ct.rd.rd, rR_16 C.ct.rd.rd, rR_17 C.ct.rd.rd, rR_18 C.ct.rd.rd, rR_19 C.ct.rd.rd, aI_of (tR_1 C.ct.rd.rd), aI_of (tR_2 C.ct.rd.rd), aI_of (tR_3 C.ct.rd.rd), aI_of (tR_4 C.ct.rd.rd), aI_of (tR_5 C.ct.rd.rd), aI_of (tR_6 C.ct.rd.rd), aI_of (tR_7 C.ct.rd.rd), aI_of (tR_8 C.ct.rd.rd), aI_of (tR_9 C.ct.rd.rd), C.ct.rd.sc, C.ct.rd.len, C.ct.rd.e1, C.ct.rd.e2, C.ct.rd.min, C.ct.rd.kd, C.ct.rd.gt, C.ct.rd.bt, C.ct.rd.ip, C.ct.rd.hd, c_refuse C.ct.sh, c_answer C.ct.sh]
theorem qq_road {a : AB} (W : IW a) (x y : Int32) : ∃ v z, z ≤ 6 ∧ z ≠ 4 ∧ QC a (fun h => f_X11_road h 1 x y) v z ∧ QM a (fun h => f_X13_road h 55 x y) v z := by
  have := W.rw.pl
  have := W.rw.ro
  rcases hx : i2 (a 0 0 2) x y with _ | _
  · refine ⟨-nI 1, 1, by decide, by decide, fun h C => ?_, fun h M0 => ?_⟩
    · simp only [f_X11_road, ob, nI_lit, nI_add, pk_mul, nI_eq, nI_ltI, nI_leI, if_true, if_false, if_pos, if_neg, ck_of (tS_1 C.ct.sh), gR_of (tS_1 C.ct.sh), gI_of (tS_1 C.ct.sh), pI_of (tS_1 C.ct.sh), C.ct.rp, rS_1_2 C.ct.sh, rS_1_3 C.ct.sh, rS_1_4 C.ct.sh, rS_1_5 C.ct.sh, rS_1_6 C.ct.sh, rS_1_7 C.ct.sh, rS_1_8 C.ct.sh, rS_1_9 C.ct.sh, ck_of (tR C.ct.rd.rd), gR_of (tR C.ct.rd.rd), gI_of (tR C.ct.rd.rd), rR_9 C.ct.rd.rd, rR_10 C.ct.rd.rd, rR_11 C.ct.rd.rd, rR_12 C.ct.rd.rd, rR_13 C.ct.rd.rd, rR_14 C.ct.rd.rd, rR_15 C.ct.rd.rd, rR_16 C.ct.rd.rd, rR_17 C.ct.rd.rd, rR_18 C.ct.rd.rd, rR_19 C.ct.rd.rd, aI_of (tR_1 C.ct.rd.rd), aI_of (tR_2 C.ct.rd.rd), aI_of (tR_3 C.ct.rd.rd), aI_of (tR_4 C.ct.rd.rd), aI_of (tR_5 C.ct.rd.rd), aI_of (tR_6 C.ct.rd.rd), aI_of (tR_7 C.ct.rd.rd), aI_of (tR_8 C.ct.rd.rd), aI_of (tR_9 C.ct.rd.rd), C.ct.rd.sc, C.ct.rd.len, C.ct.rd.e1, C.ct.rd.e2, C.ct.rd.min, C.ct.rd.kd, C.ct.rd.gt, C.ct.rd.bt, C.ct.rd.ip, C.ct.rd.hd, c_refuse C.ct.sh, c_answer C.ct.sh, c_areTwoPlaces W C, hx, Bool.toNat_false]
      exact qc_end C _ _
    · unfold f_X13_road
      simp only [ck_of (tS_55 M0.sh), pI_of (tS_55 M0.sh), ob, nI_lit]; obtain ⟨h1, eh, M, F1⟩ : ∃ h1, wI h 55 0 (nI 0) = h1 ∧ IM h1 a ∧ FM h h1 := ⟨_, rfl, M0.th _, FM.w55 h _ (by decide)⟩; rw [eh]
      simp only [ob, nI_lit, nI_add, pk_mul, nI_eq, nI_ltI, nI_leI, if_true, if_false, if_pos, if_neg, ck_of (tS_55 M.sh), gR_of (tS_55 M.sh), gI_of (tS_55 M.sh), pI_of (tS_55 M.sh), rS_55_16 M.sh, rS_55_17 M.sh, rS_55_18 M.sh, rS_55_21 M.sh, rS_55_25 M.sh, rS_55_26 M.sh, rS_55_27 M.sh, rS_55_28 M.sh, rS_55_32 M.sh, rS_55_33 M.sh, rS_55_34 M.sh, m_refused M.sh, m_good M.sh, m_areTwo W M, hx, Bool.toNat_false]
      exact qm_end F1 _ _
  · obtain ⟨p, q, hp, hq, hne, rfl, rfl⟩ := i2_t hx (by omega)
    have hb := b_le W.rw hp hq
    have hm := qm_le W.rw hp hq
    have h0 := qm_0 W.rw hp hq
    refine ⟨if a 0 13 (7 * p + q) = 0 then -nI 2 else nI (qm (a 0) p q), 0, by decide, by decide, fun h C => ?_, fun h M0 => ?_⟩
    · unfold f_X11_road
      simp (disch := omega) only [ob, nI_lit, nI_add, pk_mul, nI_eq, nI_ltI, nI_leI, if_true, if_false, if_pos, if_neg, ck_of (tS_1 C.ct.sh), gR_of (tS_1 C.ct.sh), gI_of (tS_1 C.ct.sh), pI_of (tS_1 C.ct.sh), C.ct.rp, rS_1_2 C.ct.sh, rS_1_3 C.ct.sh, rS_1_4 C.ct.sh, rS_1_5 C.ct.sh, rS_1_6 C.ct.sh, rS_1_7 C.ct.sh, rS_1_8 C.ct.sh, rS_1_9 C.ct.sh, ck_of (tR C.ct.rd.rd), gR_of (tR C.ct.rd.rd), gI_of (tR C.ct.rd.rd), rR_9 C.ct.rd.rd, rR_10 C.ct.rd.rd, rR_11 C.ct.rd.rd, rR_12 C.ct.rd.rd, rR_13 C.ct.rd.rd, rR_14 C.ct.rd.rd, rR_15 C.ct.rd.rd, rR_16 C.ct.rd.rd, rR_17 C.ct.rd.rd, rR_18 C.ct.rd.rd, rR_19 C.ct.rd.rd, aI_of (tR_1 C.ct.rd.rd), aI_of (tR_2 C.ct.rd.rd), aI_of (tR_3 C.ct.rd.rd), aI_of (tR_4 C.ct.rd.rd), aI_of (tR_5 C.ct.rd.rd), aI_of (tR_6 C.ct.rd.rd), aI_of (tR_7 C.ct.rd.rd), aI_of (tR_8 C.ct.rd.rd), aI_of (tR_9 C.ct.rd.rd), C.ct.rd.sc, C.ct.rd.len, C.ct.rd.e1, C.ct.rd.e2, C.ct.rd.min, C.ct.rd.kd, C.ct.rd.gt, C.ct.rd.bt, C.ct.rd.ip, C.ct.rd.hd, c_refuse C.ct.sh, c_answer C.ct.sh, c_areTwoPlaces W C, hx, Bool.toNat_true, c_between W C hp hq, kN_pos, f_X11_road_44]
      rcases Decidable.em (a 0 13 (7 * p + q) = 0) with e | e
      · simp only [e, ob, nI_lit, nI_add, pk_mul, nI_eq, nI_ltI, nI_leI, if_true, if_false, if_pos, if_neg, ne_eq, not_true]
        exact qc_end C _ _
      · simp only [e, ob, nI_lit, nI_add, pk_mul, nI_eq, nI_ltI, nI_leI, if_true, if_false, if_pos, if_neg, ne_eq, not_false_iff]
        simp (disch := omega) only [pk_sub, ck_of (tS_1 C.ct.sh), gR_of (tS_1 C.ct.sh), gI_of (tS_1 C.ct.sh), pI_of (tS_1 C.ct.sh), C.ct.rp, rS_1_2 C.ct.sh, rS_1_3 C.ct.sh, rS_1_4 C.ct.sh, rS_1_5 C.ct.sh, rS_1_6 C.ct.sh, rS_1_7 C.ct.sh, rS_1_8 C.ct.sh, rS_1_9 C.ct.sh, ck_of (tR C.ct.rd.rd), gR_of (tR C.ct.rd.rd), gI_of (tR C.ct.rd.rd), rR_9 C.ct.rd.rd, rR_10 C.ct.rd.rd, rR_11 C.ct.rd.rd, rR_12 C.ct.rd.rd, rR_13 C.ct.rd.rd, rR_14 C.ct.rd.rd, rR_15 C.ct.rd.rd, rR_16 C.ct.rd.rd, rR_17 C.ct.rd.rd, rR_18 C.ct.rd.rd, rR_19 C.ct.rd.rd, aI_of (tR_1 C.ct.rd.rd), aI_of (tR_2 C.ct.rd.rd), aI_of (tR_3 C.ct.rd.rd), aI_of (tR_4 C.ct.rd.rd), aI_of (tR_5 C.ct.rd.rd), aI_of (tR_6 C.ct.rd.rd), aI_of (tR_7 C.ct.rd.rd), aI_of (tR_8 C.ct.rd.rd), aI_of (tR_9 C.ct.rd.rd), C.ct.rd.sc, C.ct.rd.len, C.ct.rd.e1, C.ct.rd.e2, C.ct.rd.min, C.ct.rd.kd, C.ct.rd.gt, C.ct.rd.bt, C.ct.rd.ip, C.ct.rd.hd, c_refuse C.ct.sh, c_answer C.ct.sh, ob, nI_lit, nI_add, pk_mul, nI_eq, nI_ltI, nI_leI, if_true, if_false, if_pos, if_neg]
        rw [show nI (a 0 5 (a 0 13 (7 * p + q) - 1)) = nI (qm (a 0) p q) by rw [qm, if_neg e]]
        exact qc_end C _ _
    · unfold f_X13_road
      simp only [ck_of (tS_55 M0.sh), pI_of (tS_55 M0.sh), ob, nI_lit]; obtain ⟨h1, eh, M, F1⟩ : ∃ h1, wI h 55 0 (nI 0) = h1 ∧ IM h1 a ∧ FM h h1 := ⟨_, rfl, M0.th _, FM.w55 h _ (by decide)⟩; rw [eh]
      have P := M.told (by omega)
      simp (disch := omega) only [ob, nI_lit, nI_add, pk_mul, nI_eq, nI_ltI, nI_leI, if_true, if_false, if_pos, if_neg, ck_of (tS_55 M.sh), gR_of (tS_55 M.sh), gI_of (tS_55 M.sh), pI_of (tS_55 M.sh), rS_55_16 M.sh, rS_55_17 M.sh, rS_55_18 M.sh, rS_55_21 M.sh, rS_55_25 M.sh, rS_55_26 M.sh, rS_55_27 M.sh, rS_55_28 M.sh, rS_55_32 M.sh, rS_55_33 M.sh, rS_55_34 M.sh, m_refused M.sh, m_good M.sh, P.pp, ck_of (tP P.rd.pk), gR_of (tP P.rd.pk), gI_of (tP P.rd.pk), rP_10 P.rd.pk, rP_11 P.rd.pk, rP_12 P.rd.pk, rP_13 P.rd.pk, rP_14 P.rd.pk, rP_15 P.rd.pk, rP_16 P.rd.pk, rP_17 P.rd.pk, rP_18 P.rd.pk, rP_19 P.rd.pk, rP_20 P.rd.pk, rP_21 P.rd.pk, rP_22 P.rd.pk, rP_23 P.rd.pk, rP_24 P.rd.pk, aI_of (tP_1 P.rd.pk), aI_of (tP_2 P.rd.pk), aI_of (tP_3 P.rd.pk), aI_of (tP_4 P.rd.pk), aI_of (tP_5 P.rd.pk), aI_of (tP_6 P.rd.pk), aI_of (tP_7 P.rd.pk), aI_of (tP_8 P.rd.pk), aI_of (tP_9 P.rd.pk), aI_of (tP_10 P.rd.pk), aI_of (tP_11 P.rd.pk), aI_of (tP_12 P.rd.pk), aI_of (tP_13 P.rd.pk), aI_of (tP_14 P.rd.pk), aI_of (tP_15 P.rd.pk), P.rd.sc, P.rd.len, P.rd.note, P.rd.min, P.rd.kd, P.rd.gt, P.rd.e1, P.rd.e2, P.rd.i8, P.rd.i9, P.rd.i10, P.rd.i11, P.rd.hd, m_areTwo W M, hx, Bool.toNat_true, f_X13_of, f_X13_road_44]
      rcases Decidable.em (a 0 13 (7 * p + q) = 0) with e | e
      · simp (disch := omega) only [if_pos, if_neg]
        exact qm_end F1 _ _
      · simp (disch := omega) only [if_pos, if_neg]
        exact qm_end F1 _ _
theorem st_6 : StepOK INV lc_6 := by
  intro sc L i h hL hi hI
  unfold lc_6
  simp only [show (1 : Int32) = nI 1 from rfl, show (2 : Int32) = nI 2 from rfl, show (3 : Int32) = nI 3 from rfl, show (4 : Int32) = nI 4 from rfl, show (5 : Int32) = nI 5 from rfl, nI_add, sc_at hL (show i + 1 < L by omega), sc_at hL (show i + 2 < L by omega), sc_at hL (show i + 3 < L by omega), sc_at hL (show i + 4 < L by omega), sc_at hL (show i + 5 < L by omega), ob]
  exact q2 (f := fun h => f_X11_road h 1 (sc (i + 1)) (sc (i + 2))) (g := fun h => f_X13_road h 55 (sc (i + 1)) (sc (i + 2))) hI (fun a W => qq_road W _ _)
theorem h_in (h : Mem) (x : Int32) (n : Nat) (hn : n + 1 < 2 ^ 31) : f_X13_in h x (nI 0) (nI n) = some (nI (ix (n + 1) x).toNat) := by
  rw [← ix_if]
  unfold f_X13_in f_X13_in_14
  simp only [nI_lit]
  rcases Decidable.em (x < nI 0) with e | e
  · simp [e]
  · simp only [e, if_false]
    have : (nI n < x) = (nI (n + 1) ≤ x) := by
      rw [Int32.lt_iff_toInt_lt, Int32.le_iff_toInt_le, nI_toInt (by omega), nI_toInt (by omega)]
      apply propext
      omega
    simp only [this]
theorem ix_if2 (n : Nat) (x : Int32) {α : Type} (u w : α) : (if x < nI 0 then u else if x < nI n then w else u) = if ix n x = true then w else u := by
  unfold ix
  rcases Decidable.em (x < nI 0) with e | e
  · simp [e]
  · have : (nI n ≤ x) = ¬ (x < nI n) := by
      rw [Int32.lt_iff_toInt_lt, Int32.le_iff_toInt_le]
      apply propext
      omega
    rcases Decidable.em (x < nI n) with e2 | e2 <;> simp [e, e2, this]
theorem ix_f {n : Nat} {x : Int32} (h : ix n x = false) (hn : n < 2 ^ 31) : x < nI 0 ∨ (¬ x < nI 0 ∧ ¬ x < nI n ∧ nI n ≤ x) := by
  unfold ix at h
  rcases Decidable.em (x < nI 0) with e | e
  · exact Or.inl e
  · rcases Decidable.em (nI n ≤ x) with e2 | e2
    · refine Or.inr ⟨e, fun e3 => ?_, e2⟩
      rw [Int32.lt_iff_toInt_lt] at e3
      rw [Int32.le_iff_toInt_le] at e2
      omega
    · simp [e, e2] at h
