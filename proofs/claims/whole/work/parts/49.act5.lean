/-! ===== undo, mark, back ===== -/
def undoA (a : AB) : AB := fun i => if i = 1 then a 10 else if i = 2 then (fun _ k => if k = 3 then a 2 0 3 - 1 else if k = 4 then (a 2 0 4 + 15) % 16 else a 2 0 k) else if 10 ≤ i ∧ i < 29 then a (i + 1) else a i
theorem undoA_2 (a : AB) : ∀ k, k ≠ 3 → k ≠ 4 → k ≠ 5 → undoA a 2 0 k = a 2 0 k := fun k h3 h4 _ => by
  show (if k = 3 then _ else if k = 4 then _ else a 2 0 k) = _
  rw [if_neg h3, if_neg h4]
theorem undoA_23 (a : AB) : undoA a 2 0 3 = a 2 0 3 - 1 := rfl
theorem undoA_24 (a : AB) : undoA a 2 0 4 = (a 2 0 4 + 15) % 16 := rfl
theorem undoA_25 (a : AB) : undoA a 2 0 5 = a 2 0 5 := rfl
theorem undoA_s (a : AB) {j : Nat} (hj : j < 19) : undoA a (10 + j) = a (10 + (j + 1)) := by
  unfold undoA
  rw [if_neg (by omega), if_neg (by omega), if_pos (by omega)]
  rfl
theorem undoA_30 (a : AB) (k : Nat) : undoA a (30 + k) = a (30 + k) := by
  unfold undoA
  rw [if_neg (by omega), if_neg (by omega), if_neg (by omega)]
theorem lo_ne {x : Nat} (hx : 55 ≤ x) : x ∉ [1, 33, 34, 35, 36] := by
  intro hq
  simp only [List.mem_cons, List.not_mem_nil, or_false] at hq
  omega
theorem hi_ne {x : Nat} (hx : x < 55) : x ∉ [55, 57, 58, 59] := by
  intro hq
  simp only [List.mem_cons, List.not_mem_nil, or_false] at hq
  omega
theorem qq_undo {a : AB} (W : IW a) (z : Nat) : ∃ a' v z', IW a' ∧ z' ≤ 6 ∧ AC a z a' z' (fun h => f_X11_undo h 1) v ∧ AM a z a' z' (fun h => f_X13_undo h 55) v := by
  have hac := W.ac
  have hnx := W.nx
  rcases Nat.eq_zero_or_pos (a 2 0 3) with e0 | e0
  · refine ⟨a, nI 0, 6, W, by decide, AC.ofQ W (fun h C => ?_) z, AM.ofQ (fun h M0 => ?_) (by decide) z⟩
    · have e1 := C.ac
      rw [e0] at e1
      unfold f_X11_undo f_X11_undo_17 f_X2_takeBack
      simp (disch := omega) only [ob, nI_lit, nI_add, pk_mul, nI_eq, nI_ltI, nI_leI, if_true, if_false, if_pos, if_neg, ck_of (tS_1 C.ct.sh), gR_of (tS_1 C.ct.sh), gI_of (tS_1 C.ct.sh), pI_of (tS_1 C.ct.sh), C.ct.rp, rS_1_2 C.ct.sh, rS_1_3 C.ct.sh, rS_1_4 C.ct.sh, rS_1_5 C.ct.sh, rS_1_6 C.ct.sh, rS_1_7 C.ct.sh, rS_1_8 C.ct.sh, rS_1_9 C.ct.sh, ck_of (tR C.ct.rd.rd), gR_of (tR C.ct.rd.rd), gI_of (tR C.ct.rd.rd), rR_9 C.ct.rd.rd, rR_10 C.ct.rd.rd, rR_11 C.ct.rd.rd, rR_12 C.ct.rd.rd, rR_13 C.ct.rd.rd, rR_14 C.ct.rd.rd, rR_15 C.ct.rd.rd, rR_16 C.ct.rd.rd, rR_17 C.ct.rd.rd, rR_18 C.ct.rd.rd, rR_19 C.ct.rd.rd, aI_of (tR_1 C.ct.rd.rd), aI_of (tR_2 C.ct.rd.rd), aI_of (tR_3 C.ct.rd.rd), aI_of (tR_4 C.ct.rd.rd), aI_of (tR_5 C.ct.rd.rd), aI_of (tR_6 C.ct.rd.rd), aI_of (tR_7 C.ct.rd.rd), aI_of (tR_8 C.ct.rd.rd), aI_of (tR_9 C.ct.rd.rd), C.ct.rd.sc, C.ct.rd.len, C.ct.rd.e1, C.ct.rd.e2, C.ct.rd.min, C.ct.rd.kd, C.ct.rd.gt, C.ct.rd.bt, C.ct.rd.ip, C.ct.rd.hd, c_refuse C.ct.sh, c_answer C.ct.sh, ck_of (tS_33 C.ct.sh), gI_of (tS_33 C.ct.sh), e1, c_allow1 C.ct.sh (z := 6) (by decide) (by decide), retZ0]
      exact qc_end C _ _
    · unfold f_X13_undo f_X13_undo_19
      simp only [ck_of (tS_55 M0.sh), pI_of (tS_55 M0.sh), ob, nI_lit]; obtain ⟨h1, eh, M, F1⟩ : ∃ h1, wI h 55 0 (nI 0) = h1 ∧ IM h1 a ∧ FM h h1 := ⟨_, rfl, M0.th _, FM.w55 h _ (by decide)⟩; rw [eh]
      have e1 := M.ac
      rw [e0] at e1
      simp (disch := omega) only [ob, nI_lit, nI_add, pk_mul, nI_eq, nI_ltI, nI_leI, if_true, if_false, if_pos, if_neg, ck_of (tS_55 M.sh), gR_of (tS_55 M.sh), gI_of (tS_55 M.sh), pI_of (tS_55 M.sh), rS_55_16 M.sh, rS_55_17 M.sh, rS_55_18 M.sh, rS_55_21 M.sh, rS_55_25 M.sh, rS_55_26 M.sh, rS_55_27 M.sh, rS_55_28 M.sh, rS_55_32 M.sh, rS_55_33 M.sh, rS_55_34 M.sh, m_refused M.sh, m_good M.sh, e1, m_denied M.sh, retZ0]
      split
      · exact qm_end F1 _ _
      · exact qm_end F1 _ _
  · have ti : 0 < a 0 0 2 := by
      rcases Nat.eq_zero_or_pos (a 0 0 2) with q | q
      · have := (W.un q).1
        omega
      · exact q
    have W' : IW (undoA a) := by
      refine W.ch ti rfl (undoA_2 a) rfl (W.al 0 e0) (by rw [undoA_23]; omega) (by rw [undoA_24]; omega) (by rw [undoA_25]; exact W.mk) (fun j hj => ?_) (fun k hk => ?_)
      · rw [undoA_23] at hj
        rw [undoA_s a (by omega)]
        exact W.al _ (by omega)
      · rw [undoA_30]
        exact W.ml k (by rwa [undoA_25] at hk)
    refine ⟨undoA a, nI 1, 0, W', by decide, fun h C _ => ?_, fun h M0 _ _ => ?_⟩
    · have S := C.ct.sh
      have S1 : SH (wI (wI h 33 4 (nI (a 2 0 3 - 1))) 33 3 (nI ((a 2 0 4 + 15) % 16))) := S
      have e35 : mI (wI (wI h 33 4 (nI (a 2 0 3 - 1))) 33 3 (nI ((a 2 0 4 + 15) % 16))) 35 = mI h 35 := by
        rw [mI_wI_ne _ _ _ (by decide), mI_wI_ne _ _ _ (by decide)]
      have e34 : mI (wI (wI h 33 4 (nI (a 2 0 3 - 1))) 33 3 (nI ((a 2 0 4 + 15) % 16))) 34 = mI h 34 := by
        rw [mI_wI_ne _ _ _ (by decide), mI_wI_ne _ _ _ (by decide)]
      have e1 := cpI_of (sp := (a 2 0 4 + 15) % 16 * 21) (dp := 0) (n := 21) (tS_35 S1) (tS_34 S1) (by omega) (by omega) (by decide) (by decide)
      rw [e34, e35] at e1
      have en : nI (a 2 0 4) + nI 16 - nI 1 = nI (a 2 0 4 + 15) := by
        rw [nI_add, pk_sub (by omega)]
        rfl
      have h16 : a 2 0 4 + 16 - 1 = a 2 0 4 + 15 := rfl
      show OK (f_X11_undo h 1) _
      unfold f_X11_undo f_X11_undo_17 f_X2_takeBack
      simp (disch := omega) only [ob, nI_lit, nI_add, pk_mul, nI_eq, nI_ltI, nI_leI, if_true, if_false, if_pos, if_neg, ck_of (tS_1 C.ct.sh), gR_of (tS_1 C.ct.sh), gI_of (tS_1 C.ct.sh), pI_of (tS_1 C.ct.sh), C.ct.rp, rS_1_2 C.ct.sh, rS_1_3 C.ct.sh, rS_1_4 C.ct.sh, rS_1_5 C.ct.sh, rS_1_6 C.ct.sh, rS_1_7 C.ct.sh, rS_1_8 C.ct.sh, rS_1_9 C.ct.sh, ck_of (tR C.ct.rd.rd), gR_of (tR C.ct.rd.rd), gI_of (tR C.ct.rd.rd), rR_9 C.ct.rd.rd, rR_10 C.ct.rd.rd, rR_11 C.ct.rd.rd, rR_12 C.ct.rd.rd, rR_13 C.ct.rd.rd, rR_14 C.ct.rd.rd, rR_15 C.ct.rd.rd, rR_16 C.ct.rd.rd, rR_17 C.ct.rd.rd, rR_18 C.ct.rd.rd, rR_19 C.ct.rd.rd, aI_of (tR_1 C.ct.rd.rd), aI_of (tR_2 C.ct.rd.rd), aI_of (tR_3 C.ct.rd.rd), aI_of (tR_4 C.ct.rd.rd), aI_of (tR_5 C.ct.rd.rd), aI_of (tR_6 C.ct.rd.rd), aI_of (tR_7 C.ct.rd.rd), aI_of (tR_8 C.ct.rd.rd), aI_of (tR_9 C.ct.rd.rd), C.ct.rd.sc, C.ct.rd.len, C.ct.rd.e1, C.ct.rd.e2, C.ct.rd.min, C.ct.rd.kd, C.ct.rd.gt, C.ct.rd.bt, C.ct.rd.ip, C.ct.rd.hd, c_refuse C.ct.sh, c_answer C.ct.sh, ck_of (tS_33 S), gI_of (tS_33 S), C.ac, pk_sub, pI_of (tS_33 S), gI_of (tS_33 (S.wI 33 4 _)), mI_wI_at, pk_un (show (3 : Nat) ≠ 4 by decide), C.nx, h16, irm_of, pI_of (tS_33 (S.wI 33 4 _)), gR_of (tS_33 S1), gI_of (tS_33 S1), pk_us, rS_33_0 S1, rS_33_1 S1, e1, c_allow0 (S1.row 34 _), retZ1]
      have f : FQ [1, 33, 34, 35, 36] h (wI (rowI (wI (wI h 33 4 (nI (a 2 0 3 - 1))) 33 3 (nI ((a 2 0 4 + 15) % 16))) 34 (va_cpy (mI h 35) (mI h 34) ((a 2 0 4 + 15) % 16 * 21) 0 21)) 1 0 (nI 0)) := (((FQ.w _ _ _ (by decide)).tr (FQ.w _ _ _ (by decide))).tr (FQ.row _ _ (by decide))).tr (FQ.w _ _ _ (by decide))
      refine ⟨_, rfl, rfl, f.lo (fun x hx => lo_ne hx), C.ch W f rfl (undoA_2 a) rfl ?_ ?_ ?_ ?_ ?_ ?_, by rw [mI_wI_at, pk_us]⟩
      · show rC (mI _ 34) 0 (a 10)
        rw [mI_wI_ne _ _ _ (by decide), mI_row]
        refine rC_mv (C.ah 0 e0) (fun i hi => ?_)
        rw [pk_cpy_in (by omega) (by omega)]
        congr 1
        omega
      · rw [mI_wI_ne _ _ _ (by decide), mI_row_ne _ _ (by decide), mI_wI_at, pk_un (by decide), mI_wI_at, pk_us]
        try rfl
      · rw [mI_wI_ne _ _ _ (by decide), mI_row_ne _ _ (by decide), mI_wI_at, pk_us]
        try rfl
      · rw [mI_wI_ne _ _ _ (by decide), mI_row_ne _ _ (by decide), mI_wI_at, pk_un (by decide), mI_wI_at, pk_un (by decide)]
        exact C.mk
      · intro j hj
        rw [undoA_23] at hj
        rw [undoA_s a (by omega), undoA_24, mI_wI_ne _ _ _ (by decide), mI_row_ne _ _ (by decide), e35]
        refine rC_mv (C.ah (j + 1) (by omega)) (fun i hi => ?_)
        congr 1
        omega
      · intro k hk
        rw [undoA_30, mI_wI_ne _ _ _ (by decide), mI_row_ne _ _ (by decide), mI_wI_ne _ _ _ (by decide), mI_wI_ne _ _ _ (by decide)]
        exact C.bm k hk
    · show OK (f_X13_undo h 55) _
      unfold f_X13_undo
      simp only [ck_of (tS_55 M0.sh), pI_of (tS_55 M0.sh), ob, nI_lit]; obtain ⟨h1, eh, M, F1⟩ : ∃ h1, wI h 55 0 (nI 0) = h1 ∧ IM h1 a ∧ FM h h1 := ⟨_, rfl, M0.th _, FM.w55 h _ (by decide)⟩; rw [eh]
      have P := M.told ti
      have hz := P.nz
      have S := M.sh
      have S1 : SH (wI h1 55 19 (nI (a 2 0 3 - 1))) := S
      have q : iter (fun (s : Int32 × Mem) => b_X13_undo_38 s.2 55 s.1) FU (nI 0, rowI (wI h1 55 19 (nI (a 2 0 3 - 1))) 57 (mI (wI h1 55 19 (nI (a 2 0 3 - 1))) 57)) = some (rowI (wI h1 55 19 (nI (a 2 0 3 - 1))) 57 (fun j => if 0 ≤ j ∧ j < 0 + 21 then mI h1 58 (21 * (a 2 0 3 - 1) + (j - 0)) else mI (wI h1 55 19 (nI (a 2 0 3 - 1))) 57 j)) := by
        refine iter_fo (fun f i => (nI i, rowI (wI h1 55 19 (nI (a 2 0 3 - 1))) 57 f)) (fun i f => upd f (0 + i) (mI h1 58 (21 * (a 2 0 3 - 1) + i))) _ 21 (FU_lt (by decide)) (fun i f hi => ?_) ?_
        · have e55 : mI (rowI (wI h1 55 19 (nI (a 2 0 3 - 1))) 57 f) 55 19 = nI (a 2 0 3 - 1) := by
            rw [mI_row_ne _ _ (by decide), mI_wI_at, pk_us]
          have e58 : mI (rowI (wI h1 55 19 (nI (a 2 0 3 - 1))) 57 f) 58 = mI h1 58 := by
            rw [mI_row_ne _ _ (by decide), mI_wI_ne _ _ _ (by decide)]
          unfold b_X13_undo_38
          simp (disch := omega) only [ob, nI_lit, nI_add, pk_mul, nI_eq, nI_ltI, nI_leI, if_true, if_false, if_pos, if_neg, gR_of (tS_55 (S1.row 57 f)), gI_of (tS_55 (S1.row 57 f)), rS_55_16 (S1.row 57 f), rS_55_17 (S1.row 57 f), e55, aI_of (tS_58 (S1.row 57 f)), e58, sI_of (tS_57 (S1.row 57 f)), rowI_wI, Nat.zero_add]
        · unfold b_X13_undo_38
          simp (disch := omega) only [ob, nI_lit, nI_add, pk_mul, nI_eq, nI_ltI, nI_leI, if_true, if_false, if_pos, if_neg]
          rw [fo_upd]
      rw [rowI_id] at q
      simp (disch := omega) only [ob, nI_lit, nI_add, pk_mul, nI_eq, nI_ltI, nI_leI, if_true, if_false, if_pos, if_neg, ck_of (tS_55 M.sh), gR_of (tS_55 M.sh), gI_of (tS_55 M.sh), pI_of (tS_55 M.sh), rS_55_16 M.sh, rS_55_17 M.sh, rS_55_18 M.sh, rS_55_21 M.sh, rS_55_25 M.sh, rS_55_26 M.sh, rS_55_27 M.sh, rS_55_28 M.sh, rS_55_32 M.sh, rS_55_33 M.sh, rS_55_34 M.sh, m_refused M.sh, m_good M.sh, P.pp, M.ac, pk_sub, q, m_granted (S1.row 57 _), retZ1]
      have f : FQ [55, 57, 58, 59] h1 (wI (wI (rowI (wI h1 55 19 (nI (a 2 0 3 - 1))) 57 (fun j => if 0 ≤ j ∧ j < 0 + 21 then mI h1 58 (21 * (a 2 0 3 - 1) + (j - 0)) else mI (wI h1 55 19 (nI (a 2 0 3 - 1))) 57 j)) 55 1 (nI 0)) 55 2 (-nI 1)) := (((FQ.w _ _ _ (by decide)).tr (FQ.row _ _ (by decide))).tr (FQ.w _ _ _ (by decide))).tr (FQ.w _ _ _ (by decide))
      refine ⟨_, rfl, rfl, FHi.f1 F1 (f.hi (fun x hx => hi_ne hx)), M.ch f ?_ ?_ rfl (undoA_2 a) rfl ?_ ?_ ?_ ?_ ?_, ?_, ?_⟩
      · rw [mI_wI_at, pk_un (by decide), mI_wI_at, pk_un (by decide), mI_row_ne _ _ (by decide), mI_wI_at, pk_un (by decide)]
      · rw [mI_wI_at, pk_un (by decide), mI_wI_at, pk_un (by decide), mI_row_ne _ _ (by decide), mI_wI_at, pk_un (by decide)]
      · show rM (mI _ 57) 0 (a 10)
        rw [mI_wI_ne _ _ _ (by decide), mI_wI_ne _ _ _ (by decide), mI_row]
        refine rM_mv (M.pa 0 e0) (fun i hi => ?_)
        rw [if_pos (by omega)]
        congr 1
        omega
      · rw [mI_wI_at, pk_un (by decide), mI_wI_at, pk_un (by decide), mI_row_ne _ _ (by decide), mI_wI_at, pk_us]
        try rfl
      · rw [mI_wI_at, pk_un (by decide), mI_wI_at, pk_un (by decide), mI_row_ne _ _ (by decide), mI_wI_at, pk_un (by decide)]
        exact M.mk
      · intro j hj
        rw [undoA_23] at hj
        rw [undoA_s a (by omega), undoA_23, mI_wI_ne _ _ _ (by decide), mI_wI_ne _ _ _ (by decide), mI_row_ne _ _ (by decide), mI_wI_ne _ _ _ (by decide)]
        refine rM_mv (M.pa (j + 1) (by omega)) (fun i hi => ?_)
        congr 1
        omega
      · intro k hk
        rw [undoA_30, mI_wI_ne _ _ _ (by decide), mI_wI_ne _ _ _ (by decide), mI_row_ne _ _ (by decide), mI_wI_ne _ _ _ (by decide)]
        exact M.ke k hk
      · rw [mI_wI_at, pk_un (by decide), mI_wI_at, pk_us]
      · rw [mI_wI_at, pk_us]
        try rfl
theorem st_45 : StepOK INV lc_45 := by
  intro sc L i h hL hi hI
  unfold lc_45
  exact a2 (f := fun h => f_X11_undo h 1) (g := fun h => f_X13_undo h 55) hI (fun a z W _ => qq_undo W z)
/-! mark -/
def markA (a : AB) : AB := fun i => if i = 2 then (fun _ k => if k = 5 then a 2 0 5 + 1 else a 2 0 k) else if i = 30 + a 2 0 5 then a 1 else a i
theorem markA_2 (a : AB) : ∀ k, k ≠ 5 → markA a 2 0 k = a 2 0 k := fun k h5 => by
  show (if k = 5 then _ else a 2 0 k) = _
  rw [if_neg h5]
theorem markA_25 (a : AB) : markA a 2 0 5 = a 2 0 5 + 1 := rfl
theorem markA_i (a : AB) {i : Nat} (h2 : i ≠ 2) (h3 : i ≠ 30 + a 2 0 5) : markA a i = a i := by
  unfold markA
  rw [if_neg h2, if_neg h3]
theorem markA_m (a : AB) : markA a (30 + a 2 0 5) = a 1 := by
  unfold markA
  rw [if_neg (by omega), if_pos rfl]
theorem qq_mark {a : AB} (W : IW a) (z : Nat) : ∃ a' v z', IW a' ∧ z' ≤ 6 ∧ AC a z a' z' (fun h => f_X11_mark h 1) v ∧ AM a z a' z' (fun h => f_X13_mark h 55) v := by
  have hmk := W.mk
  have hac := W.ac
  rcases Nat.eq_zero_or_pos (a 0 0 2) with e0 | e0
  · refine ⟨a, -nI 1, 1, W, by decide, AC.ofQ W (fun h C => ?_) z, AM.ofQ (fun h M0 => ?_) (by decide) z⟩
    · unfold f_X11_mark
      simp (disch := omega) only [ob, nI_lit, nI_add, pk_mul, nI_eq, nI_ltI, nI_leI, if_true, if_false, if_pos, if_neg, ck_of (tS_1 C.ct.sh), gR_of (tS_1 C.ct.sh), gI_of (tS_1 C.ct.sh), pI_of (tS_1 C.ct.sh), C.ct.rp, rS_1_2 C.ct.sh, rS_1_3 C.ct.sh, rS_1_4 C.ct.sh, rS_1_5 C.ct.sh, rS_1_6 C.ct.sh, rS_1_7 C.ct.sh, rS_1_8 C.ct.sh, rS_1_9 C.ct.sh, ck_of (tR C.ct.rd.rd), gR_of (tR C.ct.rd.rd), gI_of (tR C.ct.rd.rd), rR_9 C.ct.rd.rd, rR_10 C.ct.rd.rd, rR_11 C.ct.rd.rd, rR_12 C.ct.rd.rd, rR_13 C.ct.rd.rd, rR_14 C.ct.rd.rd, rR_15 C.ct.rd.rd, rR_16 C.ct.rd.rd, rR_17 C.ct.rd.rd, rR_18 C.ct.rd.rd, rR_19 C.ct.rd.rd, aI_of (tR_1 C.ct.rd.rd), aI_of (tR_2 C.ct.rd.rd), aI_of (tR_3 C.ct.rd.rd), aI_of (tR_4 C.ct.rd.rd), aI_of (tR_5 C.ct.rd.rd), aI_of (tR_6 C.ct.rd.rd), aI_of (tR_7 C.ct.rd.rd), aI_of (tR_8 C.ct.rd.rd), aI_of (tR_9 C.ct.rd.rd), C.ct.rd.sc, C.ct.rd.len, C.ct.rd.e1, C.ct.rd.e2, C.ct.rd.min, C.ct.rd.kd, C.ct.rd.gt, C.ct.rd.bt, C.ct.rd.ip, C.ct.rd.hd, c_refuse C.ct.sh, c_answer C.ct.sh, c_told0 W C e0]
      exact qc_end C _ _
    · unfold f_X13_mark
      simp only [ck_of (tS_55 M0.sh), pI_of (tS_55 M0.sh), ob, nI_lit]; obtain ⟨h1, eh, M, F1⟩ : ∃ h1, wI h 55 0 (nI 0) = h1 ∧ IM h1 a ∧ FM h h1 := ⟨_, rfl, M0.th _, FM.w55 h _ (by decide)⟩; rw [eh]
      simp (disch := omega) only [ob, nI_lit, nI_add, pk_mul, nI_eq, nI_ltI, nI_leI, if_true, if_false, if_pos, if_neg, ck_of (tS_55 M.sh), gR_of (tS_55 M.sh), gI_of (tS_55 M.sh), pI_of (tS_55 M.sh), rS_55_16 M.sh, rS_55_17 M.sh, rS_55_18 M.sh, rS_55_21 M.sh, rS_55_25 M.sh, rS_55_26 M.sh, rS_55_27 M.sh, rS_55_28 M.sh, rS_55_32 M.sh, rS_55_33 M.sh, rS_55_34 M.sh, m_refused M.sh, m_good M.sh, m_null M e0]
      exact qm_end F1 _ _
  · rcases Decidable.em (a 2 0 5 = 3) with e3 | e3
    · refine ⟨a, -nI 1, 3, W, by decide, AC.ofQ W (fun h C => ?_) z, AM.ofQ (fun h M0 => ?_) (by decide) z⟩
      · have hneg : ¬ nI 0 ≤ -nI 1 := by decide
        unfold f_X11_mark f_X2_addMark
        simp (disch := omega) only [ob, nI_lit, nI_add, pk_mul, nI_eq, nI_ltI, nI_leI, if_true, if_false, if_pos, if_neg, ck_of (tS_1 C.ct.sh), gR_of (tS_1 C.ct.sh), gI_of (tS_1 C.ct.sh), pI_of (tS_1 C.ct.sh), C.ct.rp, rS_1_2 C.ct.sh, rS_1_3 C.ct.sh, rS_1_4 C.ct.sh, rS_1_5 C.ct.sh, rS_1_6 C.ct.sh, rS_1_7 C.ct.sh, rS_1_8 C.ct.sh, rS_1_9 C.ct.sh, ck_of (tR C.ct.rd.rd), gR_of (tR C.ct.rd.rd), gI_of (tR C.ct.rd.rd), rR_9 C.ct.rd.rd, rR_10 C.ct.rd.rd, rR_11 C.ct.rd.rd, rR_12 C.ct.rd.rd, rR_13 C.ct.rd.rd, rR_14 C.ct.rd.rd, rR_15 C.ct.rd.rd, rR_16 C.ct.rd.rd, rR_17 C.ct.rd.rd, rR_18 C.ct.rd.rd, rR_19 C.ct.rd.rd, aI_of (tR_1 C.ct.rd.rd), aI_of (tR_2 C.ct.rd.rd), aI_of (tR_3 C.ct.rd.rd), aI_of (tR_4 C.ct.rd.rd), aI_of (tR_5 C.ct.rd.rd), aI_of (tR_6 C.ct.rd.rd), aI_of (tR_7 C.ct.rd.rd), aI_of (tR_8 C.ct.rd.rd), aI_of (tR_9 C.ct.rd.rd), C.ct.rd.sc, C.ct.rd.len, C.ct.rd.e1, C.ct.rd.e2, C.ct.rd.min, C.ct.rd.kd, C.ct.rd.gt, C.ct.rd.bt, C.ct.rd.ip, C.ct.rd.hd, c_refuse C.ct.sh, c_answer C.ct.sh, c_told1 W C e0, ck_of (tS_33 C.ct.sh), gI_of (tS_33 C.ct.sh), C.mk, hneg]
        exact qc_end C _ _
      · unfold f_X13_mark
        simp only [ck_of (tS_55 M0.sh), pI_of (tS_55 M0.sh), ob, nI_lit]; obtain ⟨h1, eh, M, F1⟩ : ∃ h1, wI h 55 0 (nI 0) = h1 ∧ IM h1 a ∧ FM h h1 := ⟨_, rfl, M0.th _, FM.w55 h _ (by decide)⟩; rw [eh]
        have P := M.told e0
        have hz := P.nz
        simp (disch := omega) only [ob, nI_lit, nI_add, pk_mul, nI_eq, nI_ltI, nI_leI, if_true, if_false, if_pos, if_neg, ck_of (tS_55 M.sh), gR_of (tS_55 M.sh), gI_of (tS_55 M.sh), pI_of (tS_55 M.sh), rS_55_16 M.sh, rS_55_17 M.sh, rS_55_18 M.sh, rS_55_21 M.sh, rS_55_25 M.sh, rS_55_26 M.sh, rS_55_27 M.sh, rS_55_28 M.sh, rS_55_32 M.sh, rS_55_33 M.sh, rS_55_34 M.sh, m_refused M.sh, m_good M.sh, P.pp, M.mk]
        exact qm_end F1 _ _
    · have m1 : markA a 1 = a 1 := markA_i a (by decide) (by omega)
      have m0 : markA a 0 = a 0 := markA_i a (by decide) (by omega)
      have m3 : markA a 3 = a 3 := markA_i a (by decide) (by omega)
      have m23 : markA a 2 0 3 = a 2 0 3 := rfl
      have m24 : markA a 2 0 4 = a 2 0 4 := rfl
      have W' : IW (markA a) := by
        refine W.ch e0 m0 (fun k _ _ h5 => markA_2 a k h5) m3 (by rw [m1]; exact W.nf) (by rw [m23]; exact W.ac) (by rw [m24]; exact W.nx) (by rw [markA_25]; omega) (fun j hj => ?_) (fun k hk => ?_)
        · rw [m23] at hj
          rw [markA_i a (by omega) (by omega)]
          exact W.al _ (by omega)
        · rw [markA_25] at hk
          rcases Decidable.em (k = a 2 0 5) with e | e
          · rw [e, markA_m]
            exact W.nf
          · rw [markA_i a (by omega) (by omega)]
            exact W.ml k (by omega)
      refine ⟨markA a, nI (a 2 0 5), 0, W', by decide, fun h C _ => ?_, fun h M0 _ _ => ?_⟩
      · have S := C.ct.sh
        have e1 := cpI_of (sp := 0) (dp := a 2 0 5 * 21) (n := 21) (tS_34 S) (tS_36 S) (by omega) (by omega) (by decide) (by decide)
        have e33 : ∀ f, mI (rowI h 36 f) 33 = mI h 33 := fun f => mI_row_ne h _ (by decide)
        show OK (f_X11_mark h 1) _
        unfold f_X11_mark f_X2_addMark
        simp (disch := omega) only [ob, nI_lit, nI_add, pk_mul, nI_eq, nI_ltI, nI_leI, if_true, if_false, if_pos, if_neg, ck_of (tS_1 C.ct.sh), gR_of (tS_1 C.ct.sh), gI_of (tS_1 C.ct.sh), pI_of (tS_1 C.ct.sh), C.ct.rp, rS_1_2 C.ct.sh, rS_1_3 C.ct.sh, rS_1_4 C.ct.sh, rS_1_5 C.ct.sh, rS_1_6 C.ct.sh, rS_1_7 C.ct.sh, rS_1_8 C.ct.sh, rS_1_9 C.ct.sh, ck_of (tR C.ct.rd.rd), gR_of (tR C.ct.rd.rd), gI_of (tR C.ct.rd.rd), rR_9 C.ct.rd.rd, rR_10 C.ct.rd.rd, rR_11 C.ct.rd.rd, rR_12 C.ct.rd.rd, rR_13 C.ct.rd.rd, rR_14 C.ct.rd.rd, rR_15 C.ct.rd.rd, rR_16 C.ct.rd.rd, rR_17 C.ct.rd.rd, rR_18 C.ct.rd.rd, rR_19 C.ct.rd.rd, aI_of (tR_1 C.ct.rd.rd), aI_of (tR_2 C.ct.rd.rd), aI_of (tR_3 C.ct.rd.rd), aI_of (tR_4 C.ct.rd.rd), aI_of (tR_5 C.ct.rd.rd), aI_of (tR_6 C.ct.rd.rd), aI_of (tR_7 C.ct.rd.rd), aI_of (tR_8 C.ct.rd.rd), aI_of (tR_9 C.ct.rd.rd), C.ct.rd.sc, C.ct.rd.len, C.ct.rd.e1, C.ct.rd.e2, C.ct.rd.min, C.ct.rd.kd, C.ct.rd.gt, C.ct.rd.bt, C.ct.rd.ip, C.ct.rd.hd, c_refuse C.ct.sh, c_answer C.ct.sh, c_told1 W C e0, ck_of (tS_33 S), gI_of (tS_33 S), gR_of (tS_33 S), rS_33_0 S, rS_33_2 S, C.mk, e1, gI_of (tS_33 (S.row 36 _)), pI_of (tS_33 (S.row 36 _)), e33, gI_of (tS_33 ((S.row 36 _).wI 33 5 _)), mI_wI_at, pk_us, pk_sub, Nat.add_sub_cancel, c_answer ((S.row 36 _).wI 33 5 _)]
        have f : FQ [1, 33, 34, 35, 36] h (wI (wI (rowI h 36 (va_cpy (mI h 34) (mI h 36) 0 (a 2 0 5 * 21) 21)) 33 5 (nI (a 2 0 5 + 1))) 1 0 (nI 0)) := ((FQ.row _ _ (by decide)).tr (FQ.w _ _ _ (by decide))).tr (FQ.w _ _ _ (by decide))
        refine ⟨_, rfl, rfl, f.lo (fun x hx => lo_ne hx), C.ch W f m0 (fun k _ _ h5 => markA_2 a k h5) m3 ?_ ?_ ?_ ?_ ?_ ?_, by rw [mI_wI_at, pk_us]⟩
        · show rC (mI _ 34) 0 (markA a 1)
          rw [m1, mI_wI_ne _ _ _ (by decide), mI_wI_ne _ _ _ (by decide), mI_row_ne _ _ (by decide)]
          exact C.nw
        · rw [mI_wI_ne _ _ _ (by decide), mI_wI_at, pk_un (by decide), e33]
          exact C.ac
        · rw [mI_wI_ne _ _ _ (by decide), mI_wI_at, pk_un (by decide), e33]
          exact C.nx
        · rw [mI_wI_ne _ _ _ (by decide), mI_wI_at, pk_us]
          try rfl
        · intro j hj
          rw [m23] at hj
          rw [markA_i a (i := 10 + j) (by omega) (by omega), m24, mI_wI_ne _ _ _ (by decide), mI_wI_ne _ _ _ (by decide), mI_row_ne _ _ (by decide)]
          exact C.ah j hj
        · intro k hk
          rw [markA_25] at hk
          rw [mI_wI_ne _ _ _ (by decide), mI_wI_ne _ _ _ (by decide), mI_row]
          rcases Decidable.em (k = a 2 0 5) with e | e
          · rw [e, markA_m]
            refine rC_mv C.nw (fun i hi => ?_)
            rw [pk_cpy_in (by omega) (by omega)]
            congr 1
            omega
          · rw [markA_i a (by omega) (by omega)]
            refine rC_mv (C.bm k (by omega)) (fun i hi => ?_)
            rw [pk_cpy_out (by omega)]
      · show OK (f_X13_mark h 55) _
        unfold f_X13_mark
        simp only [ck_of (tS_55 M0.sh), pI_of (tS_55 M0.sh), ob, nI_lit]; obtain ⟨h1, eh, M, F1⟩ : ∃ h1, wI h 55 0 (nI 0) = h1 ∧ IM h1 a ∧ FM h h1 := ⟨_, rfl, M0.th _, FM.w55 h _ (by decide)⟩; rw [eh]
        have P := M.told e0
        have hz := P.nz
        have S := M.sh
        have q : iter (fun (s : Int32 × Mem) => b_X13_mark_34 s.2 55 s.1) FU (nI 0, rowI h1 59 (mI h1 59)) = some (rowI h1 59 (fun j => if 21 * a 2 0 5 ≤ j ∧ j < 21 * a 2 0 5 + 21 then mI h1 57 (j - 21 * a 2 0 5) else mI h1 59 j)) := by
          refine iter_fo (fun f i => (nI i, rowI h1 59 f)) (fun i f => upd f (21 * a 2 0 5 + i) (mI h1 57 i)) _ 21 (FU_lt (by decide)) (fun i f hi => ?_) ?_
          · have e55 : mI (rowI h1 59 f) 55 20 = nI (a 2 0 5) := by
              rw [mI_row_ne _ _ (by decide)]
              exact M.mk
            have e57 : mI (rowI h1 59 f) 57 = mI h1 57 := mI_row_ne _ _ (by decide)
            unfold b_X13_mark_34
            simp (disch := omega) only [ob, nI_lit, nI_add, pk_mul, nI_eq, nI_ltI, nI_leI, if_true, if_false, if_pos, if_neg, gR_of (tS_55 (S.row 59 f)), gI_of (tS_55 (S.row 59 f)), rS_55_16 (S.row 59 f), rS_55_18 (S.row 59 f), e55, aI_of (tS_57 (S.row 59 f)), e57, sI_of (tS_59 (S.row 59 f)), rowI_wI]
          · unfold b_X13_mark_34
            simp (disch := omega) only [ob, nI_lit, nI_add, pk_mul, nI_eq, nI_ltI, nI_leI, if_true, if_false, if_pos, if_neg]
            rw [fo_upd]
        rw [rowI_id] at q
        have e55 : ∀ f, mI (rowI h1 59 f) 55 = mI h1 55 := fun f => mI_row_ne h1 _ (by decide)
        simp (disch := omega) only [ob, nI_lit, nI_add, pk_mul, nI_eq, nI_ltI, nI_leI, if_true, if_false, if_pos, if_neg, ck_of (tS_55 M.sh), gR_of (tS_55 M.sh), gI_of (tS_55 M.sh), pI_of (tS_55 M.sh), rS_55_16 M.sh, rS_55_17 M.sh, rS_55_18 M.sh, rS_55_21 M.sh, rS_55_25 M.sh, rS_55_26 M.sh, rS_55_27 M.sh, rS_55_28 M.sh, rS_55_32 M.sh, rS_55_33 M.sh, rS_55_34 M.sh, m_refused M.sh, m_good M.sh, P.pp, M.mk, q, gI_of (tS_55 (S.row 59 _)), pI_of (tS_55 (S.row 59 _)), e55, gI_of (tS_55 ((S.row 59 _).wI 55 20 _)), mI_wI_at, pk_us, pk_sub, Nat.add_sub_cancel, m_good ((S.row 59 _).wI 55 20 _)]
        have f : FQ [55, 57, 58, 59] h1 (wI (wI (wI (rowI h1 59 (fun j => if 21 * a 2 0 5 ≤ j ∧ j < 21 * a 2 0 5 + 21 then mI h1 57 (j - 21 * a 2 0 5) else mI h1 59 j)) 55 20 (nI (a 2 0 5 + 1))) 55 1 (nI 0)) 55 2 (-nI 1)) := (((FQ.row _ _ (by decide)).tr (FQ.w _ _ _ (by decide))).tr (FQ.w _ _ _ (by decide))).tr (FQ.w _ _ _ (by decide))
        refine ⟨_, rfl, rfl, FHi.f1 F1 (f.hi (fun x hx => hi_ne hx)), M.ch f ?_ ?_ m0 (fun k _ _ h5 => markA_2 a k h5) m3 ?_ ?_ ?_ ?_ ?_, ?_, ?_⟩
        · rw [mI_wI_at, pk_un (by decide), mI_wI_at, pk_un (by decide), mI_wI_at, pk_un (by decide), e55]
        · rw [mI_wI_at, pk_un (by decide), mI_wI_at, pk_un (by decide), mI_wI_at, pk_un (by decide), e55]
        · show rM (mI _ 57) 0 (markA a 1)
          rw [m1, mI_wI_ne _ _ _ (by decide), mI_wI_ne _ _ _ (by decide), mI_wI_ne _ _ _ (by decide), mI_row_ne _ _ (by decide)]
          exact M.nw
        · rw [mI_wI_at, pk_un (by decide), mI_wI_at, pk_un (by decide), mI_wI_at, pk_un (by decide), e55]
          exact M.ac
        · rw [mI_wI_at, pk_un (by decide), mI_wI_at, pk_un (by decide), mI_wI_at, pk_us]
          try rfl
        · intro j hj
          rw [m23] at hj
          rw [markA_i a (i := 10 + j) (by omega) (by omega), m23, mI_wI_ne _ _ _ (by decide), mI_wI_ne _ _ _ (by decide), mI_wI_ne _ _ _ (by decide), mI_row_ne _ _ (by decide)]
          exact M.pa j hj
        · intro k hk
          rw [markA_25] at hk
          rw [mI_wI_ne _ _ _ (by decide), mI_wI_ne _ _ _ (by decide), mI_wI_ne _ _ _ (by decide), mI_row]
          rcases Decidable.em (k = a 2 0 5) with e | e
          · rw [e, markA_m]
            refine rM_mv M.nw (fun i hi => ?_)
            rw [if_pos (by omega)]
            congr 1
            omega
          · rw [markA_i a (by omega) (by omega)]
            refine rM_mv (M.ke k (by omega)) (fun i hi => ?_)
            rw [if_neg (by omega)]
        · rw [mI_wI_at, pk_un (by decide), mI_wI_at, pk_us]
        · rw [mI_wI_at, pk_us]
          try rfl
theorem st_46 : StepOK INV lc_46 := by
  intro sc L i h hL hi hI
  unfold lc_46
  exact a2 (f := fun h => f_X11_mark h 1) (g := fun h => f_X13_mark h 55) hI (fun a z W _ => qq_mark W z)
/-! back -/
def backA (a : AB) (m : Nat) : AB := fun i => if i = 1 then a (30 + m) else if i = 2 then (fun _ k => if k = 3 then 0 else a 2 0 k) else a i
theorem backA_2 (a : AB) (m : Nat) : ∀ k, k ≠ 3 → backA a m 2 0 k = a 2 0 k := fun k h3 => by
  show (if k = 3 then _ else a 2 0 k) = _
  rw [if_neg h3]
theorem backA_i (a : AB) (m : Nat) {i : Nat} (h1 : i ≠ 1) (h2 : i ≠ 2) : backA a m i = a i := by
  unfold backA
  rw [if_neg h1, if_neg h2]
theorem qq_back {a : AB} (W : IW a) (z : Nat) (x : Int32) : ∃ a' v z', IW a' ∧ z' ≤ 6 ∧ AC a z a' z' (fun h => f_X11_back h 1 x) v ∧ AM a z a' z' (fun h => f_X13_back h 55 x) v := by
  have hmk := W.mk
  rcases hx : ix (a 2 0 5) x with _ | _
  · refine ⟨a, nI 0, 1, W, by decide, AC.ofQ W (fun h C => ?_) z, AM.ofQ (fun h M0 => ?_) (by decide) z⟩
    · have eb : f_X2_returnTo h 33 x = some (nI 0, h) := by
        unfold f_X2_returnTo
        simp (disch := omega) only [ob, nI_lit, nI_add, pk_mul, nI_eq, nI_ltI, nI_leI, if_true, if_false, if_pos, if_neg, ck_of (tS_33 C.ct.sh), gI_of (tS_33 C.ct.sh), C.mk]
        rcases ix_f hx (by omega) with e | ⟨e, e2, -⟩
        · simp only [e, if_true]
        · simp only [e, e2, if_false]
      unfold f_X11_back f_X11_back_17
      simp (disch := omega) only [ob, nI_lit, nI_add, pk_mul, nI_eq, nI_ltI, nI_leI, if_true, if_false, if_pos, if_neg, ck_of (tS_1 C.ct.sh), gR_of (tS_1 C.ct.sh), gI_of (tS_1 C.ct.sh), pI_of (tS_1 C.ct.sh), C.ct.rp, rS_1_2 C.ct.sh, rS_1_3 C.ct.sh, rS_1_4 C.ct.sh, rS_1_5 C.ct.sh, rS_1_6 C.ct.sh, rS_1_7 C.ct.sh, rS_1_8 C.ct.sh, rS_1_9 C.ct.sh, ck_of (tR C.ct.rd.rd), gR_of (tR C.ct.rd.rd), gI_of (tR C.ct.rd.rd), rR_9 C.ct.rd.rd, rR_10 C.ct.rd.rd, rR_11 C.ct.rd.rd, rR_12 C.ct.rd.rd, rR_13 C.ct.rd.rd, rR_14 C.ct.rd.rd, rR_15 C.ct.rd.rd, rR_16 C.ct.rd.rd, rR_17 C.ct.rd.rd, rR_18 C.ct.rd.rd, rR_19 C.ct.rd.rd, aI_of (tR_1 C.ct.rd.rd), aI_of (tR_2 C.ct.rd.rd), aI_of (tR_3 C.ct.rd.rd), aI_of (tR_4 C.ct.rd.rd), aI_of (tR_5 C.ct.rd.rd), aI_of (tR_6 C.ct.rd.rd), aI_of (tR_7 C.ct.rd.rd), aI_of (tR_8 C.ct.rd.rd), aI_of (tR_9 C.ct.rd.rd), C.ct.rd.sc, C.ct.rd.len, C.ct.rd.e1, C.ct.rd.e2, C.ct.rd.min, C.ct.rd.kd, C.ct.rd.gt, C.ct.rd.bt, C.ct.rd.ip, C.ct.rd.hd, c_refuse C.ct.sh, c_answer C.ct.sh, eb, c_allow1 C.ct.sh (z := 1) (by decide) (by decide), retZ0]
      exact qc_end C _ _
    · unfold f_X13_back f_X13_back_24
      simp only [ck_of (tS_55 M0.sh), pI_of (tS_55 M0.sh), ob, nI_lit]; obtain ⟨h1, eh, M, F1⟩ : ∃ h1, wI h 55 0 (nI 0) = h1 ∧ IM h1 a ∧ FM h h1 := ⟨_, rfl, M0.th _, FM.w55 h _ (by decide)⟩; rw [eh]
      simp (disch := omega) only [ob, nI_lit, nI_add, pk_mul, nI_eq, nI_ltI, nI_leI, if_true, if_false, if_pos, if_neg, ck_of (tS_55 M.sh), gR_of (tS_55 M.sh), gI_of (tS_55 M.sh), pI_of (tS_55 M.sh), rS_55_16 M.sh, rS_55_17 M.sh, rS_55_18 M.sh, rS_55_21 M.sh, rS_55_25 M.sh, rS_55_26 M.sh, rS_55_27 M.sh, rS_55_28 M.sh, rS_55_32 M.sh, rS_55_33 M.sh, rS_55_34 M.sh, m_refused M.sh, m_good M.sh, M.mk, m_denied M.sh, retZ0]
      rcases ix_f hx (by omega) with e | ⟨e, e2, -⟩
      · simp only [e, if_true]
        split
        · exact qm_end F1 _ _
        · exact qm_end F1 _ _
      · simp only [e, e2, if_false]
        split
        · exact qm_end F1 _ _
        · exact qm_end F1 _ _
  · obtain ⟨m, hm, rfl⟩ := ix_t hx (by omega)
    have ti : 0 < a 0 0 2 := by
      rcases Nat.eq_zero_or_pos (a 0 0 2) with q | q
      · have := (W.un q).2.1
        omega
      · exact q
    have b23 : backA a m 2 0 3 = 0 := rfl
    have b24 : backA a m 2 0 4 = a 2 0 4 := rfl
    have b25 : backA a m 2 0 5 = a 2 0 5 := rfl
    have W' : IW (backA a m) := by
      refine W.ch ti rfl (fun k h3 _ _ => backA_2 a m k h3) rfl (W.ml m hm) (by rw [b23]; omega) (by rw [b24]; exact W.nx) (by rw [b25]; exact W.mk) (fun j hj => ?_) (fun k hk => ?_)
      · rw [b23] at hj
        omega
      · rw [backA_i a m (by omega) (by omega)]
        exact W.ml k (by rwa [b25] at hk)
    refine ⟨backA a m, nI 1, 0, W', by decide, fun h C _ => ?_, fun h M0 _ _ => ?_⟩
    · have S := C.ct.sh
      have e1 := cpI_of (sp := m * 21) (dp := 0) (n := 21) (tS_36 S) (tS_34 S) (by omega) (by omega) (by decide) (by decide)
      have e33 : ∀ f, mI (rowI h 34 f) 33 = mI h 33 := fun f => mI_row_ne h _ (by decide)
      show OK (f_X11_back h 1 (nI m)) _
      unfold f_X11_back f_X11_back_17 f_X2_returnTo
      simp (disch := omega) only [ob, nI_lit, nI_add, pk_mul, nI_eq, nI_ltI, nI_leI, if_true, if_false, if_pos, if_neg, ck_of (tS_1 C.ct.sh), gR_of (tS_1 C.ct.sh), gI_of (tS_1 C.ct.sh), pI_of (tS_1 C.ct.sh), C.ct.rp, rS_1_2 C.ct.sh, rS_1_3 C.ct.sh, rS_1_4 C.ct.sh, rS_1_5 C.ct.sh, rS_1_6 C.ct.sh, rS_1_7 C.ct.sh, rS_1_8 C.ct.sh, rS_1_9 C.ct.sh, ck_of (tR C.ct.rd.rd), gR_of (tR C.ct.rd.rd), gI_of (tR C.ct.rd.rd), rR_9 C.ct.rd.rd, rR_10 C.ct.rd.rd, rR_11 C.ct.rd.rd, rR_12 C.ct.rd.rd, rR_13 C.ct.rd.rd, rR_14 C.ct.rd.rd, rR_15 C.ct.rd.rd, rR_16 C.ct.rd.rd, rR_17 C.ct.rd.rd, rR_18 C.ct.rd.rd, rR_19 C.ct.rd.rd, aI_of (tR_1 C.ct.rd.rd), aI_of (tR_2 C.ct.rd.rd), aI_of (tR_3 C.ct.rd.rd), aI_of (tR_4 C.ct.rd.rd), aI_of (tR_5 C.ct.rd.rd), aI_of (tR_6 C.ct.rd.rd), aI_of (tR_7 C.ct.rd.rd), aI_of (tR_8 C.ct.rd.rd), aI_of (tR_9 C.ct.rd.rd), C.ct.rd.sc, C.ct.rd.len, C.ct.rd.e1, C.ct.rd.e2, C.ct.rd.min, C.ct.rd.kd, C.ct.rd.gt, C.ct.rd.bt, C.ct.rd.ip, C.ct.rd.hd, c_refuse C.ct.sh, c_answer C.ct.sh, ck_of (tS_33 S), gI_of (tS_33 S), gR_of (tS_33 S), rS_33_0 S, rS_33_2 S, C.mk, e1, pI_of (tS_33 (S.row 34 _)), c_allow0 ((S.row 34 _).wI 33 4 _), retZ1]
      have f : FQ [1, 33, 34, 35, 36] h (wI (wI (rowI h 34 (va_cpy (mI h 36) (mI h 34) (m * 21) 0 21)) 33 4 (nI 0)) 1 0 (nI 0)) := ((FQ.row _ _ (by decide)).tr (FQ.w _ _ _ (by decide))).tr (FQ.w _ _ _ (by decide))
      refine ⟨_, rfl, rfl, f.lo (fun x hx => lo_ne hx), C.ch W f rfl (fun k h3 _ _ => backA_2 a m k h3) rfl ?_ ?_ ?_ ?_ ?_ ?_, by rw [mI_wI_at, pk_us]⟩
      · show rC (mI _ 34) 0 (a (30 + m))
        rw [mI_wI_ne _ _ _ (by decide), mI_wI_ne _ _ _ (by decide), mI_row]
        refine rC_mv (C.bm m hm) (fun i hi => ?_)
        rw [pk_cpy_in (by omega) (by omega)]
        congr 1
        omega
      · rw [mI_wI_ne _ _ _ (by decide), mI_wI_at, pk_us]
        try rfl
      · rw [mI_wI_ne _ _ _ (by decide), mI_wI_at, pk_un (by decide), e33]
        exact C.nx
      · rw [mI_wI_ne _ _ _ (by decide), mI_wI_at, pk_un (by decide), e33]
        exact C.mk
      · intro j hj
        rw [b23] at hj
        omega
      · intro k hk
        rw [backA_i a m (by omega) (by omega), mI_wI_ne _ _ _ (by decide), mI_wI_ne _ _ _ (by decide), mI_row_ne _ _ (by decide)]
        exact C.bm k hk
    · show OK (f_X13_back h 55 (nI m)) _
      unfold f_X13_back
      simp only [ck_of (tS_55 M0.sh), pI_of (tS_55 M0.sh), ob, nI_lit]; obtain ⟨h1, eh, M, F1⟩ : ∃ h1, wI h 55 0 (nI 0) = h1 ∧ IM h1 a ∧ FM h h1 := ⟨_, rfl, M0.th _, FM.w55 h _ (by decide)⟩; rw [eh]
      have P := M.told ti
      have hz := P.nz
      have S := M.sh
      have q : iter (fun (s : Int32 × Mem) => b_X13_back_32 s.2 55 (nI m) s.1) FU (nI 0, rowI h1 57 (mI h1 57)) = some (rowI h1 57 (fun j => if 0 ≤ j ∧ j < 0 + 21 then mI h1 59 (21 * m + (j - 0)) else mI h1 57 j)) := by
        refine iter_fo (fun f i => (nI i, rowI h1 57 f)) (fun i f => upd f (0 + i) (mI h1 59 (21 * m + i))) _ 21 (FU_lt (by decide)) (fun i f hi => ?_) ?_
        · have e59 : mI (rowI h1 57 f) 59 = mI h1 59 := mI_row_ne _ _ (by decide)
          unfold b_X13_back_32
          simp (disch := omega) only [ob, nI_lit, nI_add, pk_mul, nI_eq, nI_ltI, nI_leI, if_true, if_false, if_pos, if_neg, gR_of (tS_55 (S.row 57 f)), rS_55_16 (S.row 57 f), rS_55_18 (S.row 57 f), aI_of (tS_59 (S.row 57 f)), e59, sI_of (tS_57 (S.row 57 f)), rowI_wI, Nat.zero_add]
        · unfold b_X13_back_32
          simp (disch := omega) only [ob, nI_lit, nI_add, pk_mul, nI_eq, nI_ltI, nI_leI, if_true, if_false, if_pos, if_neg]
          rw [fo_upd]
      rw [rowI_id] at q
      have e55 : ∀ f, mI (rowI h1 57 f) 55 = mI h1 55 := fun f => mI_row_ne h1 _ (by decide)
      simp (disch := omega) only [ob, nI_lit, nI_add, pk_mul, nI_eq, nI_ltI, nI_leI, if_true, if_false, if_pos, if_neg, ck_of (tS_55 M.sh), gR_of (tS_55 M.sh), gI_of (tS_55 M.sh), pI_of (tS_55 M.sh), rS_55_16 M.sh, rS_55_17 M.sh, rS_55_18 M.sh, rS_55_21 M.sh, rS_55_25 M.sh, rS_55_26 M.sh, rS_55_27 M.sh, rS_55_28 M.sh, rS_55_32 M.sh, rS_55_33 M.sh, rS_55_34 M.sh, m_refused M.sh, m_good M.sh, P.pp, M.mk, q, pI_of (tS_55 (S.row 57 _)), m_granted ((S.row 57 _).wI 55 19 _), retZ1]
      have f : FQ [55, 57, 58, 59] h1 (wI (wI (wI (rowI h1 57 (fun j => if 0 ≤ j ∧ j < 0 + 21 then mI h1 59 (21 * m + (j - 0)) else mI h1 57 j)) 55 19 (nI 0)) 55 1 (nI 0)) 55 2 (-nI 1)) := (((FQ.row _ _ (by decide)).tr (FQ.w _ _ _ (by decide))).tr (FQ.w _ _ _ (by decide))).tr (FQ.w _ _ _ (by decide))
      refine ⟨_, rfl, rfl, FHi.f1 F1 (f.hi (fun x hx => hi_ne hx)), M.ch f ?_ ?_ rfl (fun k h3 _ _ => backA_2 a m k h3) rfl ?_ ?_ ?_ ?_ ?_, ?_, ?_⟩
      · rw [mI_wI_at, pk_un (by decide), mI_wI_at, pk_un (by decide), mI_wI_at, pk_un (by decide), e55]
      · rw [mI_wI_at, pk_un (by decide), mI_wI_at, pk_un (by decide), mI_wI_at, pk_un (by decide), e55]
      · show rM (mI _ 57) 0 (a (30 + m))
        rw [mI_wI_ne _ _ _ (by decide), mI_wI_ne _ _ _ (by decide), mI_wI_ne _ _ _ (by decide), mI_row]
        refine rM_mv (M.ke m hm) (fun i hi => ?_)
        rw [if_pos (by omega)]
        congr 1
        omega
      · rw [mI_wI_at, pk_un (by decide), mI_wI_at, pk_un (by decide), mI_wI_at, pk_us]
        try rfl
      · rw [mI_wI_at, pk_un (by decide), mI_wI_at, pk_un (by decide), mI_wI_at, pk_un (by decide), e55]
        exact M.mk
      · intro j hj
        rw [b23] at hj
        omega
      · intro k hk
        rw [backA_i a m (by omega) (by omega), mI_wI_ne _ _ _ (by decide), mI_wI_ne _ _ _ (by decide), mI_wI_ne _ _ _ (by decide), mI_row_ne _ _ (by decide)]
        exact M.ke k hk
      · rw [mI_wI_at, pk_un (by decide), mI_wI_at, pk_us]
      · rw [mI_wI_at, pk_us]
        try rfl
theorem st_47 : StepOK INV lc_47 := by
  intro sc L i h hL hi hI
  unfold lc_47
  simp only [show (1 : Int32) = nI 1 from rfl, show (2 : Int32) = nI 2 from rfl, show (3 : Int32) = nI 3 from rfl, show (4 : Int32) = nI 4 from rfl, show (5 : Int32) = nI 5 from rfl, nI_add, sc_at hL (show i + 1 < L by omega), sc_at hL (show i + 2 < L by omega), sc_at hL (show i + 3 < L by omega), sc_at hL (show i + 4 < L by omega), sc_at hL (show i + 5 < L by omega), ob]
  exact a2 (f := fun h => f_X11_back h 1 (sc (i + 1))) (g := fun h => f_X13_back h 55 (sc (i + 1))) hI (fun a z W _ => qq_back W z _)
