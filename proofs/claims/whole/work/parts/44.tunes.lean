/-! ===== tunes against tunes: together, overlap, likest ===== -/
section
variable {h : Mem} {r p : Nat} {ρ ν : RO}
theorem al_le (W : RW ρ) {t : Nat} (u : Nat) (ht : t < ρ 0 1) : al ρ t u ≤ 8 := Nat.le_trans (cn_le _ _) (W.len t ht).2
theorem c_al (W : RW ρ) (C : CRd h r ρ) {t u : Nat} (ht : t < ρ 0 1) (hu : u < ρ 0 1) (he : ρ 1 t = ρ 1 u) : f_X3_alikeNotes h r (nI t) (nI u) = some (nI (al ρ t u)) := by
  have := W.len t ht
  have q : iter (fun (s : Int32 × Int32) => b_X3_alikeNotes_5 h r (nI t) (nI u) s.1 s.2) FU (nI 0, nI 0) = some (nI (al ρ t u)) := by
    refine iter_fo (fun a i => (nI a, nI i)) (fun i a => a + (decide (ρ 2 (8 * t + i) = ρ 2 (8 * u + i))).toNat) 0 (ρ 1 t) (FU_lt (by omega)) (fun i a hi => ?_) ?_
    · have := W.note t i ht hi
      have := W.note u i hu (by omega)
      unfold b_X3_alikeNotes_5 f_X3_alikeNotes_36
      simp (disch := omega) only [ob, nI_lit, nI_add, pk_mul, nI_eq, nI_ltI, nI_leI, if_true, if_false, if_pos, if_neg, gR_of (tR C.rd), rR_9 C.rd, c_len W C ht, c_note W C ht hi, c_note W C hu (show i < ρ 1 u by omega)]
      rcases Decidable.em (ρ 2 (8 * t + i) = ρ 2 (8 * u + i)) with e | e <;> simp [e]
    · unfold b_X3_alikeNotes_5
      simp (disch := omega) only [ob, nI_lit, nI_add, pk_mul, nI_eq, nI_ltI, nI_leI, if_true, if_false, if_pos, if_neg, gR_of (tR C.rd), rR_9 C.rd, c_len W C ht]
      rfl
  unfold f_X3_alikeNotes
  simp (disch := omega) only [ob, nI_lit, nI_add, pk_mul, nI_eq, nI_ltI, nI_leI, if_true, if_false, if_pos, if_neg, q]
theorem m_al (W : RW ρ) (M : MT h p ρ) {t u : Nat} (ht : t < ρ 0 1) (hu : u < ρ 0 1) (he : ρ 1 t = ρ 1 u) : f_X13_alikeIn h 55 (nI t) (nI u) = some (nI (al ρ t u)) := by
  have := W.len t ht
  have := W.tu
  have q : iter (fun (s : Int32 × Int32) => b_X13_alikeIn_5 h 55 (nI t) (nI u) s.1 s.2) FU (nI 0, nI 0) = some (nI (al ρ t u)) := by
    refine iter_fo (fun a i => (nI a, nI i)) (fun i a => a + (decide (ρ 2 (8 * t + i) = ρ 2 (8 * u + i))).toNat) 0 (ρ 1 t) (FU_lt (by omega)) (fun i a hi => ?_) ?_
    · have := W.note t i ht hi
      have := W.note u i hu (by omega)
      unfold b_X13_alikeIn_5 f_X13_alikeIn_48
      simp (disch := omega) only [ob, nI_lit, nI_add, pk_mul, nI_eq, nI_ltI, nI_leI, if_true, if_false, if_pos, if_neg, ck_of (tS_55 M.sh), gR_of (tS_55 M.sh), gI_of (tS_55 M.sh), M.pp, ck_of (tP M.rd.pk), gR_of (tP M.rd.pk), gI_of (tP M.rd.pk), rP_10 M.rd.pk, rP_11 M.rd.pk, rP_12 M.rd.pk, rP_13 M.rd.pk, rP_14 M.rd.pk, rP_15 M.rd.pk, rP_16 M.rd.pk, rP_17 M.rd.pk, rP_18 M.rd.pk, rP_19 M.rd.pk, rP_20 M.rd.pk, rP_21 M.rd.pk, rP_22 M.rd.pk, rP_23 M.rd.pk, rP_24 M.rd.pk, aI_of (tP_1 M.rd.pk), aI_of (tP_2 M.rd.pk), aI_of (tP_3 M.rd.pk), aI_of (tP_4 M.rd.pk), aI_of (tP_5 M.rd.pk), aI_of (tP_6 M.rd.pk), aI_of (tP_7 M.rd.pk), aI_of (tP_8 M.rd.pk), aI_of (tP_9 M.rd.pk), aI_of (tP_10 M.rd.pk), aI_of (tP_11 M.rd.pk), aI_of (tP_12 M.rd.pk), aI_of (tP_13 M.rd.pk), aI_of (tP_14 M.rd.pk), aI_of (tP_15 M.rd.pk), M.rd.sc, M.rd.len, M.rd.note, M.rd.min, M.rd.kd, M.rd.gt, M.rd.e1, M.rd.e2, M.rd.i8, M.rd.i9, M.rd.i10, M.rd.i11, M.rd.hd, m_note W M ht hi, m_note W M hu (show i < ρ 1 u by omega)]
      rcases Decidable.em (ρ 2 (8 * t + i) = ρ 2 (8 * u + i)) with e | e <;> simp [e, nI_add]
    · unfold b_X13_alikeIn_5
      simp (disch := omega) only [ob, nI_lit, nI_add, pk_mul, nI_eq, nI_ltI, nI_leI, if_true, if_false, if_pos, if_neg, ck_of (tS_55 M.sh), gR_of (tS_55 M.sh), gI_of (tS_55 M.sh), M.pp, ck_of (tP M.rd.pk), gR_of (tP M.rd.pk), gI_of (tP M.rd.pk), rP_10 M.rd.pk, rP_11 M.rd.pk, rP_12 M.rd.pk, rP_13 M.rd.pk, rP_14 M.rd.pk, rP_15 M.rd.pk, rP_16 M.rd.pk, rP_17 M.rd.pk, rP_18 M.rd.pk, rP_19 M.rd.pk, rP_20 M.rd.pk, rP_21 M.rd.pk, rP_22 M.rd.pk, rP_23 M.rd.pk, rP_24 M.rd.pk, aI_of (tP_1 M.rd.pk), aI_of (tP_2 M.rd.pk), aI_of (tP_3 M.rd.pk), aI_of (tP_4 M.rd.pk), aI_of (tP_5 M.rd.pk), aI_of (tP_6 M.rd.pk), aI_of (tP_7 M.rd.pk), aI_of (tP_8 M.rd.pk), aI_of (tP_9 M.rd.pk), aI_of (tP_10 M.rd.pk), aI_of (tP_11 M.rd.pk), aI_of (tP_12 M.rd.pk), aI_of (tP_13 M.rd.pk), aI_of (tP_14 M.rd.pk), aI_of (tP_15 M.rd.pk), M.rd.sc, M.rd.len, M.rd.note, M.rd.min, M.rd.kd, M.rd.gt, M.rd.e1, M.rd.e2, M.rd.i8, M.rd.i9, M.rd.i10, M.rd.i11, M.rd.hd]
      rfl
  unfold f_X13_alikeIn
  simp (disch := omega) only [ob, nI_lit, nI_add, pk_mul, nI_eq, nI_ltI, nI_leI, if_true, if_false, if_pos, if_neg, ck_of (tS_55 M.sh), gR_of (tS_55 M.sh), gI_of (tS_55 M.sh), M.pp, ck_of (tP M.rd.pk), gR_of (tP M.rd.pk), gI_of (tP M.rd.pk), rP_10 M.rd.pk, rP_11 M.rd.pk, rP_12 M.rd.pk, rP_13 M.rd.pk, rP_14 M.rd.pk, rP_15 M.rd.pk, rP_16 M.rd.pk, rP_17 M.rd.pk, rP_18 M.rd.pk, rP_19 M.rd.pk, rP_20 M.rd.pk, rP_21 M.rd.pk, rP_22 M.rd.pk, rP_23 M.rd.pk, rP_24 M.rd.pk, aI_of (tP_1 M.rd.pk), aI_of (tP_2 M.rd.pk), aI_of (tP_3 M.rd.pk), aI_of (tP_4 M.rd.pk), aI_of (tP_5 M.rd.pk), aI_of (tP_6 M.rd.pk), aI_of (tP_7 M.rd.pk), aI_of (tP_8 M.rd.pk), aI_of (tP_9 M.rd.pk), aI_of (tP_10 M.rd.pk), aI_of (tP_11 M.rd.pk), aI_of (tP_12 M.rd.pk), aI_of (tP_13 M.rd.pk), aI_of (tP_14 M.rd.pk), aI_of (tP_15 M.rd.pk), M.rd.sc, M.rd.len, M.rd.note, M.rd.min, M.rd.kd, M.rd.gt, M.rd.e1, M.rd.e2, M.rd.i8, M.rd.i9, M.rd.i10, M.rd.i11, M.rd.hd, q]
theorem c_gt2 (W : RW ρ) (C : CRd h r ρ) {t u : Nat} (ht : t < ρ 0 1) (hu : u < ρ 0 1) : f_X3_goTogether h r (nI t) (nI u) = some (nI (gt2 ρ t u).toNat) := by
  have := W.len t ht
  have := W.len u hu
  have := al_le W u ht
  unfold f_X3_goTogether f_X3_goTogether_28 gt2
  simp (disch := omega) only [ob, nI_lit, nI_add, pk_mul, nI_eq, nI_ltI, nI_leI, if_true, if_false, if_pos, if_neg, gR_of (tR C.rd), rR_9 C.rd, c_len W C ht, c_len W C hu]
  rcases Decidable.em (ρ 1 t = ρ 1 u) with e | e
  · simp (disch := omega) only [ob, nI_lit, nI_add, pk_mul, nI_eq, nI_ltI, nI_leI, if_true, if_false, if_pos, if_neg, c_al W C ht hu e]
    rcases Decidable.em (al ρ t u = 0) with e2 | e2 <;> simp [e, e2]
  · simp (disch := omega) only [ob, nI_lit, nI_add, pk_mul, nI_eq, nI_ltI, nI_leI, if_true, if_false, if_pos, if_neg]
    simp [e]
/-- in the reference a tune doesn't GO TOGETHER with itself; nor in the class, for it is like itself -/
theorem gt2_self (W : RW ρ) {t : Nat} (ht : t < ρ 0 1) : gt2 ρ t t = false := by
  have h1 := W.len t ht
  have key : ∀ n, 0 < n → cn (fun i => decide (ρ 2 (8 * t + i) = ρ 2 (8 * t + i))) n ≠ 0 := by
    intro n hn
    obtain ⟨m, rfl⟩ : ∃ m, n = m + 1 := ⟨n - 1, by omega⟩
    show cn _ m + (decide _).toNat ≠ 0
    simp
  unfold gt2 al
  have := key (ρ 1 t) (by omega)
  rw [Bool.and_eq_false_iff]
  exact Or.inr (decide_eq_false this)
theorem m_gt2 (W : RW ρ) (M : MT h p ρ) {t u : Nat} (ht : t < ρ 0 1) (hu : u < ρ 0 1) : f_X13_goTogether h 55 (nI t) (nI u) = some (nI (gt2 ρ t u).toNat) := by
  have := W.len t ht
  have := W.len u hu
  have := W.tu
  have := al_le W u ht
  unfold f_X13_goTogether f_X13_goTogether_39
  rcases Decidable.em (t = u) with e0 | e0
  · subst e0
    rw [gt2_self W ht]
    simp (disch := omega) only [ob, nI_lit, nI_add, pk_mul, nI_eq, nI_ltI, nI_leI, if_true, if_false, if_pos, if_neg, ck_of (tS_55 M.sh), gR_of (tS_55 M.sh), gI_of (tS_55 M.sh), M.pp, ck_of (tP M.rd.pk), gR_of (tP M.rd.pk), gI_of (tP M.rd.pk), rP_10 M.rd.pk, rP_11 M.rd.pk, rP_12 M.rd.pk, rP_13 M.rd.pk, rP_14 M.rd.pk, rP_15 M.rd.pk, rP_16 M.rd.pk, rP_17 M.rd.pk, rP_18 M.rd.pk, rP_19 M.rd.pk, rP_20 M.rd.pk, rP_21 M.rd.pk, rP_22 M.rd.pk, rP_23 M.rd.pk, rP_24 M.rd.pk, aI_of (tP_1 M.rd.pk), aI_of (tP_2 M.rd.pk), aI_of (tP_3 M.rd.pk), aI_of (tP_4 M.rd.pk), aI_of (tP_5 M.rd.pk), aI_of (tP_6 M.rd.pk), aI_of (tP_7 M.rd.pk), aI_of (tP_8 M.rd.pk), aI_of (tP_9 M.rd.pk), aI_of (tP_10 M.rd.pk), aI_of (tP_11 M.rd.pk), aI_of (tP_12 M.rd.pk), aI_of (tP_13 M.rd.pk), aI_of (tP_14 M.rd.pk), aI_of (tP_15 M.rd.pk), M.rd.sc, M.rd.len, M.rd.note, M.rd.min, M.rd.kd, M.rd.gt, M.rd.e1, M.rd.e2, M.rd.i8, M.rd.i9, M.rd.i10, M.rd.i11, M.rd.hd]
    rfl
  · unfold gt2
    simp (disch := omega) only [ob, nI_lit, nI_add, pk_mul, nI_eq, nI_ltI, nI_leI, if_true, if_false, if_pos, if_neg, ck_of (tS_55 M.sh), gR_of (tS_55 M.sh), gI_of (tS_55 M.sh), M.pp, ck_of (tP M.rd.pk), gR_of (tP M.rd.pk), gI_of (tP M.rd.pk), rP_10 M.rd.pk, rP_11 M.rd.pk, rP_12 M.rd.pk, rP_13 M.rd.pk, rP_14 M.rd.pk, rP_15 M.rd.pk, rP_16 M.rd.pk, rP_17 M.rd.pk, rP_18 M.rd.pk, rP_19 M.rd.pk, rP_20 M.rd.pk, rP_21 M.rd.pk, rP_22 M.rd.pk, rP_23 M.rd.pk, rP_24 M.rd.pk, aI_of (tP_1 M.rd.pk), aI_of (tP_2 M.rd.pk), aI_of (tP_3 M.rd.pk), aI_of (tP_4 M.rd.pk), aI_of (tP_5 M.rd.pk), aI_of (tP_6 M.rd.pk), aI_of (tP_7 M.rd.pk), aI_of (tP_8 M.rd.pk), aI_of (tP_9 M.rd.pk), aI_of (tP_10 M.rd.pk), aI_of (tP_11 M.rd.pk), aI_of (tP_12 M.rd.pk), aI_of (tP_13 M.rd.pk), aI_of (tP_14 M.rd.pk), aI_of (tP_15 M.rd.pk), M.rd.sc, M.rd.len, M.rd.note, M.rd.min, M.rd.kd, M.rd.gt, M.rd.e1, M.rd.e2, M.rd.i8, M.rd.i9, M.rd.i10, M.rd.i11, M.rd.hd]
    rcases Decidable.em (ρ 1 t = ρ 1 u) with e | e
    · simp (disch := omega) only [ob, nI_lit, nI_add, pk_mul, nI_eq, nI_ltI, nI_leI, if_true, if_false, if_pos, if_neg, m_al W M ht hu e]
      rcases Decidable.em (al ρ t u = 0) with e2 | e2 <;> simp [e, e2]
    · simp (disch := omega) only [ob, nI_lit, nI_add, pk_mul, nI_eq, nI_ltI, nI_leI, if_true, if_false, if_pos, if_neg]
      simp [e]
/-! overlap -/
theorem c_alike (W : RW ρ) (C : CRd h r ρ) {t f u n : Nat} (ht : t < ρ 0 1) (hu : u < ρ 0 1) (h1 : f + n ≤ ρ 1 t) (h2 : n ≤ ρ 1 u) : f_X6_isAlike h r (nI t) (nI f) (nI u) (nI n) = some (nI (ak ρ t f u n).toNat) := by
  have := W.len t ht
  have q : iter (fun (s : Int32) => b_X6_isAlike_3 h r (nI t) (nI f) (nI u) (nI n) s) FU (nI 0) = some (if ex (fun i => decide (ρ 2 (8 * t + (f + i)) ≠ ρ 2 (8 * u + i))) n = true then .inl () else .inr ()) := by
    refine iter_ex (fun i => nI i) _ n (FU_lt (by omega)) (fun i hi => ?_) ?_
    · have := W.note t (f + i) ht (by omega)
      have := W.note u i hu (by omega)
      unfold b_X6_isAlike_3
      simp (disch := omega) only [ob, nI_lit, nI_add, pk_mul, nI_eq, nI_ltI, nI_leI, if_true, if_false, if_pos, if_neg, c_note W C ht (show f + i < ρ 1 t by omega), c_note W C hu (show i < ρ 1 u by omega)]
      rcases Decidable.em (ρ 2 (8 * t + (f + i)) = ρ 2 (8 * u + i)) with e | e <;> simp [e]
    · unfold b_X6_isAlike_3
      simp (disch := omega) only [ob, nI_lit, nI_add, pk_mul, nI_eq, nI_ltI, nI_leI, if_true, if_false, if_pos, if_neg]
  unfold f_X6_isAlike ak
  simp (disch := omega) only [ob, nI_lit, nI_add, pk_mul, nI_eq, nI_ltI, nI_leI, if_true, if_false, if_pos, if_neg, q]
  cases ex (fun i => decide (ρ 2 (8 * t + (f + i)) ≠ ρ 2 (8 * u + i))) n <;> rfl
theorem m_ends (W : RW ρ) (M : MT h p ρ) {t u n : Nat} (ht : t < ρ 0 1) (hu : u < ρ 0 1) (h1 : n ≤ ρ 1 t) (h2 : n ≤ ρ 1 u) : f_X13_endsLike h 55 (nI t) (nI u) (nI n) = some (nI (ak ρ t (ρ 1 t - n) u n).toNat) := by
  have := W.len t ht
  have := W.tu
  have q : iter (fun (s : Int32) => b_X13_endsLike_3 h 55 (nI t) (nI u) (nI n) s) FU (nI 0) = some (if ex (fun i => decide (ρ 2 (8 * t + (ρ 1 t - n + i)) ≠ ρ 2 (8 * u + i))) n = true then .inl () else .inr ()) := by
    refine iter_ex (fun i => nI i) _ n (FU_lt (by omega)) (fun i hi => ?_) ?_
    · have := W.note t (ρ 1 t - n + i) ht (by omega)
      have := W.note u i hu (by omega)
      unfold b_X13_endsLike_3
      simp (disch := omega) only [ob, nI_lit, nI_add, pk_mul, nI_eq, nI_ltI, nI_leI, if_true, if_false, if_pos, if_neg, ck_of (tS_55 M.sh), gR_of (tS_55 M.sh), gI_of (tS_55 M.sh), M.pp, ck_of (tP M.rd.pk), gR_of (tP M.rd.pk), gI_of (tP M.rd.pk), rP_10 M.rd.pk, rP_11 M.rd.pk, rP_12 M.rd.pk, rP_13 M.rd.pk, rP_14 M.rd.pk, rP_15 M.rd.pk, rP_16 M.rd.pk, rP_17 M.rd.pk, rP_18 M.rd.pk, rP_19 M.rd.pk, rP_20 M.rd.pk, rP_21 M.rd.pk, rP_22 M.rd.pk, rP_23 M.rd.pk, rP_24 M.rd.pk, aI_of (tP_1 M.rd.pk), aI_of (tP_2 M.rd.pk), aI_of (tP_3 M.rd.pk), aI_of (tP_4 M.rd.pk), aI_of (tP_5 M.rd.pk), aI_of (tP_6 M.rd.pk), aI_of (tP_7 M.rd.pk), aI_of (tP_8 M.rd.pk), aI_of (tP_9 M.rd.pk), aI_of (tP_10 M.rd.pk), aI_of (tP_11 M.rd.pk), aI_of (tP_12 M.rd.pk), aI_of (tP_13 M.rd.pk), aI_of (tP_14 M.rd.pk), aI_of (tP_15 M.rd.pk), M.rd.sc, M.rd.len, M.rd.note, M.rd.min, M.rd.kd, M.rd.gt, M.rd.e1, M.rd.e2, M.rd.i8, M.rd.i9, M.rd.i10, M.rd.i11, M.rd.hd, pk_sub, m_note W M ht (show ρ 1 t - n + i < ρ 1 t by omega), m_note W M hu (show i < ρ 1 u by omega)]
      rcases Decidable.em (ρ 2 (8 * t + (ρ 1 t - n + i)) = ρ 2 (8 * u + i)) with e | e <;> simp [e]
    · unfold b_X13_endsLike_3
      simp (disch := omega) only [ob, nI_lit, nI_add, pk_mul, nI_eq, nI_ltI, nI_leI, if_true, if_false, if_pos, if_neg]
  unfold f_X13_endsLike ak
  simp (disch := omega) only [ob, nI_lit, nI_add, pk_mul, nI_eq, nI_ltI, nI_leI, if_true, if_false, if_pos, if_neg, ck_of (tS_55 M.sh), gR_of (tS_55 M.sh), gI_of (tS_55 M.sh), M.pp, ck_of (tP M.rd.pk), gR_of (tP M.rd.pk), gI_of (tP M.rd.pk), rP_10 M.rd.pk, rP_11 M.rd.pk, rP_12 M.rd.pk, rP_13 M.rd.pk, rP_14 M.rd.pk, rP_15 M.rd.pk, rP_16 M.rd.pk, rP_17 M.rd.pk, rP_18 M.rd.pk, rP_19 M.rd.pk, rP_20 M.rd.pk, rP_21 M.rd.pk, rP_22 M.rd.pk, rP_23 M.rd.pk, rP_24 M.rd.pk, aI_of (tP_1 M.rd.pk), aI_of (tP_2 M.rd.pk), aI_of (tP_3 M.rd.pk), aI_of (tP_4 M.rd.pk), aI_of (tP_5 M.rd.pk), aI_of (tP_6 M.rd.pk), aI_of (tP_7 M.rd.pk), aI_of (tP_8 M.rd.pk), aI_of (tP_9 M.rd.pk), aI_of (tP_10 M.rd.pk), aI_of (tP_11 M.rd.pk), aI_of (tP_12 M.rd.pk), aI_of (tP_13 M.rd.pk), aI_of (tP_14 M.rd.pk), aI_of (tP_15 M.rd.pk), M.rd.sc, M.rd.len, M.rd.note, M.rd.min, M.rd.kd, M.rd.gt, M.rd.e1, M.rd.e2, M.rd.i8, M.rd.i9, M.rd.i10, M.rd.i11, M.rd.hd, q]
  cases ex (fun i => decide (ρ 2 (8 * t + (ρ 1 t - n + i)) ≠ ρ 2 (8 * u + i))) n <;> rfl
theorem gd_le (P : Nat → Bool) : ∀ n, gd P n ≤ n
  | 0 => Nat.le_refl 0
  | n + 1 => by
    have h := gd_le P n
    unfold gd
    split <;> omega
theorem ov_le (t u : Nat) : ov ρ t u ≤ min (ρ 1 t) (ρ 1 u) := gd_le _ _
theorem ak_0 (t f u : Nat) : ak ρ t f u 0 = true := by
  unfold ak
  rw [ex_no (fun i hi => by omega)]
  rfl
theorem c_ov (W : RW ρ) (C : CRd h r ρ) {t u : Nat} (ht : t < ρ 0 1) (hu : u < ρ 0 1) : f_X6_notesInCommon h r (nI t) (nI u) = some (nI (ov ρ t u)) := by
  have := W.len t ht
  have := W.len u hu
  have key : ∀ (N m : Nat), m < N → m ≤ ρ 1 t → m ≤ ρ 1 u → iter (fun (s : Int32) => b_X6_notesInCommon_16 h r (nI t) (nI u) s) N (nI m) = some (if gd (fun n => ak ρ t (ρ 1 t - n) u n) m = 0 then .inr () else .inl (nI (gd (fun n => ak ρ t (ρ 1 t - n) u n) m))) := by
    intro N
    induction N with
    | zero => intro m hm; omega
    | succ N ih =>
      intro m hm h1 h2
      cases m with
      | zero =>
        refine iter_exit ?_
        unfold b_X6_notesInCommon_16
        simp (disch := omega) only [ob, nI_lit, nI_add, pk_mul, nI_eq, nI_ltI, nI_leI, if_true, if_false, if_pos, if_neg]
        rfl
      | succ m =>
        have e1 : b_X6_notesInCommon_16 h r (nI t) (nI u) (nI (m + 1)) = if ak ρ t (ρ 1 t - (m + 1)) u (m + 1) = true then some (.inr (.inl (nI (m + 1)))) else some (.inl (nI m)) := by
          unfold b_X6_notesInCommon_16
          simp (disch := omega) only [ob, nI_lit, nI_add, pk_mul, nI_eq, nI_ltI, nI_leI, if_true, if_false, if_pos, if_neg, gR_of (tR C.rd), rR_9 C.rd, c_len W C ht, pk_sub, c_alike W C ht hu (show ρ 1 t - (m + 1) + (m + 1) ≤ ρ 1 t by omega) h2, nI_m1]
          cases ak ρ t (ρ 1 t - (m + 1)) u (m + 1) <;> simp [ob, nI_lit, nI_add, pk_mul, nI_eq, nI_ltI, nI_leI, if_true, if_false, if_pos, if_neg]
        rcases hk : ak ρ t (ρ 1 t - (m + 1)) u (m + 1) with _ | _
        · rw [hk] at e1
          rw [iter_step e1, ih m (by omega) (by omega) (by omega)]
          simp only [gd, hk, Bool.false_eq_true, if_false]
        · rw [hk] at e1
          rw [iter_exit e1]
          simp only [gd, hk, if_true]
          simp
  have k := key FU (min (ρ 1 t) (ρ 1 u)) (FU_lt (by omega)) (by omega) (by omega)
  unfold f_X6_notesInCommon
  simp (disch := omega) only [ob, nI_lit, nI_add, pk_mul, nI_eq, nI_ltI, nI_leI, if_true, if_false, if_pos, if_neg, gR_of (tR C.rd), rR_9 C.rd, c_len W C ht, c_len W C hu, mMin_n, k]
  unfold ov
  split
  · rename_i q
    rw [q]
    rfl
  · rfl
theorem m_ov (W : RW ρ) (M : MT h p ρ) {t u : Nat} (ht : t < ρ 0 1) (hu : u < ρ 0 1) : f_X13_overlapOf h 55 (nI t) (nI u) = some (nI (ov ρ t u)) := by
  have := W.len t ht
  have := W.len u hu
  have := W.tu
  have key : ∀ (N m : Nat), m < N → m ≤ ρ 1 t → m ≤ ρ 1 u → iter (fun (s : Int32) => b_X13_overlapOf_43 h 55 (nI t) (nI u) s) N (nI m) = some (nI (gd (fun n => ak ρ t (ρ 1 t - n) u n) m)) := by
    intro N
    induction N with
    | zero => intro m hm; omega
    | succ N ih =>
      intro m hm h1 h2
      cases m with
      | zero =>
        refine iter_exit ?_
        unfold b_X13_overlapOf_43
        simp (disch := omega) only [ob, nI_lit, nI_add, pk_mul, nI_eq, nI_ltI, nI_leI, if_true, if_false, if_pos, if_neg, m_ends W M ht hu h1 h2, ak_0, Bool.toNat_true]
        rfl
      | succ m =>
        have e1 : b_X13_overlapOf_43 h 55 (nI t) (nI u) (nI (m + 1)) = if ak ρ t (ρ 1 t - (m + 1)) u (m + 1) = true then some (.inr (nI (m + 1))) else some (.inl (nI m)) := by
          unfold b_X13_overlapOf_43
          simp (disch := omega) only [ob, nI_lit, nI_add, pk_mul, nI_eq, nI_ltI, nI_leI, if_true, if_false, if_pos, if_neg, m_ends W M ht hu h1 h2, nI_m1]
          cases ak ρ t (ρ 1 t - (m + 1)) u (m + 1) <;> simp [ob, nI_lit, nI_add, pk_mul, nI_eq, nI_ltI, nI_leI, if_true, if_false, if_pos, if_neg]
        rcases hk : ak ρ t (ρ 1 t - (m + 1)) u (m + 1) with _ | _
        · rw [hk] at e1
          rw [iter_step e1, ih m (by omega) (by omega) (by omega)]
          simp only [gd, hk, Bool.false_eq_true, if_false]
        · rw [hk] at e1
          rw [iter_exit e1]
          simp only [gd, hk, if_true]
  have k1 := key FU (ρ 1 t) (FU_lt (by omega)) (by omega)
  have k2 := key FU (ρ 1 u) (FU_lt (by omega))
  unfold f_X13_overlapOf f_X13_overlapOf_42 ov
  rcases Nat.lt_or_ge (ρ 1 t) (ρ 1 u) with q | q
  · rw [Nat.min_eq_left (by omega)]
    simp (disch := omega) only [ob, nI_lit, nI_add, pk_mul, nI_eq, nI_ltI, nI_leI, if_true, if_false, if_pos, if_neg, ck_of (tS_55 M.sh), gR_of (tS_55 M.sh), gI_of (tS_55 M.sh), M.pp, ck_of (tP M.rd.pk), gR_of (tP M.rd.pk), gI_of (tP M.rd.pk), rP_10 M.rd.pk, rP_11 M.rd.pk, rP_12 M.rd.pk, rP_13 M.rd.pk, rP_14 M.rd.pk, rP_15 M.rd.pk, rP_16 M.rd.pk, rP_17 M.rd.pk, rP_18 M.rd.pk, rP_19 M.rd.pk, rP_20 M.rd.pk, rP_21 M.rd.pk, rP_22 M.rd.pk, rP_23 M.rd.pk, rP_24 M.rd.pk, aI_of (tP_1 M.rd.pk), aI_of (tP_2 M.rd.pk), aI_of (tP_3 M.rd.pk), aI_of (tP_4 M.rd.pk), aI_of (tP_5 M.rd.pk), aI_of (tP_6 M.rd.pk), aI_of (tP_7 M.rd.pk), aI_of (tP_8 M.rd.pk), aI_of (tP_9 M.rd.pk), aI_of (tP_10 M.rd.pk), aI_of (tP_11 M.rd.pk), aI_of (tP_12 M.rd.pk), aI_of (tP_13 M.rd.pk), aI_of (tP_14 M.rd.pk), aI_of (tP_15 M.rd.pk), M.rd.sc, M.rd.len, M.rd.note, M.rd.min, M.rd.kd, M.rd.gt, M.rd.e1, M.rd.e2, M.rd.i8, M.rd.i9, M.rd.i10, M.rd.i11, M.rd.hd, k1]
  · rw [Nat.min_eq_right (by omega)]
    simp (disch := omega) only [ob, nI_lit, nI_add, pk_mul, nI_eq, nI_ltI, nI_leI, if_true, if_false, if_pos, if_neg, ck_of (tS_55 M.sh), gR_of (tS_55 M.sh), gI_of (tS_55 M.sh), M.pp, ck_of (tP M.rd.pk), gR_of (tP M.rd.pk), gI_of (tP M.rd.pk), rP_10 M.rd.pk, rP_11 M.rd.pk, rP_12 M.rd.pk, rP_13 M.rd.pk, rP_14 M.rd.pk, rP_15 M.rd.pk, rP_16 M.rd.pk, rP_17 M.rd.pk, rP_18 M.rd.pk, rP_19 M.rd.pk, rP_20 M.rd.pk, rP_21 M.rd.pk, rP_22 M.rd.pk, rP_23 M.rd.pk, rP_24 M.rd.pk, aI_of (tP_1 M.rd.pk), aI_of (tP_2 M.rd.pk), aI_of (tP_3 M.rd.pk), aI_of (tP_4 M.rd.pk), aI_of (tP_5 M.rd.pk), aI_of (tP_6 M.rd.pk), aI_of (tP_7 M.rd.pk), aI_of (tP_8 M.rd.pk), aI_of (tP_9 M.rd.pk), aI_of (tP_10 M.rd.pk), aI_of (tP_11 M.rd.pk), aI_of (tP_12 M.rd.pk), aI_of (tP_13 M.rd.pk), aI_of (tP_14 M.rd.pk), aI_of (tP_15 M.rd.pk), M.rd.sc, M.rd.len, M.rd.note, M.rd.min, M.rd.kd, M.rd.gt, M.rd.e1, M.rd.e2, M.rd.i8, M.rd.i9, M.rd.i10, M.rd.i11, M.rd.hd, k2]
end
theorem qq_overlap {a : AB} (W : IW a) (x y : Int32) : ∃ v z, z ≤ 6 ∧ z ≠ 4 ∧ QC a (fun h => f_X11_overlap h 1 x y) v z ∧ QM a (fun h => f_X13_overlap h 55 x y) v z := by
  have := W.rw.tu
  rcases hx : i2 (a 0 0 1) x y with _ | _
  · refine ⟨-nI 1, 1, by decide, by decide, fun h C => ?_, fun h M0 => ?_⟩
    · unfold f_X11_overlap
      simp (disch := omega) only [ob, nI_lit, nI_add, pk_mul, nI_eq, nI_ltI, nI_leI, if_true, if_false, if_pos, if_neg, ck_of (tS_1 C.ct.sh), gR_of (tS_1 C.ct.sh), gI_of (tS_1 C.ct.sh), pI_of (tS_1 C.ct.sh), C.ct.rp, rS_1_2 C.ct.sh, rS_1_3 C.ct.sh, rS_1_4 C.ct.sh, rS_1_5 C.ct.sh, rS_1_6 C.ct.sh, rS_1_7 C.ct.sh, rS_1_8 C.ct.sh, rS_1_9 C.ct.sh, ck_of (tR C.ct.rd.rd), gR_of (tR C.ct.rd.rd), gI_of (tR C.ct.rd.rd), rR_9 C.ct.rd.rd, rR_10 C.ct.rd.rd, rR_11 C.ct.rd.rd, rR_12 C.ct.rd.rd, rR_13 C.ct.rd.rd, rR_14 C.ct.rd.rd, rR_15 C.ct.rd.rd, rR_16 C.ct.rd.rd, rR_17 C.ct.rd.rd, rR_18 C.ct.rd.rd, rR_19 C.ct.rd.rd, aI_of (tR_1 C.ct.rd.rd), aI_of (tR_2 C.ct.rd.rd), aI_of (tR_3 C.ct.rd.rd), aI_of (tR_4 C.ct.rd.rd), aI_of (tR_5 C.ct.rd.rd), aI_of (tR_6 C.ct.rd.rd), aI_of (tR_7 C.ct.rd.rd), aI_of (tR_8 C.ct.rd.rd), aI_of (tR_9 C.ct.rd.rd), C.ct.rd.sc, C.ct.rd.len, C.ct.rd.e1, C.ct.rd.e2, C.ct.rd.min, C.ct.rd.kd, C.ct.rd.gt, C.ct.rd.bt, C.ct.rd.ip, C.ct.rd.hd, c_refuse C.ct.sh, c_answer C.ct.sh, c_areTwoTunes W C, hx, Bool.toNat_false]
      exact qc_end C _ _
    · unfold f_X13_overlap
      simp only [ck_of (tS_55 M0.sh), pI_of (tS_55 M0.sh), ob, nI_lit]; obtain ⟨h1, eh, M, F1⟩ : ∃ h1, wI h 55 0 (nI 0) = h1 ∧ IM h1 a ∧ FM h h1 := ⟨_, rfl, M0.th _, FM.w55 h _ (by decide)⟩; rw [eh]
      simp (disch := omega) only [ob, nI_lit, nI_add, pk_mul, nI_eq, nI_ltI, nI_leI, if_true, if_false, if_pos, if_neg, ck_of (tS_55 M.sh), gR_of (tS_55 M.sh), gI_of (tS_55 M.sh), pI_of (tS_55 M.sh), rS_55_16 M.sh, rS_55_17 M.sh, rS_55_18 M.sh, rS_55_21 M.sh, rS_55_25 M.sh, rS_55_26 M.sh, rS_55_27 M.sh, rS_55_28 M.sh, rS_55_32 M.sh, rS_55_33 M.sh, rS_55_34 M.sh, m_refused M.sh, m_good M.sh, m_areTwoTunes W M, hx, Bool.toNat_false]
      exact qm_end F1 _ _
  · obtain ⟨t, u, ht, hu, hne, rfl, rfl⟩ := i2_t hx (by omega)
    refine ⟨nI (ov (a 0) t u), 0, by decide, by decide, fun h C => ?_, fun h M0 => ?_⟩
    · unfold f_X11_overlap
      simp (disch := omega) only [ob, nI_lit, nI_add, pk_mul, nI_eq, nI_ltI, nI_leI, if_true, if_false, if_pos, if_neg, ck_of (tS_1 C.ct.sh), gR_of (tS_1 C.ct.sh), gI_of (tS_1 C.ct.sh), pI_of (tS_1 C.ct.sh), C.ct.rp, rS_1_2 C.ct.sh, rS_1_3 C.ct.sh, rS_1_4 C.ct.sh, rS_1_5 C.ct.sh, rS_1_6 C.ct.sh, rS_1_7 C.ct.sh, rS_1_8 C.ct.sh, rS_1_9 C.ct.sh, ck_of (tR C.ct.rd.rd), gR_of (tR C.ct.rd.rd), gI_of (tR C.ct.rd.rd), rR_9 C.ct.rd.rd, rR_10 C.ct.rd.rd, rR_11 C.ct.rd.rd, rR_12 C.ct.rd.rd, rR_13 C.ct.rd.rd, rR_14 C.ct.rd.rd, rR_15 C.ct.rd.rd, rR_16 C.ct.rd.rd, rR_17 C.ct.rd.rd, rR_18 C.ct.rd.rd, rR_19 C.ct.rd.rd, aI_of (tR_1 C.ct.rd.rd), aI_of (tR_2 C.ct.rd.rd), aI_of (tR_3 C.ct.rd.rd), aI_of (tR_4 C.ct.rd.rd), aI_of (tR_5 C.ct.rd.rd), aI_of (tR_6 C.ct.rd.rd), aI_of (tR_7 C.ct.rd.rd), aI_of (tR_8 C.ct.rd.rd), aI_of (tR_9 C.ct.rd.rd), C.ct.rd.sc, C.ct.rd.len, C.ct.rd.e1, C.ct.rd.e2, C.ct.rd.min, C.ct.rd.kd, C.ct.rd.gt, C.ct.rd.bt, C.ct.rd.ip, C.ct.rd.hd, c_refuse C.ct.sh, c_answer C.ct.sh, c_areTwoTunes W C, hx, Bool.toNat_true, c_ov W.rw C.ct.rd ht hu]
      exact qc_end C _ _
    · unfold f_X13_overlap
      simp only [ck_of (tS_55 M0.sh), pI_of (tS_55 M0.sh), ob, nI_lit]; obtain ⟨h1, eh, M, F1⟩ : ∃ h1, wI h 55 0 (nI 0) = h1 ∧ IM h1 a ∧ FM h h1 := ⟨_, rfl, M0.th _, FM.w55 h _ (by decide)⟩; rw [eh]
      have P := M.told (told_of W (i := 0) (j := 1) (by omega))
      simp (disch := omega) only [ob, nI_lit, nI_add, pk_mul, nI_eq, nI_ltI, nI_leI, if_true, if_false, if_pos, if_neg, ck_of (tS_55 M.sh), gR_of (tS_55 M.sh), gI_of (tS_55 M.sh), pI_of (tS_55 M.sh), rS_55_16 M.sh, rS_55_17 M.sh, rS_55_18 M.sh, rS_55_21 M.sh, rS_55_25 M.sh, rS_55_26 M.sh, rS_55_27 M.sh, rS_55_28 M.sh, rS_55_32 M.sh, rS_55_33 M.sh, rS_55_34 M.sh, m_refused M.sh, m_good M.sh, m_areTwoTunes W M, hx, Bool.toNat_true, m_ov W.rw P ht hu]
      exact qm_end F1 _ _
theorem st_25 : StepOK INV lc_25 := by
  intro sc L i h hL hi hI
  unfold lc_25
  simp only [show (1 : Int32) = nI 1 from rfl, show (2 : Int32) = nI 2 from rfl, show (3 : Int32) = nI 3 from rfl, show (4 : Int32) = nI 4 from rfl, show (5 : Int32) = nI 5 from rfl, nI_add, sc_at hL (show i + 1 < L by omega), sc_at hL (show i + 2 < L by omega), sc_at hL (show i + 3 < L by omega), sc_at hL (show i + 4 < L by omega), sc_at hL (show i + 5 < L by omega), ob]
  exact q2 (f := fun h => f_X11_overlap h 1 (sc (i + 1)) (sc (i + 2))) (g := fun h => f_X13_overlap h 55 (sc (i + 1)) (sc (i + 2))) hI (fun a W => qq_overlap W _ _)
theorem qq_together {a : AB} (W : IW a) (x y : Int32) : ∃ v z, z ≤ 6 ∧ z ≠ 4 ∧ QC a (fun h => f_X11_together h 1 x y) v z ∧ QM a (fun h => f_X13_together h 55 x y) v z := by
  have := W.rw.tu
  rcases hx : i2 (a 0 0 1) x y with _ | _
  · refine ⟨-nI 1, 1, by decide, by decide, fun h C => ?_, fun h M0 => ?_⟩
    · unfold f_X11_together
      simp (disch := omega) only [ob, nI_lit, nI_add, pk_mul, nI_eq, nI_ltI, nI_leI, if_true, if_false, if_pos, if_neg, ck_of (tS_1 C.ct.sh), gR_of (tS_1 C.ct.sh), gI_of (tS_1 C.ct.sh), pI_of (tS_1 C.ct.sh), C.ct.rp, rS_1_2 C.ct.sh, rS_1_3 C.ct.sh, rS_1_4 C.ct.sh, rS_1_5 C.ct.sh, rS_1_6 C.ct.sh, rS_1_7 C.ct.sh, rS_1_8 C.ct.sh, rS_1_9 C.ct.sh, ck_of (tR C.ct.rd.rd), gR_of (tR C.ct.rd.rd), gI_of (tR C.ct.rd.rd), rR_9 C.ct.rd.rd, rR_10 C.ct.rd.rd, rR_11 C.ct.rd.rd, rR_12 C.ct.rd.rd, rR_13 C.ct.rd.rd, rR_14 C.ct.rd.rd, rR_15 C.ct.rd.rd, rR_16 C.ct.rd.rd, rR_17 C.ct.rd.rd, rR_18 C.ct.rd.rd, rR_19 C.ct.rd.rd, aI_of (tR_1 C.ct.rd.rd), aI_of (tR_2 C.ct.rd.rd), aI_of (tR_3 C.ct.rd.rd), aI_of (tR_4 C.ct.rd.rd), aI_of (tR_5 C.ct.rd.rd), aI_of (tR_6 C.ct.rd.rd), aI_of (tR_7 C.ct.rd.rd), aI_of (tR_8 C.ct.rd.rd), aI_of (tR_9 C.ct.rd.rd), C.ct.rd.sc, C.ct.rd.len, C.ct.rd.e1, C.ct.rd.e2, C.ct.rd.min, C.ct.rd.kd, C.ct.rd.gt, C.ct.rd.bt, C.ct.rd.ip, C.ct.rd.hd, c_refuse C.ct.sh, c_answer C.ct.sh, c_areTwoTunes W C, hx, Bool.toNat_false]
      exact qc_end C _ _
    · unfold f_X13_together
      simp only [ck_of (tS_55 M0.sh), pI_of (tS_55 M0.sh), ob, nI_lit]; obtain ⟨h1, eh, M, F1⟩ : ∃ h1, wI h 55 0 (nI 0) = h1 ∧ IM h1 a ∧ FM h h1 := ⟨_, rfl, M0.th _, FM.w55 h _ (by decide)⟩; rw [eh]
      simp (disch := omega) only [ob, nI_lit, nI_add, pk_mul, nI_eq, nI_ltI, nI_leI, if_true, if_false, if_pos, if_neg, ck_of (tS_55 M.sh), gR_of (tS_55 M.sh), gI_of (tS_55 M.sh), pI_of (tS_55 M.sh), rS_55_16 M.sh, rS_55_17 M.sh, rS_55_18 M.sh, rS_55_21 M.sh, rS_55_25 M.sh, rS_55_26 M.sh, rS_55_27 M.sh, rS_55_28 M.sh, rS_55_32 M.sh, rS_55_33 M.sh, rS_55_34 M.sh, m_refused M.sh, m_good M.sh, m_areTwoTunes W M, hx, Bool.toNat_false]
      exact qm_end F1 _ _
  · obtain ⟨t, u, ht, hu, hne, rfl, rfl⟩ := i2_t hx (by omega)
    refine ⟨nI (gt2 (a 0) t u).toNat, 0, by decide, by decide, fun h C => ?_, fun h M0 => ?_⟩
    · unfold f_X11_together f_X11_together_27
      simp (disch := omega) only [ob, nI_lit, nI_add, pk_mul, nI_eq, nI_ltI, nI_leI, if_true, if_false, if_pos, if_neg, ck_of (tS_1 C.ct.sh), gR_of (tS_1 C.ct.sh), gI_of (tS_1 C.ct.sh), pI_of (tS_1 C.ct.sh), C.ct.rp, rS_1_2 C.ct.sh, rS_1_3 C.ct.sh, rS_1_4 C.ct.sh, rS_1_5 C.ct.sh, rS_1_6 C.ct.sh, rS_1_7 C.ct.sh, rS_1_8 C.ct.sh, rS_1_9 C.ct.sh, ck_of (tR C.ct.rd.rd), gR_of (tR C.ct.rd.rd), gI_of (tR C.ct.rd.rd), rR_9 C.ct.rd.rd, rR_10 C.ct.rd.rd, rR_11 C.ct.rd.rd, rR_12 C.ct.rd.rd, rR_13 C.ct.rd.rd, rR_14 C.ct.rd.rd, rR_15 C.ct.rd.rd, rR_16 C.ct.rd.rd, rR_17 C.ct.rd.rd, rR_18 C.ct.rd.rd, rR_19 C.ct.rd.rd, aI_of (tR_1 C.ct.rd.rd), aI_of (tR_2 C.ct.rd.rd), aI_of (tR_3 C.ct.rd.rd), aI_of (tR_4 C.ct.rd.rd), aI_of (tR_5 C.ct.rd.rd), aI_of (tR_6 C.ct.rd.rd), aI_of (tR_7 C.ct.rd.rd), aI_of (tR_8 C.ct.rd.rd), aI_of (tR_9 C.ct.rd.rd), C.ct.rd.sc, C.ct.rd.len, C.ct.rd.e1, C.ct.rd.e2, C.ct.rd.min, C.ct.rd.kd, C.ct.rd.gt, C.ct.rd.bt, C.ct.rd.ip, C.ct.rd.hd, c_refuse C.ct.sh, c_answer C.ct.sh, c_areTwoTunes W C, hx, Bool.toNat_true, c_gt2 W.rw C.ct.rd ht hu]
      cases gt2 (a 0) t u
      · exact qc_end C _ _
      · exact qc_end C _ _
    · unfold f_X13_together f_X13_together_29
      simp only [ck_of (tS_55 M0.sh), pI_of (tS_55 M0.sh), ob, nI_lit]; obtain ⟨h1, eh, M, F1⟩ : ∃ h1, wI h 55 0 (nI 0) = h1 ∧ IM h1 a ∧ FM h h1 := ⟨_, rfl, M0.th _, FM.w55 h _ (by decide)⟩; rw [eh]
      have P := M.told (told_of W (i := 0) (j := 1) (by omega))
      simp (disch := omega) only [ob, nI_lit, nI_add, pk_mul, nI_eq, nI_ltI, nI_leI, if_true, if_false, if_pos, if_neg, ck_of (tS_55 M.sh), gR_of (tS_55 M.sh), gI_of (tS_55 M.sh), pI_of (tS_55 M.sh), rS_55_16 M.sh, rS_55_17 M.sh, rS_55_18 M.sh, rS_55_21 M.sh, rS_55_25 M.sh, rS_55_26 M.sh, rS_55_27 M.sh, rS_55_28 M.sh, rS_55_32 M.sh, rS_55_33 M.sh, rS_55_34 M.sh, m_refused M.sh, m_good M.sh, m_areTwoTunes W M, hx, Bool.toNat_true, m_gt2 W.rw P ht hu]
      cases gt2 (a 0) t u
      · exact qm_end F1 _ _
      · exact qm_end F1 _ _
theorem st_26 : StepOK INV lc_26 := by
  intro sc L i h hL hi hI
  unfold lc_26
  simp only [show (1 : Int32) = nI 1 from rfl, show (2 : Int32) = nI 2 from rfl, show (3 : Int32) = nI 3 from rfl, show (4 : Int32) = nI 4 from rfl, show (5 : Int32) = nI 5 from rfl, nI_add, sc_at hL (show i + 1 < L by omega), sc_at hL (show i + 2 < L by omega), sc_at hL (show i + 3 < L by omega), sc_at hL (show i + 4 < L by omega), sc_at hL (show i + 5 < L by omega), ob]
  exact q2 (f := fun h => f_X11_together h 1 (sc (i + 1)) (sc (i + 2))) (g := fun h => f_X13_together h 55 (sc (i + 1)) (sc (i + 2))) hI (fun a W => qq_together W _ _)
/-! likest -/
def lkf (ρ : RO) (t u : Nat) (s : Int32 × Int32) : Int32 × Int32 := if t < u ∧ ρ 1 t = ρ 1 u ∧ s.2 < nI (al ρ t u) then (nI (10 * t + u), nI (al ρ t u)) else s
def lkt (ρ : RO) : Int32 × Int32 := fo (fun t s => fo (lkf ρ t) s (ρ 0 1)) (-nI 2, -nI 1) (ρ 0 1)
theorem le_not {x y : Int32} : (x ≤ y) = ¬ (y < x) := by
  rw [Int32.lt_iff_toInt_lt, Int32.le_iff_toInt_le]
  apply propext
  omega
theorem qq_likest {a : AB} (W : IW a) : ∃ v z, z ≤ 6 ∧ z ≠ 4 ∧ QC a (fun h => f_X11_likest h 1) v z ∧ QM a (fun h => f_X13_likest h 55) v z := by
  have htu := W.rw.tu
  rcases Nat.eq_zero_or_pos (a 0 0 2) with e0 | e0
  · refine ⟨-nI 1, 1, by decide, by decide, fun h C => ?_, fun h M0 => ?_⟩
    · unfold f_X11_likest
      simp (disch := omega) only [ob, nI_lit, nI_add, pk_mul, nI_eq, nI_ltI, nI_leI, if_true, if_false, if_pos, if_neg, ck_of (tS_1 C.ct.sh), gR_of (tS_1 C.ct.sh), gI_of (tS_1 C.ct.sh), pI_of (tS_1 C.ct.sh), C.ct.rp, rS_1_2 C.ct.sh, rS_1_3 C.ct.sh, rS_1_4 C.ct.sh, rS_1_5 C.ct.sh, rS_1_6 C.ct.sh, rS_1_7 C.ct.sh, rS_1_8 C.ct.sh, rS_1_9 C.ct.sh, ck_of (tR C.ct.rd.rd), gR_of (tR C.ct.rd.rd), gI_of (tR C.ct.rd.rd), rR_9 C.ct.rd.rd, rR_10 C.ct.rd.rd, rR_11 C.ct.rd.rd, rR_12 C.ct.rd.rd, rR_13 C.ct.rd.rd, rR_14 C.ct.rd.rd, rR_15 C.ct.rd.rd, rR_16 C.ct.rd.rd, rR_17 C.ct.rd.rd, rR_18 C.ct.rd.rd, rR_19 C.ct.rd.rd, aI_of (tR_1 C.ct.rd.rd), aI_of (tR_2 C.ct.rd.rd), aI_of (tR_3 C.ct.rd.rd), aI_of (tR_4 C.ct.rd.rd), aI_of (tR_5 C.ct.rd.rd), aI_of (tR_6 C.ct.rd.rd), aI_of (tR_7 C.ct.rd.rd), aI_of (tR_8 C.ct.rd.rd), aI_of (tR_9 C.ct.rd.rd), C.ct.rd.sc, C.ct.rd.len, C.ct.rd.e1, C.ct.rd.e2, C.ct.rd.min, C.ct.rd.kd, C.ct.rd.gt, C.ct.rd.bt, C.ct.rd.ip, C.ct.rd.hd, c_refuse C.ct.sh, c_answer C.ct.sh, c_told0 W C e0]
      exact qc_end C _ _
    · unfold f_X13_likest
      simp only [ck_of (tS_55 M0.sh), pI_of (tS_55 M0.sh), ob, nI_lit]; obtain ⟨h1, eh, M, F1⟩ : ∃ h1, wI h 55 0 (nI 0) = h1 ∧ IM h1 a ∧ FM h h1 := ⟨_, rfl, M0.th _, FM.w55 h _ (by decide)⟩; rw [eh]
      simp (disch := omega) only [ob, nI_lit, nI_add, pk_mul, nI_eq, nI_ltI, nI_leI, if_true, if_false, if_pos, if_neg, ck_of (tS_55 M.sh), gR_of (tS_55 M.sh), gI_of (tS_55 M.sh), pI_of (tS_55 M.sh), rS_55_16 M.sh, rS_55_17 M.sh, rS_55_18 M.sh, rS_55_21 M.sh, rS_55_25 M.sh, rS_55_26 M.sh, rS_55_27 M.sh, rS_55_28 M.sh, rS_55_32 M.sh, rS_55_33 M.sh, rS_55_34 M.sh, m_refused M.sh, m_good M.sh, m_null M e0]
      exact qm_end F1 _ _
  · refine ⟨(lkt (a 0)).1, 0, by decide, by decide, fun h C => ?_, fun h M0 => ?_⟩
    · have q1 : ∀ t (s : Int32 × Int32), t < a 0 0 1 → iter (fun (s : Int32 × Int32 × Int32) => b_X3_mostAlike_20 h (a 2 0 0) (nI t) s.1 s.2.1 s.2.2) FU (s.1, s.2, nI (t + 1)) = some ((fo (lkf (a 0) t) s (a 0 0 1)).1, (fo (lkf (a 0) t) s (a 0 0 1)).2) := by
        intro t s ht
        refine iter_fom (fun (x : Int32 × Int32) i => (x.1, x.2, nI i)) (lkf (a 0) t) s (t + 1) (a 0 0 1) (by omega) (FU_lt (by omega)) (fun i x hi => if_neg (by omega)) (fun i x h1 h2 => ?_) ?_
        · have l1 := W.rw.len t ht
          have l2 := W.rw.len i h2
          unfold b_X3_mostAlike_20 f_X3_mostAlike_72 lkf
          simp (disch := omega) only [ob, nI_lit, nI_add, pk_mul, nI_eq, nI_ltI, nI_leI, if_true, if_false, if_pos, if_neg, ck_of (tS_1 C.ct.sh), gR_of (tS_1 C.ct.sh), gI_of (tS_1 C.ct.sh), pI_of (tS_1 C.ct.sh), C.ct.rp, rS_1_2 C.ct.sh, rS_1_3 C.ct.sh, rS_1_4 C.ct.sh, rS_1_5 C.ct.sh, rS_1_6 C.ct.sh, rS_1_7 C.ct.sh, rS_1_8 C.ct.sh, rS_1_9 C.ct.sh, ck_of (tR C.ct.rd.rd), gR_of (tR C.ct.rd.rd), gI_of (tR C.ct.rd.rd), rR_9 C.ct.rd.rd, rR_10 C.ct.rd.rd, rR_11 C.ct.rd.rd, rR_12 C.ct.rd.rd, rR_13 C.ct.rd.rd, rR_14 C.ct.rd.rd, rR_15 C.ct.rd.rd, rR_16 C.ct.rd.rd, rR_17 C.ct.rd.rd, rR_18 C.ct.rd.rd, rR_19 C.ct.rd.rd, aI_of (tR_1 C.ct.rd.rd), aI_of (tR_2 C.ct.rd.rd), aI_of (tR_3 C.ct.rd.rd), aI_of (tR_4 C.ct.rd.rd), aI_of (tR_5 C.ct.rd.rd), aI_of (tR_6 C.ct.rd.rd), aI_of (tR_7 C.ct.rd.rd), aI_of (tR_8 C.ct.rd.rd), aI_of (tR_9 C.ct.rd.rd), C.ct.rd.sc, C.ct.rd.len, C.ct.rd.e1, C.ct.rd.e2, C.ct.rd.min, C.ct.rd.kd, C.ct.rd.gt, C.ct.rd.bt, C.ct.rd.ip, C.ct.rd.hd, c_refuse C.ct.sh, c_answer C.ct.sh]
          rcases Decidable.em (a 0 1 t = a 0 1 i) with e | e
          · simp (disch := omega) only [ob, nI_lit, nI_add, pk_mul, nI_eq, nI_ltI, nI_leI, if_true, if_false, if_pos, if_neg, c_al W.rw C.ct.rd ht h2 e, le_not]
            rcases Decidable.em (x.2 < nI (al (a 0) t i)) with e2 | e2 <;> simp [e, e2, show t < i by omega]
          · simp (disch := omega) only [ob, nI_lit, nI_add, pk_mul, nI_eq, nI_ltI, nI_leI, if_true, if_false, if_pos, if_neg]
        · unfold b_X3_mostAlike_20
          simp (disch := omega) only [ob, nI_lit, nI_add, pk_mul, nI_eq, nI_ltI, nI_leI, if_true, if_false, if_pos, if_neg, ck_of (tS_1 C.ct.sh), gR_of (tS_1 C.ct.sh), gI_of (tS_1 C.ct.sh), pI_of (tS_1 C.ct.sh), C.ct.rp, rS_1_2 C.ct.sh, rS_1_3 C.ct.sh, rS_1_4 C.ct.sh, rS_1_5 C.ct.sh, rS_1_6 C.ct.sh, rS_1_7 C.ct.sh, rS_1_8 C.ct.sh, rS_1_9 C.ct.sh, ck_of (tR C.ct.rd.rd), gR_of (tR C.ct.rd.rd), gI_of (tR C.ct.rd.rd), rR_9 C.ct.rd.rd, rR_10 C.ct.rd.rd, rR_11 C.ct.rd.rd, rR_12 C.ct.rd.rd, rR_13 C.ct.rd.rd, rR_14 C.ct.rd.rd, rR_15 C.ct.rd.rd, rR_16 C.ct.rd.rd, rR_17 C.ct.rd.rd, rR_18 C.ct.rd.rd, rR_19 C.ct.rd.rd, aI_of (tR_1 C.ct.rd.rd), aI_of (tR_2 C.ct.rd.rd), aI_of (tR_3 C.ct.rd.rd), aI_of (tR_4 C.ct.rd.rd), aI_of (tR_5 C.ct.rd.rd), aI_of (tR_6 C.ct.rd.rd), aI_of (tR_7 C.ct.rd.rd), aI_of (tR_8 C.ct.rd.rd), aI_of (tR_9 C.ct.rd.rd), C.ct.rd.sc, C.ct.rd.len, C.ct.rd.e1, C.ct.rd.e2, C.ct.rd.min, C.ct.rd.kd, C.ct.rd.gt, C.ct.rd.bt, C.ct.rd.ip, C.ct.rd.hd, c_refuse C.ct.sh, c_answer C.ct.sh]
      have q2 : iter (fun (s : Int32 × Int32 × Int32) => b_X3_mostAlike_7 h (a 2 0 0) s.1 s.2.1 s.2.2) FU (-nI 2, -nI 1, nI 0) = some (lkt (a 0)).1 := by
        refine iter_fo (fun (x : Int32 × Int32) i => (x.1, x.2, nI i)) (fun t s => fo (lkf (a 0) t) s (a 0 0 1)) (-nI 2, -nI 1) (a 0 0 1) (FU_lt (by omega)) (fun t s ht => ?_) ?_
        · have q := q1 t s ht
          unfold b_X3_mostAlike_7
          simp (disch := omega) only [ob, nI_lit, nI_add, pk_mul, nI_eq, nI_ltI, nI_leI, if_true, if_false, if_pos, if_neg, ck_of (tS_1 C.ct.sh), gR_of (tS_1 C.ct.sh), gI_of (tS_1 C.ct.sh), pI_of (tS_1 C.ct.sh), C.ct.rp, rS_1_2 C.ct.sh, rS_1_3 C.ct.sh, rS_1_4 C.ct.sh, rS_1_5 C.ct.sh, rS_1_6 C.ct.sh, rS_1_7 C.ct.sh, rS_1_8 C.ct.sh, rS_1_9 C.ct.sh, ck_of (tR C.ct.rd.rd), gR_of (tR C.ct.rd.rd), gI_of (tR C.ct.rd.rd), rR_9 C.ct.rd.rd, rR_10 C.ct.rd.rd, rR_11 C.ct.rd.rd, rR_12 C.ct.rd.rd, rR_13 C.ct.rd.rd, rR_14 C.ct.rd.rd, rR_15 C.ct.rd.rd, rR_16 C.ct.rd.rd, rR_17 C.ct.rd.rd, rR_18 C.ct.rd.rd, rR_19 C.ct.rd.rd, aI_of (tR_1 C.ct.rd.rd), aI_of (tR_2 C.ct.rd.rd), aI_of (tR_3 C.ct.rd.rd), aI_of (tR_4 C.ct.rd.rd), aI_of (tR_5 C.ct.rd.rd), aI_of (tR_6 C.ct.rd.rd), aI_of (tR_7 C.ct.rd.rd), aI_of (tR_8 C.ct.rd.rd), aI_of (tR_9 C.ct.rd.rd), C.ct.rd.sc, C.ct.rd.len, C.ct.rd.e1, C.ct.rd.e2, C.ct.rd.min, C.ct.rd.kd, C.ct.rd.gt, C.ct.rd.bt, C.ct.rd.ip, C.ct.rd.hd, c_refuse C.ct.sh, c_answer C.ct.sh, q]
        · unfold b_X3_mostAlike_7
          simp (disch := omega) only [ob, nI_lit, nI_add, pk_mul, nI_eq, nI_ltI, nI_leI, if_true, if_false, if_pos, if_neg, ck_of (tS_1 C.ct.sh), gR_of (tS_1 C.ct.sh), gI_of (tS_1 C.ct.sh), pI_of (tS_1 C.ct.sh), C.ct.rp, rS_1_2 C.ct.sh, rS_1_3 C.ct.sh, rS_1_4 C.ct.sh, rS_1_5 C.ct.sh, rS_1_6 C.ct.sh, rS_1_7 C.ct.sh, rS_1_8 C.ct.sh, rS_1_9 C.ct.sh, ck_of (tR C.ct.rd.rd), gR_of (tR C.ct.rd.rd), gI_of (tR C.ct.rd.rd), rR_9 C.ct.rd.rd, rR_10 C.ct.rd.rd, rR_11 C.ct.rd.rd, rR_12 C.ct.rd.rd, rR_13 C.ct.rd.rd, rR_14 C.ct.rd.rd, rR_15 C.ct.rd.rd, rR_16 C.ct.rd.rd, rR_17 C.ct.rd.rd, rR_18 C.ct.rd.rd, rR_19 C.ct.rd.rd, aI_of (tR_1 C.ct.rd.rd), aI_of (tR_2 C.ct.rd.rd), aI_of (tR_3 C.ct.rd.rd), aI_of (tR_4 C.ct.rd.rd), aI_of (tR_5 C.ct.rd.rd), aI_of (tR_6 C.ct.rd.rd), aI_of (tR_7 C.ct.rd.rd), aI_of (tR_8 C.ct.rd.rd), aI_of (tR_9 C.ct.rd.rd), C.ct.rd.sc, C.ct.rd.len, C.ct.rd.e1, C.ct.rd.e2, C.ct.rd.min, C.ct.rd.kd, C.ct.rd.gt, C.ct.rd.bt, C.ct.rd.ip, C.ct.rd.hd, c_refuse C.ct.sh, c_answer C.ct.sh]
          rfl
      unfold f_X11_likest f_X3_mostAlike
      simp (disch := omega) only [ob, nI_lit, nI_add, pk_mul, nI_eq, nI_ltI, nI_leI, if_true, if_false, if_pos, if_neg, ck_of (tS_1 C.ct.sh), gR_of (tS_1 C.ct.sh), gI_of (tS_1 C.ct.sh), pI_of (tS_1 C.ct.sh), C.ct.rp, rS_1_2 C.ct.sh, rS_1_3 C.ct.sh, rS_1_4 C.ct.sh, rS_1_5 C.ct.sh, rS_1_6 C.ct.sh, rS_1_7 C.ct.sh, rS_1_8 C.ct.sh, rS_1_9 C.ct.sh, ck_of (tR C.ct.rd.rd), gR_of (tR C.ct.rd.rd), gI_of (tR C.ct.rd.rd), rR_9 C.ct.rd.rd, rR_10 C.ct.rd.rd, rR_11 C.ct.rd.rd, rR_12 C.ct.rd.rd, rR_13 C.ct.rd.rd, rR_14 C.ct.rd.rd, rR_15 C.ct.rd.rd, rR_16 C.ct.rd.rd, rR_17 C.ct.rd.rd, rR_18 C.ct.rd.rd, rR_19 C.ct.rd.rd, aI_of (tR_1 C.ct.rd.rd), aI_of (tR_2 C.ct.rd.rd), aI_of (tR_3 C.ct.rd.rd), aI_of (tR_4 C.ct.rd.rd), aI_of (tR_5 C.ct.rd.rd), aI_of (tR_6 C.ct.rd.rd), aI_of (tR_7 C.ct.rd.rd), aI_of (tR_8 C.ct.rd.rd), aI_of (tR_9 C.ct.rd.rd), C.ct.rd.sc, C.ct.rd.len, C.ct.rd.e1, C.ct.rd.e2, C.ct.rd.min, C.ct.rd.kd, C.ct.rd.gt, C.ct.rd.bt, C.ct.rd.ip, C.ct.rd.hd, c_refuse C.ct.sh, c_answer C.ct.sh, c_told1 W C e0, q2]
      exact qc_end C _ _
    · unfold f_X13_likest
      simp only [ck_of (tS_55 M0.sh), pI_of (tS_55 M0.sh), ob, nI_lit]; obtain ⟨h1, eh, M, F1⟩ : ∃ h1, wI h 55 0 (nI 0) = h1 ∧ IM h1 a ∧ FM h h1 := ⟨_, rfl, M0.th _, FM.w55 h _ (by decide)⟩; rw [eh]
      have P := M.told e0
      have hz := P.nz
      have q1 : ∀ t (s : Int32 × Int32), t < a 0 0 1 → iter (fun (s : Int32 × Int32 × Int32) => b_X13_likest_41 h1 55 (nI t) s.1 s.2.1 s.2.2) FU (s.1, s.2, nI (t + 1)) = some ((fo (lkf (a 0) t) s (a 0 0 1)).1, (fo (lkf (a 0) t) s (a 0 0 1)).2) := by
        intro t s ht
        refine iter_fom (fun (x : Int32 × Int32) i => (x.1, x.2, nI i)) (lkf (a 0) t) s (t + 1) (a 0 0 1) (by omega) (FU_lt (by omega)) (fun i x hi => if_neg (by omega)) (fun i x h1 h2 => ?_) ?_
        · have l1 := W.rw.len t ht
          have l2 := W.rw.len i h2
          unfold b_X13_likest_41 f_X13_likest_105 lkf
          simp (disch := omega) only [ob, nI_lit, nI_add, pk_mul, nI_eq, nI_ltI, nI_leI, if_true, if_false, if_pos, if_neg, ck_of (tS_55 M.sh), gR_of (tS_55 M.sh), gI_of (tS_55 M.sh), pI_of (tS_55 M.sh), rS_55_16 M.sh, rS_55_17 M.sh, rS_55_18 M.sh, rS_55_21 M.sh, rS_55_25 M.sh, rS_55_26 M.sh, rS_55_27 M.sh, rS_55_28 M.sh, rS_55_32 M.sh, rS_55_33 M.sh, rS_55_34 M.sh, m_refused M.sh, m_good M.sh, P.pp, ck_of (tP P.rd.pk), gR_of (tP P.rd.pk), gI_of (tP P.rd.pk), rP_10 P.rd.pk, rP_11 P.rd.pk, rP_12 P.rd.pk, rP_13 P.rd.pk, rP_14 P.rd.pk, rP_15 P.rd.pk, rP_16 P.rd.pk, rP_17 P.rd.pk, rP_18 P.rd.pk, rP_19 P.rd.pk, rP_20 P.rd.pk, rP_21 P.rd.pk, rP_22 P.rd.pk, rP_23 P.rd.pk, rP_24 P.rd.pk, aI_of (tP_1 P.rd.pk), aI_of (tP_2 P.rd.pk), aI_of (tP_3 P.rd.pk), aI_of (tP_4 P.rd.pk), aI_of (tP_5 P.rd.pk), aI_of (tP_6 P.rd.pk), aI_of (tP_7 P.rd.pk), aI_of (tP_8 P.rd.pk), aI_of (tP_9 P.rd.pk), aI_of (tP_10 P.rd.pk), aI_of (tP_11 P.rd.pk), aI_of (tP_12 P.rd.pk), aI_of (tP_13 P.rd.pk), aI_of (tP_14 P.rd.pk), aI_of (tP_15 P.rd.pk), P.rd.sc, P.rd.len, P.rd.note, P.rd.min, P.rd.kd, P.rd.gt, P.rd.e1, P.rd.e2, P.rd.i8, P.rd.i9, P.rd.i10, P.rd.i11, P.rd.hd]
          rcases Decidable.em (a 0 1 t = a 0 1 i) with e | e
          · simp (disch := omega) only [ob, nI_lit, nI_add, pk_mul, nI_eq, nI_ltI, nI_leI, if_true, if_false, if_pos, if_neg, m_al W.rw P ht h2 e]
            rcases Decidable.em (x.2 < nI (al (a 0) t i)) with e2 | e2 <;> simp [e, e2, show t < i by omega]
          · simp (disch := omega) only [ob, nI_lit, nI_add, pk_mul, nI_eq, nI_ltI, nI_leI, if_true, if_false, if_pos, if_neg]
        · unfold b_X13_likest_41
          simp (disch := omega) only [ob, nI_lit, nI_add, pk_mul, nI_eq, nI_ltI, nI_leI, if_true, if_false, if_pos, if_neg, ck_of (tS_55 M.sh), gR_of (tS_55 M.sh), gI_of (tS_55 M.sh), pI_of (tS_55 M.sh), rS_55_16 M.sh, rS_55_17 M.sh, rS_55_18 M.sh, rS_55_21 M.sh, rS_55_25 M.sh, rS_55_26 M.sh, rS_55_27 M.sh, rS_55_28 M.sh, rS_55_32 M.sh, rS_55_33 M.sh, rS_55_34 M.sh, m_refused M.sh, m_good M.sh, P.pp, ck_of (tP P.rd.pk), gR_of (tP P.rd.pk), gI_of (tP P.rd.pk), rP_10 P.rd.pk, rP_11 P.rd.pk, rP_12 P.rd.pk, rP_13 P.rd.pk, rP_14 P.rd.pk, rP_15 P.rd.pk, rP_16 P.rd.pk, rP_17 P.rd.pk, rP_18 P.rd.pk, rP_19 P.rd.pk, rP_20 P.rd.pk, rP_21 P.rd.pk, rP_22 P.rd.pk, rP_23 P.rd.pk, rP_24 P.rd.pk, aI_of (tP_1 P.rd.pk), aI_of (tP_2 P.rd.pk), aI_of (tP_3 P.rd.pk), aI_of (tP_4 P.rd.pk), aI_of (tP_5 P.rd.pk), aI_of (tP_6 P.rd.pk), aI_of (tP_7 P.rd.pk), aI_of (tP_8 P.rd.pk), aI_of (tP_9 P.rd.pk), aI_of (tP_10 P.rd.pk), aI_of (tP_11 P.rd.pk), aI_of (tP_12 P.rd.pk), aI_of (tP_13 P.rd.pk), aI_of (tP_14 P.rd.pk), aI_of (tP_15 P.rd.pk), P.rd.sc, P.rd.len, P.rd.note, P.rd.min, P.rd.kd, P.rd.gt, P.rd.e1, P.rd.e2, P.rd.i8, P.rd.i9, P.rd.i10, P.rd.i11, P.rd.hd]
      have q2 : iter (fun (s : Int32 × Int32 × Int32) => b_X13_likest_25 h1 55 s.1 s.2.1 s.2.2) FU (-nI 2, -nI 1, nI 0) = some (lkt (a 0)).1 := by
        refine iter_fo (fun (x : Int32 × Int32) i => (x.1, x.2, nI i)) (fun t s => fo (lkf (a 0) t) s (a 0 0 1)) (-nI 2, -nI 1) (a 0 0 1) (FU_lt (by omega)) (fun t s ht => ?_) ?_
        · have q := q1 t s ht
          unfold b_X13_likest_25
          simp (disch := omega) only [ob, nI_lit, nI_add, pk_mul, nI_eq, nI_ltI, nI_leI, if_true, if_false, if_pos, if_neg, ck_of (tS_55 M.sh), gR_of (tS_55 M.sh), gI_of (tS_55 M.sh), pI_of (tS_55 M.sh), rS_55_16 M.sh, rS_55_17 M.sh, rS_55_18 M.sh, rS_55_21 M.sh, rS_55_25 M.sh, rS_55_26 M.sh, rS_55_27 M.sh, rS_55_28 M.sh, rS_55_32 M.sh, rS_55_33 M.sh, rS_55_34 M.sh, m_refused M.sh, m_good M.sh, P.pp, ck_of (tP P.rd.pk), gR_of (tP P.rd.pk), gI_of (tP P.rd.pk), rP_10 P.rd.pk, rP_11 P.rd.pk, rP_12 P.rd.pk, rP_13 P.rd.pk, rP_14 P.rd.pk, rP_15 P.rd.pk, rP_16 P.rd.pk, rP_17 P.rd.pk, rP_18 P.rd.pk, rP_19 P.rd.pk, rP_20 P.rd.pk, rP_21 P.rd.pk, rP_22 P.rd.pk, rP_23 P.rd.pk, rP_24 P.rd.pk, aI_of (tP_1 P.rd.pk), aI_of (tP_2 P.rd.pk), aI_of (tP_3 P.rd.pk), aI_of (tP_4 P.rd.pk), aI_of (tP_5 P.rd.pk), aI_of (tP_6 P.rd.pk), aI_of (tP_7 P.rd.pk), aI_of (tP_8 P.rd.pk), aI_of (tP_9 P.rd.pk), aI_of (tP_10 P.rd.pk), aI_of (tP_11 P.rd.pk), aI_of (tP_12 P.rd.pk), aI_of (tP_13 P.rd.pk), aI_of (tP_14 P.rd.pk), aI_of (tP_15 P.rd.pk), P.rd.sc, P.rd.len, P.rd.note, P.rd.min, P.rd.kd, P.rd.gt, P.rd.e1, P.rd.e2, P.rd.i8, P.rd.i9, P.rd.i10, P.rd.i11, P.rd.hd, q]
        · unfold b_X13_likest_25
          simp (disch := omega) only [ob, nI_lit, nI_add, pk_mul, nI_eq, nI_ltI, nI_leI, if_true, if_false, if_pos, if_neg, ck_of (tS_55 M.sh), gR_of (tS_55 M.sh), gI_of (tS_55 M.sh), pI_of (tS_55 M.sh), rS_55_16 M.sh, rS_55_17 M.sh, rS_55_18 M.sh, rS_55_21 M.sh, rS_55_25 M.sh, rS_55_26 M.sh, rS_55_27 M.sh, rS_55_28 M.sh, rS_55_32 M.sh, rS_55_33 M.sh, rS_55_34 M.sh, m_refused M.sh, m_good M.sh, P.pp, ck_of (tP P.rd.pk), gR_of (tP P.rd.pk), gI_of (tP P.rd.pk), rP_10 P.rd.pk, rP_11 P.rd.pk, rP_12 P.rd.pk, rP_13 P.rd.pk, rP_14 P.rd.pk, rP_15 P.rd.pk, rP_16 P.rd.pk, rP_17 P.rd.pk, rP_18 P.rd.pk, rP_19 P.rd.pk, rP_20 P.rd.pk, rP_21 P.rd.pk, rP_22 P.rd.pk, rP_23 P.rd.pk, rP_24 P.rd.pk, aI_of (tP_1 P.rd.pk), aI_of (tP_2 P.rd.pk), aI_of (tP_3 P.rd.pk), aI_of (tP_4 P.rd.pk), aI_of (tP_5 P.rd.pk), aI_of (tP_6 P.rd.pk), aI_of (tP_7 P.rd.pk), aI_of (tP_8 P.rd.pk), aI_of (tP_9 P.rd.pk), aI_of (tP_10 P.rd.pk), aI_of (tP_11 P.rd.pk), aI_of (tP_12 P.rd.pk), aI_of (tP_13 P.rd.pk), aI_of (tP_14 P.rd.pk), aI_of (tP_15 P.rd.pk), P.rd.sc, P.rd.len, P.rd.note, P.rd.min, P.rd.kd, P.rd.gt, P.rd.e1, P.rd.e2, P.rd.i8, P.rd.i9, P.rd.i10, P.rd.i11, P.rd.hd]
          rfl
      simp (disch := omega) only [ob, nI_lit, nI_add, pk_mul, nI_eq, nI_ltI, nI_leI, if_true, if_false, if_pos, if_neg, ck_of (tS_55 M.sh), gR_of (tS_55 M.sh), gI_of (tS_55 M.sh), pI_of (tS_55 M.sh), rS_55_16 M.sh, rS_55_17 M.sh, rS_55_18 M.sh, rS_55_21 M.sh, rS_55_25 M.sh, rS_55_26 M.sh, rS_55_27 M.sh, rS_55_28 M.sh, rS_55_32 M.sh, rS_55_33 M.sh, rS_55_34 M.sh, m_refused M.sh, m_good M.sh, P.pp, ck_of (tP P.rd.pk), gR_of (tP P.rd.pk), gI_of (tP P.rd.pk), rP_10 P.rd.pk, rP_11 P.rd.pk, rP_12 P.rd.pk, rP_13 P.rd.pk, rP_14 P.rd.pk, rP_15 P.rd.pk, rP_16 P.rd.pk, rP_17 P.rd.pk, rP_18 P.rd.pk, rP_19 P.rd.pk, rP_20 P.rd.pk, rP_21 P.rd.pk, rP_22 P.rd.pk, rP_23 P.rd.pk, rP_24 P.rd.pk, aI_of (tP_1 P.rd.pk), aI_of (tP_2 P.rd.pk), aI_of (tP_3 P.rd.pk), aI_of (tP_4 P.rd.pk), aI_of (tP_5 P.rd.pk), aI_of (tP_6 P.rd.pk), aI_of (tP_7 P.rd.pk), aI_of (tP_8 P.rd.pk), aI_of (tP_9 P.rd.pk), aI_of (tP_10 P.rd.pk), aI_of (tP_11 P.rd.pk), aI_of (tP_12 P.rd.pk), aI_of (tP_13 P.rd.pk), aI_of (tP_14 P.rd.pk), aI_of (tP_15 P.rd.pk), P.rd.sc, P.rd.len, P.rd.note, P.rd.min, P.rd.kd, P.rd.gt, P.rd.e1, P.rd.e2, P.rd.i8, P.rd.i9, P.rd.i10, P.rd.i11, P.rd.hd, q2]
      exact qm_end F1 _ _
theorem st_13 : StepOK INV lc_13 := by
  intro sc L i h hL hi hI
  unfold lc_13
  exact q2 (f := fun h => f_X11_likest h 1) (g := fun h => f_X13_likest h 55) hI (fun a W => qq_likest W)
