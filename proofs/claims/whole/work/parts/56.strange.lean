/-! ===== the stranger ===== -/
section
variable {h : Mem} {p : Nat} {ρ ν : RO}
theorem b_self (W : RW ρ) {x : Nat} (hx : x < ρ 0 2) : ρ 13 (7 * x + x) = 0 := by
  rcases W.bt x x hx hx with e | ⟨j, hj, _, e | e⟩
  · exact e
  · exact absurd (e.1.trans e.2.symm) (W.ne j hj)
  · exact absurd (e.1.trans e.2.symm) (W.ne j hj)
theorem m_heard (W : RW ρ) (M : MT h p ρ) {x y k : Nat} (hx : x < ρ 0 2) (hy : y < ρ 0 2) (hk : k < ρ 0 8) : f_X13_isHeard h 55 (nI x) (nI y) (nI k) = some (nI (hs ρ x y k).toNat) := by
  have := W.pl
  have := W.he
  have := W.tu
  have h4 := qk_le W hx hy
  have h12 := W.hd k hk
  unfold f_X13_isHeard f_X13_isHeard_50 hs f_X13_of
  rcases Decidable.em (x = y) with e | e
  · subst e
    have : qk ρ x x = 0 := by
      unfold qk
      rw [if_pos (b_self W hx)]
    simp (disch := omega) only [ob, nI_lit, nI_add, pk_mul, nI_eq, nI_ltI, nI_leI, if_true, if_false, if_pos, if_neg, ck_of (tS_55 M.sh), gR_of (tS_55 M.sh), gI_of (tS_55 M.sh), M.pp, ck_of (tP M.rd.pk), gR_of (tP M.rd.pk), gI_of (tP M.rd.pk), rP_10 M.rd.pk, rP_11 M.rd.pk, rP_12 M.rd.pk, rP_13 M.rd.pk, rP_14 M.rd.pk, rP_15 M.rd.pk, rP_16 M.rd.pk, rP_17 M.rd.pk, rP_18 M.rd.pk, rP_19 M.rd.pk, rP_20 M.rd.pk, rP_21 M.rd.pk, rP_22 M.rd.pk, rP_23 M.rd.pk, rP_24 M.rd.pk, aI_of (tP_1 M.rd.pk), aI_of (tP_2 M.rd.pk), aI_of (tP_3 M.rd.pk), aI_of (tP_4 M.rd.pk), aI_of (tP_5 M.rd.pk), aI_of (tP_6 M.rd.pk), aI_of (tP_7 M.rd.pk), aI_of (tP_8 M.rd.pk), aI_of (tP_9 M.rd.pk), aI_of (tP_10 M.rd.pk), aI_of (tP_11 M.rd.pk), aI_of (tP_12 M.rd.pk), aI_of (tP_13 M.rd.pk), aI_of (tP_14 M.rd.pk), aI_of (tP_15 M.rd.pk), M.rd.sc, M.rd.len, M.rd.note, M.rd.min, M.rd.kd, M.rd.gt, M.rd.e1, M.rd.e2, M.rd.i8, M.rd.i9, M.rd.i10, M.rd.i11, M.rd.hd]
    simp [this]
  · rcases Decidable.em (qk ρ x y = 0) with e0 | e0
    · simp (disch := omega) only [ob, nI_lit, nI_add, pk_mul, nI_eq, nI_ltI, nI_leI, if_true, if_false, if_pos, if_neg, ck_of (tS_55 M.sh), gR_of (tS_55 M.sh), gI_of (tS_55 M.sh), M.pp, ck_of (tP M.rd.pk), gR_of (tP M.rd.pk), gI_of (tP M.rd.pk), rP_10 M.rd.pk, rP_11 M.rd.pk, rP_12 M.rd.pk, rP_13 M.rd.pk, rP_14 M.rd.pk, rP_15 M.rd.pk, rP_16 M.rd.pk, rP_17 M.rd.pk, rP_18 M.rd.pk, rP_19 M.rd.pk, rP_20 M.rd.pk, rP_21 M.rd.pk, rP_22 M.rd.pk, rP_23 M.rd.pk, rP_24 M.rd.pk, aI_of (tP_1 M.rd.pk), aI_of (tP_2 M.rd.pk), aI_of (tP_3 M.rd.pk), aI_of (tP_4 M.rd.pk), aI_of (tP_5 M.rd.pk), aI_of (tP_6 M.rd.pk), aI_of (tP_7 M.rd.pk), aI_of (tP_8 M.rd.pk), aI_of (tP_9 M.rd.pk), aI_of (tP_10 M.rd.pk), aI_of (tP_11 M.rd.pk), aI_of (tP_12 M.rd.pk), aI_of (tP_13 M.rd.pk), aI_of (tP_14 M.rd.pk), aI_of (tP_15 M.rd.pk), M.rd.sc, M.rd.len, M.rd.note, M.rd.min, M.rd.kd, M.rd.gt, M.rd.e1, M.rd.e2, M.rd.i8, M.rd.i9, M.rd.i10, M.rd.i11, M.rd.hd]
      simp [e0]
    · have hg := qt_lt W hx hy e0
      simp (disch := omega) only [ob, nI_lit, nI_add, pk_mul, nI_eq, nI_ltI, nI_leI, if_true, if_false, if_pos, if_neg, ck_of (tS_55 M.sh), gR_of (tS_55 M.sh), gI_of (tS_55 M.sh), M.pp, ck_of (tP M.rd.pk), gR_of (tP M.rd.pk), gI_of (tP M.rd.pk), rP_10 M.rd.pk, rP_11 M.rd.pk, rP_12 M.rd.pk, rP_13 M.rd.pk, rP_14 M.rd.pk, rP_15 M.rd.pk, rP_16 M.rd.pk, rP_17 M.rd.pk, rP_18 M.rd.pk, rP_19 M.rd.pk, rP_20 M.rd.pk, rP_21 M.rd.pk, rP_22 M.rd.pk, rP_23 M.rd.pk, rP_24 M.rd.pk, aI_of (tP_1 M.rd.pk), aI_of (tP_2 M.rd.pk), aI_of (tP_3 M.rd.pk), aI_of (tP_4 M.rd.pk), aI_of (tP_5 M.rd.pk), aI_of (tP_6 M.rd.pk), aI_of (tP_7 M.rd.pk), aI_of (tP_8 M.rd.pk), aI_of (tP_9 M.rd.pk), aI_of (tP_10 M.rd.pk), aI_of (tP_11 M.rd.pk), aI_of (tP_12 M.rd.pk), aI_of (tP_13 M.rd.pk), aI_of (tP_14 M.rd.pk), aI_of (tP_15 M.rd.pk), M.rd.sc, M.rd.len, M.rd.note, M.rd.min, M.rd.kd, M.rd.gt, M.rd.e1, M.rd.e2, M.rd.i8, M.rd.i9, M.rd.i10, M.rd.i11, M.rd.hd, nI_nem]
      rcases Decidable.em (qt ρ x y = ρ 12 k) with e2 | e2 <;> simp [e0, e2]
theorem MT.sd (M : MT h p ρ) (hp : 69 ≤ p) (U D : Nat → Int32) : MT (sdM h U D) p ρ := M.fq (l := [66, 67]) ((FQ.row _ _ (by decide)).tr (FQ.row _ _ (by decide))) (fun k hk hq => by
  simp only [List.mem_cons, List.not_mem_nil, or_false] at hq
  omega)
theorem m_str (W : RW ρ) (M : MT h p ρ) (hp : 69 ≤ p) : ∃ U D, f_X13_strangers h 55 = some (wI (sdM h U D) 55 35 (nI (su (de ρ (ρ 0 8)) (ρ 0 2)))) ∧ (∀ k q, k ≤ ρ 0 8 → q < ρ 0 2 → U (7 * k + q) = nI (ub ρ k q)) ∧ (∀ k q, k ≤ ρ 0 8 → q < ρ 0 2 → D (7 * k + q) = nI (de ρ (ρ 0 8 - k) q)) := by
  have hpl := W.pl
  have hhe := W.he
  have S := M.sh
  -- the first loop
  let U0 : Nat → Int32 := fun j => if 0 ≤ j ∧ j < 0 + 42 then (if j - 0 < ρ 0 2 then nI 1 else nI 0) else mI h 66 j
  let D0 : Nat → Int32 := fun j => if 0 ≤ j ∧ j < 0 + 42 then (if 7 * ρ 0 8 ≤ j - 0 ∧ j - 0 < 7 * ρ 0 8 + ρ 0 2 then nI 1 else nI 0) else mI h 67 j
  have l1 : iter (fun (s : Int32 × Mem) => b_X13_strangers_10 s.2 55 (nI (ρ 0 8)) s.1) FU (nI 0, sdM h (mI h 66) (mI h 67)) = some (sdM h U0 D0) := by
    refine iter_fo (fun (s : (Nat → Int32) × (Nat → Int32)) i => (nI i, sdM h s.1 s.2)) (fun i s => (upd s.1 (0 + i) (if i < ρ 0 2 then nI 1 else nI 0), upd s.2 (0 + i) (if 7 * ρ 0 8 ≤ i ∧ i < 7 * ρ 0 8 + ρ 0 2 then nI 1 else nI 0))) (mI h 66, mI h 67) 42 (FU_lt (by decide)) (fun i s hi => ?_) ?_
    · have Mx := fun U D => M.sd hp U D
      have S1 := S.sd s.1 s.2
      have k37 : ∀ v, f_X13_strangers_37 (sdM h s.1 s.2) 55 (nI (ρ 0 8)) (nI i) 66 (nI i) v = some (Sum.inl (nI (i + 1), sdM h (upd s.1 (0 + i) v) (upd s.2 (0 + i) (if 7 * ρ 0 8 ≤ i ∧ i < 7 * ρ 0 8 + ρ 0 2 then nI 1 else nI 0)))) := by
        intro v
        have S2 := S.sd (upd s.1 (0 + i) v) s.2
        have M2 := Mx (upd s.1 (0 + i) v) s.2
        unfold f_X13_strangers_37 f_X13_strangers_71 f_X13_strangers_72
        simp (disch := omega) only [ob, nI_lit, nI_add, pk_mul, nI_eq, nI_ltI, nI_leI, if_true, if_false, if_pos, if_neg, sI_of (tS_66 S1), sdM_u, Nat.zero_add]
        rw [Nat.zero_add] at S2 M2
        simp (disch := omega) only [ob, nI_lit, nI_add, pk_mul, nI_eq, nI_ltI, nI_leI, if_true, if_false, if_pos, if_neg, gR_of (tS_55 S2), rS_55_34 S2, M2.pp, gI_of (tP M2.rd.pk), M2.rd.sc, sI_of (tS_67 S2), sdM_d]
        rcases Nat.lt_or_ge i (7 * ρ 0 8) with c | c
        · simp (disch := omega) only [ob, nI_lit, nI_add, pk_mul, nI_eq, nI_ltI, nI_leI, if_true, if_false, if_pos, if_neg]
        · rcases Nat.lt_or_ge i (7 * ρ 0 8 + ρ 0 2) with c2 | c2
          · rw [if_neg (by omega), if_neg (by omega), if_pos ⟨c, c2⟩]
          · rw [if_neg (by omega), if_pos c2, if_neg (by omega)]
      have M1 := Mx s.1 s.2
      show b_X13_strangers_10 (sdM h s.1 s.2) 55 (nI (ρ 0 8)) (nI i) = _
      unfold b_X13_strangers_10
      simp (disch := omega) only [ob, nI_lit, nI_add, pk_mul, nI_eq, nI_ltI, nI_leI, if_true, if_false, if_pos, if_neg, gR_of (tS_55 S1), rS_55_33 S1, M1.pp, gI_of (tP M1.rd.pk), M1.rd.sc, k37]
      rcases Nat.lt_or_ge i (ρ 0 2) with c | c
      · rw [if_neg (by omega), if_pos c]
      · rw [if_pos c, if_neg (show ¬ i < ρ 0 2 by omega)]
    · show b_X13_strangers_10 _ 55 (nI (ρ 0 8)) (nI 42) = _
      unfold b_X13_strangers_10
      simp (disch := omega) only [ob, nI_lit, nI_add, pk_mul, nI_eq, nI_ltI, nI_leI, if_true, if_false, if_pos, if_neg]
      rw [fo_pair (fun i U => upd U (0 + i) (if i < ρ 0 2 then nI 1 else nI 0)) (fun i D => upd D (0 + i) (if 7 * ρ 0 8 ≤ i ∧ i < 7 * ρ 0 8 + ρ 0 2 then nI 1 else nI 0)), fo_upd 0 (fun i => if i < ρ 0 2 then nI 1 else nI 0), fo_upd 0 (fun i => if 7 * ρ 0 8 ≤ i ∧ i < 7 * ρ 0 8 + ρ 0 2 then nI 1 else nI 0)]
  rw [sdM_id] at l1
  have U0i : ∀ k q, k ≤ 5 → q < 7 → U0 (7 * k + q) = if 7 * k + q < ρ 0 2 then nI 1 else nI 0 := fun k q hk hq => by
    show (if 0 ≤ 7 * k + q ∧ 7 * k + q < 0 + 42 then (if 7 * k + q - 0 < ρ 0 2 then nI 1 else nI 0) else mI h 66 (7 * k + q)) = _
    rw [if_pos (by omega)]
    rfl
  have D0i : ∀ k q, k ≤ 5 → q < 7 → D0 (7 * k + q) = if 7 * ρ 0 8 ≤ 7 * k + q ∧ 7 * k + q < 7 * ρ 0 8 + ρ 0 2 then nI 1 else nI 0 := fun k q hk hq => by
    show (if 0 ≤ 7 * k + q ∧ 7 * k + q < 0 + 42 then (if 7 * ρ 0 8 ≤ 7 * k + q - 0 ∧ 7 * k + q - 0 < 7 * ρ 0 8 + ρ 0 2 then nI 1 else nI 0) else mI h 67 (7 * k + q)) = _
    rw [if_pos (by omega)]
    rfl
  generalize U0 = U1 at l1 U0i
  generalize D0 = D1 at l1 D0i
  -- the second
  have l2 : OK (iter (fun (s : Int32 × Mem) => b_X13_strangers_81 s.2 55 (nI (ρ 0 8)) s.1) FU (nI 0, sdM h U1 D1)) (fun h' => ∃ U D, h' = sdM h U D ∧ (∀ k q, k ≤ ρ 0 8 → q < ρ 0 2 → U (7 * k + q) = nI (ub ρ k q)) ∧ (∀ k q, k ≤ ρ 0 8 → q < ρ 0 2 → D (7 * k + q) = nI (de ρ (ρ 0 8 - k) q))) := by
    refine iter_ok (fun k s => ∃ U D, s = (nI k, sdM h U D) ∧ (∀ k' q, k' ≤ k → q < ρ 0 2 → U (7 * k' + q) = nI (ub ρ k' q)) ∧ (∀ k' q, k < k' → k' ≤ ρ 0 8 → q < ρ 0 2 → U (7 * k' + q) = nI 0) ∧ (∀ m q, ρ 0 8 ≤ m + k → m ≤ ρ 0 8 → q < ρ 0 2 → D (7 * m + q) = nI (de ρ (ρ 0 8 - m) q)) ∧ (∀ m q, m + k < ρ 0 8 → q < ρ 0 2 → D (7 * m + q) = nI 0)) (ρ 0 8) (FU_lt (by omega)) (fun k s hk hI => ?_) ⟨U1, D1, rfl, fun k' q h1 h2 => ?_, fun k' q h1 h2 h3 => ?_, fun m q h1 h2 h3 => ?_, fun m q h1 h2 => ?_⟩
    · obtain ⟨U, D, rfl, i1, i2, i3, i4⟩ := hI
      show OK (b_X13_strangers_81 (sdM h U D) 55 (nI (ρ 0 8)) (nI k)) _
      rcases Nat.lt_or_ge k (ρ 0 8) with hkn | hkn
      · obtain ⟨m, hm⟩ : ∃ m, ρ 0 8 = k + 1 + m := ⟨ρ 0 8 - k - 1, by omega⟩
        have hm1 : nI (ρ 0 8) - nI 1 - nI k = nI m := by
          rw [pk_sub (by omega), pk_sub (by omega)]
          congr 1
          omega
        have hm2 : nI (ρ 0 8) - nI k = nI (m + 1) := by
          rw [pk_sub (by omega)]
          congr 1
          omega
        have l3 : ∀ x, x < ρ 0 2 → ∀ (U D : Nat → Int32), iter (fun (s : Int32 × Mem) => b_X13_strangers_102 s.2 55 (nI (ρ 0 8)) (nI k) (nI x) s.1) FU (nI 0, sdM h U D) = some (sdM h (fo (uq ρ k x) U (ρ 0 2)) (fo (dq ρ m x) D (ρ 0 2))) := by
          intro x hx U D
          refine iter_fo (fun (s : (Nat → Int32) × (Nat → Int32)) i => (nI i, sdM h s.1 s.2)) (fun i s => (uq ρ k x i s.1, dq ρ m x i s.2)) (U, D) (ρ 0 2) (FU_lt (by omega)) (fun y s hy => ?_) ?_
          · have M1 := M.sd hp s.1 s.2
            have S1 := S.sd s.1 s.2
            have k153 : ∀ U, f_X13_strangers_153 (sdM h U s.2) 55 (nI (ρ 0 8)) (nI k) (nI x) (nI y) = some (Sum.inl (nI (y + 1), sdM h U (dq ρ m x y s.2))) := by
              intro U
              have M2 := M.sd hp U s.2
              have S2 := S.sd U s.2
              unfold f_X13_strangers_153 f_X13_strangers_200 dq
              simp only [nI_lit, hm1, hm2]
              rw [m_heard W M2 hx hy (show m < ρ 0 8 by omega), ob]
              rcases hb : hs ρ x y m with _ | _
              · simp (disch := omega) only [ob, nI_lit, nI_add, pk_mul, nI_eq, nI_ltI, nI_leI, if_true, if_false, if_pos, if_neg, Bool.toNat_false, Bool.false_eq_true]
              · simp (disch := omega) only [ob, nI_lit, nI_add, pk_mul, nI_eq, nI_ltI, nI_leI, if_true, if_false, if_pos, if_neg, Bool.toNat_true, gR_of (tS_55 S2), rS_55_34 S2, aI_of (tS_67 S2), sdM_67, sI_of (tS_67 S2), sdM_d]
            show b_X13_strangers_102 (sdM h s.1 s.2) 55 (nI (ρ 0 8)) (nI k) (nI x) (nI y) = _
            unfold b_X13_strangers_102 uq
            simp (disch := omega) only [ob, nI_lit, nI_add, pk_mul, nI_eq, nI_ltI, nI_leI, if_true, if_false, if_pos, if_neg, gR_of (tS_55 S1), M1.pp, gI_of (tP M1.rd.pk), M1.rd.sc, m_heard W M1 hx hy hkn]
            rcases hb : hs ρ x y k with _ | _
            · simp (disch := omega) only [ob, nI_lit, nI_add, pk_mul, nI_eq, nI_ltI, nI_leI, if_true, if_false, if_pos, if_neg, Bool.toNat_false, Bool.false_eq_true, k153]
            · simp (disch := omega) only [ob, nI_lit, nI_add, pk_mul, nI_eq, nI_ltI, nI_leI, if_true, if_false, if_pos, if_neg, Bool.toNat_true, rS_55_33 S1, aI_of (tS_66 S1), sdM_66, sI_of (tS_66 S1), sdM_u, k153]
          · have M1 := M.sd hp (fo (fun i (s : (Nat → Int32) × (Nat → Int32)) => (uq ρ k x i s.1, dq ρ m x i s.2)) (U, D) (ρ 0 2)).1 (fo (fun i (s : (Nat → Int32) × (Nat → Int32)) => (uq ρ k x i s.1, dq ρ m x i s.2)) (U, D) (ρ 0 2)).2
            show b_X13_strangers_102 _ 55 (nI (ρ 0 8)) (nI k) (nI x) (nI (ρ 0 2)) = _
            unfold b_X13_strangers_102
            simp (disch := omega) only [ob, nI_lit, nI_add, pk_mul, nI_eq, nI_ltI, nI_leI, if_true, if_false, if_pos, if_neg, gR_of (tS_55 M1.sh), M1.pp, gI_of (tP M1.rd.pk), M1.rd.sc]
            rw [fo_pair]
        have l4 : iter (fun (s : Int32 × Mem) => b_X13_strangers_88 s.2 55 (nI (ρ 0 8)) (nI k) s.1) FU (nI 0, sdM h U D) = some (sdM h (fo (fun x U => fo (uq ρ k x) U (ρ 0 2)) U (ρ 0 2)) (fo (fun x D => fo (dq ρ m x) D (ρ 0 2)) D (ρ 0 2))) := by
          refine iter_fo (fun (s : (Nat → Int32) × (Nat → Int32)) i => (nI i, sdM h s.1 s.2)) (fun x s => (fo (uq ρ k x) s.1 (ρ 0 2), fo (dq ρ m x) s.2 (ρ 0 2))) (U, D) (ρ 0 2) (FU_lt (by omega)) (fun x s hx => ?_) ?_
          · have M1 := M.sd hp s.1 s.2
            have k3 := l3 x hx s.1 s.2
            show b_X13_strangers_88 (sdM h s.1 s.2) 55 (nI (ρ 0 8)) (nI k) (nI x) = _
            unfold b_X13_strangers_88
            simp (disch := omega) only [ob, nI_lit, nI_add, pk_mul, nI_eq, nI_ltI, nI_leI, if_true, if_false, if_pos, if_neg, gR_of (tS_55 M1.sh), M1.pp, gI_of (tP M1.rd.pk), M1.rd.sc, k3]
          · have M1 := M.sd hp (fo (fun x (s : (Nat → Int32) × (Nat → Int32)) => (fo (uq ρ k x) s.1 (ρ 0 2), fo (dq ρ m x) s.2 (ρ 0 2))) (U, D) (ρ 0 2)).1 (fo (fun x (s : (Nat → Int32) × (Nat → Int32)) => (fo (uq ρ k x) s.1 (ρ 0 2), fo (dq ρ m x) s.2 (ρ 0 2))) (U, D) (ρ 0 2)).2
            show b_X13_strangers_88 _ 55 (nI (ρ 0 8)) (nI k) (nI (ρ 0 2)) = _
            unfold b_X13_strangers_88
            simp (disch := omega) only [ob, nI_lit, nI_add, pk_mul, nI_eq, nI_ltI, nI_leI, if_true, if_false, if_pos, if_neg, gR_of (tS_55 M1.sh), M1.pp, gI_of (tP M1.rd.pk), M1.rd.sc]
            rw [fo_pair (fun x U => fo (uq ρ k x) U (ρ 0 2)) (fun x D => fo (dq ρ m x) D (ρ 0 2))]
        obtain ⟨w1, w2⟩ := uk_fo ρ k (ρ 0 2) (by omega) U (ub ρ k) (fun q hq => i1 k q (Nat.le_refl k) hq) (fun q hq => i2 (k + 1) q (by omega) (by omega) hq) (ρ 0 2) (Nat.le_refl _)
        have w3 := dk_fo ρ m (ρ 0 2) (by omega) D (de ρ k) (fun q hq => by
          rw [i3 (m + 1) q (by omega) (by omega) hq]
          congr 2
          omega) (fun q hq => i4 m q (by omega) hq) (ρ 0 2) (Nat.le_refl _)
        generalize fo (fun x U => fo (uq ρ k x) U (ρ 0 2)) U (ρ 0 2) = U' at *
        generalize fo (fun x D => fo (dq ρ m x) D (ρ 0 2)) D (ρ 0 2) = D' at *
        unfold b_X13_strangers_81
        simp (disch := omega) only [ob, nI_lit, nI_add, pk_mul, nI_eq, nI_ltI, nI_leI, if_true, if_false, if_pos, if_neg, l4]
        refine ⟨_, rfl, hkn, U', D', rfl, fun k' q h1 h2 => ?_, fun k' q h1 h2 h3 => ?_, fun m' q h1 h2 h3 => ?_, fun m' q h1 h2 => ?_⟩
        · rcases Decidable.em (k' = k + 1) with e | e
          · subst e
            exact w1 q h2
          · rw [w2 _ (by omega)]
            exact i1 k' q (by omega) h2
        · rw [w2 _ (by omega)]
          exact i2 k' q (by omega) h2 h3
        · rw [w3]
          rcases Decidable.em (m' = m) with e | e
          · subst e
            rw [if_pos (by omega), Nat.add_sub_cancel_left, show ρ 0 8 - m' = k + 1 by omega]
            show _ = nI (su (fun y => if hs ρ q y (ρ 0 8 - 1 - k) = true then de ρ k y else 0) (ρ 0 2))
            rw [show ρ 0 8 - 1 - k = m' by omega]
          · rw [if_neg (by omega)]
            exact i3 m' q (by omega) h2 h3
        · rw [w3, if_neg (by omega)]
          exact i4 m' q (by omega) h2
      · have e : k = ρ 0 8 := by omega
        subst e
        unfold b_X13_strangers_81
        simp (disch := omega) only [ob, nI_lit, nI_add, pk_mul, nI_eq, nI_ltI, nI_leI, if_true, if_false, if_pos, if_neg]
        exact ⟨_, rfl, U, D, rfl, i1, fun m q h1 h2 => i3 m q (by omega) h1 h2⟩
    · have e : k' = 0 := by omega
      subst e
      rw [U0i 0 q (by omega) (by omega), if_pos (by omega)]
      rfl
    · rw [U0i k' q (by omega) (by omega), if_neg (by omega)]
    · have e : m = ρ 0 8 := by omega
      subst e
      rw [D0i _ q (by omega) (by omega), if_pos (by omega), Nat.sub_self]
      rfl
    · rw [D0i _ q (by omega) (by omega), if_neg (by omega)]
  obtain ⟨h2, l2, U, D, rfl, g1, g2⟩ := l2
  -- the third
  have l5 : iter (fun (s : Int32 × Mem) => b_X13_strangers_225 s.2 55 s.1) FU (nI 0, wI (sdM h U D) 55 35 (nI 0)) = some (wI (sdM h U D) 55 35 (nI (su (de ρ (ρ 0 8)) (ρ 0 2)))) := by
    refine iter_for (fun q => (nI q, wI (sdM h U D) 55 35 (nI (su (de ρ (ρ 0 8)) q)))) (ρ 0 2) (FU_lt (by omega)) (fun q hq => ?_) ?_
    · have M1 : MT (wI (sdM h U D) 55 35 (nI (su (de ρ (ρ 0 8)) q))) p ρ := (M.sd hp U D).fq (l := [55]) (FQ.w _ _ _ (by decide)) (fun k hk hq => by
        simp only [List.mem_cons, List.not_mem_nil, or_false] at hq
        omega)
      have S1 := M1.sh
      have e67 : mI (wI (sdM h U D) 55 35 (nI (su (de ρ (ρ 0 8)) q))) 67 q = nI (de ρ (ρ 0 8) q) := by
        rw [mI_wI_ne _ _ _ (by decide), sdM_67]
        have := g2 0 q (by omega) hq
        rw [Nat.mul_zero, Nat.zero_add] at this
        exact this
      show b_X13_strangers_225 (wI (sdM h U D) 55 35 (nI (su (de ρ (ρ 0 8)) q))) 55 (nI q) = _
      unfold b_X13_strangers_225
      simp (disch := omega) only [ob, nI_lit, nI_add, pk_mul, nI_eq, nI_ltI, nI_leI, if_true, if_false, if_pos, if_neg, gR_of (tS_55 S1), M1.pp, gI_of (tP M1.rd.pk), M1.rd.sc, gI_of (tS_55 S1), mI_wI_at, pk_us, rS_55_34 S1, aI_of (tS_67 S1), e67, pI_of (tS_55 S1), wI2]
      rfl
    · have M1 : MT (wI (sdM h U D) 55 35 (nI (su (de ρ (ρ 0 8)) (ρ 0 2)))) p ρ := (M.sd hp U D).fq (l := [55]) (FQ.w _ _ _ (by decide)) (fun k hk hq => by
        simp only [List.mem_cons, List.not_mem_nil, or_false] at hq
        omega)
      show b_X13_strangers_225 (wI (sdM h U D) 55 35 (nI (su (de ρ (ρ 0 8)) (ρ 0 2)))) 55 (nI (ρ 0 2)) = _
      unfold b_X13_strangers_225
      simp (disch := omega) only [ob, nI_lit, nI_add, pk_mul, nI_eq, nI_ltI, nI_leI, if_true, if_false, if_pos, if_neg, gR_of (tS_55 M1.sh), M1.pp, gI_of (tP M1.rd.pk), M1.rd.sc]
  refine ⟨U, D, ?_, g1, g2⟩
  unfold f_X13_strangers
  simp (disch := omega) only [ob, nI_lit, nI_add, pk_mul, nI_eq, nI_ltI, nI_leI, if_true, if_false, if_pos, if_neg, ck_of (tS_55 M.sh), gR_of (tS_55 M.sh), gI_of (tS_55 M.sh), M.pp, ck_of (tP M.rd.pk), gR_of (tP M.rd.pk), gI_of (tP M.rd.pk), rP_10 M.rd.pk, rP_11 M.rd.pk, rP_12 M.rd.pk, rP_13 M.rd.pk, rP_14 M.rd.pk, rP_15 M.rd.pk, rP_16 M.rd.pk, rP_17 M.rd.pk, rP_18 M.rd.pk, rP_19 M.rd.pk, rP_20 M.rd.pk, rP_21 M.rd.pk, rP_22 M.rd.pk, rP_23 M.rd.pk, rP_24 M.rd.pk, aI_of (tP_1 M.rd.pk), aI_of (tP_2 M.rd.pk), aI_of (tP_3 M.rd.pk), aI_of (tP_4 M.rd.pk), aI_of (tP_5 M.rd.pk), aI_of (tP_6 M.rd.pk), aI_of (tP_7 M.rd.pk), aI_of (tP_8 M.rd.pk), aI_of (tP_9 M.rd.pk), aI_of (tP_10 M.rd.pk), aI_of (tP_11 M.rd.pk), aI_of (tP_12 M.rd.pk), aI_of (tP_13 M.rd.pk), aI_of (tP_14 M.rd.pk), aI_of (tP_15 M.rd.pk), M.rd.sc, M.rd.len, M.rd.note, M.rd.min, M.rd.kd, M.rd.gt, M.rd.e1, M.rd.e2, M.rd.i8, M.rd.i9, M.rd.i10, M.rd.i11, M.rd.hd, l1, l2, pI_of (tS_55 (S.sd U D)), l5]
end
