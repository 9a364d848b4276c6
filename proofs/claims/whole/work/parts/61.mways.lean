/-! ===== the reference's ways ===== -/
section
variable {h : Mem} {p : Nat} {ρ ν : RO}
theorem MT.r60 (M : MT h p ρ) (hp : 69 ≤ p) (F : Nat → Int32) : MT (rowI h 60 F) p ρ := M.fq (l := [60]) (FQ.row _ _ (by decide)) (fun k hk hq => by
  simp only [List.mem_cons, List.not_mem_nil, or_false] at hq
  omega)
theorem m_ways (W : RW ρ) (M : MT h p ρ) (hp : 69 ≤ p) {kn fg : Nat} (ra : Bool) (h1 : kn < 64) (h2 : fg < 64) : ∃ F, f_X13_ways h 55 (nI kn) (nI fg) (nI ra.toNat) = some (rowI h 60 F) ∧ ∀ x y, x < ρ 0 2 → y < ρ 0 2 → F (7 * x + y) = nI (ds ρ (vo kn fg) ra x y) := by
  have hpl := W.pl
  have S := M.sh
  have MF := fun F => M.r60 hp F
  generalize hV : vo kn fg = V
  -- the first loops
  have l1 : ∀ x, x < ρ 0 2 → ∀ F : Nat → Int32, ∃ F', iter (fun (s : Int32 × Mem) => b_X13_ways_22 s.2 55 (nI kn) (nI fg) (nI ra.toNat) (nI (ρ 0 2)) (nI x) s.1) FU (nI 0, rowI h 60 F) = some (rowI h 60 F') ∧ (∀ y, y < ρ 0 2 → F' (7 * x + y) = nI (fwd ρ V ra 0 x y)) ∧ (∀ j, ¬ (7 * x ≤ j ∧ j < 7 * x + ρ 0 2) → F' j = F j) := by
    intro x hx F
    refine ⟨fo (fun y F => upd F (7 * x + y) (nI (fwd ρ V ra 0 x y))) F (ρ 0 2), ?_, fun y hy => ?_, fun j hj => ?_⟩
    · refine iter_fo (fun F y => (nI y, rowI h 60 F)) (fun y F => upd F (7 * x + y) (nI (fwd ρ V ra 0 x y))) F (ρ 0 2) (FU_lt (by omega)) (fun y F hy => ?_) ?_
      · have M1 := MF F
        have mp := m_passes W M1 ra hx hy h1 h2
        rw [hV] at mp
        show b_X13_ways_22 (rowI h 60 F) 55 (nI kn) (nI fg) (nI ra.toNat) (nI (ρ 0 2)) (nI x) (nI y) = _
        unfold b_X13_ways_22 f_X13_ways_86 f_X13_of fwd
        rcases Decidable.em (x = y) with e | e
        · subst e
          simp (disch := omega) only [ob, nI_lit, nI_add, pk_mul, nI_eq, nI_ltI, nI_leI, if_true, if_false, if_pos, if_neg, gR_of (tS_55 M1.sh), rS_55_21 M1.sh, sI_of (tS_60 M1.sh), rowI_wI]
        · rcases hb : pq ρ x y V ra with _ | _
          · rw [hb] at mp
            simp (disch := omega) only [ob, nI_lit, nI_add, pk_mul, nI_eq, nI_ltI, nI_leI, if_true, if_false, if_pos, if_neg, gR_of (tS_55 M1.sh), rS_55_21 M1.sh, mp, Bool.toNat_false, sI_of (tS_60 M1.sh), rowI_wI, Bool.false_eq_true]
          · rw [hb] at mp
            simp (disch := omega) only [ob, nI_lit, nI_add, pk_mul, nI_eq, nI_ltI, nI_leI, if_true, if_false, if_pos, if_neg, gR_of (tS_55 M1.sh), rS_55_21 M1.sh, mp, Bool.toNat_true, M1.pp, gR_of (tP M1.rd.pk), rP_12 M1.rd.pk, aI_of (tP_3 M1.rd.pk), M1.rd.min, sI_of (tS_60 M1.sh), rowI_wI]
      · show b_X13_ways_22 _ 55 (nI kn) (nI fg) (nI ra.toNat) (nI (ρ 0 2)) (nI x) (nI (ρ 0 2)) = _
        unfold b_X13_ways_22
        simp (disch := omega) only [ob, nI_lit, nI_add, pk_mul, nI_eq, nI_ltI, nI_leI, if_true, if_false, if_pos, if_neg]
    · rw [fo_upd (7 * x) (fun y => nI (fwd ρ V ra 0 x y))]
      show (if 7 * x ≤ 7 * x + y ∧ 7 * x + y < 7 * x + ρ 0 2 then nI (fwd ρ V ra 0 x (7 * x + y - 7 * x)) else F (7 * x + y)) = _
      rw [if_pos (by omega), Nat.add_sub_cancel_left]
    · rw [fo_upd (7 * x) (fun y => nI (fwd ρ V ra 0 x y))]
      exact if_neg hj
  have l2 : OK (iter (fun (s : Int32 × Mem) => b_X13_ways_12 s.2 55 (nI kn) (nI fg) (nI ra.toNat) (nI (ρ 0 2)) s.1) FU (nI 0, rowI h 60 (mI h 60))) (fun h' => ∃ F, h' = rowI h 60 F ∧ ∀ x y, x < ρ 0 2 → y < ρ 0 2 → F (7 * x + y) = nI (fwd ρ V ra 0 x y)) := by
    refine iter_ok (fun i s => ∃ F, s = (nI i, rowI h 60 F) ∧ ∀ x y, x < i → y < ρ 0 2 → F (7 * x + y) = nI (fwd ρ V ra 0 x y)) (ρ 0 2) (FU_lt (by omega)) (fun i s hi hI => ?_) ⟨mI h 60, rfl, fun x y hx => by omega⟩
    obtain ⟨F, rfl, hF⟩ := hI
    show OK (b_X13_ways_12 (rowI h 60 F) 55 (nI kn) (nI fg) (nI ra.toNat) (nI (ρ 0 2)) (nI i)) _
    unfold b_X13_ways_12
    rcases Nat.lt_or_ge i (ρ 0 2) with c | c
    · obtain ⟨F', e, g1, g2⟩ := l1 i c F
      simp (disch := omega) only [ob, nI_lit, nI_add, pk_mul, nI_eq, nI_ltI, nI_leI, if_true, if_false, if_pos, if_neg, e]
      refine ⟨_, rfl, c, F', rfl, fun x y hx hy => ?_⟩
      rcases Decidable.em (x = i) with e2 | e2
      · subst e2
        exact g1 y hy
      · rw [g2 _ (by omega)]
        exact hF x y (by omega) hy
    · have : i = ρ 0 2 := by omega
      subst this
      simp (disch := omega) only [ob, nI_lit, nI_add, pk_mul, nI_eq, nI_ltI, nI_leI, if_true, if_false, if_pos, if_neg]
      exact ⟨_, rfl, F, rfl, hF⟩
  obtain ⟨h3, l2, F0, rfl, hF0⟩ := l2
  rw [rowI_id] at l2
  -- over each place
  have l3 : ∀ b, b < ρ 0 2 → ∀ F : Nat → Int32, (∀ x y, x < ρ 0 2 → y < ρ 0 2 → F (7 * x + y) = nI (fwd ρ V ra b x y)) → OK (iter (fun (s : Int32 × Mem) => b_X13_ways_112 s.2 55 (nI (ρ 0 2)) (nI b) s.1) FU (nI 0, rowI h 60 F)) (fun h' => ∃ F', h' = rowI h 60 F' ∧ ∀ x y, x < ρ 0 2 → y < ρ 0 2 → F' (7 * x + y) = nI (fwd ρ V ra (b + 1) x y)) := by
    intro b hb F hF
    have hnn : ρ 0 2 * ρ 0 2 ≤ 49 := Nat.mul_le_mul hpl hpl
    refine iter_ok (fun i s => ∃ F, s = (nI i, rowI h 60 F) ∧ ∀ x y, x < ρ 0 2 → y < ρ 0 2 → F (7 * x + y) = nI (if x * ρ 0 2 + y < i then fwd ρ V ra (b + 1) x y else fwd ρ V ra b x y)) (ρ 0 2 * ρ 0 2) (FU_lt (by omega)) (fun i s hi hI => ?_) ⟨F, rfl, fun x y hx hy => by rw [if_neg (by omega)]; exact hF x y hx hy⟩
    obtain ⟨F, rfl, hF⟩ := hI
    have M1 := MF F
    show OK (b_X13_ways_112 (rowI h 60 F) 55 (nI (ρ 0 2)) (nI b) (nI i)) _
    unfold b_X13_ways_112 f_X13_ways_198
    rcases Nat.lt_or_ge i (ρ 0 2 * ρ 0 2) with c | c
    · have hx : i / ρ 0 2 < ρ 0 2 := Nat.div_lt_of_lt_mul c
      have hy : i % ρ 0 2 < ρ 0 2 := Nat.mod_lt _ (by omega)
      have hi9 : i / ρ 0 2 * ρ 0 2 + i % ρ 0 2 = i := by
        rw [Nat.mul_comm]
        exact Nat.div_add_mod i (ρ 0 2)
      have hdv := idv_of (a := i) (d := ρ 0 2) (by omega) (by omega) (by omega)
      have hrm := irm_of (a := i) (d := ρ 0 2) (by omega) (by omega) (by omega)
      generalize i / ρ 0 2 = x at *
      generalize i % ρ 0 2 = y at *
      have f1 : F (7 * x + b) = nI (fwd ρ V ra b x b) := by
        rw [hF x b hx hb]
        split
        · rw [fw_col]
        · rfl
      have f2 : F (7 * b + y) = nI (fwd ρ V ra b b y) := by
        rw [hF b y hb hy]
        split
        · rw [fw_row]
        · rfl
      have f3 : F (7 * x + y) = nI (fwd ρ V ra b x y) := by
        rw [hF x y hx hy, if_neg (by omega)]
      have k1 := fw_le9 (V := V) (ra := ra) W b x b hx hb
      have k2 := fw_le9 (V := V) (ra := ra) W b b y hb hy
      have k3 := fw_le9 (V := V) (ra := ra) W b x y hx hy
      have inj : ∀ x' y', x' < ρ 0 2 → y' < ρ 0 2 → x' * ρ 0 2 + y' = i → x' = x ∧ y' = y := by
        intro x' y' hx' hy' e9
        have e10 : x' * ρ 0 2 + y' = x * ρ 0 2 + y := by omega
        have d1 : (x' * ρ 0 2 + y') / ρ 0 2 = x' := by
          rw [Nat.mul_comm, Nat.mul_add_div (by omega), Nat.div_eq_of_lt hy', Nat.add_zero]
        have d2 : (x * ρ 0 2 + y) / ρ 0 2 = x := by
          rw [Nat.mul_comm, Nat.mul_add_div (by omega), Nat.div_eq_of_lt hy, Nat.add_zero]
        have e11 : x' = x := by rw [← d1, ← d2, e10]
        subst e11
        exact ⟨rfl, by omega⟩
      simp (disch := omega) only [ob, nI_lit, nI_add, pk_mul, nI_eq, nI_ltI, nI_leI, if_true, if_false, if_pos, if_neg, hdv, hrm, gR_of (tS_55 M1.sh), rS_55_21 M1.sh, aI_of (tS_60 M1.sh), mI_row, f1, f2, f3, sI_of (tS_60 M1.sh), rowI_wI]
      rcases Nat.lt_or_ge (fwd ρ V ra b x b + fwd ρ V ra b b y) (fwd ρ V ra b x y) with c2 | c2
      · have e9 : fwd ρ V ra (b + 1) x y = fwd ρ V ra b x b + fwd ρ V ra b b y := Nat.min_eq_right (by omega)
        rw [if_neg (by omega)]
        refine ⟨_, rfl, c, _, rfl, fun x' y' hx' hy' => ?_⟩
        rcases Decidable.em (x' = x ∧ y' = y) with e | e
        · rw [e.1, e.2, pk_us, if_pos (by omega), e9]
        · rw [pk_un (by omega), hF x' y' hx' hy']
          have : x' * ρ 0 2 + y' ≠ i := fun q => e (inj x' y' hx' hy' q)
          rcases Nat.lt_or_ge (x' * ρ 0 2 + y') i with c3 | c3
          · rw [if_pos c3, if_pos (by omega)]
          · rw [if_neg (by omega), if_neg (by omega)]
      · have e9 : fwd ρ V ra (b + 1) x y = fwd ρ V ra b x y := Nat.min_eq_left c2
        rw [if_pos c2]
        refine ⟨_, rfl, c, _, rfl, fun x' y' hx' hy' => ?_⟩
        rcases Decidable.em (x' = x ∧ y' = y) with e | e
        · rw [e.1, e.2, f3, if_pos (by omega), e9]
        · rw [hF x' y' hx' hy']
          have : x' * ρ 0 2 + y' ≠ i := fun q => e (inj x' y' hx' hy' q)
          rcases Nat.lt_or_ge (x' * ρ 0 2 + y') i with c3 | c3
          · rw [if_pos c3, if_pos (by omega)]
          · rw [if_neg (by omega), if_neg (by omega)]
    · simp (disch := omega) only [ob, nI_lit, nI_add, pk_mul, nI_eq, nI_ltI, nI_leI, if_true, if_false, if_pos, if_neg]
      refine ⟨_, rfl, F, rfl, fun x y hx hy => ?_⟩
      have : x * ρ 0 2 + y < ρ 0 2 * ρ 0 2 := by
        have h9 : (x + 1) * ρ 0 2 ≤ ρ 0 2 * ρ 0 2 := Nat.mul_le_mul_right _ hx
        rw [Nat.add_mul, Nat.one_mul] at h9
        omega
      rw [hF x y hx hy, if_pos (by omega)]
  have l4 : OK (iter (fun (s : Int32 × Mem) => b_X13_ways_102 s.2 55 (nI (ρ 0 2)) s.1) FU (nI 0, rowI h 60 F0)) (fun h' => ∃ F, h' = rowI h 60 F ∧ ∀ x y, x < ρ 0 2 → y < ρ 0 2 → F (7 * x + y) = nI (fwd ρ V ra (ρ 0 2) x y)) := by
    refine iter_ok (fun i s => ∃ F, s = (nI i, rowI h 60 F) ∧ ∀ x y, x < ρ 0 2 → y < ρ 0 2 → F (7 * x + y) = nI (fwd ρ V ra i x y)) (ρ 0 2) (FU_lt (by omega)) (fun i s hi hI => ?_) ⟨F0, rfl, hF0⟩
    obtain ⟨F, rfl, hF⟩ := hI
    show OK (b_X13_ways_102 (rowI h 60 F) 55 (nI (ρ 0 2)) (nI i)) _
    unfold b_X13_ways_102
    rcases Nat.lt_or_ge i (ρ 0 2) with c | c
    · obtain ⟨h', e, F', rfl, g1⟩ := l3 i c F hF
      simp (disch := omega) only [ob, nI_lit, nI_add, pk_mul, nI_eq, nI_ltI, nI_leI, if_true, if_false, if_pos, if_neg, e]
      exact ⟨_, rfl, c, F', rfl, g1⟩
    · have : i = ρ 0 2 := by omega
      subst this
      simp (disch := omega) only [ob, nI_lit, nI_add, pk_mul, nI_eq, nI_ltI, nI_leI, if_true, if_false, if_pos, if_neg]
      exact ⟨_, rfl, F, rfl, hF⟩
  obtain ⟨h5, l4, F, rfl, hF⟩ := l4
  refine ⟨F, ?_, hF⟩
  unfold f_X13_ways
  simp (disch := omega) only [ob, nI_lit, nI_add, pk_mul, nI_eq, nI_ltI, nI_leI, if_true, if_false, if_pos, if_neg, ck_of (tS_55 M.sh), gR_of (tS_55 M.sh), gI_of (tS_55 M.sh), M.pp, ck_of (tP M.rd.pk), gR_of (tP M.rd.pk), gI_of (tP M.rd.pk), rP_10 M.rd.pk, rP_11 M.rd.pk, rP_12 M.rd.pk, rP_13 M.rd.pk, rP_14 M.rd.pk, rP_15 M.rd.pk, rP_16 M.rd.pk, rP_17 M.rd.pk, rP_18 M.rd.pk, rP_19 M.rd.pk, rP_20 M.rd.pk, rP_21 M.rd.pk, rP_22 M.rd.pk, rP_23 M.rd.pk, rP_24 M.rd.pk, aI_of (tP_1 M.rd.pk), aI_of (tP_2 M.rd.pk), aI_of (tP_3 M.rd.pk), aI_of (tP_4 M.rd.pk), aI_of (tP_5 M.rd.pk), aI_of (tP_6 M.rd.pk), aI_of (tP_7 M.rd.pk), aI_of (tP_8 M.rd.pk), aI_of (tP_9 M.rd.pk), aI_of (tP_10 M.rd.pk), aI_of (tP_11 M.rd.pk), aI_of (tP_12 M.rd.pk), aI_of (tP_13 M.rd.pk), aI_of (tP_14 M.rd.pk), aI_of (tP_15 M.rd.pk), M.rd.sc, M.rd.len, M.rd.note, M.rd.min, M.rd.kd, M.rd.gt, M.rd.e1, M.rd.e2, M.rd.i8, M.rd.i9, M.rd.i10, M.rd.i11, M.rd.hd, l2, l4]
end
