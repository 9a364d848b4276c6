/-! ===== wayAt ===== -/
theorem m_next {h : Mem} {a : AB} (W : IW a) (M : IM h a) {x : Nat} (hx : x < a 0 0 6) {F : Nat → Int32} (hF : ∀ y z, y < a 0 0 2 → z < a 0 0 2 → F (7 * y + z) = nI (ds (a 0) (vx a x) (rb (a 1)) y z)) {p y : Nat} (hp : p < a 0 0 2) (hy : y < a 0 0 2) (hne : y ≠ p) (hd : ds (a 0) (vx a x) (rb (a 1)) y p < 99999) (v3 v5 : Int32) : iter (fun (s : Int32) => b_X13_wayAt_88 (rowI h 60 F) 55 (nI x) (nI p) v3 (nI y) v5 s) FU (nI 0) = some (nI (nxP (a 0) (vx a x) (rb (a 1)) p y)) := by
  have hpl := W.rw.pl
  have hpe := W.rw.pe
  have e0 : 0 < a 0 0 2 := by omega
  have M1 : IM (rowI h 60 F) a := M.fm (FM.r60 F)
  have P1 := M1.told e0
  have S1 := M1.sh
  have n2 := M1.nw.at x 2 (by omega) (by decide)
  have n3 := M1.nw.at x 3 (by omega) (by decide)
  simp only [Nat.reduceMul] at n2 n3
  obtain ⟨g1, g2, g3⟩ := nxP_ok W.rw hp hy hne hd
  have st : ∀ i, i < a 0 0 2 → b_X13_wayAt_88 (rowI h 60 F) 55 (nI x) (nI p) v3 (nI y) v5 (nI i) = if (pq (a 0) y i (vx a x) (rb (a 1)) && decide (qm (a 0) y i + ds (a 0) (vx a x) (rb (a 1)) i p = ds (a 0) (vx a x) (rb (a 1)) y p)) = true then some (.inr (nI i)) else some (.inl (nI (i + 1))) := by
    intro i hi
    have mp := m_passes W.rw P1 (rb (a 1)) hy hi (W.nf.kn x hx) (W.nf.fg x hx)
    change f_X13_passesBy (rowI h 60 F) 55 (nI (a 1 2 x)) (nI (a 1 3 x)) (nI y) (nI i) (nI (rb (a 1)).toNat) = some (nI (pq (a 0) y i (vx a x) (rb (a 1))).toNat) at mp
    have k1 := ds_le (V := vx a x) (ra := rb (a 1)) W.rw hi hp
    have k2 := ds_le (V := vx a x) (ra := rb (a 1)) W.rw hy hp
    have k3 := qm_le W.rw hy hi
    unfold b_X13_wayAt_88 f_X13_wayAt_170 f_X13_of
    rcases Decidable.em (i = y) with e | e
    · subst e
      rw [pq_self W.rw hy]
      simp (disch := omega) only [obx, nI_lit, nI_add, pk_mul, nI_eq, nI_ltI, nI_leI, if_true, if_false, if_pos, if_neg, Bool.false_and, Bool.false_eq_true]
    · simp (disch := omega) only [obx, nI_lit, nI_add, pk_mul, nI_eq, nI_ltI, nI_leI, if_true, if_false, if_pos, if_neg, gR_of (tS_55 S1), rS_55_16 S1, rS_55_21 S1, aI_of (tS_57 S1), n2, n3, m_rains S1 M1.nw W.nf.rn, mp, P1.pp, gR_of (tP P1.rd.pk), rP_12 P1.rd.pk, aI_of (tP_3 P1.rd.pk), P1.rd.min, aI_of (tS_60 S1), mI_row, hF, nI_b0]
      cases pq (a 0) y i (vx a x) (rb (a 1))
      · simp
      · rcases Decidable.em (qm (a 0) y i + ds (a 0) (vx a x) (rb (a 1)) i p = ds (a 0) (vx a x) (rb (a 1)) y p) with c | c <;> simp [c]
  refine iter_for (fun i => nI i) (nxP (a 0) (vx a x) (rb (a 1)) p y) (FU_lt (by omega)) (fun i hi => ?_) ?_
  · show b_X13_wayAt_88 (rowI h 60 F) 55 (nI x) (nI p) v3 (nI y) v5 (nI i) = _
    have := ff_no (fun q => pq (a 0) y q (vx a x) (rb (a 1)) && decide (qm (a 0) y q + ds (a 0) (vx a x) (rb (a 1)) q p = ds (a 0) (vx a x) (rb (a 1)) y p)) (a 0 0 2) i hi
    rw [st i (by omega), this]
    rfl
  · show b_X13_wayAt_88 (rowI h 60 F) 55 (nI x) (nI p) v3 (nI y) v5 (nI (nxP (a 0) (vx a x) (rb (a 1)) p y)) = _
    rw [st _ g1, if_pos (by rw [g2, decide_eq_true g3]; rfl)]
theorem qq_wayAt {a : AB} (W : IW a) (x y w : Int32) : ∃ v z, z ≤ 6 ∧ z ≠ 4 ∧ QC a (fun h => f_X11_wayAt h 1 x y w) v z ∧ QM a (fun h => f_X13_wayAt h 55 x y w) v z := by
  have hpe := W.rw.pe
  have hpl := W.rw.pl
  rcases hb : (ix (a 0 0 6) x && ix (a 0 0 2) y) with _ | _
  · refine ⟨-nI 1, 1, by decide, by decide, fun h C => ?_, fun h M0 => ?_⟩
    · unfold f_X11_wayAt f_X11_wayAt_16
      simp only [ob, nI_lit, nI_add, pk_mul, nI_eq, nI_ltI, nI_leI, if_true, if_false, if_pos, if_neg, ck_of (tS_1 C.ct.sh), gR_of (tS_1 C.ct.sh), gI_of (tS_1 C.ct.sh), pI_of (tS_1 C.ct.sh), C.ct.rp, rS_1_2 C.ct.sh, rS_1_3 C.ct.sh, rS_1_4 C.ct.sh, rS_1_5 C.ct.sh, rS_1_6 C.ct.sh, rS_1_7 C.ct.sh, rS_1_8 C.ct.sh, rS_1_9 C.ct.sh, ck_of (tR C.ct.rd.rd), gR_of (tR C.ct.rd.rd), gI_of (tR C.ct.rd.rd), rR_9 C.ct.rd.rd, rR_10 C.ct.rd.rd, rR_11 C.ct.rd.rd, rR_12 C.ct.rd.rd, rR_13 C.ct.rd.rd, rR_14 C.ct.rd.rd, rR_15 C.ct.rd.rd, rR_16 C.ct.rd.rd, rR_17 C.ct.rd.rd, rR_18 C.ct.rd.rd, rR_19 C.ct.rd.rd, aI_of (tR_1 C.ct.rd.rd), aI_of (tR_2 C.ct.rd.rd), aI_of (tR_3 C.ct.rd.rd), aI_of (tR_4 C.ct.rd.rd), aI_of (tR_5 C.ct.rd.rd), aI_of (tR_6 C.ct.rd.rd), aI_of (tR_7 C.ct.rd.rd), aI_of (tR_8 C.ct.rd.rd), aI_of (tR_9 C.ct.rd.rd), C.ct.rd.sc, C.ct.rd.len, C.ct.rd.e1, C.ct.rd.e2, C.ct.rd.min, C.ct.rd.kd, C.ct.rd.gt, C.ct.rd.bt, C.ct.rd.ip, C.ct.rd.hd, c_refuse C.ct.sh, c_answer C.ct.sh, c_isPerson W C, c_isPlace W C, nI_b0]
      rcases g1 : ix (a 0 0 6) x with _ | _ <;> rcases g2 : ix (a 0 0 2) y with _ | _ <;> rw [g1, g2] at hb <;> first | (simp at hb; done) | (simp only [if_true, if_false, Bool.true_eq_false, Bool.false_eq_true]; exact qc_end C _ _)
    · unfold f_X13_wayAt f_X13_wayAt_25
      simp only [ck_of (tS_55 M0.sh), pI_of (tS_55 M0.sh), ob, nI_lit]; obtain ⟨h1, eh, M, F1⟩ : ∃ h1, wI h 55 0 (nI 0) = h1 ∧ IM h1 a ∧ FM h h1 := ⟨_, rfl, M0.th _, FM.w55 h _ (by decide)⟩; rw [eh]
      simp only [ob, nI_lit, nI_add, pk_mul, nI_eq, nI_ltI, nI_leI, if_true, if_false, if_pos, if_neg, ck_of (tS_55 M.sh), gR_of (tS_55 M.sh), gI_of (tS_55 M.sh), pI_of (tS_55 M.sh), rS_55_16 M.sh, rS_55_17 M.sh, rS_55_18 M.sh, rS_55_21 M.sh, rS_55_25 M.sh, rS_55_26 M.sh, rS_55_27 M.sh, rS_55_28 M.sh, rS_55_32 M.sh, rS_55_33 M.sh, rS_55_34 M.sh, m_refused M.sh, m_good M.sh, m_isPerson W M, m_isPlace W M, nI_b0]
      rcases g1 : ix (a 0 0 6) x with _ | _ <;> rcases g2 : ix (a 0 0 2) y with _ | _ <;> rw [g1, g2] at hb <;> first | (simp at hb; done) | (simp only [if_true, if_false, Bool.true_eq_false, Bool.false_eq_true]; exact qm_end F1 _ _)
  · rw [Bool.and_eq_true] at hb
    obtain ⟨hx, hy⟩ := hb
    obtain ⟨k, hk, rfl⟩ := ix_t hx (by omega)
    obtain ⟨p, hp, rfl⟩ := ix_t hy (by omega)
    have h0 := W.nf.pl k hk
    have hle := ds_le (V := vx a k) (ra := rb (a 1)) W.rw h0 hp
    -- the class: all hangs on placeOn
    have cO : ∀ h, IC h a → ∀ v, f_X10_placeOn (wyM h (vx a k) (rb (a 1)) (lF h (Lk (a 0) (vx a k) (rb (a 1)) p (a 0 0 2)))) 37 (a 2 0 0) (nI (a 1 0 k)) (nI p) w = some v → f_X11_wayAt h 1 (nI k) (nI p) w = if nI 0 ≤ v then some (v, wI (wyM h (vx a k) (rb (a 1)) (lF h (Lk (a 0) (vx a k) (rb (a 1)) p (a 0 0 2)))) 1 0 (nI 0)) else some (-nI 1, wI (wyM h (vx a k) (rb (a 1)) (lF h (Lk (a 0) (vx a k) (rb (a 1)) p (a 0 0 2)))) 1 0 (nI 1)) := by
      intro h C v hv
      have S := C.ct.sh
      have cm := c_measure W.rw C.ct W.ra hp (rb (a 1)) (vxl W hk) (vxn a k)
      have cv := c_voices S C.nw (show k < 4 by omega) (W.nf.kn k hk) (W.nf.fg k hk)
      change f_X2_voices h 33 (nI k) = some (nI (vx a k)) at cv
      obtain ⟨-, C2⟩ := C.wy W (vx a k) (rb (a 1)) (lF h (Lk (a 0) (vx a k) (rb (a 1)) p (a 0 0 2)))
      have S2 := C2.ct.sh
      unfold f_X11_wayAt
      simp (disch := omega) only [obx, nI_lit, nI_add, pk_mul, nI_eq, nI_ltI, nI_leI, if_true, if_false, if_pos, if_neg, ck_of (tS_1 C.ct.sh), gR_of (tS_1 C.ct.sh), gI_of (tS_1 C.ct.sh), pI_of (tS_1 C.ct.sh), C.ct.rp, rS_1_2 C.ct.sh, rS_1_3 C.ct.sh, rS_1_4 C.ct.sh, rS_1_5 C.ct.sh, rS_1_6 C.ct.sh, rS_1_7 C.ct.sh, rS_1_8 C.ct.sh, rS_1_9 C.ct.sh, ck_of (tR C.ct.rd.rd), gR_of (tR C.ct.rd.rd), gI_of (tR C.ct.rd.rd), rR_9 C.ct.rd.rd, rR_10 C.ct.rd.rd, rR_11 C.ct.rd.rd, rR_12 C.ct.rd.rd, rR_13 C.ct.rd.rd, rR_14 C.ct.rd.rd, rR_15 C.ct.rd.rd, rR_16 C.ct.rd.rd, rR_17 C.ct.rd.rd, rR_18 C.ct.rd.rd, rR_19 C.ct.rd.rd, aI_of (tR_1 C.ct.rd.rd), aI_of (tR_2 C.ct.rd.rd), aI_of (tR_3 C.ct.rd.rd), aI_of (tR_4 C.ct.rd.rd), aI_of (tR_5 C.ct.rd.rd), aI_of (tR_6 C.ct.rd.rd), aI_of (tR_7 C.ct.rd.rd), aI_of (tR_8 C.ct.rd.rd), aI_of (tR_9 C.ct.rd.rd), C.ct.rd.sc, C.ct.rd.len, C.ct.rd.e1, C.ct.rd.e2, C.ct.rd.min, C.ct.rd.kd, C.ct.rd.gt, C.ct.rd.bt, C.ct.rd.ip, C.ct.rd.hd, c_refuse C.ct.sh, c_answer C.ct.sh, c_isPerson W C, hx, c_isPlace W C, hy, Bool.toNat_true, cv, c_rains S C.nw W.nf.rn, cm, gR_of (tS_1 S2), rS_1_4 S2, rS_1_3 S2, C2.ct.rp, c_of S2 C2.nw, hv, c_answer S2, c_refuse S2]
    have cno : ∀ h, IC h a → f_X10_placeOn (wyM h (vx a k) (rb (a 1)) (lF h (Lk (a 0) (vx a k) (rb (a 1)) p (a 0 0 2)))) 37 (a 2 0 0) (nI (a 1 0 k)) (nI p) w = some (-nI 1) → OK (f_X11_wayAt h 1 (nI k) (nI p) w) (fun q => q.1 = -nI 1 ∧ FQ LQ h q.2 ∧ SK q.2 (a 0) ∧ mI q.2 1 0 = nI 1) := by
      intro h C hv
      obtain ⟨F2, C2⟩ := C.wy W (vx a k) (rb (a 1)) (lF h (Lk (a 0) (vx a k) (rb (a 1)) p (a 0 0 2)))
      rw [cO h C _ hv, if_neg (by decide)]
      exact qc_end2 F2 C2.so _ _
    have left : ∀ h, IC h a → f_X10_placeOn (wyM h (vx a k) (rb (a 1)) (lF h (Lk (a 0) (vx a k) (rb (a 1)) p (a 0 0 2)))) 37 (a 2 0 0) (nI (a 1 0 k)) (nI p) w = if 1000000 ≤ dd (a 0) (vx a k) (rb (a 1)) p (a 1 0 k) then some (-nI 1) else if w < nI 0 then some (-nI 1) else if w < nI (a 0 0 2) then (iter (fun (s : Int32 × Int32) => b_X10_placeOn_33 (wyM h (vx a k) (rb (a 1)) (lF h (Lk (a 0) (vx a k) (rb (a 1)) p (a 0 0 2)))) 37 (a 2 0 0) (nI p) w s.1 s.2) FU (nI (a 1 0 k), nI 0)).bind (Sum.elim (fun _ => some (-nI 1)) (fun e7 => some e7)) else some (-nI 1) := by
      intro h C
      obtain ⟨-, C2⟩ := C.wy W (vx a k) (rb (a 1)) (lF h (Lk (a 0) (vx a k) (rb (a 1)) p (a 0 0 2)))
      have S2 := C2.ct.sh
      have l1 := Lk_dd (V := vx a k) (ra := rb (a 1)) W.rw hp h0
      have ddl : dd (a 0) (vx a k) (rb (a 1)) p (a 1 0 k) ≤ 1000000 := by
        unfold dd
        split <;> omega
      unfold f_X10_placeOn
      simp (disch := omega) only [obx, nI_lit, nI_add, pk_mul, nI_eq, nI_ltI, nI_leI, if_true, if_false, if_pos, if_neg, ck_of (tS_37 S2), gR_of (tS_37 S2), rS_37_0 S2, aI_of (tS_38 S2), wyM_38, lF_at, l1, gI_of (tR C2.ct.rd.rd), C2.ct.rd.sc]
    -- the reference
    have mO : ∀ h, IM h a → ¬ w < nI 0 → ∃ F, (∀ y z, y < a 0 0 2 → z < a 0 0 2 → F (7 * y + z) = nI (ds (a 0) (vx a k) (rb (a 1)) y z)) ∧ f_X13_wayAt h 55 (nI k) (nI p) w = if ds (a 0) (vx a k) (rb (a 1)) (a 1 0 k) p < 99999 then (iter (fun (s : Int32 × Int32) => b_X13_wayAt_67 (rowI (wI h 55 0 (nI 0)) 60 F) 55 (nI k) (nI p) w s.1 s.2) FU (nI (a 1 0 k), nI 0)).bind (Sum.elim (fun _ => some (-nI 1, wI (wI (rowI (wI h 55 0 (nI 0)) 60 F) 55 1 (nI 1)) 55 2 (-nI 1))) (fun e => some (e, wI (wI (rowI (wI h 55 0 (nI 0)) 60 F) 55 1 (nI 0)) 55 2 (-nI 1)))) else some (-nI 1, wI (wI (rowI (wI h 55 0 (nI 0)) 60 F) 55 1 (nI 1)) 55 2 (-nI 1)) := by
      intro h M0 hw
      have hw2 : nI 0 ≤ w := by
        rw [le_not]
        exact hw
      have M : IM (wI h 55 0 (nI 0)) a := M0.th _
      obtain ⟨F, e, hF⟩ := m_waysOf W M hk
      refine ⟨F, hF, ?_⟩
      unfold f_X13_wayAt
      simp only [ck_of (tS_55 M0.sh), pI_of (tS_55 M0.sh), ob, nI_lit]
      generalize wI h 55 0 (nI 0) = h1 at *
      have S2 := M.sh.row 60 F
      have n0 := M.nw.at k 0 (by omega) (by decide)
      simp only [Nat.reduceMul] at n0
      have e57 : mI (rowI h1 60 F) 57 = mI h1 57 := mI_row_ne _ _ (by decide)
      simp (disch := omega) only [obx, nI_lit, nI_add, pk_mul, nI_eq, nI_ltI, nI_leI, if_true, if_false, if_pos, if_neg, ck_of (tS_55 M.sh), gR_of (tS_55 M.sh), gI_of (tS_55 M.sh), pI_of (tS_55 M.sh), rS_55_16 M.sh, rS_55_17 M.sh, rS_55_18 M.sh, rS_55_21 M.sh, rS_55_25 M.sh, rS_55_26 M.sh, rS_55_27 M.sh, rS_55_28 M.sh, rS_55_32 M.sh, rS_55_33 M.sh, rS_55_34 M.sh, m_refused M.sh, m_good M.sh, m_isPerson W M, hx, m_isPlace W M, hy, Bool.toNat_true, hw2, e, m_farTo W M hk hF hp, gR_of (tS_55 S2), rS_55_16 S2, aI_of (tS_57 S2), e57, n0, m_refused S2, m_good S2]
    have mneg : ∀ h, IM h a → w < nI 0 → OK (f_X13_wayAt h 55 (nI k) (nI p) w) (fun q => q.1 = -nI 1 ∧ FM h q.2 ∧ mI q.2 55 1 = nI 1 ∧ mI q.2 55 2 = -nI 1) := by
      intro h M0 hw
      have hw2 : ¬ nI 0 ≤ w := by
        rw [le_not]
        exact fun q => q hw
      unfold f_X13_wayAt f_X13_wayAt_25
      simp only [ck_of (tS_55 M0.sh), pI_of (tS_55 M0.sh), ob, nI_lit]; obtain ⟨h1, eh, M, F1⟩ : ∃ h1, wI h 55 0 (nI 0) = h1 ∧ IM h1 a ∧ FM h h1 := ⟨_, rfl, M0.th _, FM.w55 h _ (by decide)⟩; rw [eh]
      simp (disch := omega) only [obx, nI_lit, nI_add, pk_mul, nI_eq, nI_ltI, nI_leI, if_true, if_false, if_pos, if_neg, ck_of (tS_55 M.sh), gR_of (tS_55 M.sh), gI_of (tS_55 M.sh), pI_of (tS_55 M.sh), rS_55_16 M.sh, rS_55_17 M.sh, rS_55_18 M.sh, rS_55_21 M.sh, rS_55_25 M.sh, rS_55_26 M.sh, rS_55_27 M.sh, rS_55_28 M.sh, rS_55_32 M.sh, rS_55_33 M.sh, rS_55_34 M.sh, m_refused M.sh, m_good M.sh, m_isPerson W M, hx, m_isPlace W M, hy, Bool.toNat_true, hw2]
      exact qm_end F1 _ _
    have mend : ∀ (h : Mem) (F : Nat → Int32) (v : Int32) (z : Nat), OK (some (v, wI (wI (rowI (wI h 55 0 (nI 0)) 60 F) 55 1 (nI z)) 55 2 (-nI 1))) (fun q => q.1 = v ∧ FM h q.2 ∧ mI q.2 55 1 = nI z ∧ mI q.2 55 2 = -nI 1) := fun h F v z => qm_end ((FM.w55 h (k := 0) (nI 0) (by decide)).tr (FM.r60 F)) v z
    rcases Nat.lt_or_ge (ds (a 0) (vx a k) (rb (a 1)) (a 1 0 k) p) 99999 with hd | hd
    · have hdd : dd (a 0) (vx a k) (rb (a 1)) p (a 1 0 k) = ds (a 0) (vx a k) (rb (a 1)) (a 1 0 k) p := if_pos hd
      have hbd := ds_bd W.rw h0 hp hd
      have hpt := fun j => ptP_ok W.rw hp h0 hd j
      have mst : ∀ (h : Mem) (F : Nat → Int32), IM h a → (∀ y z, y < a 0 0 2 → z < a 0 0 2 → F (7 * y + z) = nI (ds (a 0) (vx a k) (rb (a 1)) y z)) → ∀ j, ¬ w ≤ nI j → (∀ i, i < j → ptP (a 0) (vx a k) (rb (a 1)) p (a 1 0 k) i ≠ p) → b_X13_wayAt_67 (rowI h 60 F) 55 (nI k) (nI p) w (nI (ptP (a 0) (vx a k) (rb (a 1)) p (a 1 0 k) j)) (nI j) = if ptP (a 0) (vx a k) (rb (a 1)) p (a 1 0 k) j = p then some (.inr (.inl ())) else some (.inl (nI (ptP (a 0) (vx a k) (rb (a 1)) p (a 1 0 k) (j + 1)), nI (j + 1))) := by
        intro h F M hF j hj hno
        obtain ⟨t1, t2, -⟩ := hpt j hno
        have es : ptP (a 0) (vx a k) (rb (a 1)) p (a 1 0 k) (j + 1) = nxP (a 0) (vx a k) (rb (a 1)) p (ptP (a 0) (vx a k) (rb (a 1)) p (a 1 0 k) j) := rfl
        rw [es]
        generalize ptP (a 0) (vx a k) (rb (a 1)) p (a 1 0 k) j = u at *
        unfold b_X13_wayAt_67
        rcases Decidable.em (u = p) with c | c
        · simp only [hj, if_false]
          simp (disch := omega) only [obx, nI_lit, nI_add, pk_mul, nI_eq, nI_ltI, nI_leI, if_true, if_false, if_pos, if_neg]
        · have mn := m_next W M hk hF hp t1 c t2 w (nI j)
          simp only [hj, if_false]
          simp (disch := omega) only [obx, nI_lit, nI_add, pk_mul, nI_eq, nI_ltI, nI_leI, if_true, if_false, if_pos, if_neg, mn]
      rcases pk_ix w (n := a 0 0 2) (by omega) with hw | hw | ⟨i, hi, rfl⟩
      · refine ⟨-nI 1, 1, by decide, by decide, fun h C => cno h C ?_, fun h M0 => mneg h M0 hw⟩
        rw [left h C, hdd, if_neg (by omega), if_pos (show w < nI 0 from hw)]
      · have hw0 : ¬ w < nI 0 := fun q => by
          have h1 := Int32.lt_iff_toInt_lt.mp q
          have h2 := Int32.le_iff_toInt_le.mp hw
          rw [nI_toInt (by omega)] at h1 h2
          omega
        have hwn : ¬ w < nI (a 0 0 2) := fun q => by
          have h1 := Int32.lt_iff_toInt_lt.mp q
          have h2 := Int32.le_iff_toInt_le.mp hw
          omega
        have hwj : ∀ j, j < a 0 0 2 → ¬ w ≤ nI j := fun j hj q => by
          have h1 := Int32.le_iff_toInt_le.mp q
          have h2 := Int32.le_iff_toInt_le.mp hw
          rw [nI_toInt (by omega)] at h1 h2
          omega
        refine ⟨-nI 1, 1, by decide, by decide, fun h C => cno h C ?_, fun h M0 => ?_⟩
        · rw [left h C, hdd, if_neg (by omega), if_neg hw0, if_neg hwn]
        · obtain ⟨F, hF, em⟩ := mO h M0 hw0
          have M : IM (wI h 55 0 (nI 0)) a := M0.th _
          have q : iter (fun (s : Int32 × Int32) => b_X13_wayAt_67 (rowI (wI h 55 0 (nI 0)) 60 F) 55 (nI k) (nI p) w s.1 s.2) FU (nI (a 1 0 k), nI 0) = some (Sum.inl ()) := by
            have hff : ff (fun j => decide (ptP (a 0) (vx a k) (rb (a 1)) p (a 1 0 k) j = p)) (a 0 0 2) < a 0 0 2 := by
              rcases Nat.lt_or_ge (ff (fun j => decide (ptP (a 0) (vx a k) (rb (a 1)) p (a 1 0 k) j = p)) (a 0 0 2)) (a 0 0 2) with c | c
              · exact c
              · exact absurd (fun j hj => of_decide_eq_false (ff_no (fun j => decide (ptP (a 0) (vx a k) (rb (a 1)) p (a 1 0 k) j = p)) (a 0 0 2) j (by omega))) (ptP_end W.rw hp h0 hd)
            have hno : ∀ j, j < ff (fun j => decide (ptP (a 0) (vx a k) (rb (a 1)) p (a 1 0 k) j = p)) (a 0 0 2) → ptP (a 0) (vx a k) (rb (a 1)) p (a 1 0 k) j ≠ p := fun j hj => of_decide_eq_false (ff_no (fun j => decide (ptP (a 0) (vx a k) (rb (a 1)) p (a 1 0 k) j = p)) (a 0 0 2) j hj)
            have hat := of_decide_eq_true (ff_at _ _ hff)
            generalize ff (fun j => decide (ptP (a 0) (vx a k) (rb (a 1)) p (a 1 0 k) j = p)) (a 0 0 2) = m at *
            refine iter_for (fun j => (nI (ptP (a 0) (vx a k) (rb (a 1)) p (a 1 0 k) j), nI j)) m (FU_lt (by omega)) (fun j hj => ?_) ?_
            · show b_X13_wayAt_67 (rowI (wI h 55 0 (nI 0)) 60 F) 55 (nI k) (nI p) w (nI (ptP (a 0) (vx a k) (rb (a 1)) p (a 1 0 k) j)) (nI j) = _
              rw [mst _ F M hF j (hwj j (by omega)) (fun i hi => hno i (by omega)), if_neg (hno j hj)]
            · show b_X13_wayAt_67 (rowI (wI h 55 0 (nI 0)) 60 F) 55 (nI k) (nI p) w (nI (ptP (a 0) (vx a k) (rb (a 1)) p (a 1 0 k) m)) (nI m) = _
              rw [mst _ F M hF m (hwj m hff) hno, if_pos hat]
          show OK (f_X13_wayAt h 55 (nI k) (nI p) w) _
          rw [em, if_pos hd, q]
          exact mend h F _ _
      · have hi31 : i < 2 ^ 31 := by omega
        have cq : ∀ h, IC h a → iter (fun (s : Int32 × Int32) => b_X10_placeOn_33 (wyM h (vx a k) (rb (a 1)) (lF h (Lk (a 0) (vx a k) (rb (a 1)) p (a 0 0 2)))) 37 (a 2 0 0) (nI p) (nI i) s.1 s.2) FU (nI (a 1 0 k), nI 0) = some (if ff (fun j => decide (ptP (a 0) (vx a k) (rb (a 1)) p (a 1 0 k) j = p)) i < i then Sum.inl () else Sum.inr (nI (ptP (a 0) (vx a k) (rb (a 1)) p (a 1 0 k) i))) := by
          intro h C
          refine iter_ff2 (fun j => (nI (ptP (a 0) (vx a k) (rb (a 1)) p (a 1 0 k) j), nI j)) (fun j => decide (ptP (a 0) (vx a k) (rb (a 1)) p (a 1 0 k) j = p)) i (fun _ => Sum.inl ()) (Sum.inr (nI (ptP (a 0) (vx a k) (rb (a 1)) p (a 1 0 k) i))) (FU_lt (by omega)) (fun j hj hno => ?_) (fun _ => ?_)
          · obtain ⟨t1, t2, -⟩ := hpt j (fun i hi => of_decide_eq_false (hno i hi))
            have es : ptP (a 0) (vx a k) (rb (a 1)) p (a 1 0 k) (j + 1) = nxP (a 0) (vx a k) (rb (a 1)) p (ptP (a 0) (vx a k) (rb (a 1)) p (a 1 0 k) j) := rfl
            rw [es]
            show b_X10_placeOn_33 (wyM h (vx a k) (rb (a 1)) (lF h (Lk (a 0) (vx a k) (rb (a 1)) p (a 0 0 2)))) 37 (a 2 0 0) (nI p) (nI i) (nI (ptP (a 0) (vx a k) (rb (a 1)) p (a 1 0 k) j)) (nI j) = _
            generalize ptP (a 0) (vx a k) (rb (a 1)) p (a 1 0 k) j = u at *
            unfold b_X10_placeOn_33
            rcases Decidable.em (u = p) with c | c
            · simp (disch := omega) only [obx, nI_lit, nI_add, pk_mul, nI_eq, nI_ltI, nI_leI, if_true, if_false, if_pos, if_neg]
              rw [if_pos (decide_eq_true c)]
            · have cb := c_behind W C hp (vxl W hk) (vxn a k) t1 c t2
              simp (disch := omega) only [obx, nI_lit, nI_add, pk_mul, nI_eq, nI_ltI, nI_leI, if_true, if_false, if_pos, if_neg, cb]
              rw [if_neg (by rw [decide_eq_false c]; decide)]
          · show b_X10_placeOn_33 _ 37 (a 2 0 0) (nI p) (nI i) _ (nI i) = _
            unfold b_X10_placeOn_33
            simp (disch := omega) only [obx, nI_lit, nI_add, pk_mul, nI_eq, nI_ltI, nI_leI, if_true, if_false, if_pos, if_neg]
        have mq : ∀ (h : Mem) (F : Nat → Int32), IM h a → (∀ y z, y < a 0 0 2 → z < a 0 0 2 → F (7 * y + z) = nI (ds (a 0) (vx a k) (rb (a 1)) y z)) → iter (fun (s : Int32 × Int32) => b_X13_wayAt_67 (rowI h 60 F) 55 (nI k) (nI p) (nI i) s.1 s.2) FU (nI (a 1 0 k), nI 0) = some (if ff (fun j => decide (ptP (a 0) (vx a k) (rb (a 1)) p (a 1 0 k) j = p)) i < i then Sum.inl () else Sum.inr (nI (ptP (a 0) (vx a k) (rb (a 1)) p (a 1 0 k) i))) := by
          intro h F M hF
          refine iter_ff2 (fun j => (nI (ptP (a 0) (vx a k) (rb (a 1)) p (a 1 0 k) j), nI j)) (fun j => decide (ptP (a 0) (vx a k) (rb (a 1)) p (a 1 0 k) j = p)) i (fun _ => Sum.inl ()) (Sum.inr (nI (ptP (a 0) (vx a k) (rb (a 1)) p (a 1 0 k) i))) (FU_lt (by omega)) (fun j hj hno => ?_) (fun _ => ?_)
          · show b_X13_wayAt_67 (rowI h 60 F) 55 (nI k) (nI p) (nI i) (nI (ptP (a 0) (vx a k) (rb (a 1)) p (a 1 0 k) j)) (nI j) = _
            rw [mst h F M hF j (nI_ge hj hi31) (fun i hi => of_decide_eq_false (hno i hi))]
            simp only [decide_eq_true_iff]
          · show b_X13_wayAt_67 _ 55 (nI k) (nI p) (nI i) _ (nI i) = _
            unfold b_X13_wayAt_67
            simp (disch := omega) only [obx, nI_lit, nI_add, pk_mul, nI_eq, nI_ltI, nI_leI, if_true, if_false, if_pos, if_neg]
        have hi0 : ¬ nI i < nI 0 := nI_pos hi31
        have hin : nI i < nI (a 0 0 2) := nI_lt hi (by omega)
        rcases Nat.lt_or_ge (ff (fun j => decide (ptP (a 0) (vx a k) (rb (a 1)) p (a 1 0 k) j = p)) i) i with c | c
        · refine ⟨-nI 1, 1, by decide, by decide, fun h C => cno h C ?_, fun h M0 => ?_⟩
          · rw [left h C, hdd, if_neg (by omega), if_neg hi0, if_pos hin, cq h C, if_pos c]
            rfl
          · obtain ⟨F, hF, em⟩ := mO h M0 hi0
            show OK (f_X13_wayAt h 55 (nI k) (nI p) (nI i)) _
            rw [em, if_pos hd, mq _ F (M0.th _) hF, if_pos c]
            exact mend h F _ _
        · have hno : ∀ j, j < i → ptP (a 0) (vx a k) (rb (a 1)) p (a 1 0 k) j ≠ p := fun j hj => of_decide_eq_false (ff_no (fun j => decide (ptP (a 0) (vx a k) (rb (a 1)) p (a 1 0 k) j = p)) i j (by omega))
          have ti := (hpt i hno).1
          refine ⟨nI (ptP (a 0) (vx a k) (rb (a 1)) p (a 1 0 k) i), 0, by decide, by decide, fun h C => ?_, fun h M0 => ?_⟩
          · obtain ⟨F2, C2⟩ := C.wy W (vx a k) (rb (a 1)) (lF h (Lk (a 0) (vx a k) (rb (a 1)) p (a 0 0 2)))
            have hv : f_X10_placeOn (wyM h (vx a k) (rb (a 1)) (lF h (Lk (a 0) (vx a k) (rb (a 1)) p (a 0 0 2)))) 37 (a 2 0 0) (nI (a 1 0 k)) (nI p) (nI i) = some (nI (ptP (a 0) (vx a k) (rb (a 1)) p (a 1 0 k) i)) := by
              rw [left h C, hdd, if_neg (by omega), if_neg hi0, if_pos hin, cq h C, if_neg (by omega)]
              rfl
            show OK (f_X11_wayAt h 1 (nI k) (nI p) (nI i)) _
            rw [cO h C _ hv, if_pos (nI_le (by omega) (by omega))]
            exact qc_end2 F2 C2.so _ _
          · obtain ⟨F, hF, em⟩ := mO h M0 hi0
            show OK (f_X13_wayAt h 55 (nI k) (nI p) (nI i)) _
            rw [em, if_pos hd, mq _ F (M0.th _) hF, if_neg (by omega)]
            exact mend h F _ _
    · refine ⟨-nI 1, 1, by decide, by decide, fun h C => cno h C ?_, fun h M0 => ?_⟩
      · have hdd : dd (a 0) (vx a k) (rb (a 1)) p (a 1 0 k) = 1000000 := if_neg (by omega)
        rw [left h C, hdd, if_pos (by omega)]
      · rcases Decidable.em (w < nI 0) with hw | hw
        · exact mneg h M0 hw
        · obtain ⟨F, hF, em⟩ := mO h M0 hw
          show OK (f_X13_wayAt h 55 (nI k) (nI p) w) _
          rw [em, if_neg (by omega)]
          exact mend h F _ _
theorem st_15 : StepOK INV lc_15 := by
  intro sc L i h hL hi hI
  unfold lc_15
  simp only [show (1 : Int32) = nI 1 from rfl, show (2 : Int32) = nI 2 from rfl, show (3 : Int32) = nI 3 from rfl, show (4 : Int32) = nI 4 from rfl, show (5 : Int32) = nI 5 from rfl, nI_add, sc_at hL (show i + 1 < L by omega), sc_at hL (show i + 2 < L by omega), sc_at hL (show i + 3 < L by omega), sc_at hL (show i + 4 < L by omega), sc_at hL (show i + 5 < L by omega), ob]
  exact q2 (f := fun h => f_X11_wayAt h 1 (sc (i + 1)) (sc (i + 2)) (sc (i + 3))) (g := fun h => f_X13_wayAt h 55 (sc (i + 1)) (sc (i + 2)) (sc (i + 3))) hI (fun a W => qq_wayAt W _ _ _)
