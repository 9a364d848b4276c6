/-! ===== pairs, partner ===== -/
theorem FM.r65 {h : Mem} (F : Nat → Int32) (e : F 0 = mI h 65 0) : FM h (rowI h 65 F) := by
  refine ⟨FQ.row h F (by decide), ⟨?_, ?_, ?_, ?_⟩, by rw [mI_row, e]⟩ <;> rw [mI_row_ne _ _ (by decide)]
theorem qq_pairs {a : AB} (W : IW a) : ∃ v z, z ≤ 6 ∧ z ≠ 4 ∧ QC a (fun h => f_X11_pairs h 1) v z ∧ QM a (fun h => f_X13_pairs h 55) v z := by
  have htu := W.rw.tu
  have hT : 2 ^ a 0 0 1 ≤ 2 ^ 6 := two_le htu
  have hT1 : 1 ≤ 2 ^ a 0 0 1 := Nat.one_le_two_pow
  have hsh : nI 1 <<< (nI (a 0 0 1) &&& nI 31) = nI (2 ^ a 0 0 1) := nI_sh1 (by omega)
  rcases Nat.eq_zero_or_pos (a 0 0 2) with e0 | e0
  · refine ⟨-nI 1, 1, by decide, by decide, fun h C => ?_, fun h M0 => ?_⟩
    · unfold f_X11_pairs
      simp (disch := omega) only [ob, nI_lit, nI_add, pk_mul, nI_eq, nI_ltI, nI_leI, if_true, if_false, if_pos, if_neg, ck_of (tS_1 C.ct.sh), gR_of (tS_1 C.ct.sh), gI_of (tS_1 C.ct.sh), pI_of (tS_1 C.ct.sh), C.ct.rp, rS_1_2 C.ct.sh, rS_1_3 C.ct.sh, rS_1_4 C.ct.sh, rS_1_5 C.ct.sh, rS_1_6 C.ct.sh, rS_1_7 C.ct.sh, rS_1_8 C.ct.sh, rS_1_9 C.ct.sh, ck_of (tR C.ct.rd.rd), gR_of (tR C.ct.rd.rd), gI_of (tR C.ct.rd.rd), rR_9 C.ct.rd.rd, rR_10 C.ct.rd.rd, rR_11 C.ct.rd.rd, rR_12 C.ct.rd.rd, rR_13 C.ct.rd.rd, rR_14 C.ct.rd.rd, rR_15 C.ct.rd.rd, rR_16 C.ct.rd.rd, rR_17 C.ct.rd.rd, rR_18 C.ct.rd.rd, rR_19 C.ct.rd.rd, aI_of (tR_1 C.ct.rd.rd), aI_of (tR_2 C.ct.rd.rd), aI_of (tR_3 C.ct.rd.rd), aI_of (tR_4 C.ct.rd.rd), aI_of (tR_5 C.ct.rd.rd), aI_of (tR_6 C.ct.rd.rd), aI_of (tR_7 C.ct.rd.rd), aI_of (tR_8 C.ct.rd.rd), aI_of (tR_9 C.ct.rd.rd), C.ct.rd.sc, C.ct.rd.len, C.ct.rd.e1, C.ct.rd.e2, C.ct.rd.min, C.ct.rd.kd, C.ct.rd.gt, C.ct.rd.bt, C.ct.rd.ip, C.ct.rd.hd, c_refuse C.ct.sh, c_answer C.ct.sh, c_told0 W C e0]
      exact qc_end C _ _
    · unfold f_X13_pairs
      simp only [ck_of (tS_55 M0.sh), pI_of (tS_55 M0.sh), ob, nI_lit]; obtain ⟨h1, eh, M, F1⟩ : ∃ h1, wI h 55 0 (nI 0) = h1 ∧ IM h1 a ∧ FM h h1 := ⟨_, rfl, M0.th _, FM.w55 h _ (by decide)⟩; rw [eh]
      simp (disch := omega) only [ob, nI_lit, nI_add, pk_mul, nI_eq, nI_ltI, nI_leI, if_true, if_false, if_pos, if_neg, ck_of (tS_55 M.sh), gR_of (tS_55 M.sh), gI_of (tS_55 M.sh), pI_of (tS_55 M.sh), rS_55_16 M.sh, rS_55_17 M.sh, rS_55_18 M.sh, rS_55_21 M.sh, rS_55_25 M.sh, rS_55_26 M.sh, rS_55_27 M.sh, rS_55_28 M.sh, rS_55_32 M.sh, rS_55_33 M.sh, rS_55_34 M.sh, m_refused M.sh, m_good M.sh, m_null M e0]
      exact qm_end F1 _ _
  · refine ⟨nI (pm (a 0) 6 (2 ^ a 0 0 1 - 1)), 0, by decide, by decide, fun h C => ?_, fun h M0 => ?_⟩
    · unfold f_X11_pairs f_X3_howMany
      simp (disch := omega) only [ob, nI_lit, nI_add, pk_mul, nI_eq, nI_ltI, nI_leI, if_true, if_false, if_pos, if_neg, ck_of (tS_1 C.ct.sh), gR_of (tS_1 C.ct.sh), gI_of (tS_1 C.ct.sh), pI_of (tS_1 C.ct.sh), C.ct.rp, rS_1_2 C.ct.sh, rS_1_3 C.ct.sh, rS_1_4 C.ct.sh, rS_1_5 C.ct.sh, rS_1_6 C.ct.sh, rS_1_7 C.ct.sh, rS_1_8 C.ct.sh, rS_1_9 C.ct.sh, ck_of (tR C.ct.rd.rd), gR_of (tR C.ct.rd.rd), gI_of (tR C.ct.rd.rd), rR_9 C.ct.rd.rd, rR_10 C.ct.rd.rd, rR_11 C.ct.rd.rd, rR_12 C.ct.rd.rd, rR_13 C.ct.rd.rd, rR_14 C.ct.rd.rd, rR_15 C.ct.rd.rd, rR_16 C.ct.rd.rd, rR_17 C.ct.rd.rd, rR_18 C.ct.rd.rd, rR_19 C.ct.rd.rd, aI_of (tR_1 C.ct.rd.rd), aI_of (tR_2 C.ct.rd.rd), aI_of (tR_3 C.ct.rd.rd), aI_of (tR_4 C.ct.rd.rd), aI_of (tR_5 C.ct.rd.rd), aI_of (tR_6 C.ct.rd.rd), aI_of (tR_7 C.ct.rd.rd), aI_of (tR_8 C.ct.rd.rd), aI_of (tR_9 C.ct.rd.rd), C.ct.rd.sc, C.ct.rd.len, C.ct.rd.e1, C.ct.rd.e2, C.ct.rd.min, C.ct.rd.kd, C.ct.rd.gt, C.ct.rd.bt, C.ct.rd.ip, C.ct.rd.hd, c_refuse C.ct.sh, c_answer C.ct.sh, c_told1 W C e0, ck_of (tS_47 C.ct.sh), gR_of (tS_47 C.ct.sh), rS_47_0 C.ct.sh, hsh, pk_sub, aI_of (tS_48 C.ct.sh), C.pr.most]
      exact qc_end C _ _
    · unfold f_X13_pairs
      simp only [ck_of (tS_55 M0.sh), pI_of (tS_55 M0.sh), ob, nI_lit]; obtain ⟨h1, eh, M, F1⟩ : ∃ h1, wI h 55 0 (nI 0) = h1 ∧ IM h1 a ∧ FM h h1 := ⟨_, rfl, M0.th _, FM.w55 h _ (by decide)⟩; rw [eh]
      have P := M.told e0
      have hz := P.nz
      obtain ⟨F, e2, hF⟩ := m_pairs W.rw P (M.p69 e0) M.m0
      have F2 : FM h1 (rowI h1 65 F) := FM.r65 F (by rw [hF 0 (by omega), pm_0, M.m0])
      have P2 := P.r65 (M.p69 e0) F
      have S2 := P2.sh
      have eF := hF (2 ^ a 0 0 1 - 1) (by omega)
      simp (disch := omega) only [ob, nI_lit, nI_add, pk_mul, nI_eq, nI_ltI, nI_leI, if_true, if_false, if_pos, if_neg, ck_of (tS_55 M.sh), gR_of (tS_55 M.sh), gI_of (tS_55 M.sh), pI_of (tS_55 M.sh), rS_55_16 M.sh, rS_55_17 M.sh, rS_55_18 M.sh, rS_55_21 M.sh, rS_55_25 M.sh, rS_55_26 M.sh, rS_55_27 M.sh, rS_55_28 M.sh, rS_55_32 M.sh, rS_55_33 M.sh, rS_55_34 M.sh, m_refused M.sh, m_good M.sh, P.pp, e2, gR_of (tS_55 S2), rS_55_32 S2, P2.pp, gI_of (tP P2.rd.pk), P2.rd.sc, hsh, pk_sub, aI_of (tS_65 S2), mI_row, eF, m_good S2]
      exact qm_end (F1.tr F2) _ _
theorem st_27 : StepOK INV lc_27 := by
  intro sc L i h hL hi hI
  unfold lc_27
  exact q2 (f := fun h => f_X11_pairs h 1) (g := fun h => f_X13_pairs h 55) hI (fun a W => qq_pairs W)
/-! the first of the most PAIRS -/
theorem fm_at {ρ : RO} {t s : Nat} (h : fm ρ t s < ρ 0 1) : t < fm ρ t s ∧ (s ^^^ 2 ^ t).testBit (fm ρ t s) = true ∧ s.testBit (fm ρ t s) = true := by
  have q := ff_at _ _ h
  change ((decide (t < fm ρ t s) && (s ^^^ 2 ^ t).testBit (fm ρ t s) && gt2 ρ t (fm ρ t s) && decide (1 + pm ρ 6 (s ^^^ 2 ^ t ^^^ 2 ^ fm ρ t s) = pm ρ 6 s)) = true) at q
  simp only [Bool.and_eq_true, decide_eq_true_iff] at q
  obtain ⟨⟨⟨q1, q2⟩, -⟩, -⟩ := q
  refine ⟨q1, q2, ?_⟩
  rw [xor_bit] at q2
  simpa [show ¬ t = fm ρ t s by omega] using q2
theorem gs_lt (ρ : RO) : ∀ k, k ≤ ρ 0 1 → gs ρ k < 2 ^ ρ 0 1
  | 0, _ => by
    have : 1 ≤ 2 ^ ρ 0 1 := Nat.one_le_two_pow
    show 2 ^ ρ 0 1 - 1 < _
    omega
  | k + 1, hk => by
    have ih := gs_lt ρ k (by omega)
    have h1 : 2 ^ k < 2 ^ ρ 0 1 := Nat.pow_lt_pow_right (by decide) (by omega)
    unfold gs
    split
    · split
      · rename_i c
        exact Nat.xor_lt_two_pow (Nat.xor_lt_two_pow ih h1) (Nat.pow_lt_pow_right (by decide) c)
      · exact Nat.xor_lt_two_pow ih h1
    · exact ih
/-- a tune that is left later was left before -/
theorem gs_sub (ρ : RO) (k i : Nat) (h : (gs ρ (k + 1)).testBit i = true) : (gs ρ k).testBit i = true ∧ i ≠ k ∧ ((gs ρ k).testBit k = true → fm ρ k (gs ρ k) < ρ 0 1 → i ≠ fm ρ k (gs ρ k)) := by
  rw [gs] at h
  rcases hb : (gs ρ k).testBit k with _ | _
  · rw [hb, if_neg (by decide)] at h
    refine ⟨h, fun e => ?_, fun q => by cases q⟩
    rw [e, hb] at h
    cases h
  · rw [hb, if_pos rfl] at h
    rcases Nat.lt_or_ge (fm ρ k (gs ρ k)) (ρ 0 1) with c | c
    · rw [if_pos c, xor_bit, xor_bit] at h
      obtain ⟨c1, c2, c3⟩ := fm_at c
      have n1 : i ≠ k := by
        intro e
        subst e
        rw [hb] at h
        simp [show ¬ fm ρ i (gs ρ i) = i by omega] at h
      have n2 : i ≠ fm ρ k (gs ρ k) := by
        intro e
        rw [← e] at h c3
        simp [c3] at h
        omega
      refine ⟨?_, n1, fun _ _ => n2⟩
      simpa [show ¬ k = i by omega, show ¬ fm ρ k (gs ρ k) = i from fun e => n2 e.symm] using h
    · rw [if_neg (by omega), xor_bit] at h
      have n1 : i ≠ k := by
        intro e
        subst e
        rw [hb] at h
        simp at h
      exact ⟨by simpa [show ¬ k = i by omega] using h, n1, fun _ q => by omega⟩
theorem gs_low (ρ : RO) : ∀ k i, i < k → (gs ρ k).testBit i = false
  | 0, i, h => by omega
  | k + 1, i, h => by
    rcases hb : (gs ρ (k + 1)).testBit i with _ | _
    · rfl
    · obtain ⟨h1, h2, -⟩ := gs_sub ρ k i hb
      rw [gs_low ρ k i (by omega)] at h1
      cases h1
theorem pf_in (ρ : RO) : ∀ k i, (gs ρ k).testBit i = true → pf ρ k i = -nI 2
  | 0, _, _ => rfl
  | k + 1, i, h => by
    obtain ⟨h1, h2, h3⟩ := gs_sub ρ k i h
    have ih := pf_in ρ k i h1
    unfold pf
    rcases hb : (gs ρ k).testBit k with _ | _
    · rw [if_neg (by decide)]
      exact ih
    · rw [if_pos rfl]
      rcases Nat.lt_or_ge (fm ρ k (gs ρ k)) (ρ 0 1) with c | c
      · rw [if_pos c, pk_un (h3 hb c), pk_un h2]
        exact ih
      · rw [if_neg (by omega)]
        exact ih
theorem pf_out (ρ : RO) (i : Nat) (m : Nat) : ∀ d, (∀ k, m ≤ k → k < m + d → (gs ρ k).testBit i = false) → pf ρ (m + d) i = pf ρ m i
  | 0, _ => rfl
  | d + 1, h => by
    have ih := pf_out ρ i m d (fun k h1 h2 => h k h1 (by omega))
    have hi := h (m + d) (by omega) (by omega)
    rw [← ih]
    show pf ρ (m + d + 1) i = _
    rw [pf]
    rcases hb : (gs ρ (m + d)).testBit (m + d) with _ | _
    · rw [if_neg (by decide)]
    · rw [if_pos rfl]
      rcases Nat.lt_or_ge (fm ρ (m + d) (gs ρ (m + d))) (ρ 0 1) with c | c
      · have c3 := (fm_at c).2.2
        rw [if_pos c, pk_un (fun e => by rw [← e, hi] at c3; cases c3), pk_un (fun e => by rw [e, hb] at hi; cases hi)]
      · rw [if_neg (by omega)]
theorem gs_out (ρ : RO) (i m : Nat) (h : (gs ρ m).testBit i = false) : ∀ d, (gs ρ (m + d)).testBit i = false
  | 0 => h
  | d + 1 => by
    rcases hb : (gs ρ (m + d + 1)).testBit i with _ | _
    · rfl
    · have := (gs_sub ρ (m + d) i hb).1
      rw [gs_out ρ i m h d] at this
      cases this
theorem lb_gs {ρ : RO} (W : RW ρ) {k : Nat} (hk : k < ρ 0 1) (hb : (gs ρ k).testBit k = true) : lb (gs ρ k) = k := by
  have := W.tu
  exact ff_eq (by omega) (fun i hi => gs_low ρ k i hi) (fun _ => hb)
def dcP (r : (Int32 × Int32) ⊕ Int32 ⊕ Unit) : Int32 := match r with | .inl e => if e.2 = nI 0 then -nI 2 else e.1 | .inr (.inl v) => v | .inr (.inr _) => -nI 2
theorem m_part {h : Mem} {p : Nat} {ρ : RO} (W : RW ρ) (M : MT h p ρ) (hm : ∀ s, s < 2 ^ ρ 0 1 → mI h 65 s = nI (pm ρ 6 s)) {t : Nat} (ht : t < ρ 0 1) : ∀ (d k N : Nat), k + d = ρ 0 1 → d < N → (gs ρ k).testBit t = true → OK (iter (fun (s : Int32) => b_X13_partner_35 h 55 (nI t) s) N (nI (gs ρ k))) (fun r => dcP r = pf ρ (ρ 0 1) t)
  | 0, k, N, hk, _, hb => by
    rw [gs_low ρ k t (by omega)] at hb
    cases hb
  | d + 1, k, 0, hk, hN, hb => by omega
  | d + 1, k, N + 1, hk, hN, hb => by
    have htu := W.tu
    have S := M.sh
    rcases hc : (gs ρ k).testBit k with _ | _
    · have e1 : gs ρ (k + 1) = gs ρ k := by
        rw [gs, hc]
        rfl
      have := m_part W M hm ht d (k + 1) (N + 1) (by omega) (by omega) (by rw [e1]; exact hb)
      rw [e1] at this
      exact this
    · have hg := gs_lt ρ k (by omega)
      have hT : 2 ^ ρ 0 1 ≤ 2 ^ 6 := two_le htu
      have hlb := lb_gs W (by omega) hc
      have hg0 : gs ρ k ≠ 0 := by
        intro e
        rw [e, Nat.zero_testBit] at hc
        cases hc
      have hlo := h_low h (s := gs ρ k) (by omega) hg0
      rw [hlb] at hlo
      have hsk : nI 1 <<< (nI k &&& nI 31) = nI (2 ^ k) := nI_sh1 (by omega)
      have han := anot_bit (s := gs ρ k) (t := k) (by omega) (by omega) hc
      have hx := (xb_tab (gs ρ k) (by omega) k (by omega) hc).1
      have l2 : iter (fun (s : Int32) => b_X13_partner_58 h 55 (nI t) (nI (gs ρ k)) (nI k) (nI (gs ρ k ^^^ 2 ^ k)) s) FU (nI (k + 1)) = some (nI (fm ρ k (gs ρ k))) := by
        have hle : fm ρ k (gs ρ k) ≤ ρ 0 1 := ff_le _ _
        have hge : k + 1 ≤ fm ρ k (gs ρ k) := by
          rcases Nat.lt_or_ge (fm ρ k (gs ρ k)) (ρ 0 1) with c | c
          · exact (fm_at c).1
          · omega
        have st : ∀ u, k < u → u < ρ 0 1 → b_X13_partner_58 h 55 (nI t) (nI (gs ρ k)) (nI k) (nI (gs ρ k ^^^ 2 ^ k)) (nI u) = if (decide (k < u) && (gs ρ k ^^^ 2 ^ k).testBit u && gt2 ρ k u && decide (1 + pm ρ 6 (gs ρ k ^^^ 2 ^ k ^^^ 2 ^ u) = pm ρ 6 (gs ρ k))) = true then some (.inr (nI u)) else some (.inl (nI (u + 1))) := by
          intro u h1 h2
          have hsu : nI 1 <<< (nI u &&& nI 31) = nI (2 ^ u) := nI_sh1 (by omega)
          unfold b_X13_partner_58 f_X13_partner_115
          simp (disch := omega) only [ob, nI_lit, nI_add, pk_mul, nI_eq, nI_ltI, nI_leI, if_true, if_false, if_pos, if_neg, ck_of (tS_55 M.sh), gR_of (tS_55 M.sh), gI_of (tS_55 M.sh), M.pp, ck_of (tP M.rd.pk), gR_of (tP M.rd.pk), gI_of (tP M.rd.pk), rP_10 M.rd.pk, rP_11 M.rd.pk, rP_12 M.rd.pk, rP_13 M.rd.pk, rP_14 M.rd.pk, rP_15 M.rd.pk, rP_16 M.rd.pk, rP_17 M.rd.pk, rP_18 M.rd.pk, rP_19 M.rd.pk, rP_20 M.rd.pk, rP_21 M.rd.pk, rP_22 M.rd.pk, rP_23 M.rd.pk, rP_24 M.rd.pk, aI_of (tP_1 M.rd.pk), aI_of (tP_2 M.rd.pk), aI_of (tP_3 M.rd.pk), aI_of (tP_4 M.rd.pk), aI_of (tP_5 M.rd.pk), aI_of (tP_6 M.rd.pk), aI_of (tP_7 M.rd.pk), aI_of (tP_8 M.rd.pk), aI_of (tP_9 M.rd.pk), aI_of (tP_10 M.rd.pk), aI_of (tP_11 M.rd.pk), aI_of (tP_12 M.rd.pk), aI_of (tP_13 M.rd.pk), aI_of (tP_14 M.rd.pk), aI_of (tP_15 M.rd.pk), M.rd.sc, M.rd.len, M.rd.note, M.rd.min, M.rd.kd, M.rd.gt, M.rd.e1, M.rd.e2, M.rd.i8, M.rd.i9, M.rd.i10, M.rd.i11, M.rd.hd, h_bit, m_gt2 W M (show k < ρ 0 1 by omega) h2]
          rcases hb : (gs ρ k ^^^ 2 ^ k).testBit u with _ | _
          · simp (disch := omega) only [ob, nI_lit, nI_add, pk_mul, nI_eq, nI_ltI, nI_leI, if_true, if_false, if_pos, if_neg, Bool.toNat_false]
            simp
          · rcases hgt : gt2 ρ k u with _ | _
            · simp (disch := omega) only [ob, nI_lit, nI_add, pk_mul, nI_eq, nI_ltI, nI_leI, if_true, if_false, if_pos, if_neg, Bool.toNat_true, Bool.toNat_false]
              simp
            · have h5 := xb_tab (gs ρ k ^^^ 2 ^ k) (by omega) u (by omega) hb
              have han2 := anot_bit (s := gs ρ k ^^^ 2 ^ k) (t := u) (by omega) (by omega) hb
              have e1 := hm (gs ρ k ^^^ 2 ^ k ^^^ 2 ^ u) (by omega)
              have e2 := hm (gs ρ k) hg
              have p1 := pm_le ρ 6 (gs ρ k ^^^ 2 ^ k ^^^ 2 ^ u)
              have p2 := pm_le ρ 6 (gs ρ k)
              simp (disch := omega) only [ob, nI_lit, nI_add, pk_mul, nI_eq, nI_ltI, nI_leI, if_true, if_false, if_pos, if_neg, Bool.toNat_true, hsu, han2, rS_55_32 S, aI_of (tS_65 S), e1, e2]
              simp [h1]
        refine iter_from (fun i => nI i) (k + 1) (fm ρ k (gs ρ k)) (N := FU) hge (FU_lt (by omega)) (fun i h1 h2 => ?_) ?_
        · show b_X13_partner_58 h 55 (nI t) (nI (gs ρ k)) (nI k) (nI (gs ρ k ^^^ 2 ^ k)) (nI i) = _
          rw [st i (by omega) (by omega), if_neg]
          intro q
          have q2 := ff_no _ _ i h2
          rw [q] at q2
          cases q2
        · show b_X13_partner_58 h 55 (nI t) (nI (gs ρ k)) (nI k) (nI (gs ρ k ^^^ 2 ^ k)) (nI (fm ρ k (gs ρ k))) = _
          rcases Nat.lt_or_ge (fm ρ k (gs ρ k)) (ρ 0 1) with c | c
          · rw [st _ (by omega) c, if_pos]
            exact ff_at _ _ c
          · unfold b_X13_partner_58
            simp (disch := omega) only [ob, nI_lit, nI_add, pk_mul, nI_eq, nI_ltI, nI_leI, if_true, if_false, if_pos, if_neg, ck_of (tS_55 M.sh), gR_of (tS_55 M.sh), gI_of (tS_55 M.sh), M.pp, ck_of (tP M.rd.pk), gR_of (tP M.rd.pk), gI_of (tP M.rd.pk), rP_10 M.rd.pk, rP_11 M.rd.pk, rP_12 M.rd.pk, rP_13 M.rd.pk, rP_14 M.rd.pk, rP_15 M.rd.pk, rP_16 M.rd.pk, rP_17 M.rd.pk, rP_18 M.rd.pk, rP_19 M.rd.pk, rP_20 M.rd.pk, rP_21 M.rd.pk, rP_22 M.rd.pk, rP_23 M.rd.pk, rP_24 M.rd.pk, aI_of (tP_1 M.rd.pk), aI_of (tP_2 M.rd.pk), aI_of (tP_3 M.rd.pk), aI_of (tP_4 M.rd.pk), aI_of (tP_5 M.rd.pk), aI_of (tP_6 M.rd.pk), aI_of (tP_7 M.rd.pk), aI_of (tP_8 M.rd.pk), aI_of (tP_9 M.rd.pk), aI_of (tP_10 M.rd.pk), aI_of (tP_11 M.rd.pk), aI_of (tP_12 M.rd.pk), aI_of (tP_13 M.rd.pk), aI_of (tP_14 M.rd.pk), aI_of (tP_15 M.rd.pk), M.rd.sc, M.rd.len, M.rd.note, M.rd.min, M.rd.kd, M.rd.gt, M.rd.e1, M.rd.e2, M.rd.i8, M.rd.i9, M.rd.i10, M.rd.i11, M.rd.hd]
      have hle : fm ρ k (gs ρ k) ≤ ρ 0 1 := ff_le _ _
      have eb : b_X13_partner_35 h 55 (nI t) (nI (gs ρ k)) = f_X13_partner_138 h 55 (nI t) (nI k) (nI (gs ρ k ^^^ 2 ^ k)) (nI (fm ρ k (gs ρ k))) (if fm ρ k (gs ρ k) < ρ 0 1 then nI 1 else nI 0) := by
        unfold b_X13_partner_35
        simp (disch := omega) only [ob, nI_lit, nI_add, pk_mul, nI_eq, nI_ltI, nI_leI, if_true, if_false, if_pos, if_neg, ck_of (tS_55 M.sh), gR_of (tS_55 M.sh), gI_of (tS_55 M.sh), M.pp, ck_of (tP M.rd.pk), gR_of (tP M.rd.pk), gI_of (tP M.rd.pk), rP_10 M.rd.pk, rP_11 M.rd.pk, rP_12 M.rd.pk, rP_13 M.rd.pk, rP_14 M.rd.pk, rP_15 M.rd.pk, rP_16 M.rd.pk, rP_17 M.rd.pk, rP_18 M.rd.pk, rP_19 M.rd.pk, rP_20 M.rd.pk, rP_21 M.rd.pk, rP_22 M.rd.pk, rP_23 M.rd.pk, rP_24 M.rd.pk, aI_of (tP_1 M.rd.pk), aI_of (tP_2 M.rd.pk), aI_of (tP_3 M.rd.pk), aI_of (tP_4 M.rd.pk), aI_of (tP_5 M.rd.pk), aI_of (tP_6 M.rd.pk), aI_of (tP_7 M.rd.pk), aI_of (tP_8 M.rd.pk), aI_of (tP_9 M.rd.pk), aI_of (tP_10 M.rd.pk), aI_of (tP_11 M.rd.pk), aI_of (tP_12 M.rd.pk), aI_of (tP_13 M.rd.pk), aI_of (tP_14 M.rd.pk), aI_of (tP_15 M.rd.pk), M.rd.sc, M.rd.len, M.rd.note, M.rd.min, M.rd.kd, M.rd.gt, M.rd.e1, M.rd.e2, M.rd.i8, M.rd.i9, M.rd.i10, M.rd.i11, M.rd.hd, hlo, hsk, han, l2]
        rcases Nat.lt_or_ge (fm ρ k (gs ρ k)) (ρ 0 1) with c | c
        · rw [if_neg (by omega), if_pos c]
        · rw [if_pos c, if_neg (by omega)]
      rcases Nat.lt_or_ge (fm ρ k (gs ρ k)) (ρ 0 1) with c | c
      · obtain ⟨c1, c2, c3⟩ := fm_at c
        rw [if_pos c] at eb
        have egs : gs ρ (k + 1) = gs ρ k ^^^ 2 ^ k ^^^ 2 ^ fm ρ k (gs ρ k) := by
          rw [gs, hc, if_pos rfl, if_pos c]
        have epf : pf ρ (k + 1) = upd (upd (pf ρ k) k (nI (fm ρ k (gs ρ k)))) (fm ρ k (gs ρ k)) (nI k) := by
          rw [pf, hc, if_pos rfl, if_pos c]
        have hout : ∀ i, (gs ρ (k + 1)).testBit i = false → pf ρ (ρ 0 1) i = pf ρ (k + 1) i := fun i hi => by
          have := pf_out ρ i (k + 1) d (fun j h1 h2 => by
            have := gs_out ρ i (k + 1) hi (j - (k + 1))
            rwa [show k + 1 + (j - (k + 1)) = j by omega] at this)
          rwa [show k + 1 + d = ρ 0 1 by omega] at this
        have hsf : nI 1 <<< (nI (fm ρ k (gs ρ k)) &&& nI 31) = nI (2 ^ fm ρ k (gs ρ k)) := nI_sh1 (by omega)
        have han3 := anot_bit (s := gs ρ k ^^^ 2 ^ k) (t := fm ρ k (gs ρ k)) (by omega) (by omega) c2
        unfold f_X13_partner_138 f_X13_partner_179 f_X13_partner_198 at eb
        simp (disch := omega) only [ob, nI_lit, nI_add, pk_mul, nI_eq, nI_ltI, nI_leI, if_true, if_false, if_pos, if_neg, hsf, han3] at eb
        rcases Decidable.em (k = t) with w | w
        · rw [if_pos w] at eb
          refine ⟨_, iter_exit eb, ?_⟩
          show (if nI 1 = nI 0 then -nI 2 else nI (fm ρ k (gs ρ k))) = _
          rw [if_neg (by decide), hout t (by
            rw [egs, xor_bit, xor_bit, hb, decide_eq_true w, decide_eq_false (show ¬ fm ρ k (gs ρ k) = t by omega)]
            rfl), epf, pk_un (by omega), ← w, pk_us]
        · rw [if_neg w] at eb
          rcases Decidable.em (fm ρ k (gs ρ k) = t) with w2 | w2
          · rw [if_pos w2] at eb
            refine ⟨_, iter_exit eb, ?_⟩
            show nI k = _
            rw [hout t (by
              rw [egs, xor_bit, xor_bit, hb, w2]
              simp [w]), epf, ← w2, pk_us]
          · rw [if_neg w2, ← egs] at eb
            rw [iter_step eb]
            exact m_part W M hm ht d (k + 1) N (by omega) (by omega) (by
              rw [egs, xor_bit, xor_bit, hb]
              simp [w, w2])
      · rw [if_neg (by omega)] at eb
        have egs : gs ρ (k + 1) = gs ρ k ^^^ 2 ^ k := by
          rw [gs, hc, if_pos rfl, if_neg (by omega)]
        have epf : pf ρ (k + 1) = pf ρ k := by
          rw [pf, hc, if_pos rfl, if_neg (by omega)]
        unfold f_X13_partner_138 f_X13_partner_179 f_X13_partner_198 at eb
        simp (disch := omega) only [ob, nI_lit, nI_add, pk_mul, nI_eq, nI_ltI, nI_leI, if_true, if_false, if_pos, if_neg] at eb
        rcases Decidable.em (k = t) with w | w
        · rw [if_pos w] at eb
          refine ⟨_, iter_exit eb, ?_⟩
          show (if nI 0 = nI 0 then -nI 2 else nI (fm ρ k (gs ρ k))) = _
          have := pf_out ρ t (k + 1) d (fun j h1 h2 => by
            have := gs_out ρ t (k + 1) (by
              rw [egs, xor_bit, hb]
              simp [w]) (j - (k + 1))
            rwa [show k + 1 + (j - (k + 1)) = j by omega] at this)
          rw [show k + 1 + d = ρ 0 1 by omega] at this
          rw [if_pos rfl, this, epf, pf_in ρ k t hb]
        · rw [if_neg w, ← egs] at eb
          rw [iter_step eb]
          exact m_part W M hm ht d (k + 1) N (by omega) (by omega) (by
            rw [egs, xor_bit, hb]
            simp [w])
theorem qq_partner {a : AB} (W : IW a) (x : Int32) : ∃ v z, z ≤ 6 ∧ z ≠ 4 ∧ QC a (fun h => f_X11_partner h 1 x) v z ∧ QM a (fun h => f_X13_partner h 55 x) v z := by
  have htu := W.rw.tu
  have hT : 2 ^ a 0 0 1 ≤ 2 ^ 6 := two_le htu
  have hT1 : 1 ≤ 2 ^ a 0 0 1 := Nat.one_le_two_pow
  have hsh : nI 1 <<< (nI (a 0 0 1) &&& nI 31) = nI (2 ^ a 0 0 1) := nI_sh1 (by omega)
  rcases hx : ix (a 0 0 1) x with _ | _
  · refine ⟨-nI 1, 1, by decide, by decide, fun h C => ?_, fun h M0 => ?_⟩
    · unfold f_X11_partner
      simp (disch := omega) only [ob, nI_lit, nI_add, pk_mul, nI_eq, nI_ltI, nI_leI, if_true, if_false, if_pos, if_neg, ck_of (tS_1 C.ct.sh), gR_of (tS_1 C.ct.sh), gI_of (tS_1 C.ct.sh), pI_of (tS_1 C.ct.sh), C.ct.rp, rS_1_2 C.ct.sh, rS_1_3 C.ct.sh, rS_1_4 C.ct.sh, rS_1_5 C.ct.sh, rS_1_6 C.ct.sh, rS_1_7 C.ct.sh, rS_1_8 C.ct.sh, rS_1_9 C.ct.sh, ck_of (tR C.ct.rd.rd), gR_of (tR C.ct.rd.rd), gI_of (tR C.ct.rd.rd), rR_9 C.ct.rd.rd, rR_10 C.ct.rd.rd, rR_11 C.ct.rd.rd, rR_12 C.ct.rd.rd, rR_13 C.ct.rd.rd, rR_14 C.ct.rd.rd, rR_15 C.ct.rd.rd, rR_16 C.ct.rd.rd, rR_17 C.ct.rd.rd, rR_18 C.ct.rd.rd, rR_19 C.ct.rd.rd, aI_of (tR_1 C.ct.rd.rd), aI_of (tR_2 C.ct.rd.rd), aI_of (tR_3 C.ct.rd.rd), aI_of (tR_4 C.ct.rd.rd), aI_of (tR_5 C.ct.rd.rd), aI_of (tR_6 C.ct.rd.rd), aI_of (tR_7 C.ct.rd.rd), aI_of (tR_8 C.ct.rd.rd), aI_of (tR_9 C.ct.rd.rd), C.ct.rd.sc, C.ct.rd.len, C.ct.rd.e1, C.ct.rd.e2, C.ct.rd.min, C.ct.rd.kd, C.ct.rd.gt, C.ct.rd.bt, C.ct.rd.ip, C.ct.rd.hd, c_refuse C.ct.sh, c_answer C.ct.sh, c_isTune W C, hx, Bool.toNat_false]
      exact qc_end C _ _
    · unfold f_X13_partner
      simp only [ck_of (tS_55 M0.sh), pI_of (tS_55 M0.sh), ob, nI_lit]; obtain ⟨h1, eh, M, F1⟩ : ∃ h1, wI h 55 0 (nI 0) = h1 ∧ IM h1 a ∧ FM h h1 := ⟨_, rfl, M0.th _, FM.w55 h _ (by decide)⟩; rw [eh]
      simp (disch := omega) only [ob, nI_lit, nI_add, pk_mul, nI_eq, nI_ltI, nI_leI, if_true, if_false, if_pos, if_neg, ck_of (tS_55 M.sh), gR_of (tS_55 M.sh), gI_of (tS_55 M.sh), pI_of (tS_55 M.sh), rS_55_16 M.sh, rS_55_17 M.sh, rS_55_18 M.sh, rS_55_21 M.sh, rS_55_25 M.sh, rS_55_26 M.sh, rS_55_27 M.sh, rS_55_28 M.sh, rS_55_32 M.sh, rS_55_33 M.sh, rS_55_34 M.sh, m_refused M.sh, m_good M.sh, m_isTune W M, hx, Bool.toNat_false]
      exact qm_end F1 _ _
  · obtain ⟨t, ht, rfl⟩ := ix_t hx (by omega)
    have e0 := told_of W (i := 0) (j := 1) (by omega)
    refine ⟨pf (a 0) (a 0 0 1) t, 0, by decide, by decide, fun h C => ?_, fun h M0 => ?_⟩
    · unfold f_X11_partner
      simp (disch := omega) only [ob, nI_lit, nI_add, pk_mul, nI_eq, nI_ltI, nI_leI, if_true, if_false, if_pos, if_neg, ck_of (tS_1 C.ct.sh), gR_of (tS_1 C.ct.sh), gI_of (tS_1 C.ct.sh), pI_of (tS_1 C.ct.sh), C.ct.rp, rS_1_2 C.ct.sh, rS_1_3 C.ct.sh, rS_1_4 C.ct.sh, rS_1_5 C.ct.sh, rS_1_6 C.ct.sh, rS_1_7 C.ct.sh, rS_1_8 C.ct.sh, rS_1_9 C.ct.sh, ck_of (tR C.ct.rd.rd), gR_of (tR C.ct.rd.rd), gI_of (tR C.ct.rd.rd), rR_9 C.ct.rd.rd, rR_10 C.ct.rd.rd, rR_11 C.ct.rd.rd, rR_12 C.ct.rd.rd, rR_13 C.ct.rd.rd, rR_14 C.ct.rd.rd, rR_15 C.ct.rd.rd, rR_16 C.ct.rd.rd, rR_17 C.ct.rd.rd, rR_18 C.ct.rd.rd, rR_19 C.ct.rd.rd, aI_of (tR_1 C.ct.rd.rd), aI_of (tR_2 C.ct.rd.rd), aI_of (tR_3 C.ct.rd.rd), aI_of (tR_4 C.ct.rd.rd), aI_of (tR_5 C.ct.rd.rd), aI_of (tR_6 C.ct.rd.rd), aI_of (tR_7 C.ct.rd.rd), aI_of (tR_8 C.ct.rd.rd), aI_of (tR_9 C.ct.rd.rd), C.ct.rd.sc, C.ct.rd.len, C.ct.rd.e1, C.ct.rd.e2, C.ct.rd.min, C.ct.rd.kd, C.ct.rd.gt, C.ct.rd.bt, C.ct.rd.ip, C.ct.rd.hd, c_refuse C.ct.sh, c_answer C.ct.sh, c_isTune W C, hx, Bool.toNat_true, gR_of (tS_47 C.ct.sh), rS_47_2 C.ct.sh, aI_of (tS_50 C.ct.sh), C.pr.part]
      exact qc_end C _ _
    · unfold f_X13_partner f_X13_partner_158
      simp only [ck_of (tS_55 M0.sh), pI_of (tS_55 M0.sh), ob, nI_lit]; obtain ⟨h1, eh, M, F1⟩ : ∃ h1, wI h 55 0 (nI 0) = h1 ∧ IM h1 a ∧ FM h h1 := ⟨_, rfl, M0.th _, FM.w55 h _ (by decide)⟩; rw [eh]
      have P := M.told e0
      have hz := P.nz
      obtain ⟨F, e2, hF⟩ := m_pairs W.rw P (M.p69 e0) M.m0
      have F2 : FM h1 (rowI h1 65 F) := FM.r65 F (by rw [hF 0 (by omega), pm_0, M.m0])
      have P2 := P.r65 (M.p69 e0) F
      have S2 := P2.sh
      obtain ⟨r, q, hr⟩ := m_part W.rw P2 (fun s hs => by rw [mI_row]; exact hF s hs) ht (a 0 0 1) 0 FU (by omega) (FU_lt (by omega)) (by
        show (2 ^ a 0 0 1 - 1).testBit t = true
        rw [Nat.testBit_two_pow_sub_one]
        simp [ht])
      have q' : iter (fun (s : Int32) => b_X13_partner_35 (rowI h1 65 F) 55 (nI t) s) FU (nI (2 ^ a 0 0 1 - 1)) = some r := q
      rw [← hr]
      simp (disch := omega) only [ob, nI_lit, nI_add, pk_mul, nI_eq, nI_ltI, nI_leI, if_true, if_false, if_pos, if_neg, ck_of (tS_55 M.sh), gR_of (tS_55 M.sh), gI_of (tS_55 M.sh), pI_of (tS_55 M.sh), rS_55_16 M.sh, rS_55_17 M.sh, rS_55_18 M.sh, rS_55_21 M.sh, rS_55_25 M.sh, rS_55_26 M.sh, rS_55_27 M.sh, rS_55_28 M.sh, rS_55_32 M.sh, rS_55_33 M.sh, rS_55_34 M.sh, m_refused M.sh, m_good M.sh, P.pp, m_isTune W M, hx, Bool.toNat_true, e2, gR_of (tS_55 S2), P2.pp, gI_of (tP P2.rd.pk), P2.rd.sc, hsh, pk_sub, q']
      rcases r with ⟨u, v⟩ | v | v
      · show OK (if v = nI 0 then _ else _) _
        unfold dcP
        rcases Decidable.em (v = nI 0) with e | e
        · simp only [e, if_true]
          rw [m_good S2]
          exact qm_end (F1.tr F2) _ _
        · simp only [e, if_false]
          rw [m_good S2]
          exact qm_end (F1.tr F2) _ _
      · show OK ((f_X13_good (rowI h1 65 F) 55 v).bind _) _
        rw [m_good S2]
        exact qm_end (F1.tr F2) _ _
      · show OK ((f_X13_good (rowI h1 65 F) 55 (-nI 2)).bind _) _
        rw [m_good S2]
        exact qm_end (F1.tr F2) _ _
theorem st_28 : StepOK INV lc_28 := by
  intro sc L i h hL hi hI
  unfold lc_28
  simp only [show (1 : Int32) = nI 1 from rfl, show (2 : Int32) = nI 2 from rfl, show (3 : Int32) = nI 3 from rfl, show (4 : Int32) = nI 4 from rfl, show (5 : Int32) = nI 5 from rfl, nI_add, sc_at hL (show i + 1 < L by omega), sc_at hL (show i + 2 < L by omega), sc_at hL (show i + 3 < L by omega), sc_at hL (show i + 4 < L by omega), sc_at hL (show i + 5 < L by omega), ob]
  exact q2 (f := fun h => f_X11_partner h 1 (sc (i + 1))) (g := fun h => f_X13_partner h 55 (sc (i + 1))) hI (fun a W => qq_partner W _)
