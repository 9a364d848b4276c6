section
variable {h : Mem} {b : Nat → Nat} {n : Nat}
theorem m_goesOn (T : MP h b n) {i : Nat} (hi : i ≤ n) (h8 : mI h 55 8 = nI i) (h9 : ∃ k, k < 5 ∧ mI h 55 9 = nI k) : OK (f_X13_goesOn h 55) (fun h' => FG h h' ∧ KT h' b n i) := by
  have hn := T.n1
  have hsk := m_skip T hi h8
  have hle := sp_le b hi
  obtain ⟨k9, hk9, h9⟩ := h9
  obtain ⟨h1, e1⟩ : ∃ h1, wI h 55 8 (nI (sp b n i)) = h1 := ⟨_, rfl⟩
  obtain ⟨h2, e2⟩ : ∃ h2, wI (wI h1 55 10 (nI (sp b n i))) 55 9 (nI 0) = h2 := ⟨_, rfl⟩
  have F1 : FG h h1 := e1 ▸ FG.w h (k := 8) _ (by omega)
  have F12 : FG h1 (wI h1 55 10 (nI (sp b n i))) := FG.w h1 (k := 10) _ (by omega)
  have F2 : FG h h2 := F1.tr (e2 ▸ F12.tr (FG.w _ (k := 9) _ (by omega)))
  have T1 := T.fg F1
  have T12 := T1.fg F12
  have T2 := T.fg F2
  have S := T.sh
  have S1 := T1.sh
  have S12 := T12.sh
  have S2 := T2.sh
  rw [e1] at hsk
  have g1 : mI h1 55 8 = nI (sp b n i) := by rw [← e1, mI_wI_at, pk_us]
  have g8 : mI h2 55 8 = nI (sp b n i) := by rw [← e2, mI_wI_at, pk_un (by decide), mI_wI_at, pk_un (by decide), g1]
  have g10 : mI h2 55 10 = nI (sp b n i) := by rw [← e2, mI_wI_at, pk_un (by decide), mI_wI_at, pk_us]
  have g9 : mI h2 55 9 = nI 0 := by rw [← e2, mI_wI_at, pk_us]
  have hq := m_byte T2 (k := sp b n i) (by omega)
  unfold f_X13_goesOn
  rcases Nat.lt_or_ge (sp b n i) n with c | c
  · have hby := T.by _ c
    rw [if_pos c] at hq
    have qL := m_isL h2 hby
    have qD := m_isD h2 hby
    rcases hL : isL (b (sp b n i)) with _ | _
    · rw [hL] at qL
      rcases hD : isD (b (sp b n i)) with _ | _
      · rw [hD] at qD
        have etk : tk b n i = if b (sp b n i) = 59 then 3 else 4 := by
          unfold tk
          rw [if_neg (by omega), hL, hD]
          rfl
        have eta : ta b n i = sp b n i + 1 := by
          unfold ta
          rw [if_neg (by omega), hL, hD]
          rfl
        rcases Decidable.em (b (sp b n i) = 59) with z | z
        · rw [if_pos z] at etk
          have S3 : SH (wI h2 55 9 (nI 4)) := S2
          have g3 : mI (wI h2 55 9 (nI 4)) 55 8 = nI (sp b n i) := by rw [mI_wI_at, pk_un (by decide), g8]
          simp (disch := omega) only [ob, nI_lit, nI_eq, nI_nem, if_neg, if_pos, if_false, if_true, Bool.toNat_false, ck_of (tS_55 S), gI_of (tS_55 S), h9, hsk, gI_of (tS_55 S1), g1, pI_of (tS_55 S1), pI_of (tS_55 S12), e2, gI_of (tS_55 S2), g8, hq, qL, qD, pI_of (tS_55 S2), gI_of (tS_55 S3), g3, pI_of (tS_55 S3), nI_add]
          refine ⟨_, rfl, F2.tr ((FG.w h2 (k := 9) _ (by omega)).tr (FG.w _ (k := 8) _ (by omega))), ?_, ?_, fun _ => ?_, fun q => ?_, fun q => ?_⟩
          · rw [mI_wI_at, pk_un (by decide), mI_wI_at, pk_un (by decide), g10]
          · rw [mI_wI_at, pk_un (by decide), mI_wI_at, pk_us, etk]
            rfl
          · rw [mI_wI_at, pk_us, eta]
          · rw [etk] at q
            cases q
          · rw [etk] at q
            cases q
        · rw [if_neg z] at etk
          simp (disch := omega) only [ob, nI_lit, nI_eq, nI_nem, if_neg, if_pos, if_false, if_true, Bool.toNat_false, ck_of (tS_55 S), gI_of (tS_55 S), h9, hsk, gI_of (tS_55 S1), g1, pI_of (tS_55 S1), pI_of (tS_55 S12), e2, gI_of (tS_55 S2), g8, hq, qL, qD]
          refine ⟨_, rfl, F2, g10, ?_, fun q => absurd etk q, fun q => ?_, fun q => ?_⟩
          · rw [g9, etk]
            rfl
          · rw [etk] at q
            cases q
          · rw [etk] at q
            cases q
      · rw [hD] at qD
        have hd := isD_iff.1 hD
        have etk : tk b n i = if ndg b n (sp b n i) ≤ 3 then 2 else 4 := by
          unfold tk
          rw [if_neg (by omega), hL, hD]
          rfl
        have eta : ta b n i = sp b n i + ndg b n (sp b n i) := by
          unfold ta
          rw [if_neg (by omega), hL, hD]
          rfl
        have e := m_digits T2 hle g8
        obtain ⟨h3, e3⟩ : ∃ h3, wI (wI h2 55 11 (nI (nv b (sp b n i) (min (ndg b n (sp b n i)) 3)))) 55 8 (nI (sp b n i + ndg b n (sp b n i))) = h3 := ⟨_, rfl⟩
        rw [e3] at e
        have F3 : FG h2 h3 := e3 ▸ (FG.w h2 (k := 11) _ (by omega)).tr (FG.w _ (k := 8) _ (by omega))
        have S3 := (T2.fg F3).sh
        have hnd := ndg_le b n (sp b n i)
        have x10 : mI h3 55 10 = nI (sp b n i) := by rw [← e3, mI_wI_at, pk_un (by decide), mI_wI_at, pk_un (by decide), g10]
        have x9 : mI h3 55 9 = nI 0 := by rw [← e3, mI_wI_at, pk_un (by decide), mI_wI_at, pk_un (by decide), g9]
        have x8 : mI h3 55 8 = nI (ta b n i) := by rw [← e3, mI_wI_at, pk_us, eta]
        have x11 : mI h3 55 11 = nI (nv b (sp b n i) (min (ndg b n (sp b n i)) 3)) := by rw [← e3, mI_wI_at, pk_un (by decide), mI_wI_at, pk_us]
        simp (disch := omega) only [ob, nI_lit, nI_eq, nI_nem, nI_ltI, if_neg, if_pos, if_false, if_true, Bool.toNat_false, Bool.toNat_true, ck_of (tS_55 S), gI_of (tS_55 S), h9, hsk, gI_of (tS_55 S1), g1, pI_of (tS_55 S1), pI_of (tS_55 S12), e2, gI_of (tS_55 S2), g8, hq, qL, qD, pI_of (tS_55 S2), e, pI_of (tS_55 S3)]
        rcases Nat.lt_or_ge 3 (ndg b n (sp b n i)) with d | d
        · rw [if_neg (by omega)] at etk
          rw [if_pos d]
          refine ⟨_, rfl, F2.tr F3, x10, ?_, fun q => absurd etk q, fun q => ?_, fun q => ?_⟩
          · rw [x9, etk]
            rfl
          · rw [etk] at q
            cases q
          · rw [etk] at q
            cases q
        · rw [if_pos d] at etk
          rw [if_neg (by omega)]
          refine ⟨_, rfl, F2.tr (F3.tr (FG.w h3 (k := 9) _ (by omega))), ?_, ?_, fun q => ?_, fun q => ?_, fun q => ?_⟩
          · rw [mI_wI_at, pk_un (by decide), x10]
          · rw [mI_wI_at, pk_us, etk]
            rfl
          · rw [mI_wI_at, pk_un (by decide), x8]
          · rw [etk] at q
            cases q
          · rw [mI_wI_at, pk_un (by decide), x11, Nat.min_eq_left d]
    · rw [hL] at qL
      have hl := isL_iff.1 hL
      have etk : tk b n i = if nl b n (sp b n i) ≤ 8 then 1 else 4 := by
        unfold tk
        rw [if_neg (by omega), hL]
        rfl
      have eta : ta b n i = sp b n i + nl b n (sp b n i) := by
        unfold ta
        rw [if_neg (by omega), hL]
        rfl
      have e := m_letters T2 hle g8
      obtain ⟨h3, e3⟩ : ∃ h3, wI (wL h2 55 15 (lN (wv b (sp b n i) (min (nl b n (sp b n i)) 8)))) 55 8 (nI (sp b n i + nl b n (sp b n i))) = h3 := ⟨_, rfl⟩
      rw [e3] at e
      have F3 : FG h2 h3 := e3 ▸ (FG.l h2 15 _).tr (FG.w _ (k := 8) _ (by omega))
      have F4 : FG h3 (wI h3 55 14 (nI (nl b n (sp b n i)))) := FG.w h3 (k := 14) _ (by omega)
      have T3 := T2.fg F3
      have S3 := T3.sh
      have S4 := (T3.fg F4).sh
      have hnd := nl_le b n (sp b n i)
      have x10 : mI h3 55 10 = nI (sp b n i) := by
        rw [← e3, mI_wI_at, pk_un (by decide)]
        exact g10
      have x9 : mI h3 55 9 = nI 0 := by
        rw [← e3, mI_wI_at, pk_un (by decide)]
        exact g9
      have x8 : mI h3 55 8 = nI (ta b n i) := by rw [← e3, mI_wI_at, pk_us, eta]
      have x15 : mL h3 55 15 = lN (wv b (sp b n i) (min (nl b n (sp b n i)) 8)) := by
        rw [← e3]
        show mL (wL h2 55 15 _) 55 15 = _
        rw [mL_wL]
      have h0 : (0 : Int64) = lN 0 := rfl
      simp (disch := omega) only [ob, nI_lit, h0, nI_eq, nI_nem, nI_ltI, if_neg, if_pos, if_false, if_true, Bool.toNat_false, Bool.toNat_true, ck_of (tS_55 S), gI_of (tS_55 S), h9, hsk, gI_of (tS_55 S1), g1, pI_of (tS_55 S1), pI_of (tS_55 S12), e2, gI_of (tS_55 S2), g8, hq, qL, pL_of (tS_55 S2), e, pI_of (tS_55 S3), pI_of (tS_55 S4)]
      rcases Nat.lt_or_ge 8 (nl b n (sp b n i)) with d | d
      · rw [if_neg (by omega)] at etk
        rw [if_pos d]
        refine ⟨_, rfl, F2.tr (F3.tr F4), ?_, ?_, fun q => absurd etk q, fun q => ?_, fun q => ?_⟩
        · rw [mI_wI_at, pk_un (by decide), x10]
        · rw [mI_wI_at, pk_un (by decide), x9, etk]
          rfl
        · rw [etk] at q
          cases q
        · rw [etk] at q
          cases q
      · rw [if_pos d] at etk
        rw [if_neg (by omega)]
        refine ⟨_, rfl, F2.tr (F3.tr (F4.tr (FG.w _ (k := 9) _ (by omega)))), ?_, ?_, fun q => ?_, fun q => ⟨?_, ?_⟩, fun q => ?_⟩
        · rw [mI_wI_at, pk_un (by decide), mI_wI_at, pk_un (by decide), x10]
        · rw [mI_wI_at, pk_us, etk]
          rfl
        · rw [mI_wI_at, pk_un (by decide), mI_wI_at, pk_un (by decide), x8]
        · show mL h3 55 15 = _
          rw [x15, Nat.min_eq_left d]
        · rw [mI_wI_at, pk_un (by decide), mI_wI_at, pk_us]
        · rw [etk] at q
          cases q
  · have etk : tk b n i = 0 := by
      unfold tk
      rw [if_pos c]
    have eta : ta b n i = sp b n i := by
      unfold ta
      rw [if_pos c]
    rw [if_neg (by omega)] at hq
    simp (disch := omega) only [ob, nI_lit, nI_eq, if_neg, if_pos, if_true, ck_of (tS_55 S), gI_of (tS_55 S), h9, hsk, gI_of (tS_55 S1), g1, pI_of (tS_55 S1), pI_of (tS_55 S12), e2, gI_of (tS_55 S2), g8, hq, pI_of (tS_55 S2)]
    refine ⟨_, rfl, F2.tr (FG.w h2 (k := 9) _ (by omega)), ?_, ?_, fun _ => ?_, fun q => ?_, fun q => ?_⟩
    · rw [mI_wI_at, pk_un (by decide), g10]
    · rw [mI_wI_at, pk_us, etk]
      rfl
    · rw [mI_wI_at, pk_un (by decide), g8, eta]
    · rw [etk] at q
      cases q
    · rw [etk] at q
      cases q
end
