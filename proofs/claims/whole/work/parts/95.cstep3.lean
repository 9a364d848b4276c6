/-! ===== the class's token ===== -/
def TK (h : Mem) (b : Nat → Nat) (n i : Nat) : Prop := (mI h 14 9 = nI (sp b n i)) ∧ (mI h 14 11 = nI (tk b n i)) ∧ (mI h 14 10 = nI (ta b n i)) ∧ (tk b n i = 1 → mL h 14 12 = lN (wv b (sp b n i) (nl b n (sp b n i))) ∧ mI h 14 13 = nI (mg (lN (wv b (sp b n i) (nl b n (sp b n i))))) - nI 1) ∧ (tk b n i = 2 → mI h 14 14 = nI (nv b (sp b n i) (ndg b n (sp b n i))))
theorem TK.at {h : Mem} {b : Nat → Nat} {n i : Nat} (H : TK h b n i) : mI h 14 9 = nI (sp b n i) := H.1
theorem TK.kd {h : Mem} {b : Nat → Nat} {n i : Nat} (H : TK h b n i) : mI h 14 11 = nI (tk b n i) := H.2.1
theorem TK.af {h : Mem} {b : Nat → Nat} {n i : Nat} (H : TK h b n i) : mI h 14 10 = nI (ta b n i) := H.2.2.1
theorem TK.wo {h : Mem} {b : Nat → Nat} {n i : Nat} (H : TK h b n i) : tk b n i = 1 → mL h 14 12 = lN (wv b (sp b n i) (nl b n (sp b n i))) ∧ mI h 14 13 = nI (mg (lN (wv b (sp b n i) (nl b n (sp b n i))))) - nI 1 := H.2.2.2.1
theorem TK.nu {h : Mem} {b : Nat → Nat} {n i : Nat} (H : TK h b n i) : tk b n i = 2 → mI h 14 14 = nI (nv b (sp b n i) (ndg b n (sp b n i))) := H.2.2.2.2
section
variable {h : Mem} {b : Nat → Nat} {n : Nat}
theorem c_step (T : TP h b n) {i : Nat} (hi : i ≤ n) (h10 : mI h 14 10 = nI i) : OK (f_X4_step h 14) (fun h' => FT h h' ∧ TK h' b n i) := by
  have hn := T.n1
  have hsk := c_skip T hi
  have hle := sp_le b hi
  have T0 := T.wI (k := 9) (nI (sp b n i)) (by decide)
  obtain ⟨h2, e2⟩ : ∃ h2, wI (wI h 14 9 (nI (sp b n i))) 14 10 (nI (sp b n i)) = h2 := ⟨_, rfl⟩
  have F2 : FT h h2 := e2 ▸ (FT.w h (k := 9) _ (by omega)).tr (FT.w _ (k := 10) _ (by omega))
  have T2 := T.ft F2
  have g0 : mI (wI h 14 9 (nI (sp b n i))) 14 9 = nI (sp b n i) := by rw [mI_wI_at, pk_us]
  have g9 : mI h2 14 9 = nI (sp b n i) := by rw [← e2, mI_wI_at, pk_un (by decide), mI_wI_at, pk_us]
  have g10 : mI h2 14 10 = nI (sp b n i) := by rw [← e2, mI_wI_at, pk_us]
  have S := T.sh
  have S2 := T2.sh
  have S0 := T0.sh
  unfold f_X4_step
  rcases Nat.lt_or_ge (sp b n i) n with c | c
  · have hby := T.by _ c
    have htp := T2.tp _ c
    rcases hL : isL (b (sp b n i)) with _ | _
    · have hnL : b (sp b n i) < 97 ∨ 122 < b (sp b n i) := by
        rcases Nat.lt_or_ge (b (sp b n i)) 97 with d | d
        · exact Or.inl d
        · rcases Nat.lt_or_ge 122 (b (sp b n i)) with d2 | d2
          · exact Or.inr d2
          · rw [isL_iff.2 ⟨d, d2⟩] at hL
            cases hL
      have key : OK (f_X4_step_122 h2 14) (fun h' => FT h h' ∧ TK h' b n i) := by
        rcases hD : isD (b (sp b n i)) with _ | _
        · have hnD : b (sp b n i) < 48 ∨ 57 < b (sp b n i) := by
            rcases Nat.lt_or_ge (b (sp b n i)) 48 with d | d
            · exact Or.inl d
            · rcases Nat.lt_or_ge 57 (b (sp b n i)) with d2 | d2
              · exact Or.inr d2
              · rw [isD_iff.2 ⟨d, d2⟩] at hD
                cases hD
          have etk : tk b n i = if b (sp b n i) = 59 then 3 else 4 := by
            unfold tk
            rw [if_neg (by omega), hL, hD]
            rfl
          have eta : ta b n i = sp b n i + 1 := by
            unfold ta
            rw [if_neg (by omega), hL, hD]
            rfl
          have key2 : OK (f_X4_step_157 h2 14) (fun h' => FT h h' ∧ TK h' b n i) := by
            have e : f_X4_step_157 h2 14 = some (wI (wI h2 14 11 (nI (tk b n i))) 14 10 (nI (ta b n i))) := by
              have S3 : ∀ v, SH (wI h2 14 11 v) := fun v => S2
              have g : ∀ v, mI (wI h2 14 11 v) 14 10 = nI (sp b n i) := fun v => by rw [mI_wI_at, pk_un (by decide), g10]
              rw [etk, eta]
              unfold f_X4_step_157 f_X4_step_177
              rcases Decidable.em (b (sp b n i) = 59) with z | z
              · rw [if_pos z]
                simp (disch := omega) only [ob, nI_lit, nI_eq, nI_add, gR_of (tS_14 S2), rS_14_0 S2, gI_of (tS_14 S2), g9, aI_of (tS_15 S2), htp, z, if_true, pI_of (tS_14 S2), gI_of (tS_14 (S3 (nI 3))), g, pI_of (tS_14 (S3 (nI 3)))]
              · rw [if_neg z]
                simp (disch := omega) only [ob, nI_lit, nI_eq, nI_add, gR_of (tS_14 S2), rS_14_0 S2, gI_of (tS_14 S2), g9, aI_of (tS_15 S2), htp, z, if_false, pI_of (tS_14 S2), gI_of (tS_14 (S3 (nI 4))), g, pI_of (tS_14 (S3 (nI 4)))]
            rw [e]
            have n1 : tk b n i ≠ 1 ∧ tk b n i ≠ 2 := by
              rw [etk]
              split <;> decide
            refine ⟨_, rfl, F2.tr ((FT.w h2 (k := 11) _ (by omega)).tr (FT.w _ (k := 10) _ (by omega))), ?_, ?_, ?_, fun q => absurd q n1.1, fun q => absurd q n1.2⟩
            · rw [mI_wI_at, pk_un (by decide), mI_wI_at, pk_un (by decide)]
              exact g9
            · rw [mI_wI_at, pk_un (by decide), mI_wI_at, pk_us]
            · rw [mI_wI_at, pk_us]
          unfold f_X4_step_122
          simp (disch := omega) only [ob, nI_lit, nI_ltI, gR_of (tS_14 S2), rS_14_0 S2, gI_of (tS_14 S2), g9, aI_of (tS_15 S2), htp]
          rcases hnD with d | d
          · rw [if_pos d]
            exact key2
          · rw [if_neg (by omega), if_pos d]
            exact key2
        · have hd := isD_iff.1 hD
          have etk : tk b n i = if ndg b n (sp b n i) ≤ 3 then 2 else 4 := by
            unfold tk
            rw [if_neg (by omega), hL, hD]
            rfl
          have eta : ta b n i = sp b n i + ndg b n (sp b n i) := by
            unfold ta
            rw [if_neg (by omega), hL, hD]
            rfl
          have e := c_digits T2 hle g9 g10
          rw [← etk, ← eta] at e
          unfold f_X4_step_122
          simp (disch := omega) only [ob, nI_lit, nI_ltI, gR_of (tS_14 S2), rS_14_0 S2, gI_of (tS_14 S2), g9, aI_of (tS_15 S2), htp, if_neg, e]
          refine ⟨_, rfl, F2.tr ((FT.w h2 (k := 14) _ (by omega)).tr ((FT.w _ (k := 10) _ (by omega)).tr (FT.w _ (k := 11) _ (by omega)))), ?_, ?_, ?_, fun q => ?_, fun q => ?_⟩
          · rw [mI_wI_at, pk_un (by decide), mI_wI_at, pk_un (by decide), mI_wI_at, pk_un (by decide)]
            exact g9
          · rw [mI_wI_at, pk_us]
          · rw [mI_wI_at, pk_un (by decide), mI_wI_at, pk_us]
          · rw [etk] at q
            split at q <;> omega
          · rw [mI_wI_at, pk_un (by decide), mI_wI_at, pk_un (by decide), mI_wI_at, pk_us]
      simp (disch := omega) only [ob, nI_lit, nI_ltI, ck_of (tS_14 S), gI_of (tS_14 S), h10, pI_of (tS_14 S), hsk, gI_of (tS_14 S0), g0, pI_of (tS_14 S0), e2, gI_of (tS_14 S2), g9, T2.en, if_pos, gR_of (tS_14 S2), rS_14_0 S2, aI_of (tS_15 S2), htp]
      rcases hnL with d | d
      · rw [if_pos d]
        exact key
      · rw [if_neg (by omega)]
        first | exact key | (rw [if_pos d]; exact key)
    · have hl := isL_iff.1 hL
      have etk : tk b n i = if nl b n (sp b n i) ≤ 8 then 1 else 4 := by
        unfold tk
        rw [if_neg (by omega), hL]
        rfl
      have eta : ta b n i = sp b n i + nl b n (sp b n i) := by
        unfold ta
        rw [if_neg (by omega), hL]
        rfl
      have e := c_letters T2 hle g9 g10
      rw [← etk, ← eta] at e
      obtain ⟨h3, e3⟩ : ∃ h3, wI (wI (wL h2 14 12 (lN (wv b (sp b n i) (nl b n (sp b n i))))) 14 10 (nI (ta b n i))) 14 11 (nI (tk b n i)) = h3 := ⟨_, rfl⟩
      rw [e3] at e
      have F3 : FT h2 h3 := e3 ▸ (FT.l h2 12 _).tr ((FT.w _ (k := 10) _ (by omega)).tr (FT.w _ (k := 11) _ (by omega)))
      have T3 := T2.ft F3
      have S3 := T3.sh
      have l3 : mL h3 14 12 = lN (wv b (sp b n i) (nl b n (sp b n i))) := by
        rw [← e3]
        show mL (wL h2 14 12 _) 14 12 = _
        rw [mL_wL]
      have hp := c_place (h := h3) S3 (x := 16) (m := 20) (N := 20) (tS_16 S3) (Nat.le_refl _) (by decide)
      have em : pw (mL h3 16) 20 (mL h3 14 12) = mg (lN (wv b (sp b n i) (nl b n (sp b n i)))) := by
        unfold mg pw
        rw [l3, ff_congr (P := fun k => decide (mL h3 16 k = lN (wv b (sp b n i) (nl b n (sp b n i))))) (Q := fun k => decide (lN (me k) = lN (wv b (sp b n i) (nl b n (sp b n i))))) (fun k hk => by rw [T3.me k hk])]
      rw [em] at hp
      simp (disch := omega) only [ob, nI_lit, nI_ltI, ck_of (tS_14 S), gI_of (tS_14 S), h10, pI_of (tS_14 S), hsk, gI_of (tS_14 S0), g0, pI_of (tS_14 S0), e2, gI_of (tS_14 S2), g9, T2.en, if_pos, if_neg, gR_of (tS_14 S2), rS_14_0 S2, aI_of (tS_15 S2), htp, e, gR_of (tS_14 S3), rS_14_1 S3, hp, pI_of (tS_14 S3)]
      refine ⟨_, rfl, F2.tr (F3.tr (FT.w h3 (k := 13) _ (by omega))), ?_, ?_, ?_, fun q => ⟨?_, ?_⟩, fun q => ?_⟩
      · rw [mI_wI_at, pk_un (by decide), ← e3, mI_wI_at, pk_un (by decide), mI_wI_at, pk_un (by decide)]
        exact g9
      · rw [mI_wI_at, pk_un (by decide), ← e3, mI_wI_at, pk_us]
      · rw [mI_wI_at, pk_un (by decide), ← e3, mI_wI_at, pk_un (by decide), mI_wI_at, pk_us]
      · exact l3
      · rw [mI_wI_at, pk_us]
      · rw [etk] at q
        split at q <;> omega
  · have etk : tk b n i = 0 := by
      unfold tk
      rw [if_pos c]
    have eta : ta b n i = sp b n i := by
      unfold ta
      rw [if_pos c]
    simp (disch := omega) only [ob, nI_lit, nI_ltI, ck_of (tS_14 S), gI_of (tS_14 S), h10, pI_of (tS_14 S), hsk, gI_of (tS_14 S0), g0, pI_of (tS_14 S0), e2, gI_of (tS_14 S2), g9, T2.en, if_neg, pI_of (tS_14 S2)]
    refine ⟨_, rfl, F2.tr (FT.w h2 (k := 11) _ (by omega)), ?_, ?_, ?_, (fun q => by rw [etk] at q; cases q), (fun q => by rw [etk] at q; cases q)⟩
    · rw [mI_wI_at, pk_un (by decide)]
      exact g9
    · rw [etk, mI_wI_at, pk_us]
    · rw [eta, mI_wI_at, pk_un (by decide)]
      exact g10
end
