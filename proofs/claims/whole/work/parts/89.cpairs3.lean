/-! ===== pairs settled ===== -/
section
variable {h : Mem} {r : Nat} {ρ : RO}
theorem c_takeFirst (W : RW ρ) (C : CT h r ρ) (hr : r = 2 ∨ r = 21) {U V P : Nat → Int32} (hV : ∀ t, t < ρ 0 1 → V t = nI (mts ρ t (ρ 0 1))) (hU : ∀ s', s' < 2 ^ ρ 0 1 → U s' = nI (pm ρ 6 s')) : OK (f_X3_takeFirst (psM h U V P) 47 r) (fun h' => ∃ P', h' = psM h U V P' ∧ ∀ t, t < ρ 0 1 → P' t = pf ρ (ρ 0 1) t) := by
  have htu := W.tu
  have hT : 2 ^ ρ 0 1 ≤ 2 ^ 6 := two_le htu
  have hT1 : 1 ≤ 2 ^ ρ 0 1 := Nat.one_le_two_pow
  have hsT : nI 1 <<< (nI (ρ 0 1) &&& nI 31) = nI (2 ^ ρ 0 1) := nI_sh1 (by omega)
  have C0 := C.ps hr U V P
  obtain ⟨P0, hP0⟩ : ∃ P0, (fun j => if 0 ≤ j ∧ j < 0 + 6 then -nI 2 else P j) = P0 := ⟨_, rfl⟩
  have hf : f_J7_fill_53178 (psM h U V P) 50 (-nI 2) = some (psM h U V P0) := by
    rw [h_fill (tS_50 C0.sh) (by decide), psM_50, psM_r, hP0]
  have C1 := C.ps hr U V P0
  have q : OK (iter (fun (s : Int32 × Int32 × Mem) => b_X3_takeFirst_20 s.2.2 47 r s.1 s.2.1) FU (nI (2 ^ ρ 0 1 - 1), nI 0, psM h U V P0)) (fun h' => ∃ P', h' = psM h U V P' ∧ ∀ t, t < ρ 0 1 → P' t = pf ρ (ρ 0 1) t) := by
    refine iter_ok (fun k s => ∃ P', s = (nI (gs ρ k), nI k, psM h U V P') ∧ ∀ t, t < 6 → P' t = pf ρ k t) (ρ 0 1) (FU_lt (by omega)) (fun k s hk hI => ?_) ⟨P0, rfl, fun t ht => ?_⟩
    · obtain ⟨P', rfl, hP⟩ := hI
      show OK (b_X3_takeFirst_20 (psM h U V P') 47 r (nI (gs ρ k)) (nI k)) _
      have C2 := C.ps hr U V P'
      rcases Nat.lt_or_ge k (ρ 0 1) with c | c
      · have gl := gs_lt ρ k hk
        have hsk : nI 1 <<< (nI k &&& nI 31) = nI (2 ^ k) := nI_sh1 (by omega)
        have hp : 2 ^ k < 2 ^ 6 := Nat.pow_lt_pow_right (by decide) (by omega)
        rcases hb : (gs ρ k).testBit k with _ | _
        · have e : b_X3_takeFirst_20 (psM h U V P') 47 r (nI (gs ρ k)) (nI k) = some (.inl (nI (gs ρ k), nI (k + 1), psM h U V P')) := by
            unfold b_X3_takeFirst_20 f_X3_takeFirst_82
            simp (disch := omega) only [ob, nI_lit, nI_add, pk_mul, nI_eq, nI_ltI, nI_leI, if_true, if_false, if_pos, if_neg, gI_of (tR C2.rd.rd), C2.rd.sc, nI_bit0, hb]
          rw [e]
          refine ⟨_, rfl, c, P', ?_, fun t ht => ?_⟩
          · rw [gs, hb, if_neg (by decide)]
          · rw [pf, hb, if_neg (by decide)]
            exact hP t ht
        · have hfm := c_firstMate W C2 gl c hb (by rw [psM_49]; exact hV) (by rw [psM_48]; exact hU)
          have x1 := xb_tab (gs ρ k) (by omega) k (by omega) hb
          rcases Nat.lt_or_ge (fm ρ k (gs ρ k)) (ρ 0 1) with d | d
          · rw [if_pos d] at hfm
            have hsf : nI 1 <<< (nI (fm ρ k (gs ρ k)) &&& nI 31) = nI (2 ^ fm ρ k (gs ρ k)) := nI_sh1 (by omega)
            have hpf : 2 ^ fm ρ k (gs ρ k) < 2 ^ 6 := Nat.pow_lt_pow_right (by decide) (by omega)
            have C3 := C.ps hr U V (upd P' k (nI (fm ρ k (gs ρ k))))
            have e : b_X3_takeFirst_20 (psM h U V P') 47 r (nI (gs ρ k)) (nI k) = some (.inl (nI (gs ρ k ^^^ 2 ^ k ^^^ 2 ^ fm ρ k (gs ρ k)), nI (k + 1), psM h U V (upd (upd P' k (nI (fm ρ k (gs ρ k)))) (fm ρ k (gs ρ k)) (nI k)))) := by
              unfold b_X3_takeFirst_20 f_X3_takeFirst_82
              simp (disch := omega) only [ob, nI_lit, nI_add, pk_mul, nI_eq, nI_ltI, nI_leI, if_true, if_false, if_pos, if_neg, gI_of (tR C2.rd.rd), C2.rd.sc, nI_bit0, hb, Bool.true_eq_false, hfm, gR_of (tS_47 C2.sh), rS_47_2 C2.sh, sI_of (tS_50 C2.sh), psM_p, gR_of (tS_47 C3.sh), rS_47_2 C3.sh, sI_of (tS_50 C3.sh), hsk, hsf, nI_xor]
            rw [e]
            refine ⟨_, rfl, c, upd (upd P' k (nI (fm ρ k (gs ρ k)))) (fm ρ k (gs ρ k)) (nI k), ?_, fun t ht => ?_⟩
            · rw [gs, hb, if_pos rfl, if_pos d]
            · rw [pf, hb, if_pos rfl, if_pos d]
              unfold upd
              rw [hP t ht]
          · rw [if_neg (by omega)] at hfm
            have e : b_X3_takeFirst_20 (psM h U V P') 47 r (nI (gs ρ k)) (nI k) = some (.inl (nI (gs ρ k ^^^ 2 ^ k), nI (k + 1), psM h U V P')) := by
              unfold b_X3_takeFirst_20 f_X3_takeFirst_82
              simp (disch := omega) only [ob, nI_lit, nI_add, pk_mul, nI_eq, nI_ltI, nI_leI, if_true, if_false, if_pos, if_neg, gI_of (tR C2.rd.rd), C2.rd.sc, nI_bit0, hb, Bool.true_eq_false, hfm, hsk, nI_xor]
              rw [if_pos (show -nI 1 < nI 0 by decide)]
            rw [e]
            refine ⟨_, rfl, c, P', ?_, fun t ht => ?_⟩
            · rw [gs, hb, if_pos rfl, if_neg (by omega)]
            · rw [pf, hb, if_pos rfl, if_neg (by omega)]
              exact hP t ht
      · have e : b_X3_takeFirst_20 (psM h U V P') 47 r (nI (gs ρ k)) (nI k) = some (.inr (psM h U V P')) := by
          unfold b_X3_takeFirst_20
          simp (disch := omega) only [ob, nI_lit, nI_add, pk_mul, nI_eq, nI_ltI, nI_leI, if_true, if_false, if_pos, if_neg, gI_of (tR C2.rd.rd), C2.rd.sc]
        rw [e]
        have : k = ρ 0 1 := by omega
        subst this
        exact ⟨_, rfl, P', rfl, fun t ht => hP t (by omega)⟩
    · rw [← hP0]
      show (if 0 ≤ t ∧ t < 0 + 6 then -nI 2 else P t) = -nI 2
      rw [if_pos (by omega)]
  obtain ⟨h', e, k⟩ := q
  unfold f_X3_takeFirst
  simp (disch := omega) only [ob, nI_lit, nI_add, pk_mul, nI_eq, nI_ltI, nI_leI, if_true, if_false, if_pos, if_neg, ck_of (tS_47 C0.sh), gR_of (tS_47 C0.sh), rS_47_2 C0.sh, hf, gI_of (tR C1.rd.rd), C1.rd.sc, hsT, pk_sub, e]
  exact ⟨h', rfl, k⟩
theorem c_pairs (W : RW ρ) (C : CT h r ρ) (hr : r = 2 ∨ r = 21) : OK (f_X3_settle h 47 r) (fun h' => FQ [48, 49, 50] h h' ∧ PRK h' ρ) := by
  have htu := W.tu
  have hT : 2 ^ ρ 0 1 ≤ 2 ^ 6 := two_le htu
  have hT1 : 1 ≤ 2 ^ ρ 0 1 := Nat.one_le_two_pow
  have hsT : nI 1 <<< (nI (ρ 0 1) &&& nI 31) = nI (2 ^ ρ 0 1) := nI_sh1 (by omega)
  obtain ⟨h1, e1, V, e2, hV⟩ := c_mates W C hr (U := mI h 48) (P := mI h 50)
  rw [psM_id] at e1
  have C1 := C.ps hr (mI h 48) V (mI h 50)
  have q : OK (iter (fun (s : Int32 × Mem) => b_X3_settle_73 s.2 47 r s.1) FU (nI (0 + 1), psM h (upd (mI h 48) 0 (nI 0)) V (mI h 50))) (fun h' => ∃ U, h' = psM h U V (mI h 50) ∧ ∀ s, s < 2 ^ ρ 0 1 → U s = nI (pm ρ 6 s)) := by
    refine iter_ok (fun i s => ∃ U, s = (nI (i + 1), psM h U V (mI h 50)) ∧ ∀ s, s < i + 1 → U s = nI (pm ρ 6 s)) (2 ^ ρ 0 1 - 1) (FU_lt (by omega)) (fun i s hi hI => ?_) ⟨upd (mI h 48) 0 (nI 0), rfl, fun s hs => ?_⟩
    · obtain ⟨U, rfl, hU⟩ := hI
      show OK (b_X3_settle_73 (psM h U V (mI h 50)) 47 r (nI (i + 1))) _
      have C2 := C.ps hr U V (mI h 50)
      rcases Nat.lt_or_ge (i + 1) (2 ^ ρ 0 1) with c | c
      · have hm := c_mostOf W C2 c (by omega) (by rw [psM_49]; exact hV) (by rw [psM_48]; exact hU)
        have e : b_X3_settle_73 (psM h U V (mI h 50)) 47 r (nI (i + 1)) = some (.inl (nI (i + 1 + 1), psM h (upd U (i + 1) (nI (pm ρ 6 (i + 1)))) V (mI h 50))) := by
          unfold b_X3_settle_73
          simp (disch := omega) only [ob, nI_lit, nI_add, pk_mul, nI_eq, nI_ltI, nI_leI, if_true, if_false, if_pos, if_neg, gI_of (tR C2.rd.rd), C2.rd.sc, hsT, gR_of (tS_47 C2.sh), rS_47_0 C2.sh, hm, sI_of (tS_48 C2.sh), psM_u]
        rw [e]
        refine ⟨_, rfl, by omega, _, rfl, fun s hs => ?_⟩
        rcases Decidable.em (s = i + 1) with z | z
        · rw [z, pk_us]
        · rw [pk_un z]
          exact hU s (by omega)
      · have e : b_X3_settle_73 (psM h U V (mI h 50)) 47 r (nI (i + 1)) = some (.inr (psM h U V (mI h 50))) := by
          unfold b_X3_settle_73
          simp (disch := omega) only [ob, nI_lit, nI_add, pk_mul, nI_eq, nI_ltI, nI_leI, if_true, if_false, if_pos, if_neg, gI_of (tR C2.rd.rd), C2.rd.sc, hsT]
        rw [e]
        exact ⟨_, rfl, U, rfl, fun s hs => hU s (by omega)⟩
    · have : s = 0 := by omega
      rw [this, pk_us, pm_0]
  obtain ⟨h2, e3, U, e4, hU⟩ := q
  obtain ⟨h3, e5, P, e6, hP⟩ := c_takeFirst W C hr (P := mI h 50) hV hU
  have e3' : iter (fun (s : Int32 × Mem) => b_X3_settle_73 s.2 47 r s.1) FU (nI 1, psM h (upd (mI h 48) 0 (nI 0)) V (mI h 50)) = some h2 := e3
  unfold f_X3_settle
  have hs0 : sI (psM h (mI h 48) V (mI h 50)) 48 (nI 0) (nI 0) = some (psM h (upd (mI h 48) 0 (nI 0)) V (mI h 50)) := by
    rw [sI_of (tS_48 C1.sh) (by decide) (by decide), psM_u]
  simp (disch := omega) only [ob, nI_lit, ck_of (tS_47 C.sh), e1, e2, gR_of (tS_47 C1.sh), rS_47_0 C1.sh, hs0, e3', e4, e5, e6]
  refine ⟨_, rfl, psM_f h U V P, ?_, ?_⟩
  · rw [psM_48]
    exact hU _ (by omega)
  · rw [psM_50]
    exact hP
end
