/-! ===== the class composes ===== -/
section
variable {h : Mem} {r : Nat} {ρ : RO}
theorem c_stands (W : RW ρ) (C : CT h r ρ) {t u : Nat} (ht : t < ρ 0 1) (hu : u < ρ 0 1) : f_X6_stands h r (nI t) (nI u) = some (nI (sn ρ t u).toNat) := by
  have h1 := W.len t ht
  have h2 := W.len u hu
  have q : iter (fun (s : Int32) => b_X6_stands_2 h r (nI t) (nI u) s) FU (nI 0) = some (if ex (fun f => ak ρ u f t (ρ 1 t)) (ρ 1 u + 1 - ρ 1 t) = true then .inl () else .inr ()) := by
    refine iter_ex (fun i => nI i) _ _ (FU_lt (by omega)) (fun i hi => ?_) ?_
    · unfold b_X6_stands_2
      simp (disch := omega) only [ob, nI_lit, nI_add, pk_mul, nI_eq, nI_ltI, nI_leI, if_true, if_false, if_pos, if_neg, gR_of (tR C.rd.rd), rR_9 C.rd.rd, c_len W C.rd ht, c_len W C.rd hu, c_alike W C.rd hu ht (show i + ρ 1 t ≤ ρ 1 u by omega) (Nat.le_refl _)]
      cases ak ρ u i t (ρ 1 t) <;> simp [ob, nI_lit, nI_add, pk_mul, nI_eq, nI_ltI, nI_leI, if_true, if_false, if_pos, if_neg]
    · unfold b_X6_stands_2
      simp (disch := omega) only [ob, nI_lit, nI_add, pk_mul, nI_eq, nI_ltI, nI_leI, if_true, if_false, if_pos, if_neg, gR_of (tR C.rd.rd), rR_9 C.rd.rd, c_len W C.rd ht, c_len W C.rd hu]
  unfold f_X6_stands sn
  simp (disch := omega) only [ob, nI_lit, nI_add, pk_mul, nI_eq, nI_ltI, nI_leI, if_true, if_false, if_pos, if_neg, q]
  cases ex (fun f => ak ρ u f t (ρ 1 t)) (ρ 1 u + 1 - ρ 1 t) <;> rfl
theorem c_without (W : RW ρ) (C : CT h r ρ) {c : Nat} (hc : c < 64) : f_X6_withoutInner h r (nI c) = some (nI (wi ρ c)) := by
  have htu := W.tu
  have hx : ∀ k t, k < 64 → t < ρ 0 1 → k ^^^ 2 ^ t < 64 := fun k t hk ht => Nat.xor_lt_two_pow (n := 6) hk (Nat.pow_lt_pow_right (by decide) (by omega))
  have st : ∀ t u k, k < 64 → t < ρ 0 1 → (if t ≠ u ∧ k.testBit t = true ∧ k.testBit u = true ∧ sn ρ t u = true then k ^^^ 2 ^ t else k) < 64 := by
    intro t u k hk ht
    split
    · exact hx k t hk ht
    · exact hk
  have inn : ∀ t k, t < ρ 0 1 → k < 64 → iter (fun (s : Int32 × Int32) => b_X6_withoutInner_15 h r (nI t) s.1 s.2) FU (nI k, nI 0) = some (nI (fo (fun u k => if t ≠ u ∧ k.testBit t = true ∧ k.testBit u = true ∧ sn ρ t u = true then k ^^^ 2 ^ t else k) k (ρ 0 1))) := by
    intro t k ht hk
    have hsh : nI 1 <<< (nI t &&& nI 31) = nI (2 ^ t) := nI_sh1 (by omega)
    have hp : 2 ^ t < 2 ^ 6 := Nat.pow_lt_pow_right (by decide) (by omega)
    refine iter_foI (fun k i => (nI k, nI i)) (fun u k => if t ≠ u ∧ k.testBit t = true ∧ k.testBit u = true ∧ sn ρ t u = true then k ^^^ 2 ^ t else k) k (ρ 0 1) (fun _ k => k < 64) (FU_lt (by omega)) hk (fun u k _ hk => st t u k hk ht) (fun u k hu hk => ?_) (fun _ => ?_)
    · show b_X6_withoutInner_15 h r (nI t) (nI k) (nI u) = _
      have hk : k < 64 := hk
      unfold b_X6_withoutInner_15 f_X6_withoutInner_65
      simp (disch := omega) only [ob, nI_lit, nI_add, pk_mul, nI_eq, nI_ltI, nI_leI, if_true, if_false, if_pos, if_neg, gI_of (tR C.rd.rd), C.rd.sc, nI_bit, hsh, nI_xor, c_stands W C ht hu, nI_b0]
      rcases Decidable.em (t = u) with e | e
      · simp [e]
      · cases k.testBit t <;> cases k.testBit u <;> cases sn ρ t u <;> simp [e]
    · show b_X6_withoutInner_15 h r (nI t) _ (nI (ρ 0 1)) = _
      unfold b_X6_withoutInner_15
      simp (disch := omega) only [ob, nI_lit, nI_add, pk_mul, nI_eq, nI_ltI, nI_leI, if_true, if_false, if_pos, if_neg, gI_of (tR C.rd.rd), C.rd.sc]
  have out : iter (fun (s : Int32 × Int32) => b_X6_withoutInner_4 h r s.1 s.2) FU (nI c, nI 0) = some (nI (wi ρ c)) := by
    refine iter_foI (fun k i => (nI k, nI i)) (fun t k => fo (fun u k => if t ≠ u ∧ k.testBit t = true ∧ k.testBit u = true ∧ sn ρ t u = true then k ^^^ 2 ^ t else k) k (ρ 0 1)) c (ρ 0 1) (fun _ k => k < 64) (FU_lt (by omega)) hc (fun t k ht hk => fo_inv (fun k => k < 64) (fun u x _ hx => st t u x hx ht) hk) (fun t k ht hk => ?_) (fun _ => ?_)
    · show b_X6_withoutInner_4 h r (nI k) (nI t) = _
      unfold b_X6_withoutInner_4
      simp (disch := omega) only [ob, nI_lit, nI_add, pk_mul, nI_eq, nI_ltI, nI_leI, if_true, if_false, if_pos, if_neg, gI_of (tR C.rd.rd), C.rd.sc, inn t k ht hk]
    · show b_X6_withoutInner_4 h r _ (nI (ρ 0 1)) = _
      unfold b_X6_withoutInner_4
      simp (disch := omega) only [ob, nI_lit, nI_add, pk_mul, nI_eq, nI_ltI, nI_leI, if_true, if_false, if_pos, if_neg, gI_of (tR C.rd.rd), C.rd.sc]
      rfl
  unfold f_X6_withoutInner
  simp (disch := omega) only [ob, nI_lit, nI_add, pk_mul, nI_eq, nI_ltI, nI_leI, if_true, if_false, if_pos, if_neg, out]
theorem CT.r44 (C : CT h r ρ) (hr : r = 2 ∨ r = 21) (F : Nat → Int32) : CT (rowI h 44 F) r ρ := C.fq (l := [44]) (FQ.row _ _ (by decide)) (fun k hk hq => by
  simp only [List.mem_cons, List.not_mem_nil, or_false] at hq
  omega)
theorem c_overlaps (W : RW ρ) (C : CT h r ρ) (hr : r = 2 ∨ r = 21) : OK (f_X6_findOverlaps h 43 r) (fun h' => ∃ F, h' = rowI h 44 F ∧ (∀ t u, t < ρ 0 1 → u < ρ 0 1 → F (t * 6 + u) = nI (o7 ρ t u)) ∧ ∀ k, 36 ≤ k → F k = mI h 44 k) := by
  have htu := W.tu
  have q : OK (iter (fun (s : Int32 × Mem) => b_X6_findOverlaps_2 s.2 43 r s.1) FU (nI 0, h)) (fun h' => ∃ F, h' = rowI h 44 F ∧ (∀ t u, t < ρ 0 1 → u < ρ 0 1 → F (t * 6 + u) = nI (o7 ρ t u)) ∧ ∀ k, 36 ≤ k → F k = mI h 44 k) := by
    refine iter_ok (fun t s => ∃ F, s = (nI t, rowI h 44 F) ∧ (∀ t' u, t' < t → u < ρ 0 1 → F (t' * 6 + u) = nI (o7 ρ t' u)) ∧ ∀ k, 36 ≤ k → F k = mI h 44 k) (ρ 0 1) (FU_lt (by omega)) (fun t s ht hI => ?_) ⟨mI h 44, by rw [rowI_id], fun t' u q => absurd q (by omega), fun k _ => rfl⟩
    obtain ⟨F, rfl, hF, hK⟩ := hI
    show OK (b_X6_findOverlaps_2 (rowI h 44 F) 43 r (nI t)) _
    have C2 := C.r44 hr F
    rcases Nat.lt_or_ge t (ρ 0 1) with c | c
    · have p : OK (iter (fun (s : Int32 × Mem) => b_X6_findOverlaps_12 s.2 43 r (nI t) s.1) FU (nI 0, rowI h 44 F)) (fun h' => ∃ F, h' = rowI h 44 F ∧ (∀ t' u, t' < t + 1 → u < ρ 0 1 → F (t' * 6 + u) = nI (o7 ρ t' u)) ∧ ∀ k, 36 ≤ k → F k = mI h 44 k) := by
        refine iter_ok (fun u s => ∃ F, s = (nI u, rowI h 44 F) ∧ (∀ t' u, t' < t → u < ρ 0 1 → F (t' * 6 + u) = nI (o7 ρ t' u)) ∧ (∀ u', u' < u → F (t * 6 + u') = nI (o7 ρ t u')) ∧ ∀ k, 36 ≤ k → F k = mI h 44 k) (ρ 0 1) (FU_lt (by omega)) (fun u s hu hI => ?_) ⟨F, rfl, hF, fun u' q => absurd q (by omega), hK⟩
        obtain ⟨F, rfl, hF, hG, hK⟩ := hI
        show OK (b_X6_findOverlaps_12 (rowI h 44 F) 43 r (nI t) (nI u)) _
        have C2 := C.r44 hr F
        rcases Nat.lt_or_ge u (ρ 0 1) with d | d
        · have e : b_X6_findOverlaps_12 (rowI h 44 F) 43 r (nI t) (nI u) = some (.inl (nI (u + 1), rowI h 44 (upd F (t * 6 + u) (nI (o7 ρ t u))))) := by
            unfold b_X6_findOverlaps_12 f_X6_findOverlaps_45
            have e7 : o7 ρ t u = if t = u then 0 else ov ρ t u := by
              unfold o7
              rw [if_neg (by omega)]
            rcases Decidable.em (t = u) with z | z
            · rw [e7, if_pos z]
              simp (disch := omega) only [ob, nI_lit, nI_add, pk_mul, nI_eq, nI_ltI, nI_leI, if_true, if_false, if_pos, if_neg, gI_of (tR C2.rd.rd), C2.rd.sc, gR_of (tS_43 C2.sh), rS_43_0 C2.sh, sI_of (tS_44 C2.sh), rowI_wI]
            · rw [e7, if_neg z]
              simp (disch := omega) only [ob, nI_lit, nI_add, pk_mul, nI_eq, nI_ltI, nI_leI, if_true, if_false, if_pos, if_neg, gI_of (tR C2.rd.rd), C2.rd.sc, gR_of (tS_43 C2.sh), rS_43_0 C2.sh, sI_of (tS_44 C2.sh), rowI_wI, c_ov W C2.rd c d]
          rw [e]
          refine ⟨_, rfl, d, _, rfl, fun t' u' h1 h2 => ?_, fun u' h1 => ?_, fun k hk => ?_⟩
          · rw [pk_un (by omega)]
            exact hF t' u' h1 h2
          · rcases Decidable.em (u' = u) with z | z
            · rw [z, pk_us]
            · rw [pk_un (by omega)]
              exact hG u' (by omega)
          · rw [pk_un (by omega)]
            exact hK k hk
        · have e : b_X6_findOverlaps_12 (rowI h 44 F) 43 r (nI t) (nI u) = some (.inr (rowI h 44 F)) := by
            unfold b_X6_findOverlaps_12
            simp (disch := omega) only [ob, nI_lit, nI_add, pk_mul, nI_eq, nI_ltI, nI_leI, if_true, if_false, if_pos, if_neg, gI_of (tR C2.rd.rd), C2.rd.sc]
          rw [e]
          refine ⟨_, rfl, F, rfl, fun t' u' h1 h2 => ?_, hK⟩
          rcases Decidable.em (t' = t) with z | z
          · rw [z]
            exact hG u' (by omega)
          · exact hF t' u' (by omega) h2
      obtain ⟨h', e, F2, e2, hF2, hK2⟩ := p
      have e3 : b_X6_findOverlaps_2 (rowI h 44 F) 43 r (nI t) = some (.inl (nI (t + 1), rowI h 44 F2)) := by
        unfold b_X6_findOverlaps_2
        simp (disch := omega) only [ob, nI_lit, nI_add, pk_mul, nI_eq, nI_ltI, nI_leI, if_true, if_false, if_pos, if_neg, gI_of (tR C2.rd.rd), C2.rd.sc, e, e2]
      rw [e3]
      exact ⟨_, rfl, c, F2, rfl, hF2, hK2⟩
    · have e : b_X6_findOverlaps_2 (rowI h 44 F) 43 r (nI t) = some (.inr (rowI h 44 F)) := by
        unfold b_X6_findOverlaps_2
        simp (disch := omega) only [ob, nI_lit, nI_add, pk_mul, nI_eq, nI_ltI, nI_leI, if_true, if_false, if_pos, if_neg, gI_of (tR C2.rd.rd), C2.rd.sc]
      rw [e]
      exact ⟨_, rfl, F, rfl, fun t' u h1 h2 => hF t' u (by omega) h2, hK⟩
  obtain ⟨h', e, F, e2, hF⟩ := q
  unfold f_X6_findOverlaps
  simp (disch := omega) only [ob, nI_lit, nI_add, pk_mul, nI_eq, nI_ltI, nI_leI, if_true, if_false, if_pos, if_neg, ck_of (tS_43 C.sh), e]
  exact ⟨h', rfl, F, e2, hF⟩
end
