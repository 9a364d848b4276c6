/-! ===== a new ROAD settles: gates ===== -/
section
variable {h : Mem} {r : Nat} {ρ : RO}
theorem CRd.r10 (C : CRd h r ρ) (F : Nat → Int32) : CRd (rowI h (r + 10) F) r ρ := CRd.fr (h := h) (h' := rowI h (r + 10) F) (fun _ _ => rfl) rfl (fun k hk => mI_row_ne h F (by omega)) C
theorem c_gates (W : RW ρ) (C : CRd h r ρ) : ∃ F, f_X1_settle h r = some (rowI h (r + 10) F) ∧ ∀ j, j < ρ 0 3 → F j = lk ρ j false ∧ F (10 + j) = lk ρ j true := by
  have hro := W.ro
  have q : OK (iter (fun (s : Int32 × Mem) => b_X1_settle_2 s.2 r s.1) FU (nI 0, h)) (fun h' => ∃ F, h' = rowI h (r + 10) F ∧ ∀ j, j < ρ 0 3 → F j = lk ρ j false ∧ F (10 + j) = lk ρ j true) := by
    refine iter_ok (fun i s => ∃ F, s = (nI i, rowI h (r + 10) F) ∧ ∀ j, j < i → F j = lk ρ j false ∧ F (10 + j) = lk ρ j true) (ρ 0 3) (FU_lt (by omega)) (fun i s hi hI => ?_) ⟨mI h (r + 10), by rw [rowI_id], fun j hj => by omega⟩
    obtain ⟨F, rfl, hF⟩ := hI
    show OK (b_X1_settle_2 (rowI h (r + 10) F) r (nI i)) _
    have C2 := C.r10 F
    have C3 := C.r10 (upd F i (lk ρ i false))
    rcases Nat.lt_or_ge i (ρ 0 3) with c | c
    · have l0 := c_lifters W C2 false c
      have l1 := c_lifters W C3 true c
      simp only [Bool.toNat_false, Bool.toNat_true] at l0 l1
      have e : b_X1_settle_2 (rowI h (r + 10) F) r (nI i) = some (.inl (nI (i + 1), rowI h (r + 10) (upd (upd F i (lk ρ i false)) (10 + i) (lk ρ i true)))) := by
        unfold b_X1_settle_2
        simp (disch := omega) only [ob, nI_lit, nI_add, pk_mul, nI_eq, nI_ltI, nI_leI, if_true, if_false, if_pos, if_neg, gI_of (tR C2.rd), C2.sc, gR_of (tR C2.rd), rR_18 C2.rd, l0, sI_of (tR_10 C2.rd), rowI_wI, gR_of (tR C3.rd), rR_18 C3.rd, l1, sI_of (tR_10 C3.rd)]
      rw [e]
      refine ⟨_, rfl, c, _, rfl, fun j hj => ?_⟩
      rcases Decidable.em (j = i) with z | z
      · subst z
        rw [pk_un (by omega), pk_us, pk_us]
        exact ⟨rfl, rfl⟩
      · rw [pk_un (by omega), pk_un (by omega), pk_un (by omega), pk_un (by omega)]
        exact hF j (by omega)
    · have e : b_X1_settle_2 (rowI h (r + 10) F) r (nI i) = some (.inr (rowI h (r + 10) F)) := by
        unfold b_X1_settle_2
        simp (disch := omega) only [ob, nI_lit, nI_add, pk_mul, nI_eq, nI_ltI, nI_leI, if_true, if_false, if_pos, if_neg, gI_of (tR C2.rd), C2.sc]
      rw [e]
      exact ⟨_, rfl, F, rfl, fun j hj => hF j (by omega)⟩
  obtain ⟨h', e, F, e2, hF⟩ := q
  refine ⟨F, ?_, hF⟩
  unfold f_X1_settle
  simp (disch := omega) only [ob, nI_lit, nI_add, pk_mul, nI_eq, nI_ltI, nI_leI, if_true, if_false, if_pos, if_neg, e, e2]
end
