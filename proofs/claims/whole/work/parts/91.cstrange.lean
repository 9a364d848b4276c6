/-! ===== the stranger settled ===== -/
def sM (h : Mem) (A B : Nat → Int32) : Mem := rowI (rowI h 52 A) 53 B
theorem sM_52 (h : Mem) (A B : Nat → Int32) : mI (sM h A B) 52 = A := by
  unfold sM
  rw [mI_row_ne _ _ (by decide), mI_row]
theorem sM_53 (h : Mem) (A B : Nat → Int32) : mI (sM h A B) 53 = B := mI_row _ _ _
theorem sM_c (h : Mem) (A B : Nat → Int32) : sM h A B = rowI (rowI h 53 B) 52 A := by
  refine mem_ext (fun x => ?_) rfl rfl rfl rfl
  unfold sM
  rcases Decidable.em (x = 52) with e | e
  · subst e
    rw [mI_row_ne _ _ (by decide), mI_row, mI_row]
  · rw [mI_row_ne (rowI h 53 B) A e]
    rcases Decidable.em (x = 53) with e2 | e2
    · subst e2
      rw [mI_row, mI_row]
    · rw [mI_row_ne _ _ e2, mI_row_ne _ _ e2, mI_row_ne _ _ e]
theorem sM_a (h : Mem) (A B : Nat → Int32) (k : Nat) (v : Int32) : wI (sM h A B) 52 k v = sM h (upd A k v) B := by
  rw [sM_c, rowI_wI, ← sM_c]
theorem sM_b (h : Mem) (A B : Nat → Int32) (k : Nat) (v : Int32) : wI (sM h A B) 53 k v = sM h A (upd B k v) := rowI_wI _ _ _ _ _
theorem sM_f (h : Mem) (A B : Nat → Int32) : FQ [52, 53] h (sM h A B) := (FQ.row h A (by decide)).tr (FQ.row _ B (by decide))
section
variable {h : Mem} {r : Nat} {ρ : RO}
theorem CT.sm (C : CT h r ρ) (hr : r = 2 ∨ r = 21) (A B : Nat → Int32) : CT (sM h A B) r ρ := C.fq (sM_f h A B) (fun k hk hq => by
  simp only [List.mem_cons, List.not_mem_nil, or_false] at hq
  omega)
theorem c_str1 (W : RW ρ) (C : CT h r ρ) (hr : r = 2 ∨ r = 21) {A B : Nat → Int32} (hA : ∀ i, i < 42 → A i = nI 0) (hB : ∀ i, i < 42 → B i = nI 0) : OK (iter (fun (s : Int32 × Mem) => b_X7_settle_18 s.2 51 r s.1) FU (nI 0, sM h A B)) (fun h' => ∃ A B, h' = sM h A B ∧ (∀ p, p < ρ 0 2 → A p = nI 1 ∧ B (ρ 0 8 * 7 + p) = nI 1) ∧ (∀ i, ρ 0 2 ≤ i → i < 42 → A i = nI 0) ∧ ∀ i, i < ρ 0 8 * 7 → B i = nI 0) := by
  have hpl := W.pl
  have hhe := W.he
  refine iter_ok (fun p s => ∃ A B, s = (nI p, sM h A B) ∧ (∀ p', p' < p → A p' = nI 1 ∧ B (ρ 0 8 * 7 + p') = nI 1) ∧ (∀ i, p ≤ i → i < 42 → A i = nI 0) ∧ ∀ i, i < ρ 0 8 * 7 → B i = nI 0) (ρ 0 2) (FU_lt (by omega)) (fun p s hp hI => ?_) ⟨A, B, rfl, fun p hp => by omega, fun i _ hi => hA i hi, fun i hi => hB i (by omega)⟩
  obtain ⟨A, B, rfl, h1, h2, h3⟩ := hI
  show OK (b_X7_settle_18 (sM h A B) 51 r (nI p)) _
  have C2 := C.sm hr A B
  have C3 := C.sm hr (upd A p (nI 1)) B
  rcases Nat.lt_or_ge p (ρ 0 2) with c | c
  · have e : b_X7_settle_18 (sM h A B) 51 r (nI p) = some (.inl (nI (p + 1), sM h (upd A p (nI 1)) (upd B (ρ 0 8 * 7 + p) (nI 1)))) := by
      unfold b_X7_settle_18
      simp (disch := omega) only [ob, nI_lit, nI_add, pk_mul, nI_eq, nI_ltI, nI_leI, if_true, if_false, if_pos, if_neg, gI_of (tR C2.rd.rd), C2.rd.sc, gR_of (tS_51 C2.sh), rS_51_0 C2.sh, sI_of (tS_52 C2.sh), sM_a, gR_of (tS_51 C3.sh), rS_51_1 C3.sh, gI_of (tR C3.rd.rd), C3.rd.sc, sI_of (tS_53 C3.sh), sM_b]
    rw [e]
    refine ⟨_, rfl, c, _, _, rfl, fun p' hp' => ?_, fun i h4 h5 => ?_, fun i h4 => ?_⟩
    · rcases Decidable.em (p' = p) with z | z
      · rw [z, pk_us, pk_us]
        exact ⟨rfl, rfl⟩
      · rw [pk_un z, pk_un (by omega)]
        exact h1 p' (by omega)
    · rw [pk_un (by omega)]
      exact h2 i (by omega) h5
    · rw [pk_un (by omega)]
      exact h3 i h4
  · have e : b_X7_settle_18 (sM h A B) 51 r (nI p) = some (.inr (sM h A B)) := by
      unfold b_X7_settle_18
      simp (disch := omega) only [ob, nI_lit, nI_add, pk_mul, nI_eq, nI_ltI, nI_leI, if_true, if_false, if_pos, if_neg, gI_of (tR C2.rd.rd), C2.rd.sc]
    rw [e]
    exact ⟨_, rfl, A, B, rfl, fun p' hp' => h1 p' (by omega), fun i h4 h5 => h2 i (by omega) h5, h3⟩
theorem c_str2 (W : RW ρ) (C : CT h r ρ) (hr : r = 2 ∨ r = 21) {A B : Nat → Int32} (hA : ∀ p, p < ρ 0 2 → A p = nI 1) (hZ : ∀ i, ρ 0 2 ≤ i → i < 42 → A i = nI 0) : OK (iter (fun (s : Int32 × Mem) => b_X7_settle_56 s.2 51 r s.1) FU (nI 0, sM h A B)) (fun h' => ∃ A, h' = sM h A B ∧ ∀ k p, k ≤ ρ 0 8 → p < ρ 0 2 → A (k * 7 + p) = nI (ub ρ k p)) := by
  have hpl := W.pl
  have hhe := W.he
  have htu := W.tu
  refine iter_ok (fun k s => ∃ A, s = (nI k, sM h A B) ∧ (∀ k' p, k' ≤ k → p < ρ 0 2 → A (k' * 7 + p) = nI (ub ρ k' p)) ∧ ∀ i, k * 7 + 7 ≤ i → i < 42 → A i = nI 0) (ρ 0 8) (FU_lt (by omega)) (fun k s hk hI => ?_) ⟨A, rfl, fun k' p hk' hp => ?_, fun i h1 h2 => hZ i (by omega) h2⟩
  · obtain ⟨A, rfl, h1, h2⟩ := hI
    show OK (b_X7_settle_56 (sM h A B) 51 r (nI k)) _
    have C2 := C.sm hr A B
    rcases Nat.lt_or_ge k (ρ 0 8) with c | c
    · have hd := W.hd k c
      obtain ⟨h', e, F', e2, g1, g2⟩ := c_carry W (C.rx hr (Or.inr rfl) B) hr (x := 52) (Or.inl rfl) hd (k1 := k) (k2 := k + 1) (by omega) (by omega) (by omega) (fun p hp => h1 k p (Nat.le_refl _) hp) (fun p hp => h2 _ (by omega) (by omega))
      rw [← sM_c] at e
      rw [← sM_c] at e2
      have e3 : b_X7_settle_56 (sM h A B) 51 r (nI k) = some (.inl (nI (k + 1), sM h F' B)) := by
        unfold b_X7_settle_56
        simp (disch := omega) only [ob, nI_lit, nI_add, pk_mul, nI_eq, nI_ltI, nI_leI, if_true, if_false, if_pos, if_neg, gI_of (tR C2.rd.rd), C2.rd.sc, gR_of (tR C2.rd.rd), rR_17 C2.rd.rd, aI_of (tR_9 C2.rd.rd), C2.rd.hd, gR_of (tS_51 C2.sh), rS_51_0 C2.sh, e, e2]
      rw [e3]
      refine ⟨_, rfl, c, F', rfl, fun k' p hk' hp => ?_, fun i h3 h4 => ?_⟩
      · rcases Decidable.em (k' = k + 1) with z | z
        · rw [z, g1 p hp, ← hs_sum W hp (ub ρ k)]
          show _ = nI (su (fun q => if hs ρ q p k = true then ub ρ k q else 0) (ρ 0 2))
          congr 1
          exact su_congr (fun q hq => by rw [hs_sym W k hp hq])
        · rw [g2 _ (by omega)]
          exact h1 k' p (by omega) hp
      · rw [g2 _ (by omega)]
        exact h2 i (by omega) h4
    · have e : b_X7_settle_56 (sM h A B) 51 r (nI k) = some (.inr (sM h A B)) := by
        unfold b_X7_settle_56
        simp (disch := omega) only [ob, nI_lit, nI_add, pk_mul, nI_eq, nI_ltI, nI_leI, if_true, if_false, if_pos, if_neg, gI_of (tR C2.rd.rd), C2.rd.sc]
      rw [e]
      exact ⟨_, rfl, A, rfl, fun k' p h3 h4 => h1 k' p (by omega) h4⟩
  · have : k' = 0 := by omega
    subst this
    rw [Nat.zero_mul, Nat.zero_add]
    exact hA p hp
theorem c_str3 (W : RW ρ) (C : CT h r ρ) (hr : r = 2 ∨ r = 21) (A : Nat → Int32) : ∀ m N (B : Nat → Int32), m < N → m ≤ ρ 0 8 → (∀ k p, m ≤ k → k ≤ ρ 0 8 → p < ρ 0 2 → B (k * 7 + p) = nI (de ρ (ρ 0 8 - k) p)) → (∀ i, i < m * 7 → B i = nI 0) → OK (iter (fun (s : Int32 × Mem) => b_X7_settle_95 s.2 51 r s.1) N (nI m - nI 1, sM h A B)) (fun h' => ∃ B, h' = sM h A B ∧ ∀ k p, k ≤ ρ 0 8 → p < ρ 0 2 → B (k * 7 + p) = nI (de ρ (ρ 0 8 - k) p)) := by
  have hpl := W.pl
  have hhe := W.he
  have htu := W.tu
  intro m
  induction m with
  | zero =>
    intro N B hN hm h1 h2
    obtain ⟨N, rfl⟩ : ∃ M, N = M + 1 := ⟨N - 1, by omega⟩
    have e : b_X7_settle_95 (sM h A B) 51 r (nI 0 - nI 1) = some (.inr (sM h A B)) := by
      unfold b_X7_settle_95
      rw [if_pos (show nI 0 - nI 1 < 0 by decide)]
    rw [iter_exit e]
    exact ⟨_, rfl, B, rfl, fun k p hk hp => h1 k p (by omega) hk hp⟩
  | succ m ih =>
    intro N B hN hm h1 h2
    obtain ⟨N, rfl⟩ : ∃ M, N = M + 1 := ⟨N - 1, by omega⟩
    have e0 : nI (m + 1) - nI 1 = nI m := by
      rw [pk_sub (by omega)]
      rfl
    rw [e0]
    have C2 := C.sm hr A B
    have hd := W.hd m (by omega)
    obtain ⟨h', e, F', e2, g1, g2⟩ := c_carry W (C.rx hr (Or.inl rfl) A) hr (x := 53) (Or.inr rfl) hd (k1 := m + 1) (k2 := m) (by omega) (by omega) (by omega) (fun p hp => h1 (m + 1) p (Nat.le_refl _) hm hp) (fun p hp => h2 _ (by omega))
    have e3 : b_X7_settle_95 (sM h A B) 51 r (nI m) = some (.inl (nI m - nI 1, sM h A F')) := by
      unfold b_X7_settle_95
      have e' : f_X7_carry (sM h A B) r (nI (ρ 12 m)) 53 (nI (m + 1)) (nI m) = some h' := e
      simp (disch := omega) only [ob, nI_lit, nI_add, pk_mul, nI_eq, nI_ltI, nI_leI, if_true, if_false, if_pos, if_neg, gR_of (tR C2.rd.rd), rR_17 C2.rd.rd, aI_of (tR_9 C2.rd.rd), C2.rd.hd, gR_of (tS_51 C2.sh), rS_51_1 C2.sh, e', e2]
      rw [← Int32.sub_eq_add_neg]
      rfl
    rw [iter_step e3]
    refine ih N F' (by omega) (by omega) (fun k p hk1 hk2 hp => ?_) (fun i hi => ?_)
    · rcases Decidable.em (k = m) with z | z
      · rw [z, g1 p hp, ← hs_sum W hp (de ρ (ρ 0 8 - (m + 1)))]
        obtain ⟨j, hj⟩ : ∃ j, ρ 0 8 - m = j + 1 := ⟨ρ 0 8 - m - 1, by omega⟩
        rw [hj]
        show _ = nI (su (fun q => if hs ρ p q (ρ 0 8 - 1 - j) = true then de ρ j q else 0) (ρ 0 2))
        rw [show ρ 0 8 - (m + 1) = j by omega, show ρ 0 8 - 1 - j = m by omega]
      · rw [g2 _ (by omega)]
        exact h1 k p (by omega) hk2 hp
    · rw [g2 _ (by omega)]
      exact h2 i (by omega)
theorem c_stranger (W : RW ρ) (C : CT h r ρ) (hr : r = 2 ∨ r = 21) : OK (f_X7_settle h 51 r) (fun h' => FQ [52, 53] h h' ∧ STK h' ρ) := by
  have hhe := W.he
  have S := C.sh
  obtain ⟨A0, hA0⟩ : ∃ A0, (fun j => if 0 ≤ j ∧ j < 0 + 42 then nI 0 else mI h 52 j) = A0 := ⟨_, rfl⟩
  obtain ⟨B0, hB0⟩ : ∃ B0, (fun j => if 0 ≤ j ∧ j < 0 + 42 then nI 0 else mI (rowI h 52 A0) 53 j) = B0 := ⟨_, rfl⟩
  have S1 : SH (rowI h 52 A0) := S
  have f1 : f_J7_fill_53178 h 52 (nI 0) = some (rowI h 52 A0) := by rw [h_fill (tS_52 S) (by decide), hA0]
  have f2 : f_J7_fill_53178 (rowI h 52 A0) 53 (nI 0) = some (sM h A0 B0) := by rw [h_fill (tS_53 S1) (by decide), hB0]; rfl
  obtain ⟨h1, e1, A1, B1, e2, p1, p2, p3⟩ := c_str1 W C hr (A := A0) (B := B0) (fun i hi => by rw [← hA0]; exact if_pos (by omega)) (fun i hi => by rw [← hB0]; exact if_pos (by omega))
  obtain ⟨h2, e3, A2, e4, q1⟩ := c_str2 W C hr (B := B1) (fun p hp => (p1 p hp).1) p2
  have C2 := C.sm hr A2 B1
  obtain ⟨h3, e5, B3, e6, q2⟩ := c_str3 W C hr A2 (ρ 0 8) FU B1 (FU_lt (by omega)) (Nat.le_refl _) (fun k p h1 h2 hp => by
    have : k = ρ 0 8 := by omega
    rw [this, Nat.sub_self]
    exact (p1 p hp).2) p3
  unfold f_X7_settle
  simp (disch := omega) only [ob, nI_lit, ck_of (tS_51 S), gR_of (tS_51 S), rS_51_0 S, f1, gR_of (tS_51 S1), rS_51_1 S1, f2, e1, e2, e3, e4, gI_of (tR C2.rd.rd), C2.rd.sc, e5, e6]
  refine ⟨_, rfl, sM_f h A2 B3, ?_, ?_⟩
  · rw [sM_52]
    exact q1
  · rw [sM_53]
    exact q2
end
