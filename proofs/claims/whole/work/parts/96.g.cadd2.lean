section
variable {h : Mem} {r : Nat} {ρ τ : RO}
/-! a person -/
theorem c_addPers (B : CB h r ρ τ) {p m : Nat} (hR : ρ 0 6 < 4) : f_X5_addPerson h r (nI p) (nI m) = some (wI (wI (wI h (r + 11) (ρ 0 6 * 5 + 0) (nI p)) (r + 11) (ρ 0 6 * 5 + 1) (nI m)) r 6 (nI (ρ 0 6 + 1))) := by
  unfold f_X5_addPerson
  simp (disch := omega) only [ob, ck_d, pI_d, gI_d, gR_d, sI_n, aI_n, mT_wI, mR_wI, mI_if, nI_lit, nI_add, pk_mul, eq_self, true_and, and_true, if_true, if_pos, if_neg, tR B.rd, tR_1 B.rd, tR_2 B.rd, tR_3 B.rd, tR_4 B.rd, tR_5 B.rd, tR_6 B.rd, tR_7 B.rd, tR_8 B.rd, tR_9 B.rd, tR_11 B.rd, rR_9 B.rd, rR_10 B.rd, rR_11 B.rd, rR_12 B.rd, rR_13 B.rd, rR_14 B.rd, rR_15 B.rd, rR_16 B.rd, rR_17 B.rd, rR_19 B.rd, B.sc 6]
theorem CB.pers (B : CB h r ρ τ) {p m : Nat} (hR : ρ 0 6 < 4) : CB (wI (wI (wI h (r + 11) (ρ 0 6 * 5 + 0) (nI p)) (r + 11) (ρ 0 6 * 5 + 1) (nI m)) r 6 (nI (ρ 0 6 + 1))) r (rup ρ 0 6 (ρ 0 6 + 1)) (rup (rup τ 4 (ρ 0 6) p) 5 (ρ 0 6) m) := by
  have a0 : ∀ k, rup ρ 0 6 (ρ 0 6 + 1) 0 k = if k = 6 then ρ 0 6 + 1 else ρ 0 k := fun k => by simp [rup]
  have ar : ∀ a, a ≠ 0 → rup ρ 0 6 (ρ 0 6 + 1) a = ρ a := fun a h0 => by
    funext k
    simp [rup, h0]
  have eN : ∀ k, 1 ≤ k → k ≠ 11 → mI (wI (wI (wI h (r + 11) (ρ 0 6 * 5 + 0) (nI p)) (r + 11) (ρ 0 6 * 5 + 1) (nI m)) r 6 (nI (ρ 0 6 + 1))) (r + k) = mI h (r + k) := fun k h1 h2 => by
    rw [mI_wI_ne _ _ _ (by omega), mI_wI_ne _ _ _ (by omega), mI_wI_ne _ _ _ (by omega)]
  refine ⟨B.rd, ?_, ?_⟩
  · intro k hk
    rw [a0]
    rcases Decidable.em (k = 6) with c | c
    · simp (disch := omega) only [mI_if, and_self, true_and, if_true, if_pos, c]
    · simp (disch := omega) only [mI_if, if_neg]
      exact B.sc k hk
  · rw [eN 1 (by decide) (by decide), eN 2 (by decide) (by decide), eN 3 (by decide) (by decide), eN 4 (by decide) (by decide), eN 5 (by decide) (by decide), eN 6 (by decide) (by decide), eN 7 (by decide) (by decide), eN 8 (by decide) (by decide), eN 9 (by decide) (by decide), a0 1, a0 3, a0 5, a0 8, ar 1 (by decide), ar 2 (by decide), ar 3 (by decide), ar 4 (by decide), ar 5 (by decide), ar 6 (by decide), ar 7 (by decide), ar 12 (by decide), ar 13 (by decide)]
    refine ⟨B.len, B.note, B.e1, B.e2, B.min, B.kd, B.gt, B.bt, fun k w hk hw => ?_, B.hd, fun x w hx hw => ?_, ?_⟩
    · rw [ar (8 + w) (by omega)]
      exact B.ip k w hk hw
    · rcases Decidable.em (x = ρ 0 6) with c | c
      · subst c
        rcases (show w = 0 ∨ w = 1 ∨ (w ≠ 0 ∧ w ≠ 1) by omega) with e | e | e
        · subst e
          show _ = nI (rup (rup τ 4 (ρ 0 6) p) 5 (ρ 0 6) m 4 (ρ 0 6))
          rw [rup_ne _ _ _ _ (by omega), rup_at]
          simp (disch := omega) only [mI_if, and_self, true_and, if_true, if_pos, if_neg]
        · subst e
          show _ = nI (rup (rup τ 4 (ρ 0 6) p) 5 (ρ 0 6) m 5 (ρ 0 6))
          rw [rup_at]
          simp (disch := omega) only [mI_if, and_self, true_and, if_true, if_pos, if_neg]
        · rw [rup_ne _ _ _ _ (by omega), rup_ne _ _ _ _ (by omega)]
          simp (disch := omega) only [mI_if, if_neg]
          exact B.st _ w hx hw
      · rw [rup_ne _ _ _ _ (by omega), rup_ne _ _ _ _ (by omega)]
        simp (disch := omega) only [mI_if, if_neg]
        exact B.st x w hx hw
    · rw [rup_ne _ _ _ _ (by omega), rup_ne _ _ _ _ (by omega)]
      simp (disch := omega) only [mI_if, if_neg]
      exact B.s2
/-! what is known -/
theorem c_knows (B : CB h r ρ τ) {x t : Nat} (hx : x < 4) (ht : t < 6) (h6 : τ 6 x < 64) : f_X5_knowsFromStart h r (nI x) (nI t) = some (nI ((τ 6 x).testBit t).toNat) := by
  have e : mI h (r + 11) (x * 5 + 2) = nI (τ 6 x) := B.st x 2 hx (by decide)
  unfold f_X5_knowsFromStart
  simp (disch := omega) only [ob, ck_d, pI_d, gI_d, gR_d, sI_n, aI_n, mT_wI, mR_wI, mI_if, nI_lit, nI_add, pk_mul, eq_self, true_and, and_true, if_true, if_pos, if_neg, tR B.rd, tR_1 B.rd, tR_2 B.rd, tR_3 B.rd, tR_4 B.rd, tR_5 B.rd, tR_6 B.rd, tR_7 B.rd, tR_8 B.rd, tR_9 B.rd, tR_11 B.rd, rR_9 B.rd, rR_10 B.rd, rR_11 B.rd, rR_12 B.rd, rR_13 B.rd, rR_14 B.rd, rR_15 B.rd, rR_16 B.rd, rR_17 B.rd, rR_19 B.rd, e, nI_bit]
  rcases (τ 6 x).testBit t with _ | _
  · rfl
  · rfl
theorem c_addKnow (B : CB h r ρ τ) {x t : Nat} (hx : x < 4) (ht : t < 6) (h6 : τ 6 x < 64) : f_X5_addKnown h r (nI x) (nI t) = some (wI (wI h (r + 11) (x * 5 + 2) (nI (τ 6 x ||| 2 ^ t))) r 7 (nI (ρ 0 7 + 1))) := by
  have e : mI h (r + 11) (x * 5 + 2) = nI (τ 6 x) := B.st x 2 hx (by decide)
  have h2 : 2 ^ t < 64 := Nat.pow_lt_pow_right (a := 2) (by decide) ht
  unfold f_X5_addKnown
  simp (disch := omega) only [ob, ck_d, pI_d, gI_d, gR_d, sI_n, aI_n, mT_wI, mR_wI, mI_if, nI_lit, nI_add, pk_mul, eq_self, true_and, and_true, if_true, if_pos, if_neg, tR B.rd, tR_1 B.rd, tR_2 B.rd, tR_3 B.rd, tR_4 B.rd, tR_5 B.rd, tR_6 B.rd, tR_7 B.rd, tR_8 B.rd, tR_9 B.rd, tR_11 B.rd, rR_9 B.rd, rR_10 B.rd, rR_11 B.rd, rR_12 B.rd, rR_13 B.rd, rR_14 B.rd, rR_15 B.rd, rR_16 B.rd, rR_17 B.rd, rR_19 B.rd, e, B.sc 7, nI_sh1, nI_or]
theorem CB.know (B : CB h r ρ τ) {x v : Nat} (hx : x < 4) : CB (wI (wI h (r + 11) (x * 5 + 2) (nI v)) r 7 (nI (ρ 0 7 + 1))) r (rup ρ 0 7 (ρ 0 7 + 1)) (rup τ 6 x v) := by
  have a0 : ∀ k, rup ρ 0 7 (ρ 0 7 + 1) 0 k = if k = 7 then ρ 0 7 + 1 else ρ 0 k := fun k => by simp [rup]
  have ar : ∀ a, a ≠ 0 → rup ρ 0 7 (ρ 0 7 + 1) a = ρ a := fun a h0 => by
    funext k
    simp [rup, h0]
  have eN : ∀ k, 1 ≤ k → k ≠ 11 → mI (wI (wI h (r + 11) (x * 5 + 2) (nI v)) r 7 (nI (ρ 0 7 + 1))) (r + k) = mI h (r + k) := fun k h1 h2 => by
    rw [mI_wI_ne _ _ _ (by omega), mI_wI_ne _ _ _ (by omega)]
  refine ⟨B.rd, ?_, ?_⟩
  · intro k hk
    rw [a0]
    rcases Decidable.em (k = 7) with c | c
    · simp (disch := omega) only [mI_if, and_self, true_and, if_true, if_pos, c]
    · simp (disch := omega) only [mI_if, if_neg]
      exact B.sc k hk
  · rw [eN 1 (by decide) (by decide), eN 2 (by decide) (by decide), eN 3 (by decide) (by decide), eN 4 (by decide) (by decide), eN 5 (by decide) (by decide), eN 6 (by decide) (by decide), eN 7 (by decide) (by decide), eN 8 (by decide) (by decide), eN 9 (by decide) (by decide), a0 1, a0 3, a0 5, a0 8, ar 1 (by decide), ar 2 (by decide), ar 3 (by decide), ar 4 (by decide), ar 5 (by decide), ar 6 (by decide), ar 7 (by decide), ar 12 (by decide), ar 13 (by decide)]
    refine ⟨B.len, B.note, B.e1, B.e2, B.min, B.kd, B.gt, B.bt, fun k w hk hw => ?_, B.hd, fun y w hy hw => ?_, ?_⟩
    · rw [ar (8 + w) (by omega)]
      exact B.ip k w hk hw
    · rcases Decidable.em (y = x ∧ w = 2) with c | c
      · obtain ⟨c1, c2⟩ := c
        subst c1
        subst c2
        show _ = nI (rup τ 6 y v 6 y)
        rw [rup_at]
        simp (disch := omega) only [mI_if, and_self, true_and, if_true, if_pos, if_neg]
      · rw [rup_ne _ _ _ _ (by omega)]
        simp (disch := omega) only [mI_if, if_neg]
        exact B.st y w hy hw
    · rw [rup_ne _ _ _ _ (by omega)]
      simp (disch := omega) only [mI_if, if_neg]
      exact B.s2
/-! what was heard -/
theorem CB.hear (B : CB h r ρ τ) {t : Nat} (hR : ρ 0 8 < 5) : CB (wI (wI h (r + 9) (ρ 0 8) (nI t)) r 8 (nI (ρ 0 8 + 1))) r (heardR ρ t) τ := by
  have a0 : ∀ k, heardR ρ t 0 k = if k = 8 then ρ 0 8 + 1 else ρ 0 k := fun k => by simp [heardR]
  have a12 : ∀ k, heardR ρ t 12 k = if k = ρ 0 8 then t else ρ 12 k := fun k => by simp [heardR]
  have ar : ∀ a, a ≠ 0 → a ≠ 12 → heardR ρ t a = ρ a := fun a h0 h1 => by
    funext k
    simp [heardR, h0, h1]
  have eN : ∀ k, 1 ≤ k → k ≠ 9 → mI (wI (wI h (r + 9) (ρ 0 8) (nI t)) r 8 (nI (ρ 0 8 + 1))) (r + k) = mI h (r + k) := fun k h1 h2 => by
    rw [mI_wI_ne _ _ _ (by omega), mI_wI_ne _ _ _ (by omega)]
  refine ⟨B.rd, ?_, ?_⟩
  · intro k hk
    rw [a0]
    rcases Decidable.em (k = 8) with c | c
    · simp (disch := omega) only [mI_if, and_self, true_and, if_true, if_pos, c]
    · simp (disch := omega) only [mI_if, if_neg]
      exact B.sc k hk
  · rw [eN 1 (by decide) (by decide), eN 2 (by decide) (by decide), eN 3 (by decide) (by decide), eN 4 (by decide) (by decide), eN 5 (by decide) (by decide), eN 6 (by decide) (by decide), eN 7 (by decide) (by decide), eN 8 (by decide) (by decide), eN 11 (by decide) (by decide), a0 1, a0 3, a0 5, a0 8, ar 1 (by decide) (by decide), ar 2 (by decide) (by decide), ar 3 (by decide) (by decide), ar 4 (by decide) (by decide), ar 5 (by decide) (by decide), ar 6 (by decide) (by decide), ar 7 (by decide) (by decide), ar 13 (by decide) (by decide)]
    refine ⟨B.len, B.note, B.e1, B.e2, B.min, B.kd, B.gt, B.bt, fun k w hk hw => ?_, fun k hk => ?_, B.st, B.s2⟩
    · rw [ar (8 + w) (by omega) (by omega)]
      exact B.ip k w hk hw
    · have hk : k < ρ 0 8 + 1 := hk
      rw [a12]
      rcases Decidable.em (k = ρ 0 8) with c | c
      · simp (disch := omega) only [mI_if, and_self, true_and, if_true, if_pos, if_neg, c]
      · simp (disch := omega) only [mI_if, if_neg]
        exact B.hd k (by omega)
/-! a tune's notes -/
def nt (h : Mem) (x : Nat) (b : Nat → Nat) (a t k : Nat) : Mem := rowI h x (fun j => if 8 * t ≤ j ∧ j < 8 * t + k then nI (b (a + (j - 8 * t)) - 97) else mI h x j)
theorem nt_0 (h : Mem) (x : Nat) (b : Nat → Nat) (a t : Nat) : nt h x b a t 0 = h := by
  unfold nt
  have e : (fun j => if 8 * t ≤ j ∧ j < 8 * t + 0 then nI (b (a + (j - 8 * t)) - 97) else mI h x j) = mI h x := by
    funext j
    rw [if_neg (by omega)]
  rw [e, rowI_id]
theorem nt_s (h : Mem) (x : Nat) (b : Nat → Nat) (a t k : Nat) : wI (nt h x b a t k) x (8 * t + k) (nI (b (a + k) - 97)) = nt h x b a t (k + 1) := by
  unfold nt
  rw [rowI_wI]
  congr 1
  funext j
  rcases Decidable.em (j = 8 * t + k) with e | e
  · subst e
    rw [pk_us, if_pos (by omega), show 8 * t + k - 8 * t = k by omega]
  · rw [pk_un e]
    rcases Decidable.em (8 * t ≤ j ∧ j < 8 * t + k) with q | q
    · rw [if_pos q, if_pos (by omega)]
    · rw [if_neg q, if_neg (by omega)]
theorem nt_ne (h : Mem) (x : Nat) (b : Nat → Nat) (a t k : Nat) {y : Nat} (hy : y ≠ x) : mI (nt h x b a t k) y = mI h y := mI_row_ne _ _ hy
theorem nt_at (h : Mem) (x : Nat) (b : Nat → Nat) (a t k j : Nat) : mI (nt h x b a t k) x j = if 8 * t ≤ j ∧ j < 8 * t + k then nI (b (a + (j - 8 * t)) - 97) else mI h x j := by
  unfold nt
  rw [mI_row]
theorem CB.notes (B : CB h r ρ τ) (W : RW ρ) (b : Nat → Nat) (a k : Nat) : CB (nt h (r + 2) b a (ρ 0 1) k) r ρ τ := by
  have eN : ∀ j, j ≠ 2 → mI (nt h (r + 2) b a (ρ 0 1) k) (r + j) = mI h (r + j) := fun j hj => nt_ne _ _ _ _ _ _ (by omega)
  have e0 : mI (nt h (r + 2) b a (ρ 0 1) k) r = mI h r := eN 0 (by decide)
  refine ⟨B.rd, ?_⟩
  rw [e0, eN 1 (by decide), eN 3 (by decide), eN 4 (by decide), eN 5 (by decide), eN 6 (by decide), eN 7 (by decide), eN 8 (by decide), eN 9 (by decide), eN 11 (by decide)]
  refine ⟨B.sc, B.len, fun t i ht hi => ?_, B.e1, B.e2, B.min, B.kd, B.gt, B.bt, B.ip, B.hd, B.st, B.s2⟩
  have := (W.len t ht).2
  rw [nt_at, if_neg (by omega)]
  exact B.note t i ht hi
theorem CB.tune (B : CB h r ρ τ) (W : RW ρ) (b : Nat → Nat) (n i : Nat) (hT : ρ 0 1 < 6) : CB (wI (wI (nt h (r + 2) b (sp b n i) (ρ 0 1) (tL b n i)) (r + 1) (ρ 0 1) (nI (tL b n i))) r 1 (nI (ρ 0 1 + 1))) r (noteR b n ρ i) τ := by
  have B2 := B.notes W b (sp b n i) (tL b n i)
  have a0 : ∀ k, noteR b n ρ i 0 k = if k = 1 then ρ 0 1 + 1 else ρ 0 k := fun k => by simp [noteR]
  have a1 : ∀ k, noteR b n ρ i 1 k = if k = ρ 0 1 then tL b n i else ρ 1 k := fun k => by simp [noteR]
  have a2 : ∀ k, noteR b n ρ i 2 k = if 8 * ρ 0 1 ≤ k ∧ k < 8 * ρ 0 1 + tL b n i then b (sp b n i + (k - 8 * ρ 0 1)) - 97 else ρ 2 k := fun k => by simp [noteR]
  have ar : ∀ a, a ≠ 0 → a ≠ 1 → a ≠ 2 → noteR b n ρ i a = ρ a := fun a h0 h1 h2 => by
    funext k
    simp [noteR, h0, h1, h2]
  refine ⟨B.rd, ?_, ?_, ?_, ?_⟩
  · intro k hk
    rw [a0]
    rcases Decidable.em (k = 1) with c | c
    · simp (disch := omega) only [mI_if, and_self, true_and, if_true, if_pos, c]
    · simp (disch := omega) only [mI_if, if_neg]
      exact B2.sc k hk
  · intro t ht
    rw [a0, if_pos rfl] at ht
    rw [a1]
    rcases Decidable.em (t = ρ 0 1) with c | c
    · simp (disch := omega) only [mI_if, and_self, true_and, if_true, if_pos, if_neg, c]
    · simp (disch := omega) only [mI_if, if_neg]
      exact B2.len t (by omega)
  · intro t j ht hj
    rw [a0, if_pos rfl] at ht
    rw [a1] at hj
    rw [a2]
    simp (disch := omega) only [mI_if, if_neg, nt_at]
    rcases Decidable.em (t = ρ 0 1) with c | c
    · rw [if_pos c] at hj
      rw [if_pos (by omega), if_pos (by omega)]
      congr 4
      omega
    · rw [if_neg c] at hj
      have := (W.len t (by omega)).2
      rw [if_neg (by omega), if_neg (by omega)]
      exact B.note t j (by omega) hj
  · have eN : ∀ k, 3 ≤ k → mI (wI (wI (nt h (r + 2) b (sp b n i) (ρ 0 1) (tL b n i)) (r + 1) (ρ 0 1) (nI (tL b n i))) r 1 (nI (ρ 0 1 + 1))) (r + k) = mI h (r + k) := fun k h1 => by
      rw [mI_wI_ne _ _ _ (by omega), mI_wI_ne _ _ _ (by omega), nt_ne _ _ _ _ _ _ (by omega)]
    rw [eN 3 (by decide), eN 4 (by decide), eN 5 (by decide), eN 6 (by decide), eN 7 (by decide), eN 8 (by decide), eN 9 (by decide), eN 11 (by decide), a0 3, a0 5, a0 8, ar 3 (by decide) (by decide) (by decide), ar 4 (by decide) (by decide) (by decide), ar 5 (by decide) (by decide) (by decide), ar 6 (by decide) (by decide) (by decide), ar 7 (by decide) (by decide) (by decide), ar 12 (by decide) (by decide) (by decide), ar 13 (by decide) (by decide) (by decide)]
    refine ⟨B.e1, B.e2, B.min, B.kd, B.gt, B.bt, fun k w hk hw => ?_, B.hd, B.st, B.s2⟩
    rw [ar (8 + w) (by omega) (by omega) (by omega)]
    exact B.ip k w hk hw
end
