/-! ===== voices, and who may pass ===== -/
def ex (P : Nat → Bool) (n : Nat) : Bool := decide (ff P n < n)
theorem ex_iff {P : Nat → Bool} {n : Nat} : ex P n = true ↔ ∃ i, i < n ∧ P i = true := by
  unfold ex
  rw [decide_eq_true_iff]
  constructor
  · intro h
    exact ⟨_, h, ff_at P n h⟩
  · rintro ⟨i, hi, hp⟩
    have hl := ff_le P n
    rcases Nat.lt_or_ge (ff P n) n with h | h
    · exact h
    · have := ff_no P n i (by omega)
      rw [hp] at this
      cases this
theorem ex_no {P : Nat → Bool} {n : Nat} (h : ∀ i, i < n → P i = false) : ex P n = false := by
  rcases hq : ex P n with _ | _
  · rfl
  · obtain ⟨i, hi, hp⟩ := ex_iff.mp hq
    rw [h i hi] at hp
    cases hp
theorem ex_congr {P Q : Nat → Bool} {n : Nat} (h : ∀ i, i < n → P i = Q i) : ex P n = ex Q n := by
  unfold ex
  rw [ff_congr h]
/-- the voices that lift a gate of kind k and tune own -/
def lv (ρ : RO) (k own : Nat) (ra : Bool) (n : Nat) : Nat := fo (fun t a => (a ||| if lf ρ k own t false ra then 2 ^ t else 0) ||| if lf ρ k own t true ra then 2 ^ (6 + t) else 0) 0 n
theorem lvv_lt (ρ : RO) (k own : Nat) (ra : Bool) : ∀ n, n ≤ 6 → lv ρ k own ra n < 4096
  | 0, _ => by show 0 < 4096; decide
  | n + 1, hn => by
    have h := lvv_lt ρ k own ra n (by omega)
    show ((lv ρ k own ra n ||| _) ||| _) < 2 ^ 12
    have h1 : 2 ^ n ≤ 2 ^ 5 := two_le (by omega)
    have h2 : 2 ^ (6 + n) ≤ 2 ^ 11 := two_le (by omega)
    refine Nat.or_lt_two_pow (Nat.or_lt_two_pow h ?_) ?_ <;> split <;> omega
theorem bit_pow (a b : Nat) : (2 ^ a).testBit b = decide (a = b) := by
  rcases Decidable.em (a = b) with e | e
  · rw [e, Nat.testBit_two_pow_self]
    simp
  · rw [Nat.testBit_two_pow_of_ne e]
    simp [e]
theorem lv_bit0 (ρ : RO) (k own : Nat) (ra : Bool) (b : Nat) (hb : b < 6) : ∀ n, n ≤ 6 → (lv ρ k own ra n).testBit b = (decide (b < n) && lf ρ k own b false ra)
  | 0, _ => by show (0 : Nat).testBit b = _; simp
  | n + 1, hn => by
    have h := lv_bit0 ρ k own ra b hb n (by omega)
    show ((lv ρ k own ra n ||| _) ||| _).testBit b = _
    rw [Nat.testBit_or, Nat.testBit_or, h]
    have e1 : (if lf ρ k own n true ra = true then 2 ^ (6 + n) else 0).testBit b = false := by
      split
      · rw [bit_pow]; simp; omega
      · simp
    rw [e1]
    rcases Nat.lt_trichotomy b n with q | q | q
    · have e2 : (if lf ρ k own n false ra = true then 2 ^ n else 0).testBit b = false := by
        split
        · rw [bit_pow]; simp; omega
        · simp
      rw [e2]
      simp [q, show b < n + 1 by omega]
    · subst q
      cases lf ρ k own b false ra <;> simp [bit_pow]
    · have e2 : (if lf ρ k own n false ra = true then 2 ^ n else 0).testBit b = false := by
        split
        · rw [bit_pow]; simp; omega
        · simp
      rw [e2]
      simp [show ¬ b < n by omega, show ¬ b < n + 1 by omega]
theorem lv_bit1 (ρ : RO) (k own : Nat) (ra : Bool) (b : Nat) (hb : b < 6) : ∀ n, n ≤ 6 → (lv ρ k own ra n).testBit (6 + b) = (decide (b < n) && lf ρ k own b true ra)
  | 0, _ => by show (0 : Nat).testBit (6 + b) = _; simp
  | n + 1, hn => by
    have h := lv_bit1 ρ k own ra b hb n (by omega)
    show ((lv ρ k own ra n ||| _) ||| _).testBit (6 + b) = _
    rw [Nat.testBit_or, Nat.testBit_or, h]
    have e1 : (if lf ρ k own n false ra = true then 2 ^ n else 0).testBit (6 + b) = false := by
      split
      · rw [bit_pow]; simp; omega
      · simp
    rw [e1]
    rcases Nat.lt_trichotomy b n with q | q | q
    · have e2 : (if lf ρ k own n true ra = true then 2 ^ (6 + n) else 0).testBit (6 + b) = false := by
        split
        · rw [bit_pow]; simp; omega
        · simp
      rw [e2]
      simp [q, show b < n + 1 by omega]
    · subst q
      cases lf ρ k own b true ra <;> simp [bit_pow]
    · have e2 : (if lf ρ k own n true ra = true then 2 ^ (6 + n) else 0).testBit (6 + b) = false := by
        split
        · rw [bit_pow]; simp; omega
        · simp
      rw [e2]
      simp [show ¬ b < n by omega, show ¬ b < n + 1 by omega]
/-- a gate of kind k and tune own is open to the voices V -/
def og (ρ : RO) (k own V : Nat) (ra : Bool) : Bool := decide (k = 0) || ex (fun t => (V.testBit t && lf ρ k own t false ra) || (V.testBit (6 + t) && lf ρ k own t true ra)) (ρ 0 1)
/-- road j is open to the voices V -/
def op (ρ : RO) (j V : Nat) (ra : Bool) : Bool := og ρ (ρ 6 j) (ρ 7 j) V ra
theorem and_ne0 {a b n : Nat} (ha : a < 2 ^ n) : a &&& b ≠ 0 ↔ ∃ i, i < n ∧ a.testBit i = true ∧ b.testBit i = true := by
  constructor
  · intro h
    have h2 : ∃ i, (a &&& b).testBit i = true := Nat.exists_testBit_of_ne_zero h
    obtain ⟨i, hi⟩ := h2
    rw [Nat.testBit_and, Bool.and_eq_true] at hi
    refine ⟨i, ?_, hi⟩
    rcases Nat.lt_or_ge i n with q | q
    · exact q
    · rw [Nat.testBit_lt_two_pow (Nat.lt_of_lt_of_le ha (two_le q))] at hi
      cases hi.1
  · rintro ⟨i, -, h1, h2⟩ h3
    have : (a &&& b).testBit i = true := by rw [Nat.testBit_and, h1, h2]; rfl
    rw [h3, Nat.zero_testBit] at this
    cases this
theorem lv_and (ρ : RO) (W : RW ρ) (k own V : Nat) (ra : Bool) : (lv ρ k own ra (ρ 0 1) &&& V ≠ 0) ↔ ex (fun t => (V.testBit t && lf ρ k own t false ra) || (V.testBit (6 + t) && lf ρ k own t true ra)) (ρ 0 1) = true := by
  have ht := W.tu
  rw [and_ne0 (n := 12) (lvv_lt ρ k own ra _ ht), ex_iff]
  constructor
  · rintro ⟨i, hi, h1, h2⟩
    rcases Nat.lt_or_ge i 6 with q | q
    · rw [lv_bit0 ρ k own ra i q _ ht, Bool.and_eq_true, decide_eq_true_iff] at h1
      exact ⟨i, h1.1, by simp [h2, h1.2]⟩
    · obtain ⟨b, rfl⟩ : ∃ b, i = 6 + b := ⟨i - 6, by omega⟩
      rw [lv_bit1 ρ k own ra b (by omega) _ ht, Bool.and_eq_true, decide_eq_true_iff] at h1
      exact ⟨b, h1.1, by simp [h2, h1.2]⟩
  · rintro ⟨t, h0, h1⟩
    simp only [Bool.or_eq_true, Bool.and_eq_true] at h1
    rcases h1 with ⟨h1, h2⟩ | ⟨h1, h2⟩
    · exact ⟨t, by omega, by rw [lv_bit0 ρ k own ra t (by omega) _ ht]; simp [h0, h2], h1⟩
    · exact ⟨6 + t, by omega, by rw [lv_bit1 ρ k own ra t (by omega) _ ht]; simp [h0, h2], h1⟩
/-- what the class keeps of a road -/
def lk (ρ : RO) (j : Nat) (ra : Bool) : Int32 := if ρ 6 j = 0 then -nI 1 else nI (lv ρ (ρ 6 j) (ρ 7 j) ra (ρ 0 1))
section
variable {h : Mem} {r : Nat} {ρ : RO}
theorem c_lifters (W : RW ρ) (C : CRd h r ρ) {j : Nat} (ra : Bool) (hj : j < ρ 0 3) : f_X1_liftersOf h r (nI j) (nI ra.toNat) = some (lk ρ j ra) := by
  have := W.tu
  unfold f_X1_liftersOf lk
  rw [c_gate W C hj]
  rcases Decidable.em (ρ 6 j = 0) with e | e
  · simp [e, ob, nI_lit, nI_add, pk_mul, nI_eq, nI_ltI, nI_leI, if_true, if_false, if_pos, if_neg]
  · have q : iter (fun (s : Int32 × Int32) => b_X1_liftersOf_15 h r (nI j) (nI ra.toNat) s.1 s.2) FU (0, 0) = some (nI (lv ρ (ρ 6 j) (ρ 7 j) ra (ρ 0 1))) := by
      have key : ∀ n, n ≤ ρ 0 1 → lv ρ (ρ 6 j) (ρ 7 j) ra n < 4096 := fun n hn => lvv_lt _ _ _ _ n (by omega)
      refine iter_for (fun i => (nI (lv ρ (ρ 6 j) (ρ 7 j) ra i), nI i)) (ρ 0 1) (FU_lt (by omega)) (fun i hi => ?_) ?_
      · have h0 := key i (by omega)
        have h1 : 2 ^ i ≤ 2 ^ 5 := two_le (by omega)
        have h2 : 2 ^ (6 + i) ≤ 2 ^ 11 := two_le (by omega)
        have h3 : (lv ρ (ρ 6 j) (ρ 7 j) ra i ||| 2 ^ i) < 2 ^ 12 := Nat.or_lt_two_pow h0 (by omega)
        have c0 := c_lifted W C false ra hj e hi
        have c1 := c_lifted W C true ra hj e hi
        have v0 := h_voice h false (show i < 6 by omega)
        have v1 := h_voice h true (show i < 6 by omega)
        simp only [Bool.toNat_false, Bool.toNat_true] at c0 c1 v0 v1
        unfold b_X1_liftersOf_15 f_X1_liftersOf_45 f_X1_liftersOf_66
        simp (disch := omega) only [ob, nI_lit, nI_add, pk_mul, nI_eq, nI_ltI, nI_leI, if_true, if_false, if_pos, if_neg, gI_of (tR C.rd), C.sc, c0, c1, v0, v1, nI_b0]
        show _ = some (Sum.inl (nI ((lv ρ (ρ 6 j) (ρ 7 j) ra i ||| _) ||| _), _))
        rcases lf ρ (ρ 6 j) (ρ 7 j) i false ra with _ | _ <;> rcases lf ρ (ρ 6 j) (ρ 7 j) i true ra with _ | _ <;> simp (disch := omega) [nI_or, Bool.toNat, ob, nI_lit, nI_add, pk_mul, nI_eq, nI_ltI, nI_leI, if_true, if_false, if_pos, if_neg]
      · unfold b_X1_liftersOf_15
        simp (disch := omega) only [ob, nI_lit, nI_add, pk_mul, nI_eq, nI_ltI, nI_leI, if_true, if_false, if_pos, if_neg, gI_of (tR C.rd), C.sc]
    simp only [nI_lit] at q
    simp [e, ob, nI_lit, nI_add, pk_mul, nI_eq, nI_ltI, nI_leI, if_true, if_false, if_pos, if_neg, q]
end
