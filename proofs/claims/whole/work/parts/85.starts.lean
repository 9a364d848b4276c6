/-! ===== the constructors ===== -/
def st11 : Option Mem := f_X11_init (mNew h00 9 0) 1
theorem st11_s : st11.isSome = true := by decide +kernel
def h11 : Mem := st11.get st11_s
def st13 : Option Mem := f_X13_init (mNew h11 11 0) 55
theorem st13_s : st13.isSome = true := by decide +kernel
def h13 : Mem := st13.get st13_s
def hS : Mem := mNew h13 101 1
theorem hS_t : ∀ a, a < 69 → mT hS a = T0L.getD a (99, 0) := by decide +kernel
theorem hS_r : ∀ q ∈ R0L, mR hS q.1 q.2.1 = q.2.2 := by decide +kernel
theorem hS_n : mN h11 = 55 ∧ mN h13 = 68 ∧ 69 ≤ mN hS := by decide +kernel
theorem hS_sh : SH hS := ⟨hS_t, hS_r, hS_n.2.2⟩
theorem hS_rd : RD hS 2 := by
  unfold RD
  decide +kernel
theorem hS_1 : mR hS 1 1 = 2 ∧ mR hS 14 6 = 21 ∧ mR hS 55 3 = 0 := by decide +kernel
theorem hS_2 : ∀ k, k < 9 → mI hS 2 k = nI 0 := by decide +kernel
theorem hS_34 : ∀ x, x < 21 → mI hS 34 x = nI 0 ∧ mI hS 57 x = nI 0 := by decide +kernel
theorem hS_me : ∀ k, k < 20 → mL hS 16 k = lN (me k) := by decide +kernel
theorem hS_44 : ∀ u, u < 6 → mI hS 44 (36 + u) = nI 0 := by decide +kernel
theorem hS_x : mI hS 33 3 = nI 0 ∧ mI hS 33 4 = nI 0 ∧ mI hS 33 5 = nI 0 ∧ mI hS 14 15 = nI 0 ∧ mI hS 14 16 = nI 0 ∧ mI hS 14 17 = nI 0 - nI 1 ∧ mI hS 43 3 = nI 0 ∧ mI hS 48 0 = nI 0 := by decide +kernel
theorem hS_y : mI hS 55 19 = nI 0 ∧ mI hS 55 20 = nI 0 ∧ mI hS 55 6 = nI 0 ∧ mI hS 55 12 = nI 0 ∧ mI hS 65 0 = nI 0 ∧ mI hS 1 0 = nI 0 ∧ mI hS 55 1 = nI 0 ∧ mI hS 55 2 = -nI 1 := by decide +kernel
/-- the state at the start -/
def a00 : AB := fun i j k => if i = 2 ∧ j = 0 ∧ k = 0 then 2 else if i = 2 ∧ j = 0 ∧ k = 1 then 21 else 0
theorem a00_0 (j k : Nat) : a00 0 j k = 0 := by
  unfold a00
  rw [if_neg (by omega), if_neg (by omega)]
theorem a00_1 (j k : Nat) : a00 1 j k = 0 := by
  unfold a00
  rw [if_neg (by omega), if_neg (by omega)]
theorem a00_rw : RW (a00 0) := by
  refine ⟨fun i j => ?_, ?_, ?_, ?_, ?_, ?_, ?_, ?_, ?_, ?_, ?_, ?_, ?_, ?_, ?_, ?_, ?_, ?_, ?_, ?_⟩ <;> simp only [a00_0] <;> first | omega | (intros; omega)
theorem a00_nf : NF (a00 0) (a00 1) := by
  refine ⟨?_, ?_, ?_, ?_, ?_⟩ <;> simp only [a00_0, a00_1] <;> first | omega | (intros; omega)
theorem inv_hS : INV hS := by
  have f1 := hS_sh
  have f2 := hS_rd
  obtain ⟨f3, f4, f5⟩ := hS_1
  have f6 := hS_2
  have f7 := hS_34
  have f8 := hS_me
  have f9 := hS_44
  obtain ⟨i33, i34, i35, i15, i16, i17, i43, i48⟩ := hS_x
  obtain ⟨y19, y20, y6, y12, y65, z1, z2, z3⟩ := hS_y
  have e0 : a00 2 0 0 = 2 ∧ a00 2 0 1 = 21 ∧ a00 2 0 3 = 0 ∧ a00 2 0 4 = 0 ∧ a00 2 0 5 = 0 ∧ a00 2 0 6 = 0 ∧ a00 2 0 7 = 0 ∧ a00 2 0 8 = 0 := by decide
  obtain ⟨x0, x1, x3, x4, x5, x6, x7, x8⟩ := e0
  have ep : pm (a00 0) 6 0 = 0 := rfl
  have n0 : ∀ k p : Nat, k ≤ 0 → p < 0 → False := fun _ _ _ q => by omega
  have A0 := a00_0
  have A1 := a00_1
  have R := a00_rw
  have N := a00_nf
  generalize hS = h at *
  refine ⟨a00, 0, ?_, ?_, ?_, ?_⟩
  · generalize a00 = a at *
    refine ⟨R, N, Or.inl ⟨x0, x1⟩, ?_, ?_, ?_, ?_, ?_, ?_, ?_, ?_, ?_, fun _ => ⟨x3, x5, A0, A1 5 0⟩⟩
    all_goals first | omega | (intros; omega)
  · generalize a00 = a at *
    refine ⟨⟨f1, ?_, ⟨?_, ?_, ?_, ?_, ?_, ?_, ?_, ?_, ?_, ?_, ?_, ?_⟩, ?_, ?_⟩, ⟨?_, ?_⟩, ?_, ?_, ?_, ?_, ?_, ?_, ?_, ?_, ?_, ?_, f8, ⟨f9, 0, by decide, i43, fun q => absurd rfl q⟩, ⟨?_, ?_⟩, ⟨?_, ?_⟩⟩
    · rw [x0]; exact f3
    · rw [x0]; exact f2
    · intro k hk; rw [A0, x0]; exact f6 k hk
    all_goals first | (intro t ht; rw [A0] at ht; omega) | (intro t u ht; rw [A0] at ht; omega) | skip
    · intro x w hx hw; rw [A1]; exact (f7 _ (by omega)).1
    · rw [A1]; exact (f7 20 (by decide)).1
    · rw [x3]; exact i34
    · rw [x4]; exact i33
    · rw [x5]; exact i35
    · intro j hj; rw [x3] at hj; omega
    · intro j hj; rw [x5] at hj; omega
    · rw [x6]; exact i15
    · intro j hj; rw [x6] at hj; omega
    · rw [x7]; exact i16
    · rw [x8]; exact i17
    · rw [x1]; exact f4
    · rw [A0]; show mI h 48 0 = nI (pm (a 0) 6 0); rw [ep]; exact i48
    · intro k p hk hp; rw [A0] at hp; omega
    · intro k p hk hp; rw [A0] at hp; omega
  · generalize a00 = a at *
    refine ⟨f1, Or.inl ⟨A0 0 2, f5⟩, ⟨?_, ?_⟩, ?_, ?_, ?_, ?_, ?_, ?_, ?_, y65⟩
    · intro x w hx hw; rw [A1]; exact (f7 _ (by omega)).2
    · rw [A1]; exact (f7 20 (by decide)).2
    · rw [x3]; exact y19
    · rw [x5]; exact y20
    · intro j hj; rw [x3] at hj; omega
    · intro j hj; rw [x5] at hj; omega
    · rw [x6]; exact y6
    · intro j hj; rw [x6] at hj; omega
    · rw [x7]; exact y12
  · exact ⟨by decide, z1, z2, by rw [if_neg (by decide)]; exact z3⟩
theorem starts : Starts INV := by
  have e1 : f_X11_init (mNew h00 9 0) 1 = some h11 := (Option.some_get st11_s).symm
  have e2 : f_X13_init (mNew h11 11 0) 55 = some h13 := (Option.some_get st13_s).symm
  exact ⟨h11, e1, hS_n.1, h13, e2, hS_n.2.1, inv_hS⟩
