section
variable {h : Mem} {p : Nat} {ρ τ : RO}
theorem PV.below (P : PV ρ τ) {a c : Nat} (ha : a < 7) (hc : c < 7) (h13 : ρ 13 (7 * a + c) ≠ 0) : a < ρ 0 2 ∧ c < ρ 0 2 ∧ ∃ j, j < ρ 0 3 ∧ ρ 13 (7 * a + c) = j + 1 ∧ ((ρ 3 j = a ∧ ρ 4 j = c) ∨ (ρ 3 j = c ∧ ρ 4 j = a)) := by
  rcases Nat.lt_or_ge a (ρ 0 2) with x | x
  · rcases Nat.lt_or_ge c (ρ 0 2) with y | y
    · rcases P.rw.bt a c x y with z | z
      · exact absurd z h13
      · exact ⟨x, y, z⟩
    · exact absurd (P.zb a c (Or.inr y) ha hc) h13
  · exact absurd (P.zb a c (Or.inl x) ha hc) h13
/-- a road lies both ways -/
theorem PV.sym (P : PV ρ τ) {a c : Nat} (ha : a < 7) (hc : c < 7) (h13 : ρ 13 (7 * a + c) ≠ 0) : ρ 13 (7 * c + a) = ρ 13 (7 * a + c) := by
  obtain ⟨-, -, j, h1, h2, h3⟩ := P.below ha hc h13
  have b1 := P.rw.b1 j h1
  have b2 := P.rw.b2 j h1
  rcases h3 with ⟨e1, e2⟩ | ⟨e1, e2⟩
  · rw [e1, e2] at b2
    omega
  · rw [e1, e2] at b1
    omega
theorem MB.road (B : MB h p ρ τ) (P : PV ρ τ) {x y m : Nat} (hx : x < ρ 0 2) (hy : y < ρ 0 2) (hne : x ≠ y) (h13 : ρ 13 (7 * x + y) = 0) (hR : ρ 0 3 < 10) : MB (wI (wI (wI (wI (wI h (p + 3) (7 * x + y) (nI m)) (p + 3) (7 * y + x) (nI m)) (p + 6) (ρ 0 3) (nI x)) (p + 7) (ρ 0 3) (nI y)) p 3 (nI (ρ 0 3 + 1))) p (roadR ρ x y m) τ := by
  have h7 := P.rw.pl
  have a0 : ∀ k, roadR ρ x y m 0 k = if k = 3 then ρ 0 3 + 1 else ρ 0 k := fun k => by simp [roadR]
  have a3 : ∀ k, roadR ρ x y m 3 k = if k = ρ 0 3 then x else ρ 3 k := fun k => by simp [roadR]
  have a4 : ∀ k, roadR ρ x y m 4 k = if k = ρ 0 3 then y else ρ 4 k := fun k => by simp [roadR]
  have a5 : ∀ k, roadR ρ x y m 5 k = if k = ρ 0 3 then m else ρ 5 k := fun k => by simp [roadR]
  have a13 : ∀ k, roadR ρ x y m 13 k = if k = 7 * x + y ∨ k = 7 * y + x then ρ 0 3 + 1 else ρ 13 k := fun k => by simp [roadR]
  have er : ∀ a, a ≠ 0 → a ≠ 3 → a ≠ 4 → a ≠ 5 → a ≠ 13 → roadR ρ x y m a = ρ a := fun a h0 h3 h4 h5 h6 => by
    funext k
    simp [roadR, h0, h3, h4, h5, h6]
  have h31 : ρ 13 (7 * y + x) = 0 := by
    rcases Nat.eq_zero_or_pos (ρ 13 (7 * y + x)) with z | z
    · exact z
    · have := P.sym (a := y) (c := x) (by omega) (by omega) (by omega)
      omega
  have b0 : roadR ρ x y m 0 0 = ρ 0 0 := a0 0
  have b1 : roadR ρ x y m 0 1 = ρ 0 1 := a0 1
  have b3 : roadR ρ x y m 0 3 = ρ 0 3 + 1 := a0 3
  have b5 : roadR ρ x y m 0 5 = ρ 0 5 := a0 5
  have b6 : roadR ρ x y m 0 6 = ρ 0 6 := a0 6
  have b8 : roadR ρ x y m 0 8 = ρ 0 8 := a0 8
  have eN : ∀ k, 1 ≤ k → k ≠ 3 → k ≠ 6 → k ≠ 7 → mI (wI (wI (wI (wI (wI h (p + 3) (7 * x + y) (nI m)) (p + 3) (7 * y + x) (nI m)) (p + 6) (ρ 0 3) (nI x)) (p + 7) (ρ 0 3) (nI y)) p 3 (nI (ρ 0 3 + 1))) (p + k) = mI h (p + k) := fun k h1 h2 h3 h4 => by
    rw [mI_wI_ne _ _ _ (by omega), mI_wI_ne _ _ _ (by omega), mI_wI_ne _ _ _ (by omega), mI_wI_ne _ _ _ (by omega), mI_wI_ne _ _ _ (by omega)]
  have hit : ∀ a c, (7 * a + c = 7 * x + y ∨ 7 * a + c = 7 * y + x) → ρ 13 (7 * a + c) = 0 := fun a c hz => by
    rcases hz with z | z
    · rw [z]; exact h13
    · rw [z]; exact h31
  have qm' : ∀ a c, a < 7 → c < 7 → qm (roadR ρ x y m) a c = if 7 * a + c = 7 * x + y ∨ 7 * a + c = 7 * y + x then m else qm ρ a c := fun a c ha hc => by
    unfold qm
    rw [a13]
    rcases Decidable.em (7 * a + c = 7 * x + y ∨ 7 * a + c = 7 * y + x) with z | z
    · simp only [if_pos z]
      rw [if_neg (by omega), Nat.add_sub_cancel, a5, if_pos rfl]
    · simp only [if_neg z]
      rcases Decidable.em (ρ 13 (7 * a + c) = 0) with w | w
      · rw [if_pos w, if_pos w]
      · obtain ⟨-, -, j, j1, j2, -⟩ := P.below ha hc w
        rw [if_neg w, if_neg w, a5, if_neg (by omega)]
  have qk' : ∀ a c, a < 7 → c < 7 → qk (roadR ρ x y m) a c = qk ρ a c := fun a c ha hc => by
    unfold qk
    rw [a13, er 6 (by decide) (by decide) (by decide) (by decide) (by decide)]
    rcases Decidable.em (7 * a + c = 7 * x + y ∨ 7 * a + c = 7 * y + x) with z | z
    · simp only [if_pos z]
      rw [if_neg (by omega), Nat.add_sub_cancel, P.k0 _ (Nat.le_refl _), if_pos (hit a c z)]
    · simp only [if_neg z]
  have qt' : ∀ a c, a < 7 → c < 7 → qk ρ a c ≠ 0 → qt (roadR ρ x y m) a c = qt ρ a c := fun a c ha hc hk => by
    unfold qt
    rw [a13, er 7 (by decide) (by decide) (by decide) (by decide) (by decide)]
    rcases Decidable.em (7 * a + c = 7 * x + y ∨ 7 * a + c = 7 * y + x) with z | z
    · exfalso
      refine hk ?_
      unfold qk
      rw [if_pos (hit a c z)]
    · simp only [if_neg z]
  refine ⟨B.pk, ?_, fun k h1 h9 => ?_, ?_⟩
  · rw [mI_wI_at, pk_un (by decide), mI_wI_ne _ _ _ (by omega), mI_wI_ne _ _ _ (by omega), mI_wI_ne _ _ _ (by omega), mI_wI_ne _ _ _ (by omega), b0]
    exact B.rn
  · rw [a0]
    rcases Decidable.em (k = 3) with c | c
    · simp (disch := omega) only [mI_if, and_self, true_and, if_true, if_pos, c]
    · simp (disch := omega) only [mI_if, if_neg]
      exact B.sc k h1 h9
  simp only [eN 1 (by decide) (by decide) (by decide) (by decide), eN 2 (by decide) (by decide) (by decide) (by decide), eN 4 (by decide) (by decide) (by decide) (by decide), eN 5 (by decide) (by decide) (by decide) (by decide), eN 8 (by decide) (by decide) (by decide) (by decide), eN 9 (by decide) (by decide) (by decide) (by decide), eN 10 (by decide) (by decide) (by decide) (by decide), eN 11 (by decide) (by decide) (by decide) (by decide), eN 12 (by decide) (by decide) (by decide) (by decide), eN 13 (by decide) (by decide) (by decide) (by decide), eN 14 (by decide) (by decide) (by decide) (by decide), eN 15 (by decide) (by decide) (by decide) (by decide), b1, b3, b5, b6, b8, er 1 (by decide) (by decide) (by decide) (by decide) (by decide), er 2 (by decide) (by decide) (by decide) (by decide) (by decide), er 8 (by decide) (by decide) (by decide) (by decide) (by decide), er 9 (by decide) (by decide) (by decide) (by decide) (by decide), er 10 (by decide) (by decide) (by decide) (by decide) (by decide), er 11 (by decide) (by decide) (by decide) (by decide) (by decide), er 12 (by decide) (by decide) (by decide) (by decide) (by decide)]
  refine ⟨B.len, B.note, fun a c ha hc => ?_, fun a c ha hc => ?_, fun a c ha hc hk => ?_, fun j hj => ?_, fun j hj => ?_, B.i8, B.i9, B.i10, B.i11, B.at, B.co, B.kn, B.hd⟩
  · rw [qm' a c ha hc]
    rcases Decidable.em (7 * a + c = 7 * y + x) with z | z
    · rw [if_pos (Or.inr z)]
      simp (disch := omega) only [mI_if, and_self, true_and, if_true, if_pos, if_neg]
    · rcases Decidable.em (7 * a + c = 7 * x + y) with w | w
      · rw [if_pos (Or.inl w)]
        simp (disch := omega) only [mI_if, and_self, true_and, if_true, if_pos, if_neg]
      · rw [if_neg (by omega)]
        simp (disch := omega) only [mI_if, if_neg]
        exact B.min a c ha hc
  · rw [qk' a c ha hc]
    exact B.kd a c ha hc
  · rw [qk' a c ha hc] at hk
    rw [qt' a c ha hc hk]
    exact B.gt a c ha hc hk
  · rw [a3]
    rcases Decidable.em (j = ρ 0 3) with c | c
    · simp (disch := omega) only [mI_if, and_self, true_and, if_true, if_pos, if_neg, c]
    · simp (disch := omega) only [mI_if, if_neg]
      exact B.e1 j (by omega)
  · rw [a4]
    rcases Decidable.em (j = ρ 0 3) with c | c
    · simp (disch := omega) only [mI_if, and_self, true_and, if_true, if_pos, if_neg, c]
    · simp (disch := omega) only [mI_if, if_neg]
      exact B.e2 j (by omega)
theorem MB.gate (B : MB h p ρ τ) (P : PV ρ τ) {x y k0 t : Nat} (hx : x < ρ 0 2) (hy : y < ρ 0 2) (h13 : ρ 13 (7 * x + y) ≠ 0) : MB (wI (wI (wI (wI (wI h (p + 4) (7 * x + y) (nI k0)) (p + 4) (7 * y + x) (nI k0)) (p + 5) (7 * x + y) (nI t)) (p + 5) (7 * y + x) (nI t)) p 4 (nI (ρ 0 4 + 1))) p (gateR ρ (ρ 13 (7 * x + y) - 1) k0 t) τ := by
  have h7 := P.rw.pl
  obtain ⟨j0, ej⟩ : ∃ j0, ρ 13 (7 * x + y) - 1 = j0 := ⟨_, rfl⟩
  have hsym := P.sym (a := x) (c := y) (by omega) (by omega) h13
  obtain ⟨-, -, j, hj1, hj2, hj3⟩ := P.below (a := x) (c := y) (by omega) (by omega) h13
  rw [ej]
  have a0 : ∀ k, gateR ρ j0 k0 t 0 k = if k = 4 then ρ 0 4 + 1 else ρ 0 k := fun k => by simp [gateR]
  have a6 : ∀ k, gateR ρ j0 k0 t 6 k = if k = j0 then k0 + 1 else ρ 6 k := fun k => by simp [gateR]
  have a7 : ∀ k, gateR ρ j0 k0 t 7 k = if k = j0 then t else ρ 7 k := fun k => by simp [gateR]
  have er : ∀ a, a ≠ 0 → a ≠ 6 → a ≠ 7 → gateR ρ j0 k0 t a = ρ a := fun a h0 h3 h4 => by
    funext k
    simp [gateR, h0, h3, h4]
  have b0 : gateR ρ j0 k0 t 0 0 = ρ 0 0 := a0 0
  have b1 : gateR ρ j0 k0 t 0 1 = ρ 0 1 := a0 1
  have b3 : gateR ρ j0 k0 t 0 3 = ρ 0 3 := a0 3
  have b5 : gateR ρ j0 k0 t 0 5 = ρ 0 5 := a0 5
  have b6 : gateR ρ j0 k0 t 0 6 = ρ 0 6 := a0 6
  have b8 : gateR ρ j0 k0 t 0 8 = ρ 0 8 := a0 8
  have eN : ∀ k, 1 ≤ k → k ≠ 4 → k ≠ 5 → mI (wI (wI (wI (wI (wI h (p + 4) (7 * x + y) (nI k0)) (p + 4) (7 * y + x) (nI k0)) (p + 5) (7 * x + y) (nI t)) (p + 5) (7 * y + x) (nI t)) p 4 (nI (ρ 0 4 + 1))) (p + k) = mI h (p + k) := fun k h1 h2 h3 => by
    rw [mI_wI_ne _ _ _ (by omega), mI_wI_ne _ _ _ (by omega), mI_wI_ne _ _ _ (by omega), mI_wI_ne _ _ _ (by omega), mI_wI_ne _ _ _ (by omega)]
  have hit : ∀ a c, a < 7 → c < 7 → ρ 13 (7 * a + c) ≠ 0 → (ρ 13 (7 * a + c) - 1 = j0 ↔ (7 * a + c = 7 * x + y ∨ 7 * a + c = 7 * y + x)) := fun a c ha hc hz => by
    constructor
    · intro w
      obtain ⟨-, -, i, i1, i2, i3⟩ := P.below ha hc hz
      have e : i = j := by omega
      subst e
      omega
    · intro w
      rcases w with w | w
      · rw [w]; exact ej
      · rw [w, hsym]; exact ej
  have qm' : ∀ a c, qm (gateR ρ j0 k0 t) a c = qm ρ a c := qm_congr (er 13 (by decide) (by decide) (by decide)) (er 5 (by decide) (by decide) (by decide))
  have qk' : ∀ a c, a < 7 → c < 7 → qk (gateR ρ j0 k0 t) a c = if 7 * a + c = 7 * x + y ∨ 7 * a + c = 7 * y + x then k0 + 1 else qk ρ a c := fun a c ha hc => by
    unfold qk
    rw [er 13 (by decide) (by decide) (by decide), a6]
    rcases Decidable.em (ρ 13 (7 * a + c) = 0) with z | z
    · rw [if_pos z, if_pos z, if_neg]
      intro w
      rcases w with w | w
      · rw [w] at z; exact h13 z
      · rw [w, hsym] at z; exact h13 z
    · rw [if_neg z, if_neg z]
      rcases Decidable.em (7 * a + c = 7 * x + y ∨ 7 * a + c = 7 * y + x) with w | w
      · rw [if_pos w, if_pos ((hit a c ha hc z).2 w)]
      · rw [if_neg w, if_neg (fun v => w ((hit a c ha hc z).1 v))]
  have qt' : ∀ a c, a < 7 → c < 7 → ρ 13 (7 * a + c) ≠ 0 → qt (gateR ρ j0 k0 t) a c = if 7 * a + c = 7 * x + y ∨ 7 * a + c = 7 * y + x then t else qt ρ a c := fun a c ha hc z => by
    unfold qt
    rw [er 13 (by decide) (by decide) (by decide), a7, if_neg z, if_neg z]
    rcases Decidable.em (7 * a + c = 7 * x + y ∨ 7 * a + c = 7 * y + x) with w | w
    · rw [if_pos w, if_pos ((hit a c ha hc z).2 w)]
    · rw [if_neg w, if_neg (fun v => w ((hit a c ha hc z).1 v))]
  refine ⟨B.pk, ?_, fun k h1 h9 => ?_, ?_⟩
  · rw [mI_wI_at, pk_un (by decide), mI_wI_ne _ _ _ (by omega), mI_wI_ne _ _ _ (by omega), mI_wI_ne _ _ _ (by omega), mI_wI_ne _ _ _ (by omega), b0]
    exact B.rn
  · rw [a0]
    rcases Decidable.em (k = 4) with c | c
    · simp (disch := omega) only [mI_if, and_self, true_and, if_true, if_pos, c]
    · simp (disch := omega) only [mI_if, if_neg]
      exact B.sc k h1 h9
  simp only [eN 1 (by decide) (by decide) (by decide), eN 2 (by decide) (by decide) (by decide), eN 3 (by decide) (by decide) (by decide), eN 6 (by decide) (by decide) (by decide), eN 7 (by decide) (by decide) (by decide), eN 8 (by decide) (by decide) (by decide), eN 9 (by decide) (by decide) (by decide), eN 10 (by decide) (by decide) (by decide), eN 11 (by decide) (by decide) (by decide), eN 12 (by decide) (by decide) (by decide), eN 13 (by decide) (by decide) (by decide), eN 14 (by decide) (by decide) (by decide), eN 15 (by decide) (by decide) (by decide), b1, b3, b5, b6, b8, er 1 (by decide) (by decide) (by decide), er 2 (by decide) (by decide) (by decide), er 3 (by decide) (by decide) (by decide), er 4 (by decide) (by decide) (by decide), er 8 (by decide) (by decide) (by decide), er 9 (by decide) (by decide) (by decide), er 10 (by decide) (by decide) (by decide), er 11 (by decide) (by decide) (by decide), er 12 (by decide) (by decide) (by decide), qm']
  refine ⟨B.len, B.note, B.min, fun a c ha hc => ?_, fun a c ha hc hk => ?_, B.e1, B.e2, B.i8, B.i9, B.i10, B.i11, B.at, B.co, B.kn, B.hd⟩
  · rw [qk' a c ha hc]
    rcases Decidable.em (7 * a + c = 7 * x + y ∨ 7 * a + c = 7 * y + x) with w | w
    · simp only [if_pos w]
      rw [if_neg (by omega), Nat.add_sub_cancel]
      rcases Decidable.em (7 * a + c = 7 * y + x) with z | z
      · simp (disch := omega) only [mI_if, and_self, true_and, if_true, if_pos, if_neg]
      · simp (disch := omega) only [mI_if, and_self, true_and, if_true, if_pos, if_neg]
    · simp only [if_neg w]
      simp (disch := omega) only [mI_if, if_neg]
      exact B.kd a c ha hc
  · have hz : ρ 13 (7 * a + c) ≠ 0 := fun z => hk (by
      unfold qk
      rw [er 13 (by decide) (by decide) (by decide), if_pos z])
    rw [qk' a c ha hc] at hk
    rw [qt' a c ha hc hz]
    rcases Decidable.em (7 * a + c = 7 * x + y ∨ 7 * a + c = 7 * y + x) with w | w
    · simp only [if_pos w]
      rcases Decidable.em (7 * a + c = 7 * y + x) with z | z
      · simp (disch := omega) only [mI_if, and_self, true_and, if_true, if_pos, if_neg]
      · simp (disch := omega) only [mI_if, and_self, true_and, if_true, if_pos, if_neg]
    · rw [if_neg w] at hk
      simp only [if_neg w]
      simp (disch := omega) only [mI_if, if_neg]
      exact B.gt a c ha hc hk
end
