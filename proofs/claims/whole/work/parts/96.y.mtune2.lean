section
variable {h0 : Mem} {p : Nat} {b : Nat → Nat} {n : Nat} {ρ τ : RO} {i : Nat} {h : Mem}
theorem MB.nr1 (B : MB h p ρ τ) (W : RW ρ) (b : Nat → Nat) (a m k : Nat) : MB (nr h (p + 2) b a (ρ 0 1) m k) p ρ τ := by
  have eN : ∀ j, j ≠ 2 → mI (nr h (p + 2) b a (ρ 0 1) m k) (p + j) = mI h (p + j) := fun j hj => nr_ne _ _ _ _ _ _ _ (by omega)
  have e0 : mI (nr h (p + 2) b a (ρ 0 1) m k) p = mI h p := eN 0 (by decide)
  refine ⟨B.pk, ?_⟩
  rw [e0, eN 1 (by decide), eN 3 (by decide), eN 4 (by decide), eN 5 (by decide), eN 6 (by decide), eN 7 (by decide), eN 8 (by decide), eN 9 (by decide), eN 10 (by decide), eN 11 (by decide), eN 12 (by decide), eN 13 (by decide), eN 14 (by decide), eN 15 (by decide)]
  refine ⟨B.rn, B.sc, B.len, fun t i ht hi => ?_, B.min, B.kd, B.gt, B.e1, B.e2, B.i8, B.i9, B.i10, B.i11, B.at, B.co, B.kn, B.hd⟩
  have := (W.len t ht).2
  rw [nr_at, if_neg (by omega)]
  exact B.note t i ht hi
theorem MB.len1 (B : MB h p ρ τ) (v : Nat) : MB (wI h (p + 1) (ρ 0 1) (nI v)) p ρ τ := by
  have eN : ∀ j, j ≠ 1 → mI (wI h (p + 1) (ρ 0 1) (nI v)) (p + j) = mI h (p + j) := fun j hj => mI_wI_ne _ _ _ (by omega)
  have e0 : mI (wI h (p + 1) (ρ 0 1) (nI v)) p = mI h p := eN 0 (by decide)
  refine ⟨B.pk, ?_⟩
  rw [e0, eN 2 (by decide), eN 3 (by decide), eN 4 (by decide), eN 5 (by decide), eN 6 (by decide), eN 7 (by decide), eN 8 (by decide), eN 9 (by decide), eN 10 (by decide), eN 11 (by decide), eN 12 (by decide), eN 13 (by decide), eN 14 (by decide), eN 15 (by decide)]
  refine ⟨B.rn, B.sc, fun t ht => ?_, B.note, B.min, B.kd, B.gt, B.e1, B.e2, B.i8, B.i9, B.i10, B.i11, B.at, B.co, B.kn, B.hd⟩
  rw [mI_if, if_neg (by omega)]
  exact B.len t ht
theorem MB.tune (B : MB h p ρ τ) (W : RW ρ) (b : Nat → Nat) (n i : Nat) (hl : mI h (p + 1) (ρ 0 1) = nI (tL b n i)) (hn : ∀ j, j < tL b n i → mI h (p + 2) (8 * ρ 0 1 + j) = nI (b (sp b n i + j) - 97)) : MB (wI h p 1 (nI (ρ 0 1 + 1))) p (noteR b n ρ i) τ := by
  have a0 : ∀ k, noteR b n ρ i 0 k = if k = 1 then ρ 0 1 + 1 else ρ 0 k := fun k => by simp [noteR]
  have a1 : ∀ k, noteR b n ρ i 1 k = if k = ρ 0 1 then tL b n i else ρ 1 k := fun k => by simp [noteR]
  have a2 : ∀ k, noteR b n ρ i 2 k = if 8 * ρ 0 1 ≤ k ∧ k < 8 * ρ 0 1 + tL b n i then b (sp b n i + (k - 8 * ρ 0 1)) - 97 else ρ 2 k := fun k => by simp [noteR]
  have er : ∀ a, a ≠ 0 → a ≠ 1 → a ≠ 2 → noteR b n ρ i a = ρ a := fun a h0 h1 h2 => by
    funext k
    simp [noteR, h0, h1, h2]
  have b0 : noteR b n ρ i 0 0 = ρ 0 0 := a0 0
  have b1 : noteR b n ρ i 0 1 = ρ 0 1 + 1 := a0 1
  have b3 : noteR b n ρ i 0 3 = ρ 0 3 := a0 3
  have b5 : noteR b n ρ i 0 5 = ρ 0 5 := a0 5
  have b6 : noteR b n ρ i 0 6 = ρ 0 6 := a0 6
  have b8 : noteR b n ρ i 0 8 = ρ 0 8 := a0 8
  have eN : ∀ k, 1 ≤ k → mI (wI h p 1 (nI (ρ 0 1 + 1))) (p + k) = mI h (p + k) := fun k h1 => mI_wI_ne _ _ _ (by omega)
  have qm' : ∀ a c, qm (noteR b n ρ i) a c = qm ρ a c := qm_congr (er 13 (by decide) (by decide) (by decide)) (er 5 (by decide) (by decide) (by decide))
  have qk' : ∀ a c, qk (noteR b n ρ i) a c = qk ρ a c := qk_congr (er 13 (by decide) (by decide) (by decide)) (er 6 (by decide) (by decide) (by decide))
  have qt' : ∀ a c, qt (noteR b n ρ i) a c = qt ρ a c := qt_congr (er 13 (by decide) (by decide) (by decide)) (er 7 (by decide) (by decide) (by decide))
  refine ⟨B.pk, ?_, fun k h1 h9 => ?_, ?_⟩
  · rw [mI_wI_at, pk_un (by decide), b0]
    exact B.rn
  · rw [a0]
    rcases Decidable.em (k = 1) with c | c
    · simp (disch := omega) only [mI_if, and_self, true_and, if_true, if_pos, c]
    · simp (disch := omega) only [mI_if, if_neg]
      exact B.sc k h1 h9
  simp only [eN 1 (by decide), eN 2 (by decide), eN 3 (by decide), eN 4 (by decide), eN 5 (by decide), eN 6 (by decide), eN 7 (by decide), eN 8 (by decide), eN 9 (by decide), eN 10 (by decide), eN 11 (by decide), eN 12 (by decide), eN 13 (by decide), eN 14 (by decide), eN 15 (by decide), b1, b3, b5, b6, b8, er 3 (by decide) (by decide) (by decide), er 4 (by decide) (by decide) (by decide), er 8 (by decide) (by decide) (by decide), er 9 (by decide) (by decide) (by decide), er 10 (by decide) (by decide) (by decide), er 11 (by decide) (by decide) (by decide), er 12 (by decide) (by decide) (by decide), qm', qk', qt']
  refine ⟨fun t ht => ?_, fun t j ht hj => ?_, B.min, B.kd, B.gt, B.e1, B.e2, B.i8, B.i9, B.i10, B.i11, B.at, B.co, B.kn, B.hd⟩
  · rw [a1]
    rcases Decidable.em (t = ρ 0 1) with c | c
    · rw [if_pos c, c]
      exact hl
    · rw [if_neg c]
      exact B.len t (by omega)
  · rw [a1] at hj
    rw [a2]
    rcases Decidable.em (t = ρ 0 1) with c | c
    · rw [if_pos c] at hj
      rw [if_pos (by omega), c, hn j hj, Nat.add_sub_cancel_left]
    · rw [if_neg c] at hj
      have := (W.len t (by omega)).2
      rw [if_neg (by omega)]
      exact B.note t j (by omega) hj
end
