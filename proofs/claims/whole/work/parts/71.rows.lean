/-! ===== songs: rows of notes, apart from any memory ===== -/
theorem lx_irr : ∀ x : List Nat, lx x x = false
  | [] => rfl
  | a :: s => by
    have := lx_irr s
    simp [lx, this]
theorem lx_tr : ∀ x y z : List Nat, lx x y = true → lx y z = true → lx x z = true
  | [], _, _ => fun h _ => by simp [lx] at h
  | _ :: _, [], _ => fun h _ => by simp [lx] at h
  | _ :: _, _ :: _, [] => fun _ h => by simp [lx] at h
  | a :: s, b :: t, c :: u => fun h1 h2 => by
    simp only [lx, Bool.or_eq_true, Bool.and_eq_true, decide_eq_true_eq] at *
    rcases h1 with h1 | ⟨h1, k1⟩ <;> rcases h2 with h2 | ⟨h2, k2⟩
    · exact Or.inl (by omega)
    · exact Or.inl (by omega)
    · exact Or.inl (by omega)
    · exact Or.inr ⟨by omega, lx_tr s t u k1 k2⟩
theorem lx_tot : ∀ x y : List Nat, x.length = y.length → lx x y = false → lx y x = false → x = y
  | [], [], _, _, _ => rfl
  | [], _ :: _, h, _, _ => by simp at h
  | _ :: _, [], h, _, _ => by simp at h
  | a :: s, b :: t, h, h1, h2 => by
    simp only [lx, Bool.or_eq_false_iff, Bool.and_eq_false_iff, decide_eq_false_iff_not] at h1 h2
    have e : a = b := by omega
    subst e
    rcases h1.2 with q | q
    · exact absurd rfl q
    · rcases h2.2 with q2 | q2
      · exact absurd rfl q2
      · rw [lx_tot s t (by simpa using h) q q2]
theorem lx_pre (x y : List Nat) : ∀ p : List Nat, lx (p ++ x) (p ++ y) = lx x y
  | [] => rfl
  | a :: s => by
    have := lx_pre x y s
    simp [lx, this]
theorem bt2_iff (x y : List Nat) : bt2 x y = true ↔ x.length < y.length ∨ (x.length = y.length ∧ lx x y = true) := by
  simp [bt2]
theorem bt2_irr (x : List Nat) : bt2 x x = false := by simp [bt2, lx_irr]
theorem bt2_tr {x y z : List Nat} (h1 : bt2 x y = true) (h2 : bt2 y z = true) : bt2 x z = true := by
  rw [bt2_iff] at *
  rcases h1 with h1 | ⟨h1, k1⟩ <;> rcases h2 with h2 | ⟨h2, k2⟩
  · exact Or.inl (by omega)
  · exact Or.inl (by omega)
  · exact Or.inl (by omega)
  · exact Or.inr ⟨by omega, lx_tr _ _ _ k1 k2⟩
theorem bt2_tot {x y : List Nat} (h1 : bt2 x y = false) (h2 : bt2 y x = false) : x = y := by
  have a1 : ¬ bt2 x y = true := by rw [h1]; decide
  have a2 : ¬ bt2 y x = true := by rw [h2]; decide
  rw [bt2_iff] at a1 a2
  have e : x.length = y.length := by omega
  refine lx_tot x y e ?_ ?_
  · cases q : lx x y
    · rfl
    · exact absurd (Or.inr ⟨e, q⟩) a1
  · cases q : lx y x
    · rfl
    · exact absurd (Or.inr ⟨e.symm, q⟩) a2
theorem bt2_neg {x y z : List Nat} (h1 : bt2 x y = false) (h2 : bt2 y z = false) : bt2 x z = false := by
  cases q : bt2 x z
  · rfl
  · cases q2 : bt2 y x
    · have := bt2_tot h1 q2
      subst this
      rw [q] at h2
      cases h2
    · have := bt2_tr q2 q
      rw [this] at h2
      cases h2
theorem bt2_neg2 {x y z : List Nat} (h1 : bt2 x z = false) (h2 : bt2 y z = true) : bt2 x y = false := by
  cases q : bt2 x y
  · rfl
  · rw [bt2_tr q h2] at h1
    cases h1
theorem bt2_pre (p x y : List Nat) : bt2 (p ++ x) (p ++ y) = bt2 x y := by
  have e : bt2 (p ++ x) (p ++ y) = true ↔ bt2 x y = true := by
    rw [bt2_iff, bt2_iff, List.length_append, List.length_append, lx_pre]
    constructor <;> rintro (h | ⟨h, k⟩)
    · exact Or.inl (by omega)
    · exact Or.inr ⟨by omega, k⟩
    · exact Or.inl (by omega)
    · exact Or.inr ⟨by omega, k⟩
  cases q : bt2 x y
  · rw [q] at e
    cases q2 : bt2 (p ++ x) (p ++ y)
    · rfl
    · exact absurd (e.1 q2) (by decide)
  · exact e.2 q
/-- a tune's notes -/
def row (ρ : RO) (t : Nat) : List Nat := tl ρ t 0
section
variable {ρ : RO}
theorem tl_len (t o : Nat) : (tl ρ t o).length = ρ 1 t - o := by simp [tl]
theorem row_len (t : Nat) : (row ρ t).length = ρ 1 t := by simp [row, tl]
theorem tl_at {t o i : Nat} (h : i < (tl ρ t o).length) : (tl ρ t o)[i] = ρ 2 (8 * t + (o + i)) := by simp [tl]
theorem row_at {t i : Nat} (h : i < (row ρ t).length) : (row ρ t)[i] = ρ 2 (8 * t + i) := by simp [row, tl]
theorem tl_drop (t o : Nat) : tl ρ t o = (row ρ t).drop o := by
  refine List.ext_getElem (by rw [tl_len, List.length_drop, row_len]) (fun i h1 h2 => ?_)
  rw [tl_at h1, List.getElem_drop, row_at]
theorem ak_iff (t f u n : Nat) : ak ρ t f u n = true ↔ ∀ i, i < n → ρ 2 (8 * t + (f + i)) = ρ 2 (8 * u + i) := by
  unfold ak
  cases q : ex (fun i => decide (ρ 2 (8 * t + (f + i)) ≠ ρ 2 (8 * u + i))) n
  · refine ⟨fun _ i hi => ?_, fun _ => rfl⟩
    rcases Decidable.em (ρ 2 (8 * t + (f + i)) = ρ 2 (8 * u + i)) with e | e
    · exact e
    · rw [ex_iff.2 ⟨i, hi, decide_eq_true e⟩] at q
      cases q
  · obtain ⟨i, hi, e⟩ := ex_iff.1 q
    refine ⟨(fun h => by cases h), fun h => ?_⟩
    exact absurd (h i hi) (by simpa using e)
theorem sn_iff (t u : Nat) (h1 : 1 ≤ ρ 1 t) : sn ρ t u = true ↔ row ρ t <:+: row ρ u := by
  unfold sn
  constructor
  · intro h
    obtain ⟨f, hf, e⟩ := ex_iff.1 h
    rw [ak_iff] at e
    refine ⟨(row ρ u).take f, (row ρ u).drop (f + ρ 1 t), ?_⟩
    refine List.ext_getElem ?_ (fun i a b => ?_)
    · simp only [List.length_append, List.length_take, List.length_drop, row_len]
      omega
    · rw [row_at b]
      rcases Decidable.em (i < f) with q | q
      · rw [List.getElem_append_left (by simp only [List.length_append, List.length_take, row_len]; omega), List.getElem_append_left (by simp only [List.length_take, row_len]; omega), List.getElem_take, row_at]
      · rw [row_len] at b
        rcases Decidable.em (i < f + ρ 1 t) with q2 | q2
        · rw [List.getElem_append_left (by simp only [List.length_append, List.length_take, row_len]; omega), List.getElem_append_right (by simp only [List.length_take, row_len]; omega), row_at, ← e _ (by simp only [List.length_take, row_len]; omega)]
          simp only [List.length_take, row_len]
          congr 2
          omega
        · rw [List.getElem_append_right (by simp only [List.length_append, List.length_take, row_len]; omega), List.getElem_drop, row_at]
          simp only [List.length_append, List.length_take, row_len]
          congr 2
          omega
  · rintro ⟨s, r, e⟩
    have hl := congrArg List.length e
    simp only [List.length_append, row_len] at hl
    refine ex_iff.2 ⟨s.length, by omega, ?_⟩
    rw [ak_iff]
    intro i hi
    have q : (row ρ u)[s.length + i]'(by rw [row_len]; omega) = (row ρ t)[i]'(by rw [row_len]; omega) := by
      simp only [← e]
      rw [List.getElem_append_left (by simp only [List.length_append, row_len]; omega), List.getElem_append_right (by omega)]
      congr 1
      omega
    rw [row_at, row_at] at q
    exact q
end
