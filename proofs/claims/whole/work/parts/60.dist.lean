/-! ===== the fewest minutes, apart from any memory ===== -/
theorem cn_s (P : Nat → Bool) (n : Nat) : cn P (n + 1) = cn P n + (P n).toNat := rfl
theorem cn_mono {P Q : Nat → Bool} : ∀ {n : Nat}, (∀ i, i < n → Q i = true → P i = true) → cn Q n ≤ cn P n
  | 0, _ => Nat.le_refl _
  | n + 1, h => by
    have ih := cn_mono (n := n) (fun i hi => h i (by omega))
    have hn := h n (by omega)
    rw [cn_s, cn_s]
    cases hq : Q n
    · show _ + 0 ≤ _
      omega
    · rw [hn hq]
      omega
theorem cn_lt {P Q : Nat → Bool} : ∀ {n : Nat}, (∀ i, i < n → Q i = true → P i = true) → (∃ i, i < n ∧ P i = true ∧ Q i = false) → cn Q n < cn P n
  | 0, _, h2 => by
    obtain ⟨i, hi, -⟩ := h2
    omega
  | n + 1, h, h2 => by
    obtain ⟨i, hi, h3, h4⟩ := h2
    have hm := cn_mono (n := n) (fun i hi => h i (by omega))
    rw [cn_s, cn_s]
    rcases Decidable.em (i = n) with e | e
    · subst e
      rw [h3, h4]
      show _ + 0 < _ + 1
      omega
    · have ih := cn_lt (n := n) (fun i hi => h i (by omega)) ⟨i, by omega, h3, h4⟩
      have hn := h n (by omega)
      cases hq : Q n
      · show _ + 0 < _
        omega
      · rw [hn hq]
        omega
theorem cn_0 {P : Nat → Bool} : ∀ {n : Nat}, cn P n = 0 → ∀ i, i < n → P i = false
  | 0, _, i, hi => by omega
  | n + 1, h, i, hi => by
    rw [cn_s] at h
    rcases Decidable.em (i = n) with e | e
    · subst e
      cases hp : P i
      · rfl
      · rw [hp] at h
        exact absurd h (by show ¬ (_ + 1 = 0); omega)
    · exact cn_0 (n := n) (by omega) i (by omega)
/-- rounds that settle one more each, the nearest first, until none is left -/
theorem settle (n : Nat) (U : Nat → Nat → Bool) (μ : Nat → Nat) {g : Nat} (hg : g < n) (h0 : U 0 g = false) (hm : ∀ k p, p < n → U (k + 1) p = true → U k p = true) (hs : ∀ k p, p < n → U k p = true → U (k + 1) p = false ∨ ∃ m, m < n ∧ μ m < μ p ∧ U k m = true) : ∀ p, p < n → U n p = false := by
  have step : ∀ k, (∃ p, p < n ∧ U k p = true) → ∃ p, p < n ∧ U k p = true ∧ U (k + 1) p = false := by
    intro k
    have aux : ∀ d p, μ p ≤ d → p < n → U k p = true → ∃ p, p < n ∧ U k p = true ∧ U (k + 1) p = false := by
      intro d
      induction d with
      | zero =>
        intro p hd hp hu
        rcases hs k p hp hu with q | ⟨m, hm1, hm2, hm3⟩
        · exact ⟨p, hp, hu, q⟩
        · omega
      | succ d ih =>
        intro p hd hp hu
        rcases hs k p hp hu with q | ⟨m, hm1, hm2, hm3⟩
        · exact ⟨p, hp, hu, q⟩
        · exact ih m (by omega) hm1 hm3
    rintro ⟨p, hp, hu⟩
    exact aux _ p (Nat.le_refl _) hp hu
  have cnt : ∀ k, cn (U k) n + k < n ∨ cn (U k) n = 0 := by
    intro k
    induction k with
    | zero =>
      left
      have h1 : cn (U 0) n < cn (fun _ => true) n := cn_lt (fun _ _ _ => rfl) ⟨g, hg, rfl, h0⟩
      have h2 := cn_le (fun _ => true) n
      omega
    | succ k ih =>
      rcases Nat.eq_zero_or_pos (cn (U (k + 1)) n) with e | e
      · exact Or.inr e
      · left
        have h1 : ∃ p, p < n ∧ U (k + 1) p = true := by
          rcases hx : ex (U (k + 1)) n with _ | _
          · have : cn (U (k + 1)) n = 0 := by
              have h9 : ∀ i, i < n → U (k + 1) i = false := by
                intro i hi
                cases hp : U (k + 1) i
                · rfl
                · have := ex_iff.mpr ⟨i, hi, hp⟩
                  rw [hx] at this
                  cases this
              rw [cn_su]
              exact su_0 (fun i hi => by rw [h9 i hi]; rfl)
            omega
          · exact ex_iff.mp hx
        obtain ⟨p, hp, hu⟩ := h1
        have h2 := step k ⟨p, hp, hm k p hp hu⟩
        have h3 := cn_lt (P := U k) (Q := U (k + 1)) (n := n) (fun i hi => hm k i hi) h2
        omega
  intro p hp
  rcases cnt n with e | e
  · omega
  · exact cn_0 e p hp
section
variable {ρ : RO}
theorem b_sym (W : RW ρ) {p q : Nat} (hp : p < ρ 0 2) (hq : q < ρ 0 2) : ρ 13 (7 * p + q) = ρ 13 (7 * q + p) := by
  have aux : ∀ x y, x < ρ 0 2 → y < ρ 0 2 → ρ 13 (7 * x + y) ≠ 0 → ρ 13 (7 * y + x) = ρ 13 (7 * x + y) := by
    intro x y hx hy h0
    rcases W.bt x y hx hy with e | ⟨j, hj, e, ⟨e1, e2⟩ | ⟨e1, e2⟩⟩
    · exact absurd e h0
    · have := W.b2 j hj
      rw [e1, e2] at this
      rw [this, e]
    · have := W.b1 j hj
      rw [e1, e2] at this
      rw [this, e]
  rcases Nat.eq_zero_or_pos (ρ 13 (7 * p + q)) with e | e
  · rcases Nat.eq_zero_or_pos (ρ 13 (7 * q + p)) with e2 | e2
    · omega
    · have := aux q p hq hp (by omega)
      omega
  · exact (aux p q hp hq (by omega)).symm
theorem qm_sym (W : RW ρ) {p q : Nat} (hp : p < ρ 0 2) (hq : q < ρ 0 2) : qm ρ p q = qm ρ q p := by
  unfold qm
  rw [b_sym W hp hq]
theorem pq_sym (W : RW ρ) {p q : Nat} (hp : p < ρ 0 2) (hq : q < ρ 0 2) (V : Nat) (ra : Bool) : pq ρ p q V ra = pq ρ q p V ra := by
  unfold pq
  rw [b_sym W hp hq]
theorem pq_self (W : RW ρ) {p : Nat} (hp : p < ρ 0 2) (V : Nat) (ra : Bool) : pq ρ p p V ra = false := by
  unfold pq
  rw [b_self W hp]
  rfl
theorem pq_qm (W : RW ρ) {p q : Nat} (hp : p < ρ 0 2) (hq : q < ρ 0 2) {V : Nat} {ra : Bool} (h : pq ρ p q V ra = true) : 1 ≤ qm ρ p q ∧ qm ρ p q ≤ 99 := by
  have h1 := qm_le W hp hq
  have h2 := qm_0 W hp hq
  unfold pq at h
  simp only [Bool.and_eq_true, decide_eq_true_iff] at h
  have : qm ρ p q ≠ 0 := fun e => h.1 (h2.mp e)
  omega
def fwd (ρ : RO) (V : Nat) (ra : Bool) : Nat → Nat → Nat → Nat
  | 0, p, q => if p = q then 0 else if pq ρ p q V ra = true then qm ρ p q else 99999
  | k + 1, p, q => min (fwd ρ V ra k p q) (fwd ρ V ra k p k + fwd ρ V ra k k q)
variable {V : Nat} {ra : Bool}
theorem fw_self : ∀ k p, fwd ρ V ra k p p = 0
  | 0, p => if_pos rfl
  | k + 1, p => by
    show min (fwd ρ V ra k p p) _ = 0
    rw [fw_self k p, Nat.zero_min]
theorem fw_le9 (W : RW ρ) : ∀ k p q, p < ρ 0 2 → q < ρ 0 2 → fwd ρ V ra k p q ≤ 99999
  | 0, p, q, hp, hq => by
    have := qm_le W hp hq
    unfold fwd
    repeat' split
    all_goals omega
  | k + 1, p, q, hp, hq => Nat.le_trans (Nat.min_le_left _ _) (fw_le9 W k p q hp hq)
theorem fw_mono (k p q : Nat) : fwd ρ V ra (k + 1) p q ≤ fwd ρ V ra k p q := Nat.min_le_left _ _
theorem fw_col (k p : Nat) : fwd ρ V ra (k + 1) p k = fwd ρ V ra k p k := by
  show min (fwd ρ V ra k p k) (fwd ρ V ra k p k + fwd ρ V ra k k k) = _
  rw [fw_self, Nat.add_zero, Nat.min_self]
theorem fw_row (k q : Nat) : fwd ρ V ra (k + 1) k q = fwd ρ V ra k k q := by
  show min (fwd ρ V ra k k q) (fwd ρ V ra k k k + fwd ρ V ra k k q) = _
  rw [fw_self, Nat.zero_add, Nat.min_self]
theorem fw_new (k p q : Nat) : fwd ρ V ra (k + 1) p q ≤ fwd ρ V ra k p k + fwd ρ V ra k k q := Nat.min_le_right _ _
theorem fw_tri : ∀ k m p q, m < k → fwd ρ V ra k p q ≤ fwd ρ V ra k p m + fwd ρ V ra k m q
  | 0, m, p, q, h => by omega
  | k + 1, m, p, q, h => by
    rcases Decidable.em (m = k) with e | e
    · subst e
      rw [fw_col, fw_row]
      exact fw_new m p q
    · have t1 := fw_tri k m p q (by omega)
      have t2 := fw_tri k m k q (by omega)
      have t3 := fw_tri k m p k (by omega)
      have a1 := fw_new (ρ := ρ) (V := V) (ra := ra) k p q
      have a2 := fw_mono (ρ := ρ) (V := V) (ra := ra) k p q
      show _ ≤ min (fwd ρ V ra k p m) (fwd ρ V ra k p k + fwd ρ V ra k k m) + min (fwd ρ V ra k m q) (fwd ρ V ra k m k + fwd ρ V ra k k q)
      omega
theorem fw_edge (W : RW ρ) {p q : Nat} (hp : p < ρ 0 2) (h : pq ρ p q V ra = true) : ∀ k, fwd ρ V ra k p q ≤ qm ρ p q
  | 0 => by
    unfold fwd
    rw [h]
    split
    · exact Nat.zero_le _
    · exact Nat.le_refl _
  | k + 1 => Nat.le_trans (fw_mono k p q) (fw_edge W hp h k)
theorem fw_via (W : RW ρ) : ∀ k p q, k ≤ ρ 0 2 → p < ρ 0 2 → q < ρ 0 2 → p ≠ q → fwd ρ V ra k p q < 99999 → ∃ m, m < ρ 0 2 ∧ pq ρ p m V ra = true ∧ qm ρ p m + fwd ρ V ra k m q ≤ fwd ρ V ra k p q
  | 0, p, q, _, hp, hq, hne, h => by
    unfold fwd at h
    rw [if_neg hne] at h
    rcases hb : pq ρ p q V ra with _ | _
    · rw [hb, if_neg (by decide)] at h
      omega
    · refine ⟨q, hq, hb, ?_⟩
      rw [fw_self]
      unfold fwd
      rw [if_neg hne, hb, if_pos rfl]
      exact Nat.le_refl _
  | k + 1, p, q, hk, hp, hq, hne, h => by
    rcases Nat.lt_or_ge (fwd ρ V ra k p k + fwd ρ V ra k k q) (fwd ρ V ra k p q) with c | c
    · have e : fwd ρ V ra (k + 1) p q = fwd ρ V ra k p k + fwd ρ V ra k k q := Nat.min_eq_right (by omega)
      rcases Decidable.em (p = k) with e2 | e2
      · subst e2
        rw [fw_self] at c
        omega
      · obtain ⟨m, hm, h1, h2⟩ := fw_via W k p k (by omega) hp (by omega) e2 (by omega)
        refine ⟨m, hm, h1, ?_⟩
        have := fw_new (ρ := ρ) (V := V) (ra := ra) k m q
        omega
    · have e : fwd ρ V ra (k + 1) p q = fwd ρ V ra k p q := Nat.min_eq_left c
      rw [e] at h
      obtain ⟨m, hm, h1, h2⟩ := fw_via W k p q (by omega) hp hq hne h
      refine ⟨m, hm, h1, ?_⟩
      have := fw_mono (ρ := ρ) (V := V) (ra := ra) k m q
      omega
theorem fw_bd (W : RW ρ) : ∀ k p q, k ≤ ρ 0 2 → p < ρ 0 2 → q < ρ 0 2 → fwd ρ V ra k p q < 99999 → fwd ρ V ra k p q ≤ 99 * 2 ^ k
  | 0, p, q, _, hp, hq, h => by
    have h1 := qm_le W hp hq
    unfold fwd at h ⊢
    repeat' split
    · omega
    · omega
    · rename_i c1 c2
      rw [if_neg c1, if_neg c2] at h
      omega
  | k + 1, p, q, hk, hp, hq, h => by
    rcases Nat.lt_or_ge (fwd ρ V ra k p k + fwd ρ V ra k k q) (fwd ρ V ra k p q) with c | c
    · have e : fwd ρ V ra (k + 1) p q = fwd ρ V ra k p k + fwd ρ V ra k k q := Nat.min_eq_right (by omega)
      have h1 := fw_bd W k p k (by omega) hp (by omega) (by omega)
      have h2 := fw_bd W k k q (by omega) (by omega) hq (by omega)
      rw [Nat.pow_succ]
      omega
    · have e : fwd ρ V ra (k + 1) p q = fwd ρ V ra k p q := Nat.min_eq_left c
      rw [e] at h
      have h1 := fw_bd W k p q (by omega) hp hq h
      rw [Nat.pow_succ]
      omega
theorem fw_sym (W : RW ρ) : ∀ k p q, k ≤ ρ 0 2 → p < ρ 0 2 → q < ρ 0 2 → fwd ρ V ra k p q = fwd ρ V ra k q p
  | 0, p, q, _, hp, hq => by
    unfold fwd
    rw [pq_sym W hp hq, qm_sym W hp hq]
    rcases Decidable.em (p = q) with e | e
    · rw [if_pos e, if_pos e.symm]
    · rw [if_neg e, if_neg (show ¬ q = p from fun h => e h.symm)]
  | k + 1, p, q, hk, hp, hq => by
    show min (fwd ρ V ra k p q) (fwd ρ V ra k p k + fwd ρ V ra k k q) = min (fwd ρ V ra k q p) (fwd ρ V ra k q k + fwd ρ V ra k k p)
    rw [fw_sym W k p q (by omega) hp hq, fw_sym W k p k (by omega) hp (by omega), fw_sym W k k q (by omega) (by omega) hq, Nat.add_comm]
/-- the fewest minutes -/
def ds (ρ : RO) (V : Nat) (ra : Bool) (p q : Nat) : Nat := fwd ρ V ra (ρ 0 2) p q
theorem ds_self (p : Nat) : ds ρ V ra p p = 0 := fw_self _ p
theorem ds_le (W : RW ρ) {p q : Nat} (hp : p < ρ 0 2) (hq : q < ρ 0 2) : ds ρ V ra p q ≤ 99999 := fw_le9 W _ p q hp hq
theorem ds_bd (W : RW ρ) {p q : Nat} (hp : p < ρ 0 2) (hq : q < ρ 0 2) (h : ds ρ V ra p q < 99999) : ds ρ V ra p q ≤ 12672 := by
  have h1 := fw_bd W _ p q (Nat.le_refl _) hp hq h
  have h2 := two_le W.pl
  show fwd ρ V ra (ρ 0 2) p q ≤ 12672
  omega
theorem ds_sym (W : RW ρ) {p q : Nat} (hp : p < ρ 0 2) (hq : q < ρ 0 2) : ds ρ V ra p q = ds ρ V ra q p := fw_sym W _ p q (Nat.le_refl _) hp hq
theorem ds_go (W : RW ρ) {p m q : Nat} (hp : p < ρ 0 2) (hm : m < ρ 0 2) (h : pq ρ p m V ra = true) : ds ρ V ra p q ≤ qm ρ p m + ds ρ V ra m q := by
  have h1 := fw_tri (ρ := ρ) (V := V) (ra := ra) (ρ 0 2) m p q hm
  have h2 := fw_edge W hp h (ρ 0 2)
  show fwd ρ V ra (ρ 0 2) p q ≤ qm ρ p m + fwd ρ V ra (ρ 0 2) m q
  omega
theorem ds_via (W : RW ρ) {p q : Nat} (hp : p < ρ 0 2) (hq : q < ρ 0 2) (hne : p ≠ q) (h : ds ρ V ra p q < 99999) : ∃ m, m < ρ 0 2 ∧ pq ρ p m V ra = true ∧ ds ρ V ra p q = qm ρ p m + ds ρ V ra m q := by
  obtain ⟨m, hm, h1, h2⟩ := fw_via W (ρ 0 2) p q (Nat.le_refl _) hp hq hne h
  have h3 := ds_go W (q := q) hp hm h1
  refine ⟨m, hm, h1, ?_⟩
  show fwd ρ V ra (ρ 0 2) p q = _
  have h4 : qm ρ p m + ds ρ V ra m q ≤ ds ρ V ra p q := h2
  show ds ρ V ra p q = _
  omega
/-- one comes on over an open road -/
theorem ds_on (W : RW ρ) {p m q : Nat} (hp : p < ρ 0 2) (hm : m < ρ 0 2) (hq : q < ρ 0 2) (h : pq ρ p m V ra = true) (h2 : ds ρ V ra m q < 99999) : ds ρ V ra p q < 99999 := by
  have h1 := ds_go W (q := q) hp hm h
  have h3 := ds_bd W hm hq h2
  have h4 := pq_qm W hp hm h
  omega
/-- .. by a road -/
theorem pq_road (W : RW ρ) {j : Nat} (hj : j < ρ 0 3) (V : Nat) (ra : Bool) : pq ρ (ρ 3 j) (ρ 4 j) V ra = op ρ j V ra ∧ pq ρ (ρ 4 j) (ρ 3 j) V ra = op ρ j V ra ∧ qm ρ (ρ 3 j) (ρ 4 j) = ρ 5 j ∧ qm ρ (ρ 4 j) (ρ 3 j) = ρ 5 j := by
  unfold pq qm
  rw [W.b1 j hj, W.b2 j hj]
  simp
theorem road_pq (W : RW ρ) {p m : Nat} (hp : p < ρ 0 2) (hm : m < ρ 0 2) (h : pq ρ p m V ra = true) : ∃ j, j < ρ 0 3 ∧ op ρ j V ra = true ∧ qm ρ p m = ρ 5 j ∧ ((ρ 3 j = p ∧ ρ 4 j = m) ∨ (ρ 3 j = m ∧ ρ 4 j = p)) := by
  unfold pq at h
  simp only [Bool.and_eq_true, decide_eq_true_iff] at h
  rcases W.bt p m hp hm with e | ⟨j, hj, e, h9⟩
  · exact absurd e h.1
  · rw [e] at h
    refine ⟨j, hj, by simpa using h.2, ?_, h9⟩
    unfold qm
    rw [e, if_neg (by omega)]
    rfl
end
