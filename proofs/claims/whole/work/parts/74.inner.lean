/-! ===== inner tunes left out: two ways, the same rows ===== -/
section
variable {ρ : RO}
theorem len1 (W : RW ρ) {t : Nat} (ht : t < ρ 0 1) : 1 ≤ ρ 1 t := by
  have := (W.len t ht).1
  omega
theorem sn_refl (W : RW ρ) {t : Nat} (ht : t < ρ 0 1) : sn ρ t t = true := (sn_iff t t (len1 W ht)).2 (List.infix_refl _)
theorem sn_tr (W : RW ρ) {t u v : Nat} (ht : t < ρ 0 1) (hu : u < ρ 0 1) (h1 : sn ρ t u = true) (h2 : sn ρ u v = true) : sn ρ t v = true :=
  (sn_iff t v (len1 W ht)).2 (((sn_iff t u (len1 W ht)).1 h1).trans ((sn_iff u v (len1 W hu)).1 h2))
theorem sn_eq (W : RW ρ) {t u : Nat} (ht : t < ρ 0 1) (hu : u < ρ 0 1) (h1 : sn ρ t u = true) (h2 : sn ρ u t = true) : row ρ t = row ρ u := by
  have k1 := (sn_iff t u (len1 W ht)).1 h1
  have k2 := (sn_iff u t (len1 W hu)).1 h2
  exact k1.eq_of_length (Nat.le_antisymm k1.length_le k2.length_le)
theorem sn_row (W : RW ρ) {t u : Nat} (ht : t < ρ 0 1) (h : row ρ t = row ρ u) : sn ρ t u = true := (sn_iff t u (len1 W ht)).2 (by rw [h]; exact List.infix_refl _)
def WJ (ρ : RO) (c t n k : Nat) : Prop := (∀ u, k.testBit u = true → c.testBit u = true) ∧ (∀ v u, v < t → k.testBit v = true → k.testBit u = true → v ≠ u → sn ρ v u = false) ∧ (∀ v, c.testBit v = true → ∃ u, k.testBit u = true ∧ sn ρ v u = true) ∧ (∀ u, u < n → k.testBit t = true → k.testBit u = true → t ≠ u → sn ρ t u = false)
theorem WJ.sub {ρ : RO} {c t n k : Nat} (H : WJ ρ c t n k) : ∀ u, k.testBit u = true → c.testBit u = true := H.1
theorem WJ.ap {ρ : RO} {c t n k : Nat} (H : WJ ρ c t n k) : ∀ v u, v < t → k.testBit v = true → k.testBit u = true → v ≠ u → sn ρ v u = false := H.2.1
theorem WJ.cov {ρ : RO} {c t n k : Nat} (H : WJ ρ c t n k) : ∀ v, c.testBit v = true → ∃ u, k.testBit u = true ∧ sn ρ v u = true := H.2.2.1
theorem WJ.now {ρ : RO} {c t n k : Nat} (H : WJ ρ c t n k) : ∀ u, u < n → k.testBit t = true → k.testBit u = true → t ≠ u → sn ρ t u = false := H.2.2.2
theorem wj_st (W : RW ρ) {c t n k : Nat} (hc : ∀ u, c.testBit u = true → u < ρ 0 1) (J : WJ ρ c t n k) : WJ ρ c t (n + 1) (if t ≠ n ∧ k.testBit t = true ∧ k.testBit n = true ∧ sn ρ t n = true then k ^^^ 2 ^ t else k) := by
  rcases Decidable.em (t ≠ n ∧ k.testBit t = true ∧ k.testBit n = true ∧ sn ρ t n = true) with q | q
  · rw [if_pos q]
    obtain ⟨q1, q2, q3, q4⟩ := q
    have hx : ∀ u, (k ^^^ 2 ^ t).testBit u = true → u ≠ t ∧ k.testBit u = true := by
      intro u hu
      rw [xor_bit] at hu
      rcases Decidable.em (t = u) with e | e
      · subst e
        rw [q2] at hu
        simp at hu
      · rw [decide_eq_false e, Bool.xor_false] at hu
        exact ⟨fun z => e z.symm, hu⟩
    have hy : ∀ u, u ≠ t → k.testBit u = true → (k ^^^ 2 ^ t).testBit u = true := by
      intro u hu hk
      rw [xor_bit, decide_eq_false (fun z => hu z.symm), Bool.xor_false]
      exact hk
    refine ⟨fun u hu => J.sub u (hx u hu).2, fun v u hv h1 h2 => J.ap v u hv (hx v h1).2 (hx u h2).2, fun v hv => ?_, fun u _ h1 => absurd rfl (hx t h1).1⟩
    obtain ⟨u, hu, e⟩ := J.cov v hv
    rcases Decidable.em (u = t) with z | z
    · rw [z] at e
      exact ⟨n, hy n (fun w => q1 w.symm) q3, sn_tr W (hc v hv) (hc t (J.sub t q2)) e q4⟩
    · exact ⟨u, hy u z hu, e⟩
  · rw [if_neg q]
    refine ⟨J.sub, J.ap, J.cov, fun u hu h1 h2 h3 => ?_⟩
    rcases Decidable.em (u = n) with e | e
    · subst e
      cases z : sn ρ t u
      · rfl
      · exact absurd ⟨h3, h1, h2, z⟩ q
    · exact J.now u (by omega) h1 h2 h3
theorem wj_in (W : RW ρ) {c t k : Nat} (hc : ∀ u, c.testBit u = true → u < ρ 0 1) (J : WJ ρ c t 0 k) : ∀ n, WJ ρ c t n (fo (fun u k => if t ≠ u ∧ k.testBit t = true ∧ k.testBit u = true ∧ sn ρ t u = true then k ^^^ 2 ^ t else k) k n)
  | 0 => J
  | n + 1 => wj_st W hc (wj_in W hc J n)
theorem wj_out (W : RW ρ) {c : Nat} (hc : ∀ u, c.testBit u = true → u < ρ 0 1) : ∀ n, WJ ρ c n 0 (fo (fun t k => fo (fun u k => if t ≠ u ∧ k.testBit t = true ∧ k.testBit u = true ∧ sn ρ t u = true then k ^^^ 2 ^ t else k) k (ρ 0 1)) c n)
  | 0 => ⟨fun u hu => hu, fun v u hv => absurd hv (by omega), fun v hv => ⟨v, hv, sn_refl W (hc v hv)⟩, fun u hu => absurd hu (by omega)⟩
  | n + 1 => by
    have J := wj_in W hc (wj_out W hc n) (ρ 0 1)
    refine ⟨J.sub, fun v u hv h1 h2 h3 => ?_, J.cov, fun u hu => absurd hu (by omega)⟩
    rcases Decidable.em (v = n) with e | e
    · rw [e] at h1 h3 ⊢
      exact J.now u (hc u (J.sub u h2)) h1 h2 h3
    · exact J.ap v u (by omega) h1 h2 h3
/-- the rows that stand in no other one -/
def mx (ρ : RO) (c : Nat) (r : List Nat) : Prop := ∃ t, c.testBit t = true ∧ row ρ t = r ∧ ∀ u, c.testBit u = true → sn ρ t u = true → row ρ u = row ρ t
theorem wi_sub (W : RW ρ) {c : Nat} (hc : ∀ u, c.testBit u = true → u < ρ 0 1) {t : Nat} (ht : (wi ρ c).testBit t = true) : c.testBit t = true := (wj_out W hc (ρ 0 1)).sub t ht
theorem wi_dif (W : RW ρ) {c : Nat} (hc : ∀ u, c.testBit u = true → u < ρ 0 1) : Dif ρ (wi ρ c) := by
  have J := wj_out W hc (ρ 0 1)
  intro t u h1 h2 e
  rcases Decidable.em (t = u) with z | z
  · exact z
  · have ht := hc t (J.sub t h1)
    have := J.ap t u ht h1 h2 z
    rw [sn_row W ht e] at this
    cases this
theorem wi_mx (W : RW ρ) {c : Nat} (hc : ∀ u, c.testBit u = true → u < ρ 0 1) (r : List Nat) : (∃ t, (wi ρ c).testBit t = true ∧ row ρ t = r) ↔ mx ρ c r := by
  have J := wj_out W hc (ρ 0 1)
  constructor
  · rintro ⟨t, h1, e⟩
    have ht := hc t (J.sub t h1)
    refine ⟨t, J.sub t h1, e, fun u hu hs => ?_⟩
    obtain ⟨w, hw, e2⟩ := J.cov u hu
    have hw2 := hc w (J.sub w hw)
    have k := sn_tr W ht (hc u hu) hs e2
    rcases Decidable.em (t = w) with z | z
    · subst z
      exact sn_eq W (hc u hu) ht e2 hs
    · have := J.ap t w ht h1 hw z
      rw [k] at this
      cases this
  · rintro ⟨t, h1, e, mm⟩
    obtain ⟨w, hw, e2⟩ := J.cov t h1
    exact ⟨w, hw, by rw [mm w (J.sub w hw) e2, e]⟩
/-- the reference's way -/
def lvb (ρ : RO) (c t : Nat) : Bool := c.testBit t && !ex (fun u => c.testBit u && decide (u ≠ t) && sn ρ t u && (decide (u < t) || !sn ρ u t)) (ρ 0 1)
theorem lvb_iff {c t : Nat} (hc : ∀ u, c.testBit u = true → u < ρ 0 1) : lvb ρ c t = true ↔ c.testBit t = true ∧ ∀ u, c.testBit u = true → u ≠ t → sn ρ t u = true → t < u ∧ sn ρ u t = true := by
  unfold lvb
  rw [Bool.and_eq_true]
  constructor
  · rintro ⟨h1, h2⟩
    refine ⟨h1, fun u hu hn hs => ?_⟩
    rcases Decidable.em (t < u ∧ sn ρ u t = true) with q | q
    · exact q
    · have : ex (fun u => c.testBit u && decide (u ≠ t) && sn ρ t u && (decide (u < t) || !sn ρ u t)) (ρ 0 1) = true := by
        refine ex_iff.2 ⟨u, hc u hu, ?_⟩
        simp only [hu, hs, decide_eq_true hn, Bool.true_and]
        rcases Decidable.em (u < t) with z | z
        · rw [decide_eq_true z, Bool.true_or]
        · have : sn ρ u t = false := by
            cases w : sn ρ u t
            · rfl
            · exact absurd ⟨by omega, w⟩ q
          rw [this]
          simp
      rw [this] at h2
      cases h2
  · rintro ⟨h1, h2⟩
    refine ⟨h1, ?_⟩
    rw [ex_no]
    · rfl
    · intro u hu
      cases q : (c.testBit u && decide (u ≠ t) && sn ρ t u && (decide (u < t) || !sn ρ u t))
      · rfl
      · simp only [Bool.and_eq_true, decide_eq_true_eq, Bool.or_eq_true, Bool.not_eq_true'] at q
        obtain ⟨⟨⟨q1, q2⟩, q3⟩, q4⟩ := q
        obtain ⟨k1, k2⟩ := h2 u q1 q2 q3
        rcases q4 with q4 | q4
        · omega
        · rw [k2] at q4
          cases q4
theorem lvb_dif (W : RW ρ) {c : Nat} (hc : ∀ u, c.testBit u = true → u < ρ 0 1) {t u : Nat} (h1 : lvb ρ c t = true) (h2 : lvb ρ c u = true) (e : row ρ t = row ρ u) : t = u := by
  rw [lvb_iff hc] at h1 h2
  rcases Decidable.em (t = u) with z | z
  · exact z
  · have k1 := h1.2 u h2.1 (fun w => z w.symm) (sn_row W (hc t h1.1) e)
    have k2 := h2.2 t h1.1 z (sn_row W (hc u h2.1) e.symm)
    omega
theorem lvb_mx (W : RW ρ) {c : Nat} (hc : ∀ u, c.testBit u = true → u < ρ 0 1) (r : List Nat) : (∃ t, lvb ρ c t = true ∧ row ρ t = r) ↔ mx ρ c r := by
  constructor
  · rintro ⟨t, h1, e⟩
    rw [lvb_iff hc] at h1
    refine ⟨t, h1.1, e, fun u hu hs => ?_⟩
    rcases Decidable.em (u = t) with z | z
    · rw [z]
    · exact sn_eq W (hc u hu) (hc t h1.1) (h1.2 u hu z hs).2 hs
  · rintro ⟨t, h1, e, mm⟩
    have hlt : ff (fun t => c.testBit t && decide (row ρ t = r)) (ρ 0 1) < ρ 0 1 := by
      rcases Nat.lt_or_ge (ff (fun t => c.testBit t && decide (row ρ t = r)) (ρ 0 1)) (ρ 0 1) with q | q
      · exact q
      · have := ff_no (fun t => c.testBit t && decide (row ρ t = r)) (ρ 0 1) t (Nat.lt_of_lt_of_le (hc t h1) q)
        simp [h1, e] at this
    have h2 := ff_at _ _ hlt
    have h3 := ff_no (fun t => c.testBit t && decide (row ρ t = r)) (ρ 0 1)
    generalize ff (fun t => c.testBit t && decide (row ρ t = r)) (ρ 0 1) = w at *
    simp only [Bool.and_eq_true, decide_eq_true_eq] at h2
    refine ⟨w, (lvb_iff hc).2 ⟨h2.1, fun u hu hn hs => ?_⟩, h2.2⟩
    have k : sn ρ t u = true := sn_tr W (hc t h1) hlt (sn_row W (hc t h1) (by rw [e, h2.2])) hs
    have k2 := mm u hu k
    rw [e] at k2
    refine ⟨?_, sn_row W (hc u hu) (by rw [k2, h2.2])⟩
    rcases Nat.lt_or_ge w u with z | z
    · exact z
    · have := h3 u (by omega)
      simp [hu, k2] at this
/-! orders -/
def pms : Nat → List Nat → List (List Nat)
  | 0, _ => [[]]
  | n + 1, xs => xs.flatMap (fun x => (pms n (xs.erase x)).map (fun y => x :: y))
theorem pms_iff : ∀ (n : Nat) (xs x : List Nat), xs.length = n → (x ∈ pms n xs ↔ x.Perm xs)
  | 0, xs, x, h => by
    have : xs = [] := List.eq_nil_of_length_eq_zero h
    subst this
    simp [pms]
  | n + 1, xs, x, h => by
    unfold pms
    rw [List.mem_flatMap]
    constructor
    · rintro ⟨y, hy, hx⟩
      obtain ⟨z, hz, e⟩ := List.mem_map.1 hx
      subst e
      rw [List.cons_perm_iff_perm_erase]
      exact ⟨hy, (pms_iff n _ z (by rw [List.length_erase_of_mem hy, h]; rfl)).1 hz⟩
    · intro hp
      cases x with
      | nil =>
        have := hp.length_eq
        simp [h] at this
      | cons y z =>
        rw [List.cons_perm_iff_perm_erase] at hp
        exact ⟨y, hp.1, List.mem_map.2 ⟨z, (pms_iff n _ z (by rw [List.length_erase_of_mem hp.1, h]; rfl)).2 hp.2, rfl⟩⟩
theorem pms_mem {m : Nat} {x : List Nat} : x ∈ pms m (List.range m) ↔ x.Nodup ∧ ∀ i, i ∈ x ↔ i < m := by
  rw [pms_iff m _ _ (List.length_range ..)]
  constructor
  · intro h
    exact ⟨h.nodup_iff.2 List.nodup_range, fun i => by rw [h.mem_iff, List.mem_range]⟩
  · rintro ⟨h1, h2⟩
    rw [List.perm_ext_iff_of_nodup h1 List.nodup_range]
    intro i
    rw [h2, List.mem_range]
/-- the best of the reference's orders -/
theorem ref_best {S : List Nat → Prop} {L : Nat → Nat} {m : Nat} {y : List Nat} (h6 : ∀ i, i < m → L i < 6) (hi : ∀ i j, i < m → j < m → row ρ (L i) = row ρ (L j) → i = j) (hS : ∀ r, S r ↔ ∃ i, i < m ∧ row ρ (L i) = r) (h1 : ∃ x, x ∈ pms m (List.range m) ∧ y = sgT ρ 6 (x.map L)) (h2 : ∀ x, x ∈ pms m (List.range m) → bt2 (sgT ρ 6 (x.map L)) y = false) : Best S y := by
  have key : ∀ x, x ∈ pms m (List.range m) → sgT ρ 6 (x.map L) = sgR [] (x.map (fun i => row ρ (L i))) ∧ Ord S (x.map (fun i => row ρ (L i))) := by
    intro x hx
    rw [pms_mem] at hx
    have hn : (x.map (fun i => row ρ (L i))).Nodup := nodup_map hx.1 (fun i j a b => hi i j ((hx.2 i).1 a) ((hx.2 j).1 b))
    have l0 : lrow ρ 6 = [] := rfl
    have k6 : ∀ t, t ∈ x.map L → t < 6 := by
      intro t ht
      obtain ⟨i, a, e⟩ := List.mem_map.1 ht
      rw [← e]
      exact h6 i ((hx.2 i).1 a)
    have hn2 : (x.map L).Nodup := nodup_of_map (f := row ρ) (by rw [List.map_map]; exact hn)
    refine ⟨?_, hn, fun r => ?_⟩
    · rw [sgT_row _ 6 k6 hn2 (fun q => absurd (k6 6 q) (by decide)), l0, List.map_map]
      rfl
    · rw [hS, List.mem_map]
      constructor
      · rintro ⟨i, a, e⟩
        exact ⟨i, (hx.2 i).1 a, e⟩
      · rintro ⟨i, a, e⟩
        exact ⟨i, (hx.2 i).2 a, e⟩
  obtain ⟨x, hx, e⟩ := h1
  refine ⟨⟨_, (key x hx).2, by rw [e, (key x hx).1]⟩, fun rs ⟨rn, rm⟩ => ?_⟩
  have pk : ∀ r, r ∈ rs → ff (fun i => decide (row ρ (L i) = r)) m < m ∧ row ρ (L (ff (fun i => decide (row ρ (L i) = r)) m)) = r := by
    intro r hr
    obtain ⟨i, a, e⟩ := (hS r).1 ((rm r).1 hr)
    have hlt : ff (fun i => decide (row ρ (L i) = r)) m < m := by
      rcases Nat.lt_or_ge (ff (fun i => decide (row ρ (L i) = r)) m) m with q | q
      · exact q
      · have := ff_no (fun i => decide (row ρ (L i) = r)) m i (by omega)
        simp [e] at this
    have := ff_at _ _ hlt
    exact ⟨hlt, by simpa using this⟩
  have em : (rs.map (fun r => ff (fun i => decide (row ρ (L i) = r)) m)).map (fun i => row ρ (L i)) = rs := by
    rw [List.map_map]
    refine (List.map_congr_left (g := id) (fun r hr => ?_)).trans (List.map_id rs)
    exact (pk r hr).2
  have hz : rs.map (fun r => ff (fun i => decide (row ρ (L i) = r)) m) ∈ pms m (List.range m) := by
    rw [pms_mem]
    refine ⟨nodup_of_map (f := fun i => row ρ (L i)) (by rw [em]; exact rn), fun i => ?_⟩
    rw [List.mem_map]
    constructor
    · rintro ⟨r, hr, e⟩
      rw [← e]
      exact (pk r hr).1
    · intro hi2
      have hr : row ρ (L i) ∈ rs := (rm _).2 ((hS _).2 ⟨i, hi2, rfl⟩)
      exact ⟨_, hr, hi _ _ (pk _ hr).1 hi2 (pk _ hr).2⟩
  have k := h2 _ hz
  rw [(key _ hz).1, em] at k
  exact k
end
