/-! ===== the best song of a set of rows ===== -/
section
variable {ρ : RO}
/-- the overlap of two rows -/
def ovR (r s : List Nat) : Nat := gd (fun n => decide (r.drop (r.length - n) = s.take n)) (min r.length s.length)
theorem gd_congr {P Q : Nat → Bool} : ∀ {n : Nat}, (∀ i, i ≤ n → P i = Q i) → gd P n = gd Q n
  | 0, _ => rfl
  | n + 1, h => by
    unfold gd
    rw [h (n + 1) (Nat.le_refl _), gd_congr (fun i hi => h i (by omega))]
theorem ov_row (t u : Nat) : ov ρ t u = ovR (row ρ t) (row ρ u) := by
  unfold ov ovR
  rw [row_len, row_len]
  refine gd_congr (fun n hn => ?_)
  have key : ak ρ t (ρ 1 t - n) u n = true ↔ (row ρ t).drop (ρ 1 t - n) = (row ρ u).take n := by
    rw [ak_iff]
    constructor
    · intro h
      refine List.ext_getElem (by simp only [List.length_drop, List.length_take, row_len]; omega) (fun i a b => ?_)
      simp only [List.length_take, row_len] at b
      rw [List.getElem_drop, List.getElem_take, row_at, row_at, h i (by omega)]
    · intro h i hi
      have q : ((row ρ t).drop (ρ 1 t - n))[i]'(by simp only [List.length_drop, row_len]; omega) = ((row ρ u).take n)[i]'(by simp only [List.length_take, row_len]; omega) := by
        simp only [h]
      rw [List.getElem_drop, List.getElem_take, row_at, row_at] at q
      exact q
  rcases Decidable.em ((row ρ t).drop (ρ 1 t - n) = (row ρ u).take n) with e | e
  · rw [key.2 e, decide_eq_true e]
  · rw [decide_eq_false e]
    cases q : ak ρ t (ρ 1 t - n) u n
    · rfl
    · exact absurd (key.1 q) e
/-- the song of a list of rows, behind a row (the empty one: nothing was sung) -/
def sgR : List Nat → List (List Nat) → List Nat
  | _, [] => []
  | l, r :: rs => r.drop (ovR l r) ++ sgR r rs
/-- the song of a list of tunes behind the tune l (6: none) -/
def sgT (ρ : RO) : Nat → List Nat → List Nat
  | _, [] => []
  | l, t :: ts => tl ρ t (o7 ρ l t) ++ sgT ρ t ts
def Ord (S : List Nat → Prop) (rs : List (List Nat)) : Prop := rs.Nodup ∧ ∀ r, r ∈ rs ↔ S r
def Best (S : List Nat → Prop) (x : List Nat) : Prop := (∃ rs, Ord S rs ∧ x = sgR [] rs) ∧ ∀ rs, Ord S rs → bt2 (sgR [] rs) x = false
theorem Best.uniq {S : List Nat → Prop} {x y : List Nat} (hx : Best S x) (hy : Best S y) : x = y := by
  obtain ⟨⟨r1, o1, e1⟩, m1⟩ := hx
  obtain ⟨⟨r2, o2, e2⟩, m2⟩ := hy
  refine bt2_tot ?_ ?_
  · rw [e1]
    exact m2 r1 o1
  · rw [e2]
    exact m1 r2 o2
theorem ovR_nil (r : List Nat) : ovR [] r = 0 := by
  unfold ovR
  have := gd_le (fun n => decide (([] : List Nat).drop (([] : List Nat).length - n) = r.take n)) (min ([] : List Nat).length r.length)
  simp at this
  simpa using this
/-- the row sung last -/
def lrow (ρ : RO) (l : Nat) : List Nat := if l = 6 then [] else row ρ l
theorem sgT_row : ∀ (ts : List Nat) (l : Nat), (∀ t, t ∈ ts → t < 6) → ts.Nodup → l ∉ ts → sgT ρ l ts = sgR (lrow ρ l) (ts.map (row ρ))
  | [], _, _, _, _ => rfl
  | t :: ts, l, h6, hn, hl => by
    have ht := h6 t (List.mem_cons_self ..)
    rw [List.nodup_cons] at hn
    show tl ρ t (o7 ρ l t) ++ sgT ρ t ts = (row ρ t).drop (ovR (lrow ρ l) (row ρ t)) ++ sgR (row ρ t) (ts.map (row ρ))
    have e1 : lrow ρ t = row ρ t := by
      unfold lrow
      rw [if_neg (by omega)]
    rw [sgT_row ts t (fun u hu => h6 u (List.mem_cons_of_mem _ hu)) hn.2 hn.1, e1, tl_drop]
    have e2 : o7 ρ l t = ovR (lrow ρ l) (row ρ t) := by
      unfold o7 lrow
      rcases Decidable.em (l = 6) with q | q
      · rw [if_pos q, if_pos q, ovR_nil]
      · have : l ≠ t := fun e => hl (by rw [e]; exact List.mem_cons_self ..)
        rw [if_neg q, if_neg q, if_neg this, ov_row]
    rw [e2]
/-- a set of tunes gone over in some order -/
def OrdT (s : Nat) (ts : List Nat) : Prop := ts.Nodup ∧ ∀ t, t ∈ ts ↔ s.testBit t = true
/-- sets of tunes with different rows -/
def Dif (ρ : RO) (s : Nat) : Prop := ∀ t u, s.testBit t = true → s.testBit u = true → row ρ t = row ρ u → t = u
def BestT (ρ : RO) (s l : Nat) (x : List Nat) : Prop := (∃ ts, OrdT s ts ∧ x = sgT ρ l ts) ∧ ∀ ts, OrdT s ts → bt2 (sgT ρ l ts) x = false
theorem nodup_map {α β : Type} {f : α → β} : ∀ {l : List α}, l.Nodup → (∀ x y, x ∈ l → y ∈ l → f x = f y → x = y) → (l.map f).Nodup
  | [], _, _ => List.nodup_nil
  | a :: l, hn, hi => by
    rw [List.nodup_cons] at hn
    rw [List.map_cons, List.nodup_cons]
    refine ⟨fun h => ?_, nodup_map hn.2 (fun x y hx hy => hi x y (List.mem_cons_of_mem _ hx) (List.mem_cons_of_mem _ hy))⟩
    obtain ⟨b, hb, e⟩ := List.mem_map.1 h
    have := hi b a (List.mem_cons_of_mem _ hb) (List.mem_cons_self ..) e
    rw [this] at hb
    exact hn.1 hb
theorem nodup_of_map {α β : Type} {f : α → β} : ∀ {l : List α}, (l.map f).Nodup → l.Nodup
  | [], _ => List.nodup_nil
  | a :: l, h => by
    rw [List.map_cons, List.nodup_cons] at h
    rw [List.nodup_cons]
    exact ⟨fun q => h.1 (List.mem_map.2 ⟨a, q, rfl⟩), nodup_of_map h.2⟩
theorem BestT.rows {s : Nat} {x : List Nat} (hs : s < 64) (hd : Dif ρ s) (h : BestT ρ s 6 x) : Best (fun r => ∃ t, s.testBit t = true ∧ row ρ t = r) x := by
  have h6 : ∀ t, s.testBit t = true → t < 6 := fun t ht => by
    rcases Nat.lt_or_ge t 6 with q | q
    · exact q
    · rw [Nat.testBit_lt_two_pow (Nat.lt_of_lt_of_le hs (two_le q))] at ht
      cases ht
  have l0 : lrow ρ 6 = [] := rfl
  obtain ⟨⟨ts, ⟨hn, hm⟩, e⟩, mn⟩ := h
  refine ⟨⟨ts.map (row ρ), ⟨nodup_map hn (fun x y hx hy => hd x y ((hm x).1 hx) ((hm y).1 hy)), fun r => ?_⟩, ?_⟩, fun rs ⟨rn, rm⟩ => ?_⟩
  · rw [List.mem_map]
    constructor
    · rintro ⟨t, ht, e⟩
      exact ⟨t, (hm t).1 ht, e⟩
    · rintro ⟨t, ht, e⟩
      exact ⟨t, (hm t).2 ht, e⟩
  · rw [e, sgT_row ts 6 (fun t ht => h6 t ((hm t).1 ht)) hn (fun q => absurd (h6 6 ((hm 6).1 q)) (by decide)), l0]
  · have pk : ∀ r, r ∈ rs → s.testBit (ff (fun t => s.testBit t && decide (row ρ t = r)) 6) = true ∧ row ρ (ff (fun t => s.testBit t && decide (row ρ t = r)) 6) = r := by
      intro r hr
      obtain ⟨t, ht, e⟩ := (rm r).1 hr
      have hlt : ff (fun t => s.testBit t && decide (row ρ t = r)) 6 < 6 := by
        rcases Nat.lt_or_ge (ff (fun t => s.testBit t && decide (row ρ t = r)) 6) 6 with q | q
        · exact q
        · have := ff_no (fun t => s.testBit t && decide (row ρ t = r)) 6 t (Nat.lt_of_lt_of_le (h6 t ht) q)
          simp [ht, e] at this
      have := ff_at _ 6 hlt
      simpa using this
    have em : (rs.map (fun r => ff (fun t => s.testBit t && decide (row ρ t = r)) 6)).map (row ρ) = rs := by
      rw [List.map_map]
      refine (List.map_congr_left (g := id) (fun r hr => ?_)).trans (List.map_id rs)
      exact (pk r hr).2
    have no : (rs.map (fun r => ff (fun t => s.testBit t && decide (row ρ t = r)) 6)).Nodup := nodup_of_map (f := row ρ) (by rw [em]; exact rn)
    have o : OrdT s (rs.map (fun r => ff (fun t => s.testBit t && decide (row ρ t = r)) 6)) := by
      refine ⟨no, fun t => ?_⟩
      rw [List.mem_map]
      constructor
      · rintro ⟨r, hr, e⟩
        rw [← e]
        exact (pk r hr).1
      · intro ht
        have hr : row ρ t ∈ rs := (rm _).2 ⟨t, ht, rfl⟩
        exact ⟨_, hr, hd _ _ (pk _ hr).1 ht (pk _ hr).2⟩
    have k := mn _ o
    rw [sgT_row _ 6 (fun t ht => h6 t ((o.2 t).1 ht)) no (fun q => absurd (h6 6 ((o.2 6).1 q)) (by decide)), l0, em] at k
    exact k
end
