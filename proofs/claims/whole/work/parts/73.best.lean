/-! ===== what the class keeps of a set of tunes; its table finds the best song ===== -/
section
variable {ρ : RO}
theorem bit6 {s t : Nat} (hs : s < 64) (ht : s.testBit t = true) : t < 6 := by
  rcases Nat.lt_or_ge t 6 with q | q
  · exact q
  · rw [Nat.testBit_lt_two_pow (Nat.lt_of_lt_of_le hs (two_le q))] at ht
    cases ht
theorem ordT_nil {ts : List Nat} (h : OrdT 0 ts) : ts = [] := by
  cases ts with
  | nil => rfl
  | cons t ts =>
    have := (h.2 t).1 (List.mem_cons_self ..)
    simp at this
theorem ordT_cons {s t : Nat} {ts : List Nat} (h : OrdT s (t :: ts)) : s.testBit t = true ∧ OrdT (s ^^^ 2 ^ t) ts := by
  have h1 := (h.2 t).1 (List.mem_cons_self ..)
  have hn := List.nodup_cons.1 h.1
  refine ⟨h1, hn.2, fun u => ?_⟩
  rw [xor_bit]
  have := h.2 u
  rw [List.mem_cons] at this
  rcases Decidable.em (t = u) with e | e
  · subst e
    simp [h1, hn.1]
  · have e2 : ¬ u = t := fun q => e q.symm
    rw [decide_eq_false e, Bool.xor_false, ← this]
    exact ⟨fun q => Or.inr q, fun q => q.resolve_left e2⟩
theorem ordT_mk {s t : Nat} {ts : List Nat} (h1 : s.testBit t = true) (h : OrdT (s ^^^ 2 ^ t) ts) : OrdT s (t :: ts) := by
  have hm := h.2
  refine ⟨List.nodup_cons.2 ⟨fun q => ?_, h.1⟩, fun u => ?_⟩
  · have := (hm t).1 q
    rw [xor_bit, h1] at this
    simp at this
  · rw [List.mem_cons, hm u, xor_bit]
    rcases Decidable.em (t = u) with e | e
    · subst e
      simp [h1]
    · have e2 : ¬ u = t := fun q => e q.symm
      rw [decide_eq_false e, Bool.xor_false]
      exact ⟨fun q => q.resolve_left e2, fun q => Or.inr q⟩
/-- the rest of a set of tunes -/
theorem rest_or {nd b t : Nat} (h1 : (nd ^^^ (nd &&& b)).testBit t = true) : nd ^^^ (nd &&& (b ||| 2 ^ t)) = (nd ^^^ (nd &&& b)) ^^^ 2 ^ t := by
  refine Nat.eq_of_testBit_eq (fun i => ?_)
  rw [xor_bit]
  simp only [Nat.testBit_xor, Nat.testBit_and, Nat.testBit_or, bit_pow] at *
  rcases Decidable.em (t = i) with e | e
  · subst e
    simp only [decide_true]
    revert h1
    cases nd.testBit t <;> cases b.testBit t <;> decide
  · rw [decide_eq_false e]
    cases nd.testBit i <;> cases b.testBit i <;> rfl
theorem rest_bit (nd b t : Nat) : (nd ^^^ (nd &&& b)).testBit t = (nd.testBit t && !b.testBit t) := by
  simp only [Nat.testBit_xor, Nat.testBit_and]
  cases nd.testBit t <;> cases b.testBit t <;> rfl
theorem rest_lt {nd b : Nat} (h : nd < 64) : nd ^^^ (nd &&& b) < 64 := Nat.xor_lt_two_pow (n := 6) h (Nat.lt_of_le_of_lt Nat.and_le_left h)
/-- the row with t next -/
def bV (ρ : RO) (nd k b l t : Nat) : List Nat := tl ρ t (o7 ρ l t) ++ (bs ρ nd k (b ||| 2 ^ t) t).2
def bF (ρ : RO) (nd k b l t : Nat) (a : Nat × List Nat) : Nat × List Nat := if nd.testBit t && !b.testBit t then (if a.1 = 0 ∨ bt2 (bV ρ nd k b l t) a.2 = true then (t + 1, bV ρ nd k b l t) else a) else a
theorem bs_succ (nd k b l : Nat) : bs ρ nd (k + 1) b l = fo (bF ρ nd k b l) (0, []) (ρ 0 1) := rfl
/-- what has been chosen of the tunes below n -/
def BI (ρ : RO) (nd k b l n : Nat) (a : Nat × List Nat) : Prop := (a.1 = 0 → a.2 = [] ∧ ∀ t, t < n → (nd.testBit t && !b.testBit t) = false) ∧ (a.1 ≠ 0 → a.1 ≤ n ∧ (nd.testBit (a.1 - 1) && !b.testBit (a.1 - 1)) = true ∧ a.2 = bV ρ nd k b l (a.1 - 1) ∧ ∀ t, t < n → (nd.testBit t && !b.testBit t) = true → bt2 (bV ρ nd k b l t) a.2 = false)
theorem BI.no {ρ : RO} {nd k b l n : Nat} {a : Nat × List Nat} (H : BI ρ nd k b l n a) : a.1 = 0 → a.2 = [] ∧ ∀ t, t < n → (nd.testBit t && !b.testBit t) = false := H.1
theorem BI.at {ρ : RO} {nd k b l n : Nat} {a : Nat × List Nat} (H : BI ρ nd k b l n a) : a.1 ≠ 0 → a.1 ≤ n ∧ (nd.testBit (a.1 - 1) && !b.testBit (a.1 - 1)) = true ∧ a.2 = bV ρ nd k b l (a.1 - 1) ∧ ∀ t, t < n → (nd.testBit t && !b.testBit t) = true → bt2 (bV ρ nd k b l t) a.2 = false := H.2
theorem BI.st {nd k b l n : Nat} {a : Nat × List Nat} (h : BI ρ nd k b l n a) : BI ρ nd k b l (n + 1) (bF ρ nd k b l n a) := by
  obtain ⟨h1, h2⟩ := h
  unfold bF
  cases q : (nd.testBit n && !b.testBit n)
  · simp only [Bool.false_eq_true, if_false]
    refine ⟨fun e => ⟨(h1 e).1, fun t ht => ?_⟩, fun e => ⟨by have := (h2 e).1; omega, (h2 e).2.1, (h2 e).2.2.1, fun t ht hb => ?_⟩⟩
    · rcases Decidable.em (t = n) with e2 | e2
      · rw [e2, q]
      · exact (h1 e).2 t (by omega)
    · rcases Decidable.em (t = n) with e2 | e2
      · rw [e2, q] at hb
        cases hb
      · exact (h2 e).2.2.2 t (by omega) hb
  · simp only [if_true]
    rcases Decidable.em (a.1 = 0 ∨ bt2 (bV ρ nd k b l n) a.2 = true) with c | c
    · rw [if_pos c]
      refine ⟨fun e => absurd e (by simp), fun _ => ⟨by simp, by simpa using q, by simp, fun t ht hb => ?_⟩⟩
      rcases Decidable.em (t = n) with e2 | e2
      · rw [e2]
        exact bt2_irr _
      · rcases Decidable.em (a.1 = 0) with z | z
        · rw [(h1 z).2 t (by omega)] at hb
          cases hb
        · rcases c with c | c
          · exact absurd c z
          · exact bt2_neg2 ((h2 z).2.2.2 t (by omega) hb) c
    · rw [if_neg c]
      have z : a.1 ≠ 0 := fun e => c (Or.inl e)
      have w : bt2 (bV ρ nd k b l n) a.2 = false := by
        cases w : bt2 (bV ρ nd k b l n) a.2
        · rfl
        · exact absurd (Or.inr w) c
      refine ⟨fun e => absurd e z, fun _ => ⟨by have := (h2 z).1; omega, (h2 z).2.1, (h2 z).2.2.1, fun t ht hb => ?_⟩⟩
      rcases Decidable.em (t = n) with e2 | e2
      · rw [e2]
        exact w
      · exact (h2 z).2.2.2 t (by omega) hb
theorem BI.fo (nd k b l : Nat) : ∀ n, BI ρ nd k b l n (fo (bF ρ nd k b l) (0, []) n)
  | 0 => ⟨fun _ => ⟨rfl, fun t ht => absurd ht (by omega)⟩, fun e => absurd rfl e⟩
  | n + 1 => (BI.fo nd k b l n).st
theorem bs_best {nd : Nat} (hnd : nd < 64) (hT : ∀ t, nd.testBit t = true → t < ρ 0 1) : ∀ k b l, bcN (nd ^^^ (nd &&& b)) ≤ k → BestT ρ (nd ^^^ (nd &&& b)) l (bs ρ nd k b l).2
  | 0, b, l => fun h => by
    have e : nd ^^^ (nd &&& b) = 0 := (bc_tab _ (rest_lt hnd)).2 (by omega)
    rw [e]
    refine ⟨⟨[], ⟨List.nodup_nil, fun t => by simp⟩, rfl⟩, fun ts o => ?_⟩
    rw [ordT_nil o]
    exact bt2_irr _
  | k + 1, b, l => fun h => by
    have I := BI.fo (ρ := ρ) nd k b l (ρ 0 1)
    rw [← bs_succ] at I
    have hb : ∀ t, (nd ^^^ (nd &&& b)).testBit t = true → bcN (nd ^^^ (nd &&& (b ||| 2 ^ t))) ≤ k := by
      intro t ht
      rw [rest_or ht]
      have := xb_tab _ (rest_lt hnd) t (bit6 (rest_lt hnd) ht) ht
      omega
    rcases Decidable.em ((bs ρ nd (k + 1) b l).1 = 0) with z | z
    · obtain ⟨e, n0⟩ := I.no z
      have e0 : nd ^^^ (nd &&& b) = 0 := by
        refine Nat.eq_of_testBit_eq (fun i => ?_)
        rw [Nat.zero_testBit]
        cases q : (nd ^^^ (nd &&& b)).testBit i
        · rfl
        · have q2 := q
          rw [rest_bit] at q2
          have q3 : nd.testBit i = true := by
            revert q2
            cases nd.testBit i <;> simp
          rw [n0 i (hT i q3)] at q2
          cases q2
      rw [e, e0]
      refine ⟨⟨[], ⟨List.nodup_nil, fun t => by simp⟩, rfl⟩, fun ts o => ?_⟩
      rw [ordT_nil o]
      exact bt2_irr _
    · obtain ⟨_, hin, e, mn⟩ := I.at z
      refine ⟨?_, fun ts o => ?_⟩
      · have ht : (nd ^^^ (nd &&& b)).testBit ((bs ρ nd (k + 1) b l).1 - 1) = true := by rw [rest_bit]; exact hin
        obtain ⟨⟨ts, o, e2⟩, _⟩ := bs_best hnd hT k (b ||| 2 ^ ((bs ρ nd (k + 1) b l).1 - 1)) ((bs ρ nd (k + 1) b l).1 - 1) (hb _ ht)
        rw [rest_or ht] at o
        refine ⟨_, ordT_mk ht o, ?_⟩
        rw [e]
        show tl ρ _ _ ++ _ = tl ρ _ _ ++ _
        rw [e2]
      · cases ts with
        | nil =>
          have : (nd ^^^ (nd &&& b)).testBit ((bs ρ nd (k + 1) b l).1 - 1) = true := by rw [rest_bit]; exact hin
          have := (o.2 _).2 this
          simp at this
        | cons t ts =>
          obtain ⟨ht, o2⟩ := ordT_cons o
          rw [← rest_or ht] at o2
          have k1 := (bs_best hnd hT k (b ||| 2 ^ t) t (hb t ht)).2 ts o2
          have k2 : bt2 (sgT ρ l (t :: ts)) (bV ρ nd k b l t) = false := by
            show bt2 (tl ρ t (o7 ρ l t) ++ sgT ρ t ts) (tl ρ t (o7 ρ l t) ++ _) = false
            rw [bt2_pre]
            exact k1
          rw [rest_bit] at ht
          have q3 : nd.testBit t = true := by
            revert ht
            cases nd.testBit t <;> simp
          exact bt2_neg k2 (mn t (hT t q3) ht)
end
