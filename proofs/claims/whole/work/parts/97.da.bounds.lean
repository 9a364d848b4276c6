/-! ===== faults are told within the text ===== -/
def GB {α : Type} (n : Nat) (e : FA ⊕ α) : Prop := match e with
  | .inl f => 1 ≤ f.1 ∧ f.1 ≤ 8 ∧ f.2 ≤ n
  | .inr _ => True
theorem gb_inr {α : Type} {n : Nat} (a : α) : GB n (.inr a : FA ⊕ α) := trivial
theorem gb_inl {α : Type} {b : Nat → Nat} {n c i : Nat} (hc : 1 ≤ c ∧ c ≤ 8) (hi : i ≤ n) : GB n (.inl (c, sp b n i) : FA ⊕ α) := ⟨hc.1, hc.2, sp_le b hi⟩
theorem gb_ite {α : Type} {n : Nat} {c : Prop} {d : Decidable c} {x y : FA ⊕ α} (h1 : GB n x) (h2 : GB n y) : GB n (@ite _ c d x y) := by
  rcases d with d | d
  · exact h2
  · exact h1
theorem gb_eb {α β : Type} {n : Nat} {e : FA ⊕ α} {f : α → FA ⊕ β} (h1 : GB n e) (h2 : ∀ a, GB n (f a)) : GB n (eb e f) := by
  rcases e with x | a
  · exact h1
  · exact h2 a
section
variable {b : Nat → Nat} {n : Nat} {ρ τ : RO} {i k s lo hi : Nat}
theorem gb_word (h : i ≤ n) : GB n (pWord b n k i) := by
  unfold pWord
  exact gb_ite (gb_inr _) (gb_inl (by decide) h)
theorem gb_num (h : i ≤ n) : GB n (pNum b n lo hi i) := by
  unfold pNum
  exact gb_ite (gb_ite (gb_inr _) (gb_inl (by decide) h)) (gb_inl (by decide) h)
theorem gb_new (h : i ≤ n) : GB n (pNew b n τ i) := by
  unfold pNew
  exact gb_ite (gb_ite (gb_inr _) (gb_inl (by decide) h)) (gb_inl (by decide) h)
theorem gb_notes (h : i ≤ n) : GB n (pNotes b n i) := by
  unfold pNotes
  exact gb_ite (gb_ite (gb_inr _) (gb_inl (by decide) h)) (gb_inl (by decide) h)
theorem gb_kind (h : i ≤ n) : GB n (pKind b n i) := by
  unfold pKind
  exact gb_ite (gb_inr _) (gb_inl (by decide) h)
theorem gb_sell (h : i ≤ n) : GB n (pSell b n i) := by
  unfold pSell
  exact gb_ite (gb_inr _) (gb_ite (gb_inr _) (gb_inl (by decide) h))
theorem gb_name (h : i ≤ n) : GB n (pName b n τ s i) := by
  unfold pName
  exact gb_ite (gb_ite (gb_inl (by decide) h) (gb_ite (gb_inr _) (gb_inl (by decide) h))) (gb_inl (by decide) h)
theorem gb_Turn (h : i ≤ n) : GB n (pTurn b n ρ τ i) := by
  have h1 := ta_le b h
  unfold pTurn
  exact gb_eb (gb_word h) (fun _ => gb_eb (gb_num h1) (fun _ => gb_inr _))
theorem gb_Tune (h : i ≤ n) : GB n (pTune b n ρ τ i) := by
  have h1 := ta_le b h
  unfold pTune
  exact gb_eb (gb_new h) (fun _ => gb_eb (gb_notes h1) (fun _ => gb_inr _))
theorem gb_Place (h : i ≤ n) : GB n (pPlace b n ρ τ i) := by
  unfold pPlace
  exact gb_eb (gb_new h) (fun _ => gb_inr _)
theorem gb_Road (h : i ≤ n) : GB n (pRoad b n ρ τ i) := by
  have h1 := ta_le b h
  have h2 := ta_le b h1
  have h3 := ta_le b h2
  unfold pRoad
  exact gb_eb (gb_name h) (fun _ => gb_eb (gb_name h1) (fun _ => gb_ite (gb_inl (by decide) h1) (gb_eb (gb_word h2) (fun _ => gb_eb (gb_num h3) (fun _ => gb_inr _)))))
theorem gb_Gate (h : i ≤ n) : GB n (pGate b n ρ τ i) := by
  have h1 := ta_le b h
  have h2 := ta_le b h1
  have h3 := ta_le b h2
  unfold pGate
  exact gb_eb (gb_name h) (fun _ => gb_eb (gb_name h1) (fun _ => gb_ite (gb_inl (by decide) h1) (gb_ite (gb_inl (by decide) h1) (gb_ite (gb_inl (by decide) h1) (gb_eb (gb_kind h2) (fun _ => gb_eb (gb_name h3) (fun _ => gb_inr _)))))))
theorem gb_Inn (h : i ≤ n) : GB n (pInn b n ρ τ i) := by
  have h1 := ta_le b h
  have h2 := ta_le b h1
  have h3 := ta_le b h2
  have h4 := ta_le b h3
  unfold pInn
  exact gb_eb (gb_name h) (fun _ => gb_eb (gb_sell h1) (fun _ => gb_eb (gb_name h2) (fun _ => gb_eb (gb_word h3) (fun _ => gb_eb (gb_num h4) (fun _ => gb_inr _)))))
theorem gb_Pers (h : i ≤ n) : GB n (pPers b n ρ τ i) := by
  have h1 := ta_le b h
  have h2 := ta_le b h1
  have h3 := ta_le b h2
  have h4 := ta_le b h3
  unfold pPers
  exact gb_eb (gb_new h) (fun _ => gb_eb (gb_word h1) (fun _ => gb_eb (gb_name h2) (fun _ => gb_eb (gb_word h3) (fun _ => gb_eb (gb_num h4) (fun _ => gb_inr _)))))
theorem gb_Know (h : i ≤ n) : GB n (pKnow b n ρ τ i) := by
  have h1 := ta_le b h
  unfold pKnow
  exact gb_eb (gb_name h) (fun _ => gb_eb (gb_name h1) (fun _ => gb_ite (gb_inl (by decide) h1) (gb_inr _)))
theorem gb_Hear (h : i ≤ n) : GB n (pHear b n ρ τ i) := by
  unfold pHear
  exact gb_eb (gb_name h) (fun _ => gb_inr _)
theorem gb_line (h : i ≤ n) : GB n (pLine b n ρ τ i) := by
  have h1 := ta_le b h
  have z : ∀ c, 1 ≤ c ∧ c ≤ 8 → GB n (.inl (c, sp b n i) : LR) := fun c hc => gb_inl hc h
  have z1 := z 1 (by decide)
  have z3 := z 3 (by decide)
  have z5 := z 5 (by decide)
  have z6 := z 6 (by decide)
  have y1 : GB n (pTurn b n ρ τ (ta b n i)) := gb_Turn h1
  have y2 : GB n (pTune b n ρ τ (ta b n i)) := gb_Tune h1
  have y3 : GB n (pPlace b n ρ τ (ta b n i)) := gb_Place h1
  have y4 : GB n (pRoad b n ρ τ (ta b n i)) := gb_Road h1
  have y5 : GB n (pGate b n ρ τ (ta b n i)) := gb_Gate h1
  have y6 : GB n (pInn b n ρ τ (ta b n i)) := gb_Inn h1
  have y7 : GB n (pPers b n ρ τ (ta b n i)) := gb_Pers h1
  have y8 : GB n (pKnow b n ρ τ (ta b n i)) := gb_Know h1
  have y9 : GB n (pHear b n ρ τ (ta b n i)) := gb_Hear h1
  obtain ⟨e, he⟩ : ∃ e, pLine b n ρ τ i = e := ⟨_, rfl⟩
  rw [he]
  unfold pLine at he
  rcases Decidable.em (tk b n i = 1) with t1 | t1
  · rw [if_pos t1] at he
    rcases Decidable.em (tM b n i = 1) with m1 | m1
    · rw [if_pos m1] at he
      rcases Decidable.em (τ 3 1 = 0) with q | q
      · rw [if_pos q] at he
        rw [← he]; exact y1
      · rw [if_neg q] at he
        rw [← he]; exact z3
    rw [if_neg m1] at he
    rcases Decidable.em (tM b n i = 0 ∨ 10 ≤ tM b n i) with m0 | m0
    · rw [if_pos m0] at he
      rw [← he]; exact z1
    rw [if_neg m0] at he
    rcases Decidable.em (τ 3 1 = 0) with q | q
    · rw [if_pos q] at he
      rw [← he]; exact z6
    rw [if_neg q] at he
    rcases Decidable.em (tM b n i = 2) with m | m
    · rw [if_pos m] at he
      rcases Decidable.em (ρ 0 1 = 6) with g | g
      · rw [if_pos g] at he
        rw [← he]; exact z5
      · rw [if_neg g] at he
        rw [← he]; exact y2
    rw [if_neg m] at he
    rcases Decidable.em (tM b n i = 3) with m | m
    · rw [if_pos m] at he
      rcases Decidable.em (ρ 0 2 = 7) with g | g
      · rw [if_pos g] at he
        rw [← he]; exact z5
      · rw [if_neg g] at he
        rw [← he]; exact y3
    rw [if_neg m] at he
    rcases Decidable.em (tM b n i = 4) with m | m
    · rw [if_pos m] at he
      rcases Decidable.em (ρ 0 3 = 10) with g | g
      · rw [if_pos g] at he
        rw [← he]; exact z5
      · rw [if_neg g] at he
        rw [← he]; exact y4
    rw [if_neg m] at he
    rcases Decidable.em (tM b n i = 5) with m | m
    · rw [if_pos m] at he
      rw [← he]; exact y5
    rw [if_neg m] at he
    rcases Decidable.em (tM b n i = 6) with m | m
    · rw [if_pos m] at he
      rcases Decidable.em (ρ 0 5 = 6) with g | g
      · rw [if_pos g] at he
        rw [← he]; exact z5
      · rw [if_neg g] at he
        rw [← he]; exact y6
    rw [if_neg m] at he
    rcases Decidable.em (tM b n i = 7) with m | m
    · rw [if_pos m] at he
      rcases Decidable.em (ρ 0 6 = 4) with g | g
      · rw [if_pos g] at he
        rw [← he]; exact z5
      · rw [if_neg g] at he
        rw [← he]; exact y7
    rw [if_neg m] at he
    rcases Decidable.em (tM b n i = 8) with m | m
    · rw [if_pos m] at he
      rcases Decidable.em (ρ 0 7 = 8) with g | g
      · rw [if_pos g] at he
        rw [← he]; exact z5
      · rw [if_neg g] at he
        rw [← he]; exact y8
    rw [if_neg m] at he
    rcases Decidable.em (ρ 0 8 = 5) with g | g
    · rw [if_pos g] at he
      rw [← he]; exact z5
    · rw [if_neg g] at he
      rw [← he]; exact y9
  · rw [if_neg t1] at he
    rw [← he]; exact z1
end
theorem gb_all {b : Nat → Nat} {n : Nat} (hn : n ≤ 1000) : ∀ (f : Nat) (ρ τ : RO) (i : Nat), PV ρ τ → i ≤ n → ρ 0 4 ≤ i → GB n (pAll b n f ρ τ i)
  | 0, _, _, _, _, _, _ => ⟨by decide, by decide, Nat.zero_le _⟩
  | f + 1, ρ, τ, i, P, hi, h4 => by
    have g := gb_line (b := b) (ρ := ρ) (τ := τ) hi
    unfold pAll
    rcases e : pLine b n ρ τ i with x | s
    · rw [e] at g
      exact g
    · obtain ⟨o1, o2, o3, o4⟩ := pLine_ok P hi hn h4 e
      rw [eb_r]
      split
      · split
        · exact gb_inr _
        · exact gb_inl (by decide) o3
      · split
        · rename_i t3
          have := tk_end t3
          exact gb_all hn f _ _ _ o1 (ta_le b o3) (by omega)
        · exact gb_inl (by decide) o3
theorem pAll_pv {b : Nat → Nat} {n : Nat} (hn : n ≤ 1000) : ∀ (f : Nat) (ρ τ : RO) (i : Nat) (s : RO × RO), PV ρ τ → i ≤ n → ρ 0 4 ≤ i → pAll b n f ρ τ i = .inr s → PV s.1 s.2 ∧ 0 < s.1 0 2
  | 0, _, _, _, _, _, _, _, e => by
    unfold pAll at e
    cases e
  | f + 1, ρ, τ, i, s, P, hi, h4, e => by
    unfold pAll at e
    rcases w : pLine b n ρ τ i with x | t
    · rw [w, eb_l] at e
      cases e
    · obtain ⟨o1, o2, o3, o4⟩ := pLine_ok P hi hn h4 w
      rw [w, eb_r] at e
      split at e
      · split at e
        · rename_i z
          cases e
          exact ⟨o1, z⟩
        · cases e
      · split at e
        · rename_i t3
          have := tk_end t3
          exact pAll_pv hn f _ _ _ s o1 (ta_le b o3) (by omega) e
        · cases e
