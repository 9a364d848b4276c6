theorem eb_inr {α β : Type} {e : FA ⊕ α} {f : α → FA ⊕ β} {s : β} (h : eb e f = .inr s) : ∃ a, e = .inr a ∧ f a = .inr s := by
  rcases e with x | a
  · cases h
  · exact ⟨a, rfl, h⟩
/-- a line of sort c was read from i on -/
def XO (n : Nat) (ρ τ : RO) (i c : Nat) (s : RO × RO × Nat) : Prop := PV s.1 s.2.1 ∧ i ≤ s.2.2 ∧ s.2.2 ≤ n ∧ (∀ k, k ≠ 0 → s.1 0 k = if k = c then ρ 0 k + 1 else ρ 0 k) ∧ s.2.1 3 1 = if c = 0 then 1 else τ 3 1
section
variable {b : Nat → Nat} {n : Nat} {ρ τ : RO} {i : Nat} {s : RO × RO × Nat}
theorem pNew_r {u : Unit} (h : pNew b n τ i = .inr u) : tk b n i = 1 := by
  unfold pNew at h
  split at h
  · rename_i q
    exact isN_tk q
  · cases h
theorem pNotes_r {u : Unit} (h : pNotes b n i = .inr u) : tk b n i = 1 ∧ 2 ≤ tL b n i ∧ ff (fun k => decide (103 < b (sp b n i + k))) (tL b n i) = tL b n i := by
  unfold pNotes at h
  split at h
  · rename_i q
    split at h
    · rename_i z
      exact ⟨q, z⟩
    · cases h
  · cases h
theorem pKind_r {k : Nat} (h : pKind b n i = .inr k) : tk b n i = 1 ∧ k ≤ 3 := by
  unfold pKind at h
  split at h
  · rename_i q
    have := Sum.inr.inj h
    exact ⟨q.1, by omega⟩
  · cases h
theorem pSell_r {k : Nat} (h : pSell b n i = .inr k) : tk b n i = 1 ∧ k ≤ 1 := by
  unfold pSell at h
  split at h
  · rename_i q
    have := Sum.inr.inj h
    exact ⟨(isW_tk q).1, by omega⟩
  · split at h
    · rename_i q
      have := Sum.inr.inj h
      exact ⟨(isW_tk q).1, by omega⟩
    · cases h
theorem pWord_r {k : Nat} {u : Unit} (h : pWord b n k i = .inr u) : tk b n i = 1 ∧ tM b n i = k + 1 := by
  unfold pWord at h
  split at h
  · rename_i q
    exact isW_tk q
  · cases h
theorem XO.turn (P : PV ρ τ) (hi : i ≤ n) (e : pTurn b n ρ τ i = .inr s) : XO n ρ τ i 0 s := by
  unfold pTurn at e
  obtain ⟨u, -, e⟩ := eb_inr e
  obtain ⟨v, w, e⟩ := eb_inr e
  have e := (Sum.inr.inj e).symm
  subst e
  have h1 := ta_ge b n i
  have h2 := ta_ge b n (ta b n i)
  refine ⟨P.turn (pNum_r w).2.2, by show i ≤ ta b n (ta b n i); omega, ta_le b (ta_le b hi), fun k hk => ?_, ?_⟩
  · rw [if_neg hk]
    exact rup_ne _ _ _ _ (by omega)
  · rw [if_pos rfl]
    exact rup_at τ 3 1 1
theorem XO.tune (P : PV ρ τ) (hi : i ≤ n) (hk : ρ 0 1 ≠ 6) (h1 : τ 3 1 ≠ 0) (e : pTune b n ρ τ i = .inr s) : XO n ρ τ i 1 s := by
  have := P.rw.tu
  unfold pTune at e
  obtain ⟨u, w, e⟩ := eb_inr e
  obtain ⟨v, w2, e⟩ := eb_inr e
  have e := (Sum.inr.inj e).symm
  subst e
  have g1 := ta_ge b n i
  have g2 := ta_ge b n (ta b n i)
  obtain ⟨x1, x2, x3⟩ := pNotes_r w2
  refine ⟨P.tuneL _ (by omega) h1 x1 x2 x3, by show i ≤ ta b n (ta b n i); omega, ta_le b (ta_le b hi), fun k hk => ?_, ?_⟩
  · show noteR b n ρ (ta b n i) 0 k = _
    simp only [noteR]
    rcases Decidable.em (k = 1) with c | c
    · simp [c]
    · simp [c]
  · rw [if_neg (by decide)]
    exact addN_31 τ (tW b n i) 1 (ρ 0 1)
theorem XO.place (P : PV ρ τ) (hi : i ≤ n) (hk : ρ 0 2 ≠ 7) (h1 : τ 3 1 ≠ 0) (e : pPlace b n ρ τ i = .inr s) : XO n ρ τ i 2 s := by
  have := P.rw.pl
  unfold pPlace at e
  obtain ⟨u, w, e⟩ := eb_inr e
  have e := (Sum.inr.inj e).symm
  subst e
  refine ⟨P.placeL _ (by omega) h1, ta_ge b n i, ta_le b hi, fun k hk => ?_, ?_⟩
  · show rup ρ 0 2 (ρ 0 2 + 1) 0 k = _
    rcases Decidable.em (k = 2) with c | c
    · simp [c, rup]
    · simp [c, rup]
  · rw [if_neg (by decide)]
    exact addN_31 τ (tW b n i) 2 (ρ 0 2)
theorem XO.road (P : PV ρ τ) (hi : i ≤ n) (hk : ρ 0 3 ≠ 10) (h1 : τ 3 1 ≠ 0) (e : pRoad b n ρ τ i = .inr s) : XO n ρ τ i 3 s := by
  have := P.rw.ro
  unfold pRoad at e
  obtain ⟨p, w1, e⟩ := eb_inr e
  obtain ⟨q, w2, e⟩ := eb_inr e
  split at e
  · cases e
  rename_i hc
  obtain ⟨u, w3, e⟩ := eb_inr e
  obtain ⟨m, w4, e⟩ := eb_inr e
  have e := (Sum.inr.inj e).symm
  subst e
  have g1 := ta_ge b n i
  have g2 := ta_ge b n (ta b n i)
  have g3 := ta_ge b n (ta b n (ta b n i))
  have g4 := ta_ge b n (ta b n (ta b n (ta b n i)))
  refine ⟨P.roadL (by omega) h1 (P.place w1) (P.place w2) (fun z => hc (Or.inl z)) (Decidable.of_not_not (fun z => hc (Or.inr z))) (pNum_r w4).2, by show i ≤ ta b n (ta b n (ta b n (ta b n i))); omega, ta_le b (ta_le b (ta_le b (ta_le b hi))), fun k hk => ?_, ?_⟩
  · show roadR ρ p q m 0 k = _
    rcases Decidable.em (k = 3) with c | c
    · simp [c, roadR]
    · simp [c, roadR]
  · rfl
theorem XO.gate (P : PV ρ τ) (hi : i ≤ n) (h4 : ρ 0 4 ≤ 1000) (h1 : τ 3 1 ≠ 0) (e : pGate b n ρ τ i = .inr s) : XO n ρ τ i 4 s := by
  unfold pGate at e
  obtain ⟨p, w1, e⟩ := eb_inr e
  obtain ⟨q, w2, e⟩ := eb_inr e
  split at e
  · cases e
  split at e
  · cases e
  rename_i hc
  split at e
  · cases e
  obtain ⟨k0, w3, e⟩ := eb_inr e
  obtain ⟨t, w4, e⟩ := eb_inr e
  have e := (Sum.inr.inj e).symm
  subst e
  have g1 := ta_ge b n i
  have g2 := ta_ge b n (ta b n i)
  have g3 := ta_ge b n (ta b n (ta b n i))
  have g4 := ta_ge b n (ta b n (ta b n (ta b n i)))
  have hj : ρ 13 (7 * p + q) - 1 < ρ 0 3 := by
    rcases P.rw.bt p q (P.place w1) (P.place w2) with g | ⟨j, g1, g2, -⟩ <;> omega
  refine ⟨P.gateL h4 h1 hj (pKind_r w3).2 (P.tune w4), by show i ≤ ta b n (ta b n (ta b n (ta b n i))); omega, ta_le b (ta_le b (ta_le b (ta_le b hi))), fun k hk => ?_, ?_⟩
  · show gateR ρ (ρ 13 (7 * p + q) - 1) k0 t 0 k = _
    rcases Decidable.em (k = 4) with c | c
    · simp [c, gateR]
    · simp [c, gateR]
  · rfl
theorem XO.inn (P : PV ρ τ) (hi : i ≤ n) (hk : ρ 0 5 ≠ 6) (h1 : τ 3 1 ≠ 0) (e : pInn b n ρ τ i = .inr s) : XO n ρ τ i 5 s := by
  have := P.rw.inn
  unfold pInn at e
  obtain ⟨p, w1, e⟩ := eb_inr e
  obtain ⟨f, w2, e⟩ := eb_inr e
  obtain ⟨t, w3, e⟩ := eb_inr e
  obtain ⟨u, w4, e⟩ := eb_inr e
  obtain ⟨m, w5, e⟩ := eb_inr e
  have e := (Sum.inr.inj e).symm
  subst e
  have g1 := ta_ge b n i
  have g2 := ta_ge b n (ta b n i)
  have g3 := ta_ge b n (ta b n (ta b n i))
  have g4 := ta_ge b n (ta b n (ta b n (ta b n i)))
  have g5 := ta_ge b n (ta b n (ta b n (ta b n (ta b n i))))
  refine ⟨P.innL (by omega) h1 (P.place w1) (P.tune w3) (pSell_r w2).2 (pNum_r w5).2.2, by show i ≤ ta b n (ta b n (ta b n (ta b n (ta b n i)))); omega, ta_le b (ta_le b (ta_le b (ta_le b (ta_le b hi)))), fun k hk => ?_, ?_⟩
  · show innR ρ p t f m 0 k = _
    rcases Decidable.em (k = 5) with c | c
    · simp [c, innR]
    · simp [c, innR]
  · rfl
theorem XO.pers (P : PV ρ τ) (hi : i ≤ n) (hk : ρ 0 6 ≠ 4) (h1 : τ 3 1 ≠ 0) (e : pPers b n ρ τ i = .inr s) : XO n ρ τ i 6 s := by
  have := P.rw.pe
  unfold pPers at e
  obtain ⟨u, w1, e⟩ := eb_inr e
  obtain ⟨u2, w2, e⟩ := eb_inr e
  obtain ⟨p, w3, e⟩ := eb_inr e
  obtain ⟨u3, w4, e⟩ := eb_inr e
  obtain ⟨m, w5, e⟩ := eb_inr e
  have e := (Sum.inr.inj e).symm
  subst e
  have g1 := ta_ge b n i
  have g2 := ta_ge b n (ta b n i)
  have g3 := ta_ge b n (ta b n (ta b n i))
  have g4 := ta_ge b n (ta b n (ta b n (ta b n i)))
  have g5 := ta_ge b n (ta b n (ta b n (ta b n (ta b n i))))
  refine ⟨P.persL _ (by omega) h1 (P.place w3) (pNum_r w5).2.2, by show i ≤ ta b n (ta b n (ta b n (ta b n (ta b n i)))); omega, ta_le b (ta_le b (ta_le b (ta_le b (ta_le b hi)))), fun k hk => ?_, ?_⟩
  · show rup ρ 0 6 (ρ 0 6 + 1) 0 k = _
    rcases Decidable.em (k = 6) with c | c
    · simp [c, rup]
    · simp [c, rup]
  · show rup (rup (addN τ (tW b n i) 6 (ρ 0 6)) 4 (ρ 0 6) p) 5 (ρ 0 6) m 3 1 = _
    rw [rup_ne _ _ _ _ (by omega), rup_ne _ _ _ _ (by omega), addN_31]
    rfl
theorem XO.know (P : PV ρ τ) (hi : i ≤ n) (hk : ρ 0 7 ≠ 8) (h1 : τ 3 1 ≠ 0) (e : pKnow b n ρ τ i = .inr s) : XO n ρ τ i 7 s := by
  have := P.k7
  unfold pKnow at e
  obtain ⟨x, w1, e⟩ := eb_inr e
  obtain ⟨t, w2, e⟩ := eb_inr e
  split at e
  · cases e
  have e := (Sum.inr.inj e).symm
  subst e
  have g1 := ta_ge b n i
  have g2 := ta_ge b n (ta b n i)
  refine ⟨P.knowL (by omega) h1 (P.tune w2) (P.pers w1), by show i ≤ ta b n (ta b n i); omega, ta_le b (ta_le b hi), fun k hk => ?_, ?_⟩
  · show rup ρ 0 7 (ρ 0 7 + 1) 0 k = _
    rcases Decidable.em (k = 7) with c | c
    · simp [c, rup]
    · simp [c, rup]
  · rw [if_neg (by decide)]
    exact rup_ne τ 6 x (τ 6 x ||| 2 ^ t) (a := 3) (c := 1) (by omega)
theorem XO.hear (P : PV ρ τ) (hi : i ≤ n) (hk : ρ 0 8 ≠ 5) (h1 : τ 3 1 ≠ 0) (e : pHear b n ρ τ i = .inr s) : XO n ρ τ i 8 s := by
  have := P.rw.he
  unfold pHear at e
  obtain ⟨t, w1, e⟩ := eb_inr e
  have e := (Sum.inr.inj e).symm
  subst e
  refine ⟨P.hearL (by omega) h1 (P.tune w1), ta_ge b n i, ta_le b hi, fun k hk => ?_, ?_⟩
  · show heardR ρ t 0 k = _
    rcases Decidable.em (k = 8) with c | c
    · simp [c, heardR]
    · simp [c, heardR]
  · rfl
def cl (ρ τ : RO) (k : Nat) : Nat := if k = 0 then τ 3 1 else ρ 0 k
theorem XO.cls {c : Nat} (X : XO n ρ τ i c s) (hc : c = 0 → τ 3 1 = 0) : ∀ k, cl s.1 s.2.1 k = if k = c then cl ρ τ c + 1 else cl ρ τ k := by
  intro k
  obtain ⟨-, -, -, h1, h2⟩ := X
  unfold cl
  rcases Decidable.em (k = 0) with d | d
  · rw [if_pos d, h2]
    rcases Decidable.em (c = 0) with g | g
    · rw [if_pos g, if_pos (d.trans g.symm), if_pos g, hc g]
    · rw [if_neg g, if_neg (fun z => g (z.symm.trans d)), if_pos d]
  · rw [if_neg d, h1 k d]
    rcases Decidable.em (k = c) with g | g
    · rw [if_pos g, if_pos g, if_neg (fun z => d (g.trans z)), g]
    · rw [if_neg g, if_neg g, if_neg d]
end
