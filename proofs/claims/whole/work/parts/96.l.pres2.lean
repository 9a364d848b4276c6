section
variable {b : Nat → Nat} {n : Nat} {ρ τ : RO} {i : Nat}
theorem PV.hearL (P : PV ρ τ) {t : Nat} (hk : ρ 0 8 < 5) (h1 : τ 3 1 ≠ 0) (ht : t < ρ 0 1) : PV (heardR ρ t) τ := by
  have W := P.rw
  have h6 := W.tu
  have a0 : ∀ k, heardR ρ t 0 k = if k = 8 then ρ 0 8 + 1 else ρ 0 k := fun k => by simp [heardR]
  have a12 : ∀ k, heardR ρ t 12 k = if k = ρ 0 8 then t else ρ 12 k := fun k => by simp [heardR]
  have ar : ∀ a, a ≠ 0 → a ≠ 12 → heardR ρ t a = ρ a := fun a h0 h1 => by
    funext k
    simp [heardR, h0, h1]
  have b1 : heardR ρ t 0 1 = ρ 0 1 := a0 1
  have b2 : heardR ρ t 0 2 = ρ 0 2 := a0 2
  have b3 : heardR ρ t 0 3 = ρ 0 3 := a0 3
  have b5 : heardR ρ t 0 5 = ρ 0 5 := a0 5
  have b6 : heardR ρ t 0 6 = ρ 0 6 := a0 6
  have b7 : heardR ρ t 0 7 = ρ 0 7 := a0 7
  have b8 : heardR ρ t 0 8 = ρ 0 8 + 1 := a0 8
  refine ⟨⟨fun a j => ?_, ?_⟩, ?_⟩
  · unfold heardR
    have := W.all a j
    repeat' split
    all_goals omega
  · rw [b1, b2, b3, b5, b6, b8, ar 1 (by decide) (by decide), ar 2 (by decide) (by decide), ar 3 (by decide) (by decide), ar 4 (by decide) (by decide), ar 5 (by decide) (by decide), ar 6 (by decide) (by decide), ar 7 (by decide) (by decide), ar 8 (by decide) (by decide), ar 9 (by decide) (by decide), ar 10 (by decide) (by decide), ar 11 (by decide) (by decide), ar 13 (by decide) (by decide)]
    refine ⟨W.tu, W.pl, W.ro, W.inn, W.pe, by omega, W.len, W.note, W.e1, W.e2, W.ne, W.min, W.kd, W.gt, W.b1, W.b2, W.bt, W.ip, fun k hk => ?_⟩
    rw [a12]
    split
    · exact ht
    · exact W.hd k (by omega)
  · rw [b7, b1, b2, b6, b3, ar 6 (by decide) (by decide), ar 13 (by decide) (by decide)]
    exact ⟨P.k7, P.nm, P.nk, P.k0, fun q => absurd q h1, P.nf.mono b6 (Nat.le_of_eq b2.symm), P.z, P.zf, P.zr, P.zb, P.t1⟩
theorem PV.innL (P : PV ρ τ) {p t f m : Nat} (hk : ρ 0 5 < 6) (h1 : τ 3 1 ≠ 0) (hp : p < ρ 0 2) (ht : t < ρ 0 1) (hf : f ≤ 1) (hm : m ≤ 99) : PV (innR ρ p t f m) τ := by
  have W := P.rw
  have h6 := W.tu
  have h7 := W.pl
  have a0 : ∀ k, innR ρ p t f m 0 k = if k = 5 then ρ 0 5 + 1 else ρ 0 k := fun k => by simp [innR]
  have a8 : ∀ k, innR ρ p t f m 8 k = if k = ρ 0 5 then p else ρ 8 k := fun k => by simp [innR]
  have a9 : ∀ k, innR ρ p t f m 9 k = if k = ρ 0 5 then t else ρ 9 k := fun k => by simp [innR]
  have a10 : ∀ k, innR ρ p t f m 10 k = if k = ρ 0 5 then f else ρ 10 k := fun k => by simp [innR]
  have a11 : ∀ k, innR ρ p t f m 11 k = if k = ρ 0 5 then m else ρ 11 k := fun k => by simp [innR]
  have ar : ∀ a, a ≠ 0 → (a < 8 ∨ 11 < a) → innR ρ p t f m a = ρ a := fun a h0 h3 => by
    funext k
    unfold innR
    rw [if_neg (by omega), if_neg (by omega), if_neg (by omega), if_neg (by omega), if_neg (by omega)]
  have b1 : innR ρ p t f m 0 1 = ρ 0 1 := a0 1
  have b2 : innR ρ p t f m 0 2 = ρ 0 2 := a0 2
  have b3 : innR ρ p t f m 0 3 = ρ 0 3 := a0 3
  have b5 : innR ρ p t f m 0 5 = ρ 0 5 + 1 := a0 5
  have b6 : innR ρ p t f m 0 6 = ρ 0 6 := a0 6
  have b7 : innR ρ p t f m 0 7 = ρ 0 7 := a0 7
  have b8 : innR ρ p t f m 0 8 = ρ 0 8 := a0 8
  refine ⟨⟨fun a j => ?_, ?_⟩, ?_⟩
  · unfold innR
    have := W.all a j
    repeat' split
    all_goals omega
  · rw [b1, b2, b3, b5, b6, b8, ar 1 (by decide) (by decide), ar 2 (by decide) (by decide), ar 3 (by decide) (by decide), ar 4 (by decide) (by decide), ar 5 (by decide) (by decide), ar 6 (by decide) (by decide), ar 7 (by decide) (by decide), ar 12 (by decide) (by decide), ar 13 (by decide) (by decide)]
    refine ⟨W.tu, W.pl, W.ro, by omega, W.pe, W.he, W.len, W.note, W.e1, W.e2, W.ne, W.min, W.kd, W.gt, W.b1, W.b2, W.bt, fun k hk => ?_, W.hd⟩
    rw [a8, a9, a10, a11]
    rcases Decidable.em (k = ρ 0 5) with c | c
    · simp only [if_pos c]
      exact ⟨hp, ht, hf, hm⟩
    · simp only [if_neg c]
      exact W.ip k (by omega)
  · rw [b7, b1, b2, b6, b3, ar 6 (by decide) (by decide), ar 13 (by decide) (by decide)]
    exact ⟨P.k7, P.nm, P.nk, P.k0, fun q => absurd q h1, P.nf.mono b6 (Nat.le_of_eq b2.symm), P.z, P.zf, P.zr, P.zb, P.t1⟩
theorem PV.gateL (P : PV ρ τ) {j0 k0 t : Nat} (h4 : ρ 0 4 ≤ 1000) (h1 : τ 3 1 ≠ 0) (hj : j0 < ρ 0 3) (hk : k0 ≤ 3) (ht : t < ρ 0 1) : PV (gateR ρ j0 k0 t) τ := by
  have W := P.rw
  have h6 := W.tu
  have a0 : ∀ k, gateR ρ j0 k0 t 0 k = if k = 4 then ρ 0 4 + 1 else ρ 0 k := fun k => by simp [gateR]
  have a6 : ∀ k, gateR ρ j0 k0 t 6 k = if k = j0 then k0 + 1 else ρ 6 k := fun k => by simp [gateR]
  have a7 : ∀ k, gateR ρ j0 k0 t 7 k = if k = j0 then t else ρ 7 k := fun k => by simp [gateR]
  have ar : ∀ a, a ≠ 0 → a ≠ 6 → a ≠ 7 → gateR ρ j0 k0 t a = ρ a := fun a h0 h3 h4 => by
    funext k
    simp [gateR, h0, h3, h4]
  have b1 : gateR ρ j0 k0 t 0 1 = ρ 0 1 := a0 1
  have b2 : gateR ρ j0 k0 t 0 2 = ρ 0 2 := a0 2
  have b3 : gateR ρ j0 k0 t 0 3 = ρ 0 3 := a0 3
  have b5 : gateR ρ j0 k0 t 0 5 = ρ 0 5 := a0 5
  have b6 : gateR ρ j0 k0 t 0 6 = ρ 0 6 := a0 6
  have b7 : gateR ρ j0 k0 t 0 7 = ρ 0 7 := a0 7
  have b8 : gateR ρ j0 k0 t 0 8 = ρ 0 8 := a0 8
  refine ⟨⟨fun a j => ?_, ?_⟩, ?_⟩
  · unfold gateR
    have := W.all a j
    repeat' split
    all_goals omega
  · rw [b1, b2, b3, b5, b6, b8, ar 1 (by decide) (by decide) (by decide), ar 2 (by decide) (by decide) (by decide), ar 3 (by decide) (by decide) (by decide), ar 4 (by decide) (by decide) (by decide), ar 5 (by decide) (by decide) (by decide), ar 8 (by decide) (by decide) (by decide), ar 9 (by decide) (by decide) (by decide), ar 10 (by decide) (by decide) (by decide), ar 11 (by decide) (by decide) (by decide), ar 12 (by decide) (by decide) (by decide), ar 13 (by decide) (by decide) (by decide)]
    refine ⟨W.tu, W.pl, W.ro, W.inn, W.pe, W.he, W.len, W.note, W.e1, W.e2, W.ne, W.min, fun j hj => ?_, fun j hj hn => ?_, W.b1, W.b2, W.bt, W.ip, W.hd⟩
    · rw [a6]
      split
      · omega
      · exact W.kd j hj
    · rw [a6] at hn
      rw [a7]
      rcases Decidable.em (j = j0) with c | c
      · rw [if_pos c]
        exact ht
      · rw [if_neg c] at hn ⊢
        exact W.gt j hj hn
  · rw [b7, b1, b2, b6, b3, ar 13 (by decide) (by decide) (by decide)]
    refine ⟨P.k7, P.nm, P.nk, fun j hj2 => ?_, fun q => absurd q h1, P.nf.mono b6 (Nat.le_of_eq b2.symm), P.z, P.zf, P.zr, P.zb, P.t1⟩
    rw [a6, if_neg (by omega)]
    exact P.k0 j hj2
theorem PV.roadL (P : PV ρ τ) {p q m : Nat} (hk : ρ 0 3 < 10) (h1 : τ 3 1 ≠ 0) (hp : p < ρ 0 2) (hq : q < ρ 0 2) (hne : p ≠ q) (h13 : ρ 13 (7 * p + q) = 0) (hm : 1 ≤ m ∧ m ≤ 99) : PV (roadR ρ p q m) τ := by
  have W := P.rw
  have h7 := W.pl
  have a0 : ∀ k, roadR ρ p q m 0 k = if k = 3 then ρ 0 3 + 1 else ρ 0 k := fun k => by simp [roadR]
  have a3 : ∀ k, roadR ρ p q m 3 k = if k = ρ 0 3 then p else ρ 3 k := fun k => by simp [roadR]
  have a4 : ∀ k, roadR ρ p q m 4 k = if k = ρ 0 3 then q else ρ 4 k := fun k => by simp [roadR]
  have a5 : ∀ k, roadR ρ p q m 5 k = if k = ρ 0 3 then m else ρ 5 k := fun k => by simp [roadR]
  have a13 : ∀ k, roadR ρ p q m 13 k = if k = 7 * p + q ∨ k = 7 * q + p then ρ 0 3 + 1 else ρ 13 k := fun k => by simp [roadR]
  have ar : ∀ a, a ≠ 0 → a ≠ 3 → a ≠ 4 → a ≠ 5 → a ≠ 13 → roadR ρ p q m a = ρ a := fun a h0 h3 h4 h5 h6 => by
    funext k
    simp [roadR, h0, h3, h4, h5, h6]
  have b1 : roadR ρ p q m 0 1 = ρ 0 1 := a0 1
  have b2 : roadR ρ p q m 0 2 = ρ 0 2 := a0 2
  have b3 : roadR ρ p q m 0 3 = ρ 0 3 + 1 := a0 3
  have b5 : roadR ρ p q m 0 5 = ρ 0 5 := a0 5
  have b6 : roadR ρ p q m 0 6 = ρ 0 6 := a0 6
  have b7 : roadR ρ p q m 0 7 = ρ 0 7 := a0 7
  have b8 : roadR ρ p q m 0 8 = ρ 0 8 := a0 8
  refine ⟨⟨fun a j => ?_, ?_⟩, ?_⟩
  · unfold roadR
    have := W.all a j
    repeat' split
    all_goals omega
  · rw [b1, b2, b3, b5, b6, b8, ar 1 (by decide) (by decide) (by decide) (by decide) (by decide), ar 2 (by decide) (by decide) (by decide) (by decide) (by decide), ar 6 (by decide) (by decide) (by decide) (by decide) (by decide), ar 7 (by decide) (by decide) (by decide) (by decide) (by decide), ar 8 (by decide) (by decide) (by decide) (by decide) (by decide), ar 9 (by decide) (by decide) (by decide) (by decide) (by decide), ar 10 (by decide) (by decide) (by decide) (by decide) (by decide), ar 11 (by decide) (by decide) (by decide) (by decide) (by decide), ar 12 (by decide) (by decide) (by decide) (by decide) (by decide)]
    refine ⟨W.tu, W.pl, by omega, W.inn, W.pe, W.he, W.len, W.note, fun j hj => ?_, fun j hj => ?_, fun j hj => ?_, fun j hj => ?_, fun j hj => ?_, fun j hj hn => ?_, fun j hj => ?_, fun j hj => ?_, fun x y hx hy => ?_, W.ip, W.hd⟩
    · rw [a3]
      split
      · exact hp
      · exact W.e1 j (by omega)
    · rw [a4]
      split
      · exact hq
      · exact W.e2 j (by omega)
    · rw [a3, a4]
      rcases Decidable.em (j = ρ 0 3) with c | c
      · rw [if_pos c, if_pos c]
        exact hne
      · rw [if_neg c, if_neg c]
        exact W.ne j (by omega)
    · rw [a5]
      split
      · exact hm
      · exact W.min j (by omega)
    · rcases Nat.lt_or_ge j (ρ 0 3) with c | c
      · exact W.kd j c
      · rw [P.k0 j c]
        decide
    · rcases Nat.lt_or_ge j (ρ 0 3) with c | c
      · exact W.gt j c hn
      · exact absurd (P.k0 j c) hn
    · rw [a3, a4]
      rcases Decidable.em (j = ρ 0 3) with c | c
      · rw [if_pos c, if_pos c, a13, if_pos (Or.inl rfl), c]
      · have g1 := W.b1 j (by omega)
        have g2 := W.b2 j (by omega)
        have g3 := W.e1 j (by omega)
        have g4 := W.e2 j (by omega)
        rw [if_neg c, if_neg c, a13, if_neg, g1]
        intro z
        rcases z with z | z
        · rw [z] at g1
          omega
        · rw [show 7 * ρ 4 j + ρ 3 j = 7 * p + q by omega] at g2
          omega
    · rw [a3, a4]
      rcases Decidable.em (j = ρ 0 3) with c | c
      · rw [if_pos c, if_pos c, a13, if_pos (Or.inr rfl), c]
      · have g1 := W.b1 j (by omega)
        have g2 := W.b2 j (by omega)
        have g3 := W.e1 j (by omega)
        have g4 := W.e2 j (by omega)
        rw [if_neg c, if_neg c, a13, if_neg, g2]
        intro z
        rcases z with z | z
        · rw [z] at g2
          omega
        · rw [show 7 * ρ 3 j + ρ 4 j = 7 * p + q by omega] at g1
          omega
    · rw [a13]
      rcases Decidable.em (7 * x + y = 7 * p + q ∨ 7 * x + y = 7 * q + p) with c | c
      · rw [if_pos c]
        refine Or.inr ⟨ρ 0 3, by omega, rfl, ?_⟩
        rw [a3, a4, if_pos rfl, if_pos rfl]
        omega
      · rw [if_neg c]
        rcases W.bt x y hx hy with z | ⟨j, z1, z2, z3⟩
        · exact Or.inl z
        · refine Or.inr ⟨j, by omega, z2, ?_⟩
          rw [a3, a4, if_neg (by omega), if_neg (by omega)]
          exact z3
  · rw [b7, b1, b2, b6, b3, ar 6 (by decide) (by decide) (by decide) (by decide) (by decide)]
    refine ⟨P.k7, P.nm, P.nk, fun j hj2 => P.k0 j (by omega), fun q => absurd q h1, P.nf.mono b6 (Nat.le_of_eq b2.symm), P.z, P.zf, P.zr, fun x y hxy hx hy => ?_, P.t1⟩
    rw [a13, if_neg (by omega)]
    exact P.zb x y hxy hx hy
theorem PV.tuneL (P : PV ρ τ) (w : Nat) (hk : ρ 0 1 < 6) (h1 : τ 3 1 ≠ 0) (ht : tk b n i = 1) (h2 : 2 ≤ tL b n i) (hf : ff (fun k => decide (103 < b (sp b n i + k))) (tL b n i) = tL b n i) : PV (noteR b n ρ i) (addN τ w 1 (ρ 0 1)) := by
  have W := P.rw
  have hw := tk_word ht
  have hN : ∀ k, k < tL b n i → b (sp b n i + k) - 97 ≤ 6 := fun k hk => by
    have := ff_no (fun k => decide (103 < b (sp b n i + k))) (tL b n i) k (by omega)
    have := of_decide_eq_false this
    omega
  have a0 : ∀ k, noteR b n ρ i 0 k = if k = 1 then ρ 0 1 + 1 else ρ 0 k := fun k => by simp [noteR]
  have a1 : ∀ k, noteR b n ρ i 1 k = if k = ρ 0 1 then tL b n i else ρ 1 k := fun k => by simp [noteR]
  have a2 : ∀ k, noteR b n ρ i 2 k = if 8 * ρ 0 1 ≤ k ∧ k < 8 * ρ 0 1 + tL b n i then b (sp b n i + (k - 8 * ρ 0 1)) - 97 else ρ 2 k := fun k => by simp [noteR]
  have ar : ∀ a, a ≠ 0 → a ≠ 1 → a ≠ 2 → noteR b n ρ i a = ρ a := fun a h0 h1 h2 => by
    funext k
    simp [noteR, h0, h1, h2]
  have b1 : noteR b n ρ i 0 1 = ρ 0 1 + 1 := a0 1
  have b2 : noteR b n ρ i 0 2 = ρ 0 2 := a0 2
  have b3 : noteR b n ρ i 0 3 = ρ 0 3 := a0 3
  have b5 : noteR b n ρ i 0 5 = ρ 0 5 := a0 5
  have b6 : noteR b n ρ i 0 6 = ρ 0 6 := a0 6
  have b7 : noteR b n ρ i 0 7 = ρ 0 7 := a0 7
  have b8 : noteR b n ρ i 0 8 = ρ 0 8 := a0 8
  have nk := nk_add (ρ' := noteR b n ρ i) P w 1 (ρ 0 1) (by omega) (by omega) (by omega) (Or.inl ⟨rfl, by omega⟩)
  have nf : NF (noteR b n ρ i) (fun a x => addN τ w 1 (ρ 0 1) (4 + a) x) := by
    rw [ν_add]
    exact P.nf.mono b6 (by omega)
  refine ⟨⟨fun a j => ?_, ?_⟩, ?_, ?_, ?_, ?_, ?_, nf, ?_, ?_, ?_, ?_, ?_⟩
  · unfold noteR
    have := W.all a j
    split
    · rename_i hc
      have := hN (j - 8 * ρ 0 1) (by omega)
      omega
    · repeat' split
      all_goals omega
  · rw [b1, b2, b3, b5, b6, b8, ar 3 (by decide) (by decide) (by decide), ar 4 (by decide) (by decide) (by decide), ar 5 (by decide) (by decide) (by decide), ar 6 (by decide) (by decide) (by decide), ar 7 (by decide) (by decide) (by decide), ar 8 (by decide) (by decide) (by decide), ar 9 (by decide) (by decide) (by decide), ar 10 (by decide) (by decide) (by decide), ar 11 (by decide) (by decide) (by decide), ar 12 (by decide) (by decide) (by decide), ar 13 (by decide) (by decide) (by decide)]
    refine ⟨by omega, W.pl, W.ro, W.inn, W.pe, W.he, fun t ht2 => ?_, fun t j ht2 hj => ?_, W.e1, W.e2, W.ne, W.min, W.kd, fun j hj hn => ?_, W.b1, W.b2, W.bt, fun k hk => ?_, fun k hk => ?_⟩
    · rw [a1]
      split
      · omega
      · exact W.len t (by omega)
    · rw [a1] at hj
      rw [a2]
      rcases Decidable.em (t = ρ 0 1) with c | c
      · rw [if_pos c] at hj
        rw [if_pos (by omega)]
        exact hN _ (by omega)
      · rw [if_neg c] at hj
        have := (W.len t (by omega)).2
        rw [if_neg (by omega)]
        exact W.note t j (by omega) hj
    · have := W.gt j hj hn
      omega
    · have := W.ip k hk
      exact ⟨this.1, by omega, this.2.2⟩
    · have := W.hd k hk
      omega
  · rw [b7]; exact P.k7
  · rw [addN_3, b1, b2, b6, P.nm]; omega
  · rw [addN_3]; exact nk
  · rw [b3, ar 6 (by decide) (by decide) (by decide)]; exact P.k0
  · rw [addN_31]; exact fun q => absurd q h1
  · intro a x ha hx
    rw [b6] at hx
    rw [addN_4 _ _ _ _ (by omega)]
    exact P.z a x ha hx
  · rw [addN_4 _ _ _ _ (by omega), addN_4 _ _ _ _ (by omega)]; exact P.zf
  · rw [addN_4 _ _ _ _ (by omega)]; exact P.zr
  · rw [b2, ar 13 (by decide) (by decide) (by decide)]; exact P.zb
  · rw [addN_31]; exact P.t1
end
