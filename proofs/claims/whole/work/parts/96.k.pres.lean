/-! ===== what is read stays sound ===== -/
theorem RW.cnt {ρ ρ' : RO} (W : RW ρ) (er : ∀ a, a ≠ 0 → ρ' a = ρ a) (e1 : ρ' 0 1 = ρ 0 1) (e3 : ρ' 0 3 = ρ 0 3) (e5 : ρ' 0 5 = ρ 0 5) (e8 : ρ' 0 8 = ρ 0 8) (e2 : ρ 0 2 ≤ ρ' 0 2) (p7 : ρ' 0 2 ≤ 7) (p4 : ρ' 0 6 ≤ 4) (al : ∀ j, ρ' 0 j < 1024) (zb : ∀ p q, ρ 0 2 ≤ p ∨ ρ 0 2 ≤ q → p < 7 → q < 7 → ρ 13 (7 * p + q) = 0) : RW ρ' := by
  refine ⟨fun i j => ?_, ?_⟩
  · rcases Decidable.em (i = 0) with c | c
    · rw [c]
      exact al j
    · rw [er i c]
      exact W.all i j
  rw [e1, e3, e5, e8, er 1 (by decide), er 2 (by decide), er 3 (by decide), er 4 (by decide), er 5 (by decide), er 6 (by decide), er 7 (by decide), er 8 (by decide), er 9 (by decide), er 10 (by decide), er 11 (by decide), er 12 (by decide), er 13 (by decide)]
  refine ⟨W.tu, p7, W.ro, W.inn, p4, W.he, W.len, W.note, fun j hj => ?_, fun j hj => ?_, W.ne, W.min, W.kd, W.gt, W.b1, W.b2, fun p q hp hq => ?_, fun k hk => ?_, W.hd⟩
  · have := W.e1 j hj
    omega
  · have := W.e2 j hj
    omega
  · rcases Nat.lt_or_ge p (ρ 0 2) with c | c
    · rcases Nat.lt_or_ge q (ρ 0 2) with d | d
      · exact W.bt p q c d
      · exact Or.inl (zb p q (Or.inr d) (by omega) (by omega))
    · exact Or.inl (zb p q (Or.inl c) (by omega) (by omega))
  · have := W.ip k hk
    exact ⟨by omega, this.2⟩
theorem NF.mono {ρ ρ' ν : RO} (N : NF ρ ν) (e6 : ρ' 0 6 = ρ 0 6) (e2 : ρ 0 2 ≤ ρ' 0 2) : NF ρ' ν := by
  obtain ⟨k1, k2, k3, k4, k5⟩ := N
  unfold NF
  rw [e6]
  exact ⟨fun x hx => Nat.lt_of_lt_of_le (k1 x hx) e2, k2, k3, k4, k5⟩
section
variable {b : Nat → Nat} {n : Nat} {ρ τ : RO} {i : Nat}
theorem PV.turn (P : PV ρ τ) {v : Nat} (hv : v ≤ 100) : PV (rup ρ 0 0 v) (rup τ 3 1 1) := by
  have W := P.rw
  have a0 : ∀ k, k ≠ 0 → rup ρ 0 0 v 0 k = ρ 0 k := fun k hk => rup_ne _ _ _ _ (by omega)
  have ar : ∀ a, a ≠ 0 → rup ρ 0 0 v a = ρ a := fun a ha => by
    funext k
    exact rup_ne _ _ _ _ (by omega)
  have t3 : rup τ 3 1 1 3 0 = τ 3 0 := rup_ne _ _ _ _ (by omega)
  have tr : ∀ a, a ≠ 3 → rup τ 3 1 1 a = τ a := fun a ha => by
    funext k
    exact rup_ne _ _ _ _ (by omega)
  have t31 : rup τ 3 1 1 3 1 = 1 := rup_at _ _ _ _
  refine ⟨W.cnt ar (a0 1 (by decide)) (a0 3 (by decide)) (a0 5 (by decide)) (a0 8 (by decide)) (Nat.le_of_eq (a0 2 (by decide)).symm) (by rw [a0 2 (by decide)]; exact W.pl) (by rw [a0 6 (by decide)]; exact W.pe) (fun j => ?_) P.zb, ?_⟩
  · rcases Decidable.em (j = 0) with c | c
    · rw [c, rup_at]
      omega
    · rw [a0 j c]
      exact W.all 0 j
  rw [t3, a0 7 (by decide), a0 1 (by decide), a0 2 (by decide), a0 6 (by decide), a0 3 (by decide), ar 6 (by decide), ar 13 (by decide), tr 1 (by decide), tr 2 (by decide), tr 7 (by decide), tr 8 (by decide), tr 9 (by decide), t31]
  refine ⟨P.k7, P.nm, P.nk, P.k0, fun q => by omega, ?_, fun w x hw hx => ?_, P.zf, P.zr, P.zb, by decide⟩
  · have e : (fun w x => rup τ 3 1 1 (4 + w) x) = fun w x => τ (4 + w) x := by
      funext w x
      rw [tr _ (by omega)]
    rw [e]
    exact P.nf.mono (a0 6 (by decide)) (Nat.le_of_eq (a0 2 (by decide)).symm)
  · rw [tr _ (by omega)]
    exact P.z w x hw hx
/-- a name more -/
theorem nk_add {ρ' : RO} (P : PV ρ τ) (w s k : Nat) (h1 : ρ 0 1 ≤ ρ' 0 1) (h2 : ρ 0 2 ≤ ρ' 0 2) (h6 : ρ 0 6 ≤ ρ' 0 6) (hk : (s = 1 ∧ k < ρ' 0 1) ∨ (s = 2 ∧ k < ρ' 0 2) ∨ (s = 6 ∧ k < ρ' 0 6)) : ∀ j, j < τ 3 0 + 1 → (addN τ w s k 1 j = 1 ∧ addN τ w s k 2 j < ρ' 0 1) ∨ (addN τ w s k 1 j = 2 ∧ addN τ w s k 2 j < ρ' 0 2) ∨ (addN τ w s k 1 j = 6 ∧ addN τ w s k 2 j < ρ' 0 6) := by
  intro j hj
  rw [addN_1, addN_2]
  rcases Decidable.em (j = τ 3 0) with c | c
  · simp only [if_pos c]
    exact hk
  · simp only [if_neg c]
    rcases P.nk j (by omega) with q | q | q <;> omega
theorem ν_add (τ : RO) (w s k : Nat) : (fun a x => addN τ w s k (4 + a) x) = fun a x => τ (4 + a) x := by
  funext a x
  rw [addN_4 _ _ _ _ (by omega)]
theorem PV.placeL (P : PV ρ τ) (w : Nat) (hk : ρ 0 2 < 7) (h1 : τ 3 1 ≠ 0) : PV (rup ρ 0 2 (ρ 0 2 + 1)) (addN τ w 2 (ρ 0 2)) := by
  have W := P.rw
  have a0 : ∀ k, k ≠ 2 → rup ρ 0 2 (ρ 0 2 + 1) 0 k = ρ 0 k := fun k hk => rup_ne _ _ _ _ (by omega)
  have a2 : rup ρ 0 2 (ρ 0 2 + 1) 0 2 = ρ 0 2 + 1 := rup_at _ _ _ _
  have ar : ∀ a, a ≠ 0 → rup ρ 0 2 (ρ 0 2 + 1) a = ρ a := fun a ha => by
    funext k
    exact rup_ne _ _ _ _ (by omega)
  have nk := nk_add (ρ' := rup ρ 0 2 (ρ 0 2 + 1)) P w 2 (ρ 0 2) (Nat.le_of_eq (a0 1 (by decide)).symm) (by rw [a2]; omega) (Nat.le_of_eq (a0 6 (by decide)).symm) (Or.inr (Or.inl ⟨rfl, by rw [a2]; omega⟩))
  have nf : NF (rup ρ 0 2 (ρ 0 2 + 1)) (fun a x => addN τ w 2 (ρ 0 2) (4 + a) x) := by
    rw [ν_add]
    exact P.nf.mono (a0 6 (by decide)) (by rw [a2]; omega)
  refine ⟨W.cnt ar (a0 1 (by decide)) (a0 3 (by decide)) (a0 5 (by decide)) (a0 8 (by decide)) (by rw [a2]; omega) (by rw [a2]; omega) (by rw [a0 6 (by decide)]; exact W.pe) (fun j => ?_) P.zb, ?_, ?_, ?_, ?_, ?_, nf, ?_, ?_, ?_, ?_, ?_⟩
  · rcases Decidable.em (j = 2) with c | c
    · rw [c, a2]
      omega
    · rw [a0 j c]
      exact W.all 0 j
  · rw [a0 7 (by decide)]; exact P.k7
  · rw [addN_3, a0 1 (by decide), a2, a0 6 (by decide), P.nm]; omega
  · rw [addN_3]; exact nk
  · rw [a0 3 (by decide), ar 6 (by decide)]; exact P.k0
  · rw [addN_31]; exact fun q => absurd q h1
  · intro a x ha hx
    rw [a0 6 (by decide)] at hx
    rw [addN_4 _ _ _ _ (by omega)]
    exact P.z a x ha hx
  · rw [addN_4 _ _ _ _ (by omega), addN_4 _ _ _ _ (by omega)]; exact P.zf
  · rw [addN_4 _ _ _ _ (by omega)]; exact P.zr
  · rw [a2, ar 13 (by decide)]; exact fun p q h => P.zb p q (by omega)
  · rw [addN_31]; exact P.t1
theorem PV.persL (P : PV ρ τ) (w : Nat) {p m : Nat} (hk : ρ 0 6 < 4) (h1 : τ 3 1 ≠ 0) (hp : p < ρ 0 2) (hm : m ≤ 999) : PV (rup ρ 0 6 (ρ 0 6 + 1)) (rup (rup (addN τ w 6 (ρ 0 6)) 4 (ρ 0 6) p) 5 (ρ 0 6) m) := by
  have W := P.rw
  have a0 : ∀ k, k ≠ 6 → rup ρ 0 6 (ρ 0 6 + 1) 0 k = ρ 0 k := fun k hk => rup_ne _ _ _ _ (by omega)
  have a2 : rup ρ 0 6 (ρ 0 6 + 1) 0 6 = ρ 0 6 + 1 := rup_at _ _ _ _
  have ar : ∀ a, a ≠ 0 → rup ρ 0 6 (ρ 0 6 + 1) a = ρ a := fun a ha => by
    funext k
    exact rup_ne _ _ _ _ (by omega)
  have tr : ∀ a, a ≠ 4 → a ≠ 5 → rup (rup (addN τ w 6 (ρ 0 6)) 4 (ρ 0 6) p) 5 (ρ 0 6) m a = addN τ w 6 (ρ 0 6) a := fun a h1 h2 => by
    funext k
    rw [rup_ne _ _ _ _ (by omega), rup_ne _ _ _ _ (by omega)]
  have t4 : ∀ x, rup (rup (addN τ w 6 (ρ 0 6)) 4 (ρ 0 6) p) 5 (ρ 0 6) m 4 x = if x = ρ 0 6 then p else τ 4 x := fun x => by
    rw [rup_ne _ _ _ _ (by omega)]
    unfold rup
    rw [addN_4 _ _ _ _ (by omega)]
    simp only [true_and]
  have t5 : ∀ x, rup (rup (addN τ w 6 (ρ 0 6)) 4 (ρ 0 6) p) 5 (ρ 0 6) m 5 x = if x = ρ 0 6 then m else τ 5 x := fun x => by
    show (if 5 = 5 ∧ x = ρ 0 6 then m else rup (addN τ w 6 (ρ 0 6)) 4 (ρ 0 6) p 5 x) = _
    rw [rup_ne _ _ _ _ (by omega), addN_4 _ _ _ _ (by omega)]
    simp only [true_and]
  have nk := nk_add (ρ' := rup ρ 0 6 (ρ 0 6 + 1)) P w 6 (ρ 0 6) (Nat.le_of_eq (a0 1 (by decide)).symm) (Nat.le_of_eq (a0 2 (by decide)).symm) (by rw [a2]; omega) (Or.inr (Or.inr ⟨rfl, by rw [a2]; omega⟩))
  have N := P.nf
  have nf : NF (rup ρ 0 6 (ρ 0 6 + 1)) (fun a x => rup (rup (addN τ w 6 (ρ 0 6)) 4 (ρ 0 6) p) 5 (ρ 0 6) m (4 + a) x) := by
    refine ⟨fun x hx => ?_, fun x hx => ?_, fun x hx => ?_, fun x hx => ?_, ?_⟩
    · rw [a2] at hx
      rw [a0 2 (by decide)]
      show rup (rup (addN τ w 6 (ρ 0 6)) 4 (ρ 0 6) p) 5 (ρ 0 6) m 4 x < _
      rw [t4]
      split
      · exact hp
      · exact N.pl x (by omega)
    · rw [a2] at hx
      show rup (rup (addN τ w 6 (ρ 0 6)) 4 (ρ 0 6) p) 5 (ρ 0 6) m 5 x ≤ _
      rw [t5]
      split
      · exact hm
      · exact N.co x (by omega)
    · rw [a2] at hx
      show rup (rup (addN τ w 6 (ρ 0 6)) 4 (ρ 0 6) p) 5 (ρ 0 6) m 6 x < _
      rw [tr 6 (by decide) (by decide), addN_4 _ _ _ _ (by omega)]
      rcases Nat.lt_or_ge x (ρ 0 6) with c | c
      · exact N.kn x c
      · have := P.z 2 x (by decide) c
        have e : τ 6 x = 0 := this
        rw [e]
        decide
    · show rup (rup (addN τ w 6 (ρ 0 6)) 4 (ρ 0 6) p) 5 (ρ 0 6) m 7 x < _
      rw [tr 7 (by decide) (by decide), addN_4 _ _ _ _ (by omega), (P.zf x).1]
      decide
    · show rup (rup (addN τ w 6 (ρ 0 6)) 4 (ρ 0 6) p) 5 (ρ 0 6) m 9 0 ≤ _
      rw [tr 9 (by decide) (by decide), addN_4 _ _ _ _ (by omega), P.zr]
      decide
  refine ⟨W.cnt ar (a0 1 (by decide)) (a0 3 (by decide)) (a0 5 (by decide)) (a0 8 (by decide)) (Nat.le_of_eq (a0 2 (by decide)).symm) (by rw [a0 2 (by decide)]; exact W.pl) (by rw [a2]; omega) (fun j => ?_) P.zb, ?_, ?_, ?_, ?_, ?_, nf, ?_, ?_, ?_, ?_, ?_⟩
  · rcases Decidable.em (j = 6) with c | c
    · rw [c, a2]
      omega
    · rw [a0 j c]
      exact W.all 0 j
  · rw [a0 7 (by decide)]; exact P.k7
  · rw [tr 3 (by decide) (by decide), addN_3, a0 1 (by decide), a2, a0 2 (by decide), P.nm]; omega
  · rw [tr 3 (by decide) (by decide), tr 1 (by decide) (by decide), tr 2 (by decide) (by decide), addN_3]; exact nk
  · rw [a0 3 (by decide), ar 6 (by decide)]; exact P.k0
  · rw [tr 3 (by decide) (by decide), addN_31]; exact fun q => absurd q h1
  · intro a x ha hx
    rw [a2] at hx
    have z := P.z a x ha (by omega)
    rcases (show a = 0 ∨ a = 1 ∨ a = 2 by omega) with e | e | e
    · subst e
      show rup (rup (addN τ w 6 (ρ 0 6)) 4 (ρ 0 6) p) 5 (ρ 0 6) m 4 x = 0
      rw [t4, if_neg (by omega)]
      exact z
    · subst e
      show rup (rup (addN τ w 6 (ρ 0 6)) 4 (ρ 0 6) p) 5 (ρ 0 6) m 5 x = 0
      rw [t5, if_neg (by omega)]
      exact z
    · subst e
      rw [tr _ (by omega) (by omega), addN_4 _ _ _ _ (by omega)]
      exact z
  · rw [tr 7 (by decide) (by decide), tr 8 (by decide) (by decide), addN_4 _ _ _ _ (by omega), addN_4 _ _ _ _ (by omega)]; exact P.zf
  · rw [tr 9 (by decide) (by decide), addN_4 _ _ _ _ (by omega)]; exact P.zr
  · rw [a0 2 (by decide), ar 13 (by decide)]; exact P.zb
  · rw [tr 3 (by decide) (by decide), addN_31]; exact P.t1
theorem PV.knowL (P : PV ρ τ) {x t : Nat} (hk : ρ 0 7 < 8) (h1 : τ 3 1 ≠ 0) (ht : t < ρ 0 1) (hx : x < ρ 0 6) : PV (rup ρ 0 7 (ρ 0 7 + 1)) (rup τ 6 x (τ 6 x ||| 2 ^ t)) := by
  have W := P.rw
  have a0 : ∀ k, k ≠ 7 → rup ρ 0 7 (ρ 0 7 + 1) 0 k = ρ 0 k := fun k hk => rup_ne _ _ _ _ (by omega)
  have a2 : rup ρ 0 7 (ρ 0 7 + 1) 0 7 = ρ 0 7 + 1 := rup_at _ _ _ _
  have ar : ∀ a, a ≠ 0 → rup ρ 0 7 (ρ 0 7 + 1) a = ρ a := fun a ha => by
    funext k
    exact rup_ne _ _ _ _ (by omega)
  have tr : ∀ a, a ≠ 6 → rup τ 6 x (τ 6 x ||| 2 ^ t) a = τ a := fun a h1 => by
    funext k
    rw [rup_ne _ _ _ _ (by omega)]
  have h64 : τ 6 x ||| 2 ^ t < 64 := by
    have h6 := W.tu
    exact Nat.or_lt_two_pow (n := 6) (P.nf.kn x hx) (Nat.pow_lt_pow_right (by decide) (by omega))
  have N := P.nf
  refine ⟨W.cnt ar (a0 1 (by decide)) (a0 3 (by decide)) (a0 5 (by decide)) (a0 8 (by decide)) (Nat.le_of_eq (a0 2 (by decide)).symm) (by rw [a0 2 (by decide)]; exact W.pl) (by rw [a0 6 (by decide)]; exact W.pe) (fun j => ?_) P.zb, ?_⟩
  · rcases Decidable.em (j = 7) with c | c
    · rw [c, a2]
      omega
    · rw [a0 j c]
      exact W.all 0 j
  rw [a2, a0 1 (by decide), a0 2 (by decide), a0 3 (by decide), a0 6 (by decide), ar 6 (by decide), ar 13 (by decide), tr 3 (by decide), tr 1 (by decide), tr 2 (by decide), tr 7 (by decide), tr 8 (by decide), tr 9 (by decide)]
  refine ⟨by omega, P.nm, P.nk, P.k0, fun q => absurd q h1, ?_, fun a y ha hy => ?_, P.zf, P.zr, P.zb, P.t1⟩
  · unfold NF
    rw [a0 6 (by decide), a0 2 (by decide)]
    refine ⟨N.pl, N.co, fun y hy => ?_, N.fg, N.rn⟩
    show rup τ 6 x (τ 6 x ||| 2 ^ t) 6 y < 64
    rcases Decidable.em (y = x) with c | c
    · rw [c, rup_at]
      exact h64
    · rw [rup_ne _ _ _ _ (by omega)]
      exact N.kn y hy
  · rw [rup_ne _ _ _ _ (by omega)]
    exact P.z a y ha hy
end
