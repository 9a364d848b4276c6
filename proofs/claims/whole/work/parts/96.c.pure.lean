/-! ===== the reading of a text, apart from any memory ===== -/
def tW (b : Nat → Nat) (n i : Nat) : Nat := wv b (sp b n i) (nl b n (sp b n i))
def tM (b : Nat → Nat) (n i : Nat) : Nat := mg (lN (tW b n i))
def tV (b : Nat → Nat) (n i : Nat) : Nat := nv b (sp b n i) (ndg b n (sp b n i))
def tL (b : Nat → Nat) (n i : Nat) : Nat := nl b n (sp b n i)
def isW (b : Nat → Nat) (n i k : Nat) : Bool := decide (tk b n i = 1) && decide (tM b n i = k + 1)
def isN (b : Nat → Nat) (n i : Nat) : Bool := decide (tk b n i = 1) && (decide (tM b n i = 0) || decide (10 ≤ tM b n i))
def fN (τ : RO) (w : Nat) : Nat := pw (fun k => lN (τ 0 k)) (τ 3 0) (lN w)
abbrev FA : Type := Nat × Nat
def eb {α β : Type} (e : FA ⊕ α) (f : α → FA ⊕ β) : FA ⊕ β := match e with
  | .inl x => .inl x
  | .inr a => f a
theorem eb_l {α β : Type} (x : FA) (f : α → FA ⊕ β) : eb (.inl x) f = .inl x := rfl
theorem eb_r {α β : Type} (a : α) (f : α → FA ⊕ β) : eb (.inr a) f = f a := rfl
def rup (ρ : RO) (i j v : Nat) : RO := fun a c => if a = i ∧ c = j then v else ρ a c
def pName (b : Nat → Nat) (n : Nat) (τ : RO) (s i : Nat) : FA ⊕ Nat := if isN b n i = true then (if fN τ (tW b n i) = 0 then .inl (2, sp b n i) else if τ 1 (fN τ (tW b n i) - 1) = s then .inr (τ 2 (fN τ (tW b n i) - 1)) else .inl (2, sp b n i)) else .inl (1, sp b n i)
def pWord (b : Nat → Nat) (n k i : Nat) : FA ⊕ Unit := if isW b n i k = true then .inr () else .inl (1, sp b n i)
def pNum (b : Nat → Nat) (n lo hi i : Nat) : FA ⊕ Nat := if tk b n i = 2 then (if lo ≤ tV b n i ∧ tV b n i ≤ hi then .inr (tV b n i) else .inl (4, sp b n i)) else .inl (1, sp b n i)
def pNew (b : Nat → Nat) (n : Nat) (τ : RO) (i : Nat) : FA ⊕ Unit := if isN b n i = true then (if fN τ (tW b n i) = 0 then .inr () else .inl (3, sp b n i)) else .inl (1, sp b n i)
def pNotes (b : Nat → Nat) (n i : Nat) : FA ⊕ Unit := if tk b n i = 1 then (if 2 ≤ tL b n i ∧ ff (fun k => decide (103 < b (sp b n i + k))) (tL b n i) = tL b n i then .inr () else .inl (7, sp b n i)) else .inl (1, sp b n i)
def pKind (b : Nat → Nat) (n i : Nat) : FA ⊕ Nat := if tk b n i = 1 ∧ 12 ≤ tM b n i ∧ tM b n i ≤ 15 then .inr (tM b n i - 12) else .inl (1, sp b n i)
def pSell (b : Nat → Nat) (n i : Nat) : FA ⊕ Nat := if isW b n i 16 = true then .inr 1 else if isW b n i 15 = true then .inr 0 else .inl (1, sp b n i)
def addN (τ : RO) (w s k : Nat) : RO := rup (rup (rup (rup τ 0 (τ 3 0) w) 1 (τ 3 0) s) 2 (τ 3 0) k) 3 0 (τ 3 0 + 1)
def noteR (b : Nat → Nat) (n : Nat) (ρ : RO) (i : Nat) : RO := fun a c => if a = 2 ∧ 8 * ρ 0 1 ≤ c ∧ c < 8 * ρ 0 1 + tL b n i then b (sp b n i + (c - 8 * ρ 0 1)) - 97 else if a = 1 ∧ c = ρ 0 1 then tL b n i else if a = 0 ∧ c = 1 then ρ 0 1 + 1 else ρ a c
def roadR (ρ : RO) (p q m : Nat) : RO := fun a c => if a = 13 ∧ (c = 7 * p + q ∨ c = 7 * q + p) then ρ 0 3 + 1 else if a = 3 ∧ c = ρ 0 3 then p else if a = 4 ∧ c = ρ 0 3 then q else if a = 5 ∧ c = ρ 0 3 then m else if a = 0 ∧ c = 3 then ρ 0 3 + 1 else ρ a c
def gateR (ρ : RO) (r k t : Nat) : RO := fun a c => if a = 6 ∧ c = r then k + 1 else if a = 7 ∧ c = r then t else if a = 0 ∧ c = 4 then ρ 0 4 + 1 else ρ a c
def innR (ρ : RO) (p t f m : Nat) : RO := fun a c => if a = 8 ∧ c = ρ 0 5 then p else if a = 9 ∧ c = ρ 0 5 then t else if a = 10 ∧ c = ρ 0 5 then f else if a = 11 ∧ c = ρ 0 5 then m else if a = 0 ∧ c = 5 then ρ 0 5 + 1 else ρ a c
def heardR (ρ : RO) (t : Nat) : RO := fun a c => if a = 12 ∧ c = ρ 0 8 then t else if a = 0 ∧ c = 8 then ρ 0 8 + 1 else ρ a c
abbrev LR : Type := FA ⊕ (RO × RO × Nat)
section
variable (b : Nat → Nat) (n : Nat) (ρ τ : RO) (i : Nat)
def pTurn : LR := eb (pWord b n 9 i) fun _ => eb (pNum b n 0 100 (ta b n i)) fun v => .inr (rup ρ 0 0 v, rup τ 3 1 1, ta b n (ta b n i))
def pTune : LR := eb (pNew b n τ i) fun _ => eb (pNotes b n (ta b n i)) fun _ => .inr (noteR b n ρ (ta b n i), addN τ (tW b n i) 1 (ρ 0 1), ta b n (ta b n i))
def pPlace : LR := eb (pNew b n τ i) fun _ => .inr (rup ρ 0 2 (ρ 0 2 + 1), addN τ (tW b n i) 2 (ρ 0 2), ta b n i)
def pRoad : LR := eb (pName b n τ 2 i) fun p => eb (pName b n τ 2 (ta b n i)) fun q => if p = q ∨ ρ 13 (7 * p + q) ≠ 0 then .inl (3, sp b n (ta b n i)) else eb (pWord b n 10 (ta b n (ta b n i))) fun _ => eb (pNum b n 1 99 (ta b n (ta b n (ta b n i)))) fun m => .inr (roadR ρ p q m, τ, ta b n (ta b n (ta b n (ta b n i))))
def pGate : LR := eb (pName b n τ 2 i) fun p => eb (pName b n τ 2 (ta b n i)) fun q => if p = q then .inl (3, sp b n (ta b n i)) else if ρ 13 (7 * p + q) = 0 then .inl (8, sp b n (ta b n i)) else if ρ 6 (ρ 13 (7 * p + q) - 1) ≠ 0 then .inl (3, sp b n (ta b n i)) else eb (pKind b n (ta b n (ta b n i))) fun k => eb (pName b n τ 1 (ta b n (ta b n (ta b n i)))) fun t => .inr (gateR ρ (ρ 13 (7 * p + q) - 1) k t, τ, ta b n (ta b n (ta b n (ta b n i))))
def pInn : LR := eb (pName b n τ 2 i) fun p => eb (pSell b n (ta b n i)) fun f => eb (pName b n τ 1 (ta b n (ta b n i))) fun t => eb (pWord b n 17 (ta b n (ta b n (ta b n i)))) fun _ => eb (pNum b n 0 99 (ta b n (ta b n (ta b n (ta b n i))))) fun m => .inr (innR ρ p t f m, τ, ta b n (ta b n (ta b n (ta b n (ta b n i)))))
def pPers : LR := eb (pNew b n τ i) fun _ => eb (pWord b n 18 (ta b n i)) fun _ => eb (pName b n τ 2 (ta b n (ta b n i))) fun p => eb (pWord b n 19 (ta b n (ta b n (ta b n i)))) fun _ => eb (pNum b n 0 999 (ta b n (ta b n (ta b n (ta b n i))))) fun m => .inr (rup ρ 0 6 (ρ 0 6 + 1), rup (rup (addN τ (tW b n i) 6 (ρ 0 6)) 4 (ρ 0 6) p) 5 (ρ 0 6) m, ta b n (ta b n (ta b n (ta b n (ta b n i)))))
def pKnow : LR := eb (pName b n τ 6 i) fun x => eb (pName b n τ 1 (ta b n i)) fun t => if (τ 6 x).testBit t = true then .inl (3, sp b n (ta b n i)) else .inr (rup ρ 0 7 (ρ 0 7 + 1), rup τ 6 x (τ 6 x ||| 2 ^ t), ta b n (ta b n i))
def pHear : LR := eb (pName b n τ 1 i) fun t => .inr (heardR ρ t, τ, ta b n i)
def pLine : LR := if tk b n i = 1 then (if tM b n i = 1 then (if τ 3 1 = 0 then pTurn b n ρ τ (ta b n i) else .inl (3, sp b n i))
    else if tM b n i = 0 ∨ 10 ≤ tM b n i then .inl (1, sp b n i)
    else if τ 3 1 = 0 then .inl (6, sp b n i)
    else if tM b n i = 2 then (if ρ 0 1 = 6 then .inl (5, sp b n i) else pTune b n ρ τ (ta b n i))
    else if tM b n i = 3 then (if ρ 0 2 = 7 then .inl (5, sp b n i) else pPlace b n ρ τ (ta b n i))
    else if tM b n i = 4 then (if ρ 0 3 = 10 then .inl (5, sp b n i) else pRoad b n ρ τ (ta b n i))
    else if tM b n i = 5 then pGate b n ρ τ (ta b n i)
    else if tM b n i = 6 then (if ρ 0 5 = 6 then .inl (5, sp b n i) else pInn b n ρ τ (ta b n i))
    else if tM b n i = 7 then (if ρ 0 6 = 4 then .inl (5, sp b n i) else pPers b n ρ τ (ta b n i))
    else if tM b n i = 8 then (if ρ 0 7 = 8 then .inl (5, sp b n i) else pKnow b n ρ τ (ta b n i))
    else (if ρ 0 8 = 5 then .inl (5, sp b n i) else pHear b n ρ τ (ta b n i)))
  else .inl (1, sp b n i)
end
def pAll (b : Nat → Nat) (n : Nat) : Nat → RO → RO → Nat → FA ⊕ (RO × RO)
  | 0, _, _, _ => .inl (1, 0)
  | f + 1, ρ, τ, i => eb (pLine b n ρ τ i) fun s => if tk b n s.2.2 = 0 then (if 0 < s.1 0 2 then .inr (s.1, s.2.1) else .inl (6, sp b n s.2.2)) else if tk b n s.2.2 = 3 then pAll b n f s.1 s.2.1 (ta b n s.2.2) else .inl (1, sp b n s.2.2)
/-! positions -/
theorem ta_ge (b : Nat → Nat) (n i : Nat) : i ≤ ta b n i := by
  have := sp_ge b n i
  unfold ta
  repeat' split
  all_goals omega
theorem ta_le (b : Nat → Nat) {n i : Nat} (h : i ≤ n) : ta b n i ≤ n := by
  have h1 := sp_le b h
  have h2 := nl_le b n (sp b n i)
  have h3 := ndg_le b n (sp b n i)
  unfold ta
  repeat' split
  all_goals omega
theorem tk_word {b : Nat → Nat} {n i : Nat} (h : tk b n i = 1) : sp b n i < n ∧ isL (b (sp b n i)) = true ∧ 1 ≤ tL b n i ∧ tL b n i ≤ 8 ∧ ta b n i = sp b n i + tL b n i := by
  have hsp : ¬ n ≤ sp b n i := fun q => by
    unfold tk at h
    rw [if_pos q] at h
    cases h
  have hL : isL (b (sp b n i)) = true := by
    rcases e : isL (b (sp b n i)) with _ | _
    · unfold tk at h
      rw [if_neg hsp, e] at h
      simp only [Bool.false_eq_true, if_false] at h
      repeat' split at h
      all_goals cases h
    · rfl
  have h8 : nl b n (sp b n i) ≤ 8 := by
    unfold tk at h
    rw [if_neg hsp, hL] at h
    simp only [if_true] at h
    split at h
    · assumption
    · cases h
  have h1 : 1 ≤ nl b n (sp b n i) := by
    rcases Nat.eq_zero_or_pos (nl b n (sp b n i)) with q | q
    · have q2 := ff_at (fun k => !isL (b (sp b n i + k))) (n - sp b n i) (by
        have : nl b n (sp b n i) < n - sp b n i := by omega
        exact this)
      have q3 : (!isL (b (sp b n i + nl b n (sp b n i)))) = true := q2
      rw [q, Nat.add_zero, hL] at q3
      cases q3
    · exact q
  refine ⟨by omega, hL, h1, h8, ?_⟩
  unfold ta
  rw [if_neg hsp, hL]
  rfl
theorem ta_gt {b : Nat → Nat} {n i : Nat} (h : tk b n i = 1) : i < ta b n i := by
  have h1 := tk_word h
  have h2 := sp_ge b n i
  omega
theorem tk_end {b : Nat → Nat} {n i : Nat} (h : tk b n i = 3) : i < ta b n i := by
  have h2 := sp_ge b n i
  unfold tk at h
  unfold ta
  repeat' split at h
  all_goals first | cases h | skip
  rename_i h1 h3 h4 h5
  rw [if_neg h1, if_neg h3, if_neg h4]
  omega
theorem tk_lt (b : Nat → Nat) (n i : Nat) : tk b n i < 5 := by
  unfold tk
  repeat' split
  all_goals decide
theorem isN_tk {b : Nat → Nat} {n i : Nat} (h : isN b n i = true) : tk b n i = 1 := by
  unfold isN at h
  simp only [Bool.and_eq_true, decide_eq_true_eq] at h
  exact h.1
theorem isW_tk {b : Nat → Nat} {n i k : Nat} (h : isW b n i k = true) : tk b n i = 1 ∧ tM b n i = k + 1 := by
  unfold isW at h
  simpa only [Bool.and_eq_true, decide_eq_true_eq] using h
theorem pw_le (f : Nat → Int64) (m : Nat) (w : Int64) : pw f m w ≤ m := by
  unfold pw
  split <;> omega
theorem pw_congr {f g : Nat → Int64} {m : Nat} (h : ∀ k, k < m → f k = g k) (w : Int64) : pw f m w = pw g m w := by
  unfold pw
  rw [ff_congr (P := fun k => decide (f k = w)) (Q := fun k => decide (g k = w)) (fun k hk => by rw [h k hk])]
theorem pName_r {b : Nat → Nat} {n : Nat} {τ : RO} {s i k : Nat} (h : pName b n τ s i = .inr k) : tk b n i = 1 ∧ ∃ j, j < τ 3 0 ∧ τ 1 j = s ∧ τ 2 j = k := by
  unfold pName at h
  split at h
  · rename_i h1
    split at h
    · cases h
    · rename_i h2
      split at h
      · rename_i h3
        have hw := pw_le (fun k => lN (τ 0 k)) (τ 3 0) (lN (tW b n i))
        have hw2 : fN τ (tW b n i) ≤ τ 3 0 := hw
        exact ⟨isN_tk h1, _, by omega, h3, Sum.inr.inj h⟩
      · cases h
  · cases h
/-! what stays true of what is read -/
def PV (ρ τ : RO) : Prop := (RW ρ) ∧ (ρ 0 7 ≤ 8) ∧ (τ 3 0 = ρ 0 1 + ρ 0 2 + ρ 0 6) ∧ (∀ k, k < τ 3 0 → (τ 1 k = 1 ∧ τ 2 k < ρ 0 1) ∨ (τ 1 k = 2 ∧ τ 2 k < ρ 0 2) ∨ (τ 1 k = 6 ∧ τ 2 k < ρ 0 6)) ∧ (∀ j, ρ 0 3 ≤ j → ρ 6 j = 0) ∧ (τ 3 1 = 0 → ∀ k, ρ 0 k = 0) ∧ (NF ρ (fun w x => τ (4 + w) x)) ∧ (∀ w x, w < 3 → ρ 0 6 ≤ x → τ (4 + w) x = 0) ∧ (∀ x, τ 7 x = 0 ∧ τ 8 x = 0) ∧ (τ 9 0 = 0) ∧ (∀ p q, ρ 0 2 ≤ p ∨ ρ 0 2 ≤ q → p < 7 → q < 7 → ρ 13 (7 * p + q) = 0) ∧ (τ 3 1 ≤ 1)
theorem PV.rw {ρ τ : RO} (H : PV ρ τ) : RW ρ := H.1
theorem PV.k7 {ρ τ : RO} (H : PV ρ τ) : ρ 0 7 ≤ 8 := H.2.1
theorem PV.nm {ρ τ : RO} (H : PV ρ τ) : τ 3 0 = ρ 0 1 + ρ 0 2 + ρ 0 6 := H.2.2.1
theorem PV.nk {ρ τ : RO} (H : PV ρ τ) : ∀ k, k < τ 3 0 → (τ 1 k = 1 ∧ τ 2 k < ρ 0 1) ∨ (τ 1 k = 2 ∧ τ 2 k < ρ 0 2) ∨ (τ 1 k = 6 ∧ τ 2 k < ρ 0 6) := H.2.2.2.1
theorem PV.k0 {ρ τ : RO} (H : PV ρ τ) : ∀ j, ρ 0 3 ≤ j → ρ 6 j = 0 := H.2.2.2.2.1
theorem PV.t0 {ρ τ : RO} (H : PV ρ τ) : τ 3 1 = 0 → ∀ k, ρ 0 k = 0 := H.2.2.2.2.2.1
theorem PV.nf {ρ τ : RO} (H : PV ρ τ) : NF ρ (fun w x => τ (4 + w) x) := H.2.2.2.2.2.2.1
theorem PV.z {ρ τ : RO} (H : PV ρ τ) : ∀ w x, w < 3 → ρ 0 6 ≤ x → τ (4 + w) x = 0 := H.2.2.2.2.2.2.2.1
theorem PV.zf {ρ τ : RO} (H : PV ρ τ) : ∀ x, τ 7 x = 0 ∧ τ 8 x = 0 := H.2.2.2.2.2.2.2.2.1
theorem PV.zr {ρ τ : RO} (H : PV ρ τ) : τ 9 0 = 0 := H.2.2.2.2.2.2.2.2.2.1
theorem PV.zb {ρ τ : RO} (H : PV ρ τ) : ∀ p q, ρ 0 2 ≤ p ∨ ρ 0 2 ≤ q → p < 7 → q < 7 → ρ 13 (7 * p + q) = 0 := H.2.2.2.2.2.2.2.2.2.2.1
theorem PV.t1 {ρ τ : RO} (H : PV ρ τ) : τ 3 1 ≤ 1 := H.2.2.2.2.2.2.2.2.2.2.2
section
variable {b : Nat → Nat} {n : Nat} {ρ τ : RO} {i : Nat}
theorem PV.tune (P : PV ρ τ) {k : Nat} (h : pName b n τ 1 i = .inr k) : k < ρ 0 1 := by
  obtain ⟨-, j, h1, h2, h3⟩ := pName_r h
  rcases P.nk j h1 with q | q | q <;> omega
theorem PV.place (P : PV ρ τ) {k : Nat} (h : pName b n τ 2 i = .inr k) : k < ρ 0 2 := by
  obtain ⟨-, j, h1, h2, h3⟩ := pName_r h
  rcases P.nk j h1 with q | q | q <;> omega
theorem PV.pers (P : PV ρ τ) {k : Nat} (h : pName b n τ 6 i = .inr k) : k < ρ 0 6 := by
  obtain ⟨-, j, h1, h2, h3⟩ := pName_r h
  rcases P.nk j h1 with q | q | q <;> omega
end
