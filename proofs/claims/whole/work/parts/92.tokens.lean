/-! ===== tokens, apart from any memory ===== -/
def isL (c : Nat) : Bool := decide (97 ≤ c) && decide (c ≤ 122)
def isD (c : Nat) : Bool := decide (48 ≤ c) && decide (c ≤ 57)
/-- the first byte from i on that is no space -/
def sp (b : Nat → Nat) (n i : Nat) : Nat := i + ff (fun k => decide (b (i + k) ≠ 32)) (n - i)
/-- how many letters, how many digits from i on -/
def nl (b : Nat → Nat) (n i : Nat) : Nat := ff (fun k => !isL (b (i + k))) (n - i)
def ndg (b : Nat → Nat) (n i : Nat) : Nat := ff (fun k => !isD (b (i + k))) (n - i)
/-- the word, the number of so many of them -/
def wv (b : Nat → Nat) (i : Nat) : Nat → Nat
  | 0 => 0
  | k + 1 => wv b i k * 32 + (b (i + k) - 96)
def nv (b : Nat → Nat) (i : Nat) : Nat → Nat
  | 0 => 0
  | k + 1 => nv b i k * 10 + (b (i + k) - 48)
/-- the kind of the token from i on: 0 the end, 1 a word, 2 a whole number, 3 a semicolon, 4 none; where it ends -/
def tk (b : Nat → Nat) (n i : Nat) : Nat := if n ≤ sp b n i then 0 else if isL (b (sp b n i)) = true then (if nl b n (sp b n i) ≤ 8 then 1 else 4) else if isD (b (sp b n i)) = true then (if ndg b n (sp b n i) ≤ 3 then 2 else 4) else if b (sp b n i) = 59 then 3 else 4
def ta (b : Nat → Nat) (n i : Nat) : Nat := if n ≤ sp b n i then sp b n i else if isL (b (sp b n i)) = true then sp b n i + nl b n (sp b n i) else if isD (b (sp b n i)) = true then sp b n i + ndg b n (sp b n i) else sp b n i + 1
theorem sp_ge (b : Nat → Nat) (n i : Nat) : i ≤ sp b n i := Nat.le_add_right _ _
theorem sp_le (b : Nat → Nat) {n i : Nat} (h : i ≤ n) : sp b n i ≤ n := by
  have := ff_le (fun k => decide (b (i + k) ≠ 32)) (n - i)
  unfold sp
  omega
theorem nl_le (b : Nat → Nat) (n i : Nat) : nl b n i ≤ n - i := ff_le _ _
theorem ndg_le (b : Nat → Nat) (n i : Nat) : ndg b n i ≤ n - i := ff_le _ _
theorem nl_in (b : Nat → Nat) (n i k : Nat) (h : k < nl b n i) : isL (b (i + k)) = true := by
  have := ff_no _ _ k h
  simpa using this
theorem ndg_in (b : Nat → Nat) (n i k : Nat) (h : k < ndg b n i) : isD (b (i + k)) = true := by
  have := ff_no _ _ k h
  simpa using this
theorem isL_iff {c : Nat} : isL c = true ↔ 97 ≤ c ∧ c ≤ 122 := by simp [isL]
theorem isD_iff {c : Nat} : isD c = true ↔ 48 ≤ c ∧ c ≤ 57 := by simp [isD]
theorem wL2 (h : Mem) (x k : Nat) (u v : Int64) : wL (wL h x k u) x k v = wL h x k v := by
  have e : ∀ f : Nat → Int64, vp_updL (vp_updL f k u) k v = vp_updL f k v := fun f => by
    funext j
    unfold vp_updL
    split <;> rfl
  have e2 : mL (wL (wL h x k u) x k v) = mL (wL h x k v) := by
    funext y
    rcases Decidable.em (y = x) with q | q
    · subst q
      rw [mL_wL_at, mL_wL_at, mL_wL_at, e]
    · rw [mL_wL_ne _ _ _ q, mL_wL_ne _ _ _ q, mL_wL_ne _ _ _ q]
  exact mem_ext (fun _ => rfl) e2 rfl rfl rfl
theorem wLI (h : Mem) (x k y j : Nat) (u : Int64) (v : Int32) : wL (wI h y j v) x k u = wI (wL h x k u) y j v := rfl
theorem nI_64 {n : Nat} (h : n < 2 ^ 31) : (nI n).toInt64 = lN n := by
  apply Int64.toInt_inj.1
  rw [Int32.toInt_toInt64, lN_toInt h]
  exact nI_toInt h
