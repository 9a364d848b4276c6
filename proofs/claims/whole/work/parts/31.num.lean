/-! ===== numbers ===== -/
theorem ob {α β : Type} (a : α) (f : α → Option β) : (some a).bind f = f a := rfl
theorem nI_lit (n : Nat) : (OfNat.ofNat n : Int32) = nI (OfNat.ofNat n) := rfl
theorem nI_bv (n : Nat) : (nI n).toBitVec = BitVec.ofNat 32 n := rfl
theorem nI_and {a b : Nat} (ha : a < 2 ^ 32) (hb : b < 2 ^ 32) : nI a &&& nI b = nI (a &&& b) := by
  apply Int32.toBitVec_inj.mp
  apply BitVec.eq_of_toNat_eq
  rw [Int32.toBitVec_and, nI_bv, nI_bv, nI_bv, BitVec.toNat_and, BitVec.toNat_ofNat, BitVec.toNat_ofNat, BitVec.toNat_ofNat, Nat.mod_eq_of_lt ha, Nat.mod_eq_of_lt hb, Nat.mod_eq_of_lt (Nat.lt_of_le_of_lt Nat.and_le_left ha)]
theorem nI_or {a b : Nat} (ha : a < 2 ^ 32) (hb : b < 2 ^ 32) : nI a ||| nI b = nI (a ||| b) := by
  apply Int32.toBitVec_inj.mp
  apply BitVec.eq_of_toNat_eq
  rw [Int32.toBitVec_or, nI_bv, nI_bv, nI_bv, BitVec.toNat_or, BitVec.toNat_ofNat, BitVec.toNat_ofNat, BitVec.toNat_ofNat, Nat.mod_eq_of_lt ha, Nat.mod_eq_of_lt hb, Nat.mod_eq_of_lt (Nat.or_lt_two_pow ha hb)]
theorem nI_xor {a b : Nat} (ha : a < 2 ^ 32) (hb : b < 2 ^ 32) : nI a ^^^ nI b = nI (a ^^^ b) := by
  apply Int32.toBitVec_inj.mp
  apply BitVec.eq_of_toNat_eq
  rw [Int32.toBitVec_xor, nI_bv, nI_bv, nI_bv, BitVec.toNat_xor, BitVec.toNat_ofNat, BitVec.toNat_ofNat, BitVec.toNat_ofNat, Nat.mod_eq_of_lt ha, Nat.mod_eq_of_lt hb, Nat.mod_eq_of_lt (Nat.xor_lt_two_pow ha hb)]
theorem nI_smod : ∀ k, k < 32 → ((nI k &&& nI 31).toBitVec.smod 32).toNat = k := by decide +kernel
theorem nI_shl {n k : Nat} (hk : k < 32) (h : n * 2 ^ k < 2 ^ 32) : nI n <<< (nI k &&& nI 31) = nI (n * 2 ^ k) := pk_shlN _ k (nI_smod k hk) h
theorem two_le {k m : Nat} (h : k ≤ m) : 2 ^ k ≤ 2 ^ m := Nat.pow_le_pow_right (by decide) h
theorem nI_sh1 {k : Nat} (hk : k < 31) : nI 1 <<< (nI k &&& nI 31) = nI (2 ^ k) := by
  have h := two_le (show k ≤ 30 by omega)
  rw [nI_shl (by omega) (by omega), Nat.one_mul]
theorem nI_shr {n k : Nat} (hn : n < 2 ^ 31) (hk : k < 32) : nI n >>> (nI k &&& nI 31) = nI (n / 2 ^ k) := pk_shrN hn _ k (nI_smod k hk)
theorem bit_iff (n k : Nat) : n / 2 ^ k % 2 = 1 ↔ n.testBit k = true := by
  rw [Nat.testBit_eq_decide_div_mod_eq, decide_eq_true_iff]
/-- (set >> k & 1) == 1 -/
theorem nI_bit {n k : Nat} (hn : n < 2 ^ 31) (hk : k < 32) : ((nI n >>> (nI k &&& nI 31)) &&& nI 1 = nI 1) = (n.testBit k = true) := by
  rw [nI_shr hn hk, nI_and (Nat.lt_of_le_of_lt (Nat.div_le_self _ _) (by omega)) (by decide), Nat.and_one_is_mod, nI_eq (by omega) (by decide), bit_iff]
theorem nI_bit0 {n k : Nat} (hn : n < 2 ^ 31) (hk : k < 32) : ((nI n >>> (nI k &&& nI 31)) &&& nI 1 = nI 0) = (n.testBit k = false) := by
  rw [nI_shr hn hk, nI_and (Nat.lt_of_le_of_lt (Nat.div_le_self _ _) (by omega)) (by decide), Nat.and_one_is_mod, nI_eq (by omega) (by decide), Nat.testBit_eq_decide_div_mod_eq, decide_eq_false_iff_not]
  apply propext
  omega
/-- s & ~a, as s & (a ^ -1) -/
theorem nI_anot {s a : Nat} (hs : s < 2 ^ 31) (ha : a < 2 ^ 31) : nI s &&& (nI a ^^^ -nI 1) = nI (s ^^^ (s &&& a)) := by
  have e : (-nI 1 : Int32) = ~~~ 0 := by decide
  apply Int32.toBitVec_inj.mp
  apply BitVec.eq_of_getLsbD_eq
  intro i hi
  rw [e, Int32.toBitVec_and, Int32.toBitVec_xor, Int32.toBitVec_not, nI_bv, nI_bv, nI_bv, BitVec.getLsbD_and, BitVec.getLsbD_xor, BitVec.getLsbD_not, BitVec.getLsbD_ofNat, BitVec.getLsbD_ofNat, BitVec.getLsbD_ofNat, Nat.testBit_xor, Nat.testBit_and]
  simp [hi]
  cases s.testBit i <;> cases a.testBit i <;> rfl
/-- nI k - 1 : a number that may be -1 -/
theorem kN_neg {k : Nat} (h : k < 2 ^ 31) : (nI k - nI 1 < nI 0) = (k = 0) := by
  cases k with
  | zero => decide
  | succ k =>
    rw [pk_sub (by omega), nI_ltI (by omega) (by decide)]
    simp
theorem kN_pos {k : Nat} (h : k < 2 ^ 31) : (nI 0 ≤ nI k - nI 1) = (k ≠ 0) := by
  cases k with
  | zero => decide
  | succ k =>
    rw [pk_sub (by omega), nI_leI (by decide) (by omega)]
    simp
theorem kN_eq {k c : Nat} (h : k < 2 ^ 31) (hc : c + 1 < 2 ^ 31) : (nI k - nI 1 = nI c) = (k = c + 1) := by
  apply propext
  constructor
  · intro q
    have q2 : nI k = nI (c + 1) := by
      rw [← nI_1, ← q]
      show nI k = nI k - nI 1 + nI 1
      rw [Int32.sub_add_cancel]
    exact (nI_eq h hc).mp q2
  · intro q
    rw [q, pk_sub (by omega)]
    rfl
theorem nI_nem {a b : Nat} (ha : a < 2 ^ 31) (h0 : 0 < b) (hb : b < 2 ^ 31) : (nI a = -nI b) = False := by
  apply eq_false
  intro q
  have h1 : (nI a).toInt = (-nI b).toInt := by rw [q]
  rw [nI_toInt ha, Int32.toInt_neg, nI_toInt hb] at h1
  have h2 : (-(b : Int)).bmod (2 ^ 32) = -(b : Int) := Int.bmod_eq_of_le (by omega) (by omega)
  rw [h2] at h1
  omega
theorem nI_b0 (b : Bool) : (nI b.toNat = nI 0) = (b = false) := by cases b <;> decide
theorem nI_b1 (b : Bool) : (nI b.toNat = nI 1) = (b = true) := by cases b <;> decide
/-! ===== loops and sums ===== -/
theorem iter_ok {σ ρ : Type} {f : σ → Option (σ ⊕ ρ)} {Q : ρ → Prop} (I : Nat → σ → Prop) (N : Nat) (hN : N < FU) (st : ∀ i s, i ≤ N → I i s → OK (f s) (fun q => match q with | .inl s' => i < N ∧ I (i + 1) s' | .inr r => Q r)) {s : σ} (h0 : I 0 s) : OK (iter f FU s) Q := by
  have key : ∀ (m n i : Nat) (s : σ), i + n = N → n < m → I i s → OK (iter f m s) Q := by
    intro m
    induction m with
    | zero => intro n i s _ h; omega
    | succ m ih =>
      intro n i s hi hm hI
      obtain ⟨q, hq, hp⟩ := st i s (by omega) hI
      show OK ((f s).bind _) Q
      rw [hq]
      cases q with
      | inl s' => exact ih (n - 1) (i + 1) s' (by have := hp.1; omega) (by have := hp.1; omega) hp.2
      | inr r => exact ⟨r, rfl, hp⟩
  exact key FU N 0 s (by omega) hN h0
/-- a fold: f 0, f 1, .. f (n - 1) -/
def fo {α : Type} (f : Nat → α → α) (a : α) : Nat → α
  | 0 => a
  | n + 1 => f n (fo f a n)
/-- a loop over 0 .. n - 1 with an accumulator -/
theorem iter_fo {α σ ρ : Type} {b : σ → Option (σ ⊕ ρ)} (S : α → Nat → σ) (f : Nat → α → α) (a : α) (n : Nat) {r : ρ} (hn : n < FU) (hs : ∀ i a, i < n → b (S a i) = some (.inl (S (f i a) (i + 1)))) (he : b (S (fo f a n) n) = some (.inr r)) : iter b FU (S a 0) = some r :=
  iter_for (fun i => S (fo f a i) i) n hn (fun i hi => hs i _ hi) he
theorem fo_congr {α : Type} {f g : Nat → α → α} {a : α} : ∀ {n : Nat}, (∀ i, i < n → ∀ x, f i x = g i x) → fo f a n = fo g a n
  | 0, _ => rfl
  | n + 1, h => by
    show f n (fo f a n) = g n (fo g a n)
    rw [fo_congr (fun i hi => h i (by omega)), h n (by omega)]
/-- the first of 0 .. n - 1 with P, or n -/
def ff (P : Nat → Bool) : Nat → Nat
  | 0 => 0
  | n + 1 => if ff P n < n then ff P n else if P n then n else n + 1
theorem ff_le (P : Nat → Bool) : ∀ n, ff P n ≤ n
  | 0 => Nat.le_refl 0
  | n + 1 => by
    have h := ff_le P n
    unfold ff
    split
    · omega
    · split <;> omega
theorem ff_no (P : Nat → Bool) : ∀ n i, i < ff P n → P i = false
  | 0, i, h => absurd h (by unfold ff; omega)
  | n + 1, i, h => by
    have hl := ff_le P n
    unfold ff at h
    split at h
    · exact ff_no P n i h
    · rename_i h1
      split at h
      · exact ff_no P n i (by omega)
      · rename_i h2
        rcases Nat.lt_or_ge i n with h3 | h3
        · exact ff_no P n i (by omega)
        · have : i = n := by omega
          rw [this]
          simpa using h2
theorem ff_at (P : Nat → Bool) : ∀ n, ff P n < n → P (ff P n) = true
  | 0, h => by omega
  | n + 1, h => by
    unfold ff at h ⊢
    split
    · rename_i h1
      exact ff_at P n h1
    · rename_i h1
      rw [if_neg h1] at h
      split
      · assumption
      · rename_i h2
        rw [if_neg h2] at h
        omega
theorem ff_eq {P : Nat → Bool} {n k : Nat} (hk : k ≤ n) (h0 : ∀ i, i < k → P i = false) (h1 : k < n → P k = true) : ff P n = k := by
  have hl := ff_le P n
  rcases Nat.lt_trichotomy (ff P n) k with h | h | h
  · have := ff_at P n (by omega)
    rw [h0 _ h] at this
    cases this
  · exact h
  · have := ff_no P n k h
    rw [h1 (by omega)] at this
    cases this
theorem ff_congr {P Q : Nat → Bool} {n : Nat} (h : ∀ i, i < n → P i = Q i) : ff P n = ff Q n :=
  ff_eq (ff_le Q n) (fun i hi => by rw [h i (by have := ff_le Q n; omega)]; exact ff_no Q n i hi) (fun hi => by rw [h _ hi]; exact ff_at Q n hi)
/-- a loop that looks for the first -/
theorem iter_ff {σ ρ : Type} {b : σ → Option (σ ⊕ ρ)} (S : Nat → σ) (P : Nat → Bool) (n : Nat) {r : ρ} (hn : n < FU) (hs : ∀ i, i < n → P i = false → b (S i) = some (.inl (S (i + 1)))) (he : b (S (ff P n)) = some (.inr r)) : iter b FU (S 0) = some r :=
  iter_for S (ff P n) (by have := ff_le P n; omega) (fun i hi => hs i (by have := ff_le P n; omega) (ff_no P n i hi)) he
/-- how many of 0 .. n - 1 -/
def cn (P : Nat → Bool) (n : Nat) : Nat := fo (fun i a => a + (P i).toNat) 0 n
theorem cn_le (P : Nat → Bool) : ∀ n, cn P n ≤ n
  | 0 => Nat.le_refl 0
  | n + 1 => by
    have h := cn_le P n
    show cn P n + (P n).toNat ≤ n + 1
    cases P n
    · show cn P n + 0 ≤ _; omega
    · show cn P n + 1 ≤ _; omega
theorem cn_congr {P Q : Nat → Bool} {n : Nat} (h : ∀ i, i < n → P i = Q i) : cn P n = cn Q n := fo_congr (fun i hi x => by show x + (P i).toNat = x + (Q i).toNat; rw [h i hi])
