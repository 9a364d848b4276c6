/-! ===== trips, apart from any memory ===== -/
def subB (V V' : Nat) : Prop := ∀ i, V.testBit i = true → V'.testBit i = true
theorem og_mono {ρ : RO} {k own V V' : Nat} {ra : Bool} (h : subB V V') (ho : og ρ k own V ra = true) : og ρ k own V' ra = true := by
  unfold og at ho ⊢
  rw [Bool.or_eq_true] at ho ⊢
  rcases ho with q | q
  · exact Or.inl q
  · right
    obtain ⟨t, ht, q⟩ := ex_iff.mp q
    refine ex_iff.mpr ⟨t, ht, ?_⟩
    simp only [Bool.or_eq_true, Bool.and_eq_true] at q ⊢
    rcases q with q | q
    · exact Or.inl ⟨h _ q.1, q.2⟩
    · exact Or.inr ⟨h _ q.1, q.2⟩
theorem pq_mono {ρ : RO} {V V' : Nat} {ra : Bool} (h : subB V V') {p q : Nat} (hp : pq ρ p q V ra = true) : pq ρ p q V' ra = true := by
  unfold pq at hp ⊢
  rw [Bool.and_eq_true] at hp ⊢
  exact ⟨hp.1, og_mono h hp.2⟩
theorem ds_mono {ρ : RO} (W : RW ρ) {V V' : Nat} {ra : Bool} (h : subB V V') {f : Nat} (hf : f < ρ 0 2) : ∀ d q, ds ρ V ra q f ≤ d → q < ρ 0 2 → ds ρ V ra q f < 99999 → ds ρ V' ra q f < 99999 := by
  intro d
  induction d with
  | zero =>
    intro q hd hq hr
    rcases Decidable.em (q = f) with e | e
    · rw [e, ds_self]
      decide
    · obtain ⟨m, hm, e1, e2⟩ := ds_via W hq hf e hr
      have := pq_qm W hq hm e1
      omega
  | succ d ih =>
    intro q hd hq hr
    rcases Decidable.em (q = f) with e | e
    · rw [e, ds_self]
      decide
    · obtain ⟨m, hm, e1, e2⟩ := ds_via W hq hf e hr
      have := pq_qm W hq hm e1
      exact ds_on W hq hm hf (pq_mono h e1) (ih m (by omega) hm (by omega))
theorem rs_mono {ρ : RO} (W : RW ρ) {V V' : Nat} {ra : Bool} (h : subB V V') {f : Nat} (hf : f < ρ 0 2) {q : Nat} (hq : (rs ρ V ra f (ρ 0 2)).testBit q = true) : (rs ρ V' ra f (ρ 0 2)).testBit q = true := by
  rw [rs_bit, Bool.and_eq_true, decide_eq_true_iff, decide_eq_true_iff] at hq ⊢
  refine ⟨hq.1, ?_⟩
  have h2 := hq.2
  rw [ds_sym W hf hq.1] at h2 ⊢
  exact ds_mono W h hf _ q (Nat.le_refl _) hq.1 h2
section
variable (ρ : RO) (V0 : Nat) (ra : Bool) (f : Nat)
/-- the voice that an inn sells -/
def iv (k : Nat) : Nat := if ρ 10 k = 1 then 2 ^ (6 + ρ 9 k) else 2 ^ ρ 9 k
/-- the voices with a set of inns bought -/
def vs (s : Nat) : Nat := fo (fun k v => if s.testBit k = true then v ||| iv ρ k else v) V0 (ρ 0 5)
def co (s : Nat) : Nat := su (fun k => if s.testBit k = true then ρ 11 k else 0) (ρ 0 5)
def rch (s : Nat) : Nat := rs ρ (vs ρ V0 s) ra f (ρ 0 2)
/-- the inns of a set can be bought at one behind the other -/
def chf : Nat → Nat → Bool
  | 0, s => decide (s = 0)
  | m + 1, s => decide (s = 0) || ex (fun k => s.testBit k && chf m (s ^^^ 2 ^ k) && (rch ρ V0 ra f (s ^^^ 2 ^ k)).testBit (ρ 8 k)) (ρ 0 5)
def ch (s : Nat) : Bool := chf ρ V0 ra f 6 s
end
section
variable {ρ : RO} {V0 : Nat} {ra : Bool} {f : Nat}
theorem vs_bit (s i : Nat) : ∀ n, (fo (fun k v => if s.testBit k = true then v ||| iv ρ k else v) V0 n).testBit i = (V0.testBit i || ex (fun k => s.testBit k && (iv ρ k).testBit i) n)
  | 0 => by
    show V0.testBit i = _
    rw [ex_no (fun j hj => by omega)]
    simp
  | n + 1 => by
    have ih := vs_bit s i n
    show (if s.testBit n = true then fo (fun k v => if s.testBit k = true then v ||| iv ρ k else v) V0 n ||| iv ρ n else fo (fun k v => if s.testBit k = true then v ||| iv ρ k else v) V0 n).testBit i = _
    have e1 : ex (fun k => s.testBit k && (iv ρ k).testBit i) (n + 1) = (ex (fun k => s.testBit k && (iv ρ k).testBit i) n || (s.testBit n && (iv ρ n).testBit i)) := by
      rcases hx : (ex (fun k => s.testBit k && (iv ρ k).testBit i) n || (s.testBit n && (iv ρ n).testBit i)) with _ | _
      · rw [Bool.or_eq_false_iff] at hx
        refine ex_no (fun j hj => ?_)
        rcases Decidable.em (j = n) with e | e
        · rw [e]; exact hx.2
        · cases hp : (s.testBit j && (iv ρ j).testBit i)
          · rfl
          · have := (ex_iff (P := fun k => s.testBit k && (iv ρ k).testBit i) (n := n)).mpr ⟨j, (show j < n by omega), hp⟩
            rw [hx.1] at this
            cases this
      · rw [Bool.or_eq_true] at hx
        rcases hx with q | q
        · obtain ⟨j, hj, hp⟩ := ex_iff.mp q
          exact ex_iff.mpr ⟨j, by omega, hp⟩
        · exact ex_iff.mpr ⟨n, by omega, q⟩
    rw [e1]
    rcases hb : s.testBit n with _ | _
    · rw [if_neg (by decide), ih]
      simp
    · rw [if_pos rfl, Nat.testBit_or, ih]
      simp [Bool.or_assoc]
theorem vs_0 : vs ρ V0 0 = V0 := by
  apply Nat.eq_of_testBit_eq
  intro i
  show (fo _ V0 (ρ 0 5)).testBit i = _
  rw [vs_bit, ex_no (fun j _ => by simp)]
  simp
theorem vs_sub {s t : Nat} (h : subB s t) : subB (vs ρ V0 s) (vs ρ V0 t) := by
  intro i hi
  change (fo _ V0 (ρ 0 5)).testBit i = true at hi
  show (fo _ V0 (ρ 0 5)).testBit i = true
  rw [vs_bit, Bool.or_eq_true] at hi ⊢
  rcases hi with q | q
  · exact Or.inl q
  · right
    obtain ⟨j, hj, hp⟩ := ex_iff.mp q
    rw [Bool.and_eq_true] at hp
    exact ex_iff.mpr ⟨j, hj, by rw [Bool.and_eq_true]; exact ⟨h j hp.1, hp.2⟩⟩
/-- one inn more -/
theorem vs_add {s k : Nat} (hk : k < ρ 0 5) (hs : s.testBit k = true) : vs ρ V0 s = vs ρ V0 (s ^^^ 2 ^ k) ||| iv ρ k := by
  apply Nat.eq_of_testBit_eq
  intro i
  rw [Nat.testBit_or]
  show (fo _ V0 (ρ 0 5)).testBit i = ((fo _ V0 (ρ 0 5)).testBit i || _)
  rw [vs_bit, vs_bit, Bool.or_assoc]
  congr 1
  rcases hx : ex (fun k => s.testBit k && (iv ρ k).testBit i) (ρ 0 5) with _ | _
  · symm
    rw [Bool.or_eq_false_iff]
    have h1 : ∀ j, j < ρ 0 5 → (s.testBit j && (iv ρ j).testBit i) = false := by
      intro j hj
      cases hp : (s.testBit j && (iv ρ j).testBit i)
      · rfl
      · have := (ex_iff (P := fun k => s.testBit k && (iv ρ k).testBit i) (n := ρ 0 5)).mpr ⟨j, hj, hp⟩
        rw [hx] at this
        cases this
    refine ⟨ex_no (fun j hj => ?_), ?_⟩
    · have := h1 j hj
      rw [xor_bit]
      rcases Decidable.em (k = j) with e | e
      · subst e
        rw [hs]
        simp
      · simpa [e] using this
    · have := h1 k hk
      rw [hs] at this
      simpa using this
  · symm
    rw [Bool.or_eq_true]
    obtain ⟨j, hj, hp⟩ := ex_iff.mp hx
    rw [Bool.and_eq_true] at hp
    rcases Decidable.em (k = j) with e | e
    · subst e
      exact Or.inr hp.2
    · refine Or.inl (ex_iff.mpr ⟨j, hj, ?_⟩)
      rw [xor_bit, hp.1, hp.2]
      simp [e]
theorem iv_lt (W : RW ρ) {k : Nat} (hk : k < ρ 0 5) : iv ρ k < 2 ^ 12 := by
  have h1 := W.ip k hk
  have h2 := W.tu
  unfold iv
  split
  · exact Nat.pow_lt_pow_right (by decide) (by omega)
  · exact Nat.pow_lt_pow_right (by decide) (by omega)
theorem vs_lt (W : RW ρ) (hV : V0 < 8192) (s : Nat) : vs ρ V0 s < 2 ^ 13 := by
  refine fo_inv (fun v => v < 2 ^ 13) (fun k v hk hv => ?_) hV
  split
  · have := iv_lt W hk
    exact Nat.or_lt_two_pow hv (by omega)
  · exact hv
theorem vs_ne (hV : V0 ≠ 0) (s : Nat) : vs ρ V0 s ≠ 0 := by
  intro e
  obtain ⟨i, hi⟩ := Nat.exists_testBit_of_ne_zero hV
  have : (vs ρ V0 s).testBit i = true := by
    show (fo _ V0 (ρ 0 5)).testBit i = true
    rw [vs_bit, hi]
    rfl
  rw [e, Nat.zero_testBit] at this
  cases this
theorem co_add {s k : Nat} (hk : k < ρ 0 5) (hs : s.testBit k = true) : co ρ s = co ρ (s ^^^ 2 ^ k) + ρ 11 k := by
  have e1 : co ρ s = su (fun i => (if (s ^^^ 2 ^ k).testBit i = true then ρ 11 i else 0) + (if i = k then ρ 11 k else 0)) (ρ 0 5) := by
    refine su_congr (fun i hi => ?_)
    rw [xor_bit]
    rcases Decidable.em (i = k) with e | e
    · subst e
      rw [hs]
      simp
    · simp [e, show ¬ k = i from fun q => e q.symm]
  rw [e1, su_add, su_one (f := fun i => if i = k then ρ 11 k else 0) hk (fun i _ h => if_neg h), if_pos rfl]
  rfl
theorem co_0 : co ρ 0 = 0 := su_0 (fun i _ => by simp)
theorem co_le (W : RW ρ) (s : Nat) : co ρ s ≤ 594 := by
  have h1 : co ρ s ≤ su (fun _ => 99) (ρ 0 5) := su_le (fun k hk => by
    have := (W.ip k hk).2.2.2
    split <;> omega)
  rw [su_const] at h1
  have := W.inn
  omega
theorem chf_fuel (W : RW ρ) : ∀ m s, s < 64 → bcN s ≤ m → chf ρ V0 ra f (m + 1) s = chf ρ V0 ra f m s
  | 0, s, hs, hb => by
    have := (bc_tab s hs).2 (by omega)
    subst this
    rfl
  | m + 1, s, hs, hb => by
    have hin := W.inn
    unfold chf
    congr 1
    refine ex_congr (fun k hk => ?_)
    rcases hx : s.testBit k with _ | _
    · simp
    · have h5 := xb_tab s hs k (by omega) hx
      have := chf_fuel W m (s ^^^ 2 ^ k) (by omega) (by omega)
      rw [this]
theorem ch_eq (W : RW ρ) {s : Nat} (hs : s < 64) : ch ρ V0 ra f s = (decide (s = 0) || ex (fun k => s.testBit k && ch ρ V0 ra f (s ^^^ 2 ^ k) && (rch ρ V0 ra f (s ^^^ 2 ^ k)).testBit (ρ 8 k)) (ρ 0 5)) := by
  have h6 := (bc_tab s hs).1
  have hin := W.inn
  unfold ch
  rw [chf]
  congr 1
  refine ex_congr (fun k hk => ?_)
  rcases hx : s.testBit k with _ | _
  · simp
  · have h5 := xb_tab s hs k (by omega) hx
    rw [chf_fuel W 5 (s ^^^ 2 ^ k) (by omega) (by omega)]
theorem ch_0 : ch ρ V0 ra f 0 = true := rfl
/-- a set that can be bought at lies in every set that is closed within t -/
theorem ch_in (W : RW ρ) (hf : f < ρ 0 2) {t B : Nat} (hB : ∀ k, k < ρ 0 5 → t.testBit k = true → (rch ρ V0 ra f B).testBit (ρ 8 k) = true → B.testBit k = true) : ∀ n s, bcN s ≤ n → s < 64 → s < 2 ^ ρ 0 5 → subB s t → ch ρ V0 ra f s = true → subB s B
  | 0, s, hb, hs, _, _, _ => by
    have := (bc_tab s hs).2 (by omega)
    subst this
    intro i hi
    rw [Nat.zero_testBit] at hi
    cases hi
  | n + 1, s, hb, hs, hs2, hst, hc => by
    have hin := W.inn
    rw [ch_eq W hs, Bool.or_eq_true, decide_eq_true_iff] at hc
    rcases hc with e | e
    · subst e
      intro i hi
      rw [Nat.zero_testBit] at hi
      cases hi
    · obtain ⟨k, hk, hp⟩ := ex_iff.mp e
      simp only [Bool.and_eq_true] at hp
      obtain ⟨⟨p1, p2⟩, p3⟩ := hp
      have h5 := xb_tab s hs k (by omega) p1
      have sub1 : subB (s ^^^ 2 ^ k) s := by
        intro i hi
        rw [xor_bit] at hi
        rcases Decidable.em (k = i) with e | e
        · subst e
          exact p1
        · simpa [e] using hi
      have ih := ch_in W hf hB n (s ^^^ 2 ^ k) (by omega) (by omega) (by omega) (fun i hi => hst i (sub1 i hi)) p2
      have hkB : B.testBit k = true := hB k hk (hst k p1) (rs_mono W (vs_sub ih) hf p3)
      intro i hi
      rcases Decidable.em (k = i) with e | e
      · subst e
        exact hkB
      · refine ih i ?_
        rw [xor_bit, hi]
        simp [e]
end
/-! the best set -/
section
variable (ρ : RO) (V0 : Nat) (ra : Bool) (f c p : Nat)
def okT (s : Nat) : Bool := decide (co ρ s ≤ c) && ch ρ V0 ra f s && (rch ρ V0 ra f s).testBit p
def btr (s b : Nat) : Bool := decide (co ρ s < co ρ b) || (decide (co ρ s = co ρ b) && decide (bcN s < bcN b))
def tfN (s b : Nat) : Nat := if okT ρ V0 ra f c p s && (decide (b = 0) || btr ρ s (b - 1)) then s + 1 else b
def tbN (n : Nat) : Nat := fo (tfN ρ V0 ra f c p) 0 n
end
def tbI (b : Nat) : Int32 := if b = 0 then -nI 2 else nI (b - 1)
theorem tbN_le (ρ : RO) (V0 : Nat) (ra : Bool) (f c p : Nat) : ∀ n, tbN ρ V0 ra f c p n ≤ n
  | 0 => Nat.le_refl 0
  | n + 1 => by
    have ih := tbN_le ρ V0 ra f c p n
    show tfN ρ V0 ra f c p n (tbN ρ V0 ra f c p n) ≤ n + 1
    unfold tfN
    split <;> omega
theorem tbN_0 (ρ : RO) (V0 : Nat) (ra : Bool) (f c p : Nat) : ∀ n, tbN ρ V0 ra f c p n = 0 ↔ ex (okT ρ V0 ra f c p) n = false
  | 0 => by
    refine ⟨fun _ => ex_no (fun i hi => by omega), fun _ => rfl⟩
  | n + 1 => by
    have ih := tbN_0 ρ V0 ra f c p n
    have e1 : tbN ρ V0 ra f c p (n + 1) = tfN ρ V0 ra f c p n (tbN ρ V0 ra f c p n) := rfl
    rw [e1]
    constructor
    · intro h
      unfold tfN at h
      split at h
      · omega
      · rename_i hc
        have h2 := ih.mp h
        rw [h] at hc
        refine ex_no (fun i hi => ?_)
        rcases Decidable.em (i = n) with e | e
        · subst e
          simpa using hc
        · cases hp : okT ρ V0 ra f c p i
          · rfl
          · have := ex_iff.mpr ⟨i, (show i < n by omega), hp⟩
            rw [h2] at this
            cases this
    · intro h
      have h1 : ∀ i, i < n + 1 → okT ρ V0 ra f c p i = false := by
        intro i hi
        cases hp : okT ρ V0 ra f c p i
        · rfl
        · have := ex_iff.mpr ⟨i, hi, hp⟩
          rw [h] at this
          cases this
      unfold tfN
      rw [h1 n (by omega)]
      simp
      exact ih.mpr (ex_no (fun i hi => h1 i (by omega)))
