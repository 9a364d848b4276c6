/-! ===== the class's ways ===== -/
def sh1 (L : Nat → Nat) (x y w : Nat) : Nat → Nat := if L y + w < L x then updN L x (L y + w) else L
theorem sh1_le (L : Nat → Nat) (x y w p : Nat) : sh1 L x y w p ≤ L p := by
  unfold sh1
  split
  · unfold updN
    split
    · rename_i c e
      subst e
      omega
    · exact Nat.le_refl _
  · exact Nat.le_refl _
theorem sh1_x (L : Nat → Nat) (x y w : Nat) : sh1 L x y w x ≤ L y + w := by
  unfold sh1
  split
  · unfold updN
    rw [if_pos rfl]
    exact Nat.le_refl _
  · omega
theorem sh1_low {L D : Nat → Nat} {x y w : Nat} (hD : ∀ p, D p ≤ L p) (h : D x ≤ L y + w) : ∀ p, D p ≤ sh1 L x y w p := by
  intro p
  unfold sh1
  split
  · unfold updN
    split
    · rename_i e
      rw [e]
      exact h
    · exact hD p
  · exact hD p
def rdj (ρ : RO) (V : Nat) (ra : Bool) (j : Nat) (L : Nat → Nat) : Nat → Nat := if op ρ j V ra = true then sh1 (sh1 L (ρ 3 j) (ρ 4 j) (ρ 5 j)) (ρ 4 j) (ρ 3 j) (ρ 5 j) else L
theorem rdj_le (ρ : RO) (V : Nat) (ra : Bool) (j : Nat) (L : Nat → Nat) (p : Nat) : rdj ρ V ra j L p ≤ L p := by
  unfold rdj
  split
  · exact Nat.le_trans (sh1_le _ _ _ _ p) (sh1_le _ _ _ _ p)
  · exact Nat.le_refl _
def rdl (ρ : RO) (V : Nat) (ra : Bool) (L : Nat → Nat) : Nat → Nat := fo (rdj ρ V ra) L (ρ 0 3)
def L0 (g : Nat) : Nat → Nat := fun p => if p = g then 0 else 1000000
def Lk (ρ : RO) (V : Nat) (ra : Bool) (g k : Nat) : Nat → Nat := fo (fun _ L => rdl ρ V ra L) (L0 g) k
theorem fo_le {f : Nat → (Nat → Nat) → (Nat → Nat)} (hf : ∀ i L p, f i L p ≤ L p) (L : Nat → Nat) (p : Nat) : ∀ n, fo f L n p ≤ L p
  | 0 => Nat.le_refl _
  | n + 1 => Nat.le_trans (hf n _ p) (fo_le hf L p n)
theorem rdl_le (ρ : RO) (V : Nat) (ra : Bool) (L : Nat → Nat) (p : Nat) : rdl ρ V ra L p ≤ L p := fo_le (fun i L p => rdj_le ρ V ra i L p) L p _
theorem Lk_le (ρ : RO) (V : Nat) (ra : Bool) (g k p : Nat) : Lk ρ V ra g k p ≤ L0 g p := fo_le (fun i L p => rdl_le ρ V ra L p) (L0 g) p k
theorem L0_le (g p : Nat) : L0 g p ≤ 1000000 := by
  unfold L0
  split <;> omega
/-- a road that is open shortens its ends in a round -/
theorem rdl_end (ρ : RO) (V : Nat) (ra : Bool) (L : Nat → Nat) {j : Nat} (ho : op ρ j V ra = true) : ∀ n, j < n → fo (rdj ρ V ra) L n (ρ 3 j) ≤ L (ρ 4 j) + ρ 5 j ∧ fo (rdj ρ V ra) L n (ρ 4 j) ≤ L (ρ 3 j) + ρ 5 j
  | 0, h => by omega
  | n + 1, h => by
    have hle := rdj_le ρ V ra n (fo (rdj ρ V ra) L n)
    rcases Decidable.em (j = n) with e | e
    · subst e
      have f := fun p => fo_le (fun i L p => rdj_le ρ V ra i L p) L p j
      show rdj ρ V ra j (fo (rdj ρ V ra) L j) (ρ 3 j) ≤ _ ∧ rdj ρ V ra j (fo (rdj ρ V ra) L j) (ρ 4 j) ≤ _
      generalize fo (rdj ρ V ra) L j = K at *
      unfold rdj
      rw [ho, if_pos rfl]
      have f3 := f (ρ 3 j)
      have f4 := f (ρ 4 j)
      refine ⟨?_, ?_⟩
      · have a1 := sh1_le (sh1 K (ρ 3 j) (ρ 4 j) (ρ 5 j)) (ρ 4 j) (ρ 3 j) (ρ 5 j) (ρ 3 j)
        have a2 := sh1_x K (ρ 3 j) (ρ 4 j) (ρ 5 j)
        omega
      · have a1 := sh1_x (sh1 K (ρ 3 j) (ρ 4 j) (ρ 5 j)) (ρ 4 j) (ρ 3 j) (ρ 5 j)
        have a2 := sh1_le K (ρ 3 j) (ρ 4 j) (ρ 5 j) (ρ 3 j)
        omega
    · have ih := rdl_end ρ V ra L ho n (by omega)
      exact ⟨Nat.le_trans (hle _) ih.1, Nat.le_trans (hle _) ih.2⟩
section
variable {ρ : RO} {V : Nat} {ra : Bool}
/-- the fewest minutes to g, 1000000 if there is no way -/
def dd (ρ : RO) (V : Nat) (ra : Bool) (g p : Nat) : Nat := if ds ρ V ra p g < 99999 then ds ρ V ra p g else 1000000
theorem dd_on (W : RW ρ) {g x y : Nat} (hg : g < ρ 0 2) (hx : x < ρ 0 2) (hy : y < ρ 0 2) (h : pq ρ x y V ra = true) {n : Nat} (hn : dd ρ V ra g y ≤ n) : dd ρ V ra g x ≤ n + qm ρ x y := by
  unfold dd at hn ⊢
  rcases Nat.lt_or_ge (ds ρ V ra y g) 99999 with c | c
  · rw [if_pos c] at hn
    have h1 := ds_on W hx hy hg h c
    have h2 := ds_go W (q := g) hx hy h
    rw [if_pos h1]
    omega
  · rw [if_neg (by omega)] at hn
    rcases Nat.lt_or_ge (ds ρ V ra x g) 99999 with c2 | c2
    · have := ds_bd W hx hg c2
      rw [if_pos c2]
      omega
    · rw [if_neg (by omega)]
      omega
/-- what the class measures is that -/
theorem Lk_dd (W : RW ρ) {g : Nat} (hg : g < ρ 0 2) {p : Nat} (hp : p < ρ 0 2) : Lk ρ V ra g (ρ 0 2) p = dd ρ V ra g p := by
  have hdd : ∀ p, p < ρ 0 2 → dd ρ V ra g p ≤ 1000000 := by
    intro p hp
    unfold dd
    split
    · rename_i c
      have := ds_bd W hp hg c
      omega
    · omega
  have low : ∀ k p, p < ρ 0 2 → dd ρ V ra g p ≤ Lk ρ V ra g k p := by
    let D : Nat → Nat := fun p => if p < ρ 0 2 then dd ρ V ra g p else 0
    have l0 : ∀ p, D p ≤ L0 g p := by
      intro p
      show (if p < ρ 0 2 then dd ρ V ra g p else 0) ≤ _
      split
      · rename_i c
        unfold L0
        split
        · rename_i e
          rw [e]
          unfold dd
          rw [ds_self, if_pos (by decide)]
          exact Nat.le_refl _
        · exact hdd p c
      · exact Nat.zero_le _
    have lr : ∀ j, j < ρ 0 3 → ∀ L : Nat → Nat, (∀ p, D p ≤ L p) → ∀ p, D p ≤ rdj ρ V ra j L p := by
      intro j hj L hL
      unfold rdj
      split
      · rename_i ho
        have h3 := W.e1 j hj
        have h4 := W.e2 j hj
        obtain ⟨r1, r2, r3, r4⟩ := pq_road W hj V ra
        have i1 : ∀ p, D p ≤ sh1 L (ρ 3 j) (ρ 4 j) (ρ 5 j) p := by
          refine sh1_low hL ?_
          show (if ρ 3 j < ρ 0 2 then dd ρ V ra g (ρ 3 j) else 0) ≤ _
          rw [if_pos h3]
          have h9 := hL (ρ 4 j)
          change (if ρ 4 j < ρ 0 2 then dd ρ V ra g (ρ 4 j) else 0) ≤ _ at h9
          rw [if_pos h4] at h9
          have := dd_on W hg h3 h4 (by rw [r1]; exact ho) h9
          omega
        refine sh1_low i1 ?_
        show (if ρ 4 j < ρ 0 2 then dd ρ V ra g (ρ 4 j) else 0) ≤ _
        rw [if_pos h4]
        have h9 := i1 (ρ 3 j)
        change (if ρ 3 j < ρ 0 2 then dd ρ V ra g (ρ 3 j) else 0) ≤ _ at h9
        rw [if_pos h3] at h9
        have := dd_on W hg h4 h3 (by rw [r2]; exact ho) h9
        omega
      · exact hL
    intro k p hp
    have key : ∀ p, D p ≤ Lk ρ V ra g k p := fo_inv (fun L : Nat → Nat => ∀ p, D p ≤ L p) (fun _ L _ hL => fo_inv (fun L : Nat → Nat => ∀ p, D p ≤ L p) (fun j L hj hL => lr j hj L hL) hL) l0
    have := key p
    change (if p < ρ 0 2 then dd ρ V ra g p else 0) ≤ _ at this
    rwa [if_pos hp] at this
  have up := settle (ρ 0 2) (fun k p => decide (dd ρ V ra g p < Lk ρ V ra g k p)) (fun p => ds ρ V ra p g) hg (by
    refine decide_eq_false ?_
    have : Lk ρ V ra g 0 g = 0 := if_pos rfl
    omega) (fun k p hp h => by
    simp only [decide_eq_true_iff] at h ⊢
    have : Lk ρ V ra g (k + 1) p ≤ Lk ρ V ra g k p := rdl_le ρ V ra _ p
    omega) (fun k p hp h => by
    simp only [decide_eq_true_iff] at h
    have h1 := Lk_le ρ V ra g k p
    have h2 := L0_le g p
    have hr : ds ρ V ra p g < 99999 := by
      rcases Nat.lt_or_ge (ds ρ V ra p g) 99999 with c | c
      · exact c
      · unfold dd at h
        rw [if_neg (by omega)] at h
        omega
    have hne : p ≠ g := by
      intro e
      have h3 := Lk_le ρ V ra g k g
      have : L0 g g = 0 := if_pos rfl
      rw [e] at h
      omega
    obtain ⟨m, hm, e1, e2⟩ := ds_via W hp hg hne hr
    obtain ⟨w1, w2⟩ := pq_qm W hp hm e1
    rcases Decidable.em (dd ρ V ra g m < Lk ρ V ra g k m) with c | c
    · exact Or.inr ⟨m, hm, by omega, by simp only [decide_eq_true_iff]; exact c⟩
    · left
      refine decide_eq_false ?_
      obtain ⟨j, hj, ho, hw, hend⟩ := road_pq W hp hm e1
      have hrd := rdl_end ρ V ra (Lk ρ V ra g k) ho (ρ 0 3) hj
      have hLk : Lk ρ V ra g (k + 1) = fo (rdj ρ V ra) (Lk ρ V ra g k) (ρ 0 3) := rfl
      have hdm : dd ρ V ra g m = ds ρ V ra m g := by
        unfold dd
        rw [if_pos (by omega)]
      have hdp : dd ρ V ra g p = ds ρ V ra p g := by
        unfold dd
        rw [if_pos hr]
      rw [hLk]
      rcases hend with ⟨a1, a2⟩ | ⟨a1, a2⟩
      · have := hrd.1
        rw [a1, a2] at this
        omega
      · have := hrd.2
        rw [a1, a2] at this
        omega)
  have h1 := low (ρ 0 2) p hp
  have h2 := up p hp
  simp only [decide_eq_false_iff_not] at h2
  omega
/-! places reached -/
def rrj (ρ : RO) (V : Nat) (ra : Bool) (j R : Nat) : Nat := if R &&& (2 ^ ρ 3 j ||| 2 ^ ρ 4 j) ≠ 0 ∧ op ρ j V ra = true then R ||| (2 ^ ρ 3 j ||| 2 ^ ρ 4 j) else R
def rrd (ρ : RO) (V : Nat) (ra : Bool) (R : Nat) : Nat := fo (rrj ρ V ra) R (ρ 0 3)
def Rk (ρ : RO) (V : Nat) (ra : Bool) (f k : Nat) : Nat := fo (fun _ R => rrd ρ V ra R) (2 ^ f) k
/-- the places that one comes to from f -/
def rs (ρ : RO) (V : Nat) (ra : Bool) (f n : Nat) : Nat := fo (fun q s => s ||| if ds ρ V ra f q < 99999 then 2 ^ q else 0) 0 n
theorem rs_lt (f : Nat) : ∀ n, rs ρ V ra f n < 2 ^ n
  | 0 => by
    show (0 : Nat) < 1
    decide
  | n + 1 => by
    have ih := rs_lt f n
    have h1 := two_le (show n ≤ n + 1 by omega)
    have h2 : (2 : Nat) ^ n < 2 ^ (n + 1) := Nat.pow_lt_pow_right (by decide) (by omega)
    show (rs ρ V ra f n ||| _) < _
    exact Nat.or_lt_two_pow (by omega) (by split <;> omega)
theorem rs_bit (f : Nat) : ∀ n i, (rs ρ V ra f n).testBit i = (decide (i < n) && decide (ds ρ V ra f i < 99999))
  | 0, i => by
    show (0 : Nat).testBit i = _
    simp
  | n + 1, i => by
    show (rs ρ V ra f n ||| _).testBit i = _
    rw [Nat.testBit_or, rs_bit f n i]
    rcases Nat.lt_trichotomy i n with c | c | c
    · have e : (if ds ρ V ra f n < 99999 then 2 ^ n else 0).testBit i = false := by
        split
        · rw [bit_pow]; simp; omega
        · simp
      rw [e]
      simp [c, show i < n + 1 by omega]
    · subst c
      rcases Nat.lt_or_ge (ds ρ V ra f i) 99999 with c2 | c2
      · rw [if_pos c2, bit_pow]
        simp [c2]
      · rw [if_neg (by omega)]
        simp [show ¬ ds ρ V ra f i < 99999 by omega]
    · have e : (if ds ρ V ra f n < 99999 then 2 ^ n else 0).testBit i = false := by
        split
        · rw [bit_pow]; simp; omega
        · simp
      rw [e]
      simp [show ¬ i < n by omega, show ¬ i < n + 1 by omega]
theorem rrj_sub (j R i : Nat) (h : R.testBit i = true) : (rrj ρ V ra j R).testBit i = true := by
  unfold rrj
  split
  · rw [Nat.testBit_or, h]
    rfl
  · exact h
theorem fo_sub {f : Nat → Nat → Nat} (hf : ∀ j R i, R.testBit i = true → (f j R).testBit i = true) (R i : Nat) (h : R.testBit i = true) : ∀ n, (fo f R n).testBit i = true
  | 0 => h
  | n + 1 => hf n _ i (fo_sub hf R i h n)
theorem both_bit (x y R : Nat) : R &&& (2 ^ x ||| 2 ^ y) ≠ 0 ↔ R.testBit x = true ∨ R.testBit y = true := by
  constructor
  · intro h
    obtain ⟨i, hi⟩ := Nat.exists_testBit_of_ne_zero h
    rw [Nat.testBit_and, Nat.testBit_or, bit_pow, bit_pow] at hi
    simp only [Bool.and_eq_true, Bool.or_eq_true, decide_eq_true_iff] at hi
    rcases hi with ⟨h1, rfl | rfl⟩
    · exact Or.inl h1
    · exact Or.inr h1
  · intro h e
    rcases h with h | h
    · have : (R &&& (2 ^ x ||| 2 ^ y)).testBit x = true := by
        rw [Nat.testBit_and, Nat.testBit_or, bit_pow, h]
        simp
      rw [e, Nat.zero_testBit] at this
      cases this
    · have : (R &&& (2 ^ x ||| 2 ^ y)).testBit y = true := by
        rw [Nat.testBit_and, Nat.testBit_or, bit_pow, bit_pow, h]
        simp
      rw [e, Nat.zero_testBit] at this
      cases this
theorem rrd_end (R : Nat) {j : Nat} (ho : op ρ j V ra = true) (hR : R.testBit (ρ 3 j) = true ∨ R.testBit (ρ 4 j) = true) : ∀ n, j < n → (fo (rrj ρ V ra) R n).testBit (ρ 3 j) = true ∧ (fo (rrj ρ V ra) R n).testBit (ρ 4 j) = true
  | 0, h => by omega
  | n + 1, h => by
    rcases Decidable.em (j = n) with e | e
    · subst e
      have hs : (fo (rrj ρ V ra) R j).testBit (ρ 3 j) = true ∨ (fo (rrj ρ V ra) R j).testBit (ρ 4 j) = true := by
        rcases hR with q | q
        · exact Or.inl (fo_sub (fun j R i h => rrj_sub j R i h) R _ q j)
        · exact Or.inr (fo_sub (fun j R i h => rrj_sub j R i h) R _ q j)
      show (rrj ρ V ra j (fo (rrj ρ V ra) R j)).testBit _ = true ∧ (rrj ρ V ra j (fo (rrj ρ V ra) R j)).testBit _ = true
      generalize fo (rrj ρ V ra) R j = K at *
      unfold rrj
      rw [if_pos ⟨(both_bit _ _ _).mpr hs, ho⟩, Nat.testBit_or, Nat.testBit_or, Nat.testBit_or, Nat.testBit_or, bit_pow, bit_pow, bit_pow, bit_pow]
      simp
    · have ih := rrd_end R ho hR n (by omega)
      exact ⟨rrj_sub n _ _ ih.1, rrj_sub n _ _ ih.2⟩
theorem Rk_rs (W : RW ρ) {f : Nat} (hf : f < ρ 0 2) : Rk ρ V ra f (ρ 0 2) = rs ρ V ra f (ρ 0 2) := by
  have low : ∀ k i, (Rk ρ V ra f k).testBit i = true → i < ρ 0 2 ∧ ds ρ V ra f i < 99999 := by
    intro k
    have lr : ∀ j, j < ρ 0 3 → ∀ R : Nat, (∀ i, R.testBit i = true → i < ρ 0 2 ∧ ds ρ V ra f i < 99999) → ∀ i, (rrj ρ V ra j R).testBit i = true → i < ρ 0 2 ∧ ds ρ V ra f i < 99999 := by
      intro j hj R hR i hi
      unfold rrj at hi
      split at hi
      · rename_i hc
        have h3 := W.e1 j hj
        have h4 := W.e2 j hj
        obtain ⟨r1, r2, r3, r4⟩ := pq_road W hj V ra
        have hb := (both_bit _ _ _).mp hc.1
        have both : ds ρ V ra f (ρ 3 j) < 99999 ∧ ds ρ V ra f (ρ 4 j) < 99999 := by
          rcases hb with q | q
          · have h5 := (hR _ q).2
            refine ⟨h5, ?_⟩
            rw [ds_sym W hf h4]
            rw [ds_sym W hf h3] at h5
            exact ds_on W h4 h3 hf (by rw [r2]; exact hc.2) h5
          · have h5 := (hR _ q).2
            refine ⟨?_, h5⟩
            rw [ds_sym W hf h3]
            rw [ds_sym W hf h4] at h5
            exact ds_on W h3 h4 hf (by rw [r1]; exact hc.2) h5
        rw [Nat.testBit_or, Nat.testBit_or, bit_pow, bit_pow] at hi
        simp only [Bool.or_eq_true, decide_eq_true_iff] at hi
        rcases hi with q | q | q
        · exact hR i q
        · rw [← q]; exact ⟨h3, both.1⟩
        · rw [← q]; exact ⟨h4, both.2⟩
      · exact hR i hi
    exact fo_inv (fun R : Nat => ∀ i, R.testBit i = true → i < ρ 0 2 ∧ ds ρ V ra f i < 99999) (fun _ R _ hR => fo_inv (fun R : Nat => ∀ i, R.testBit i = true → i < ρ 0 2 ∧ ds ρ V ra f i < 99999) (fun j R hj hR => lr j hj R hR) hR) (fun i hi => by
      rw [bit_pow, decide_eq_true_iff] at hi
      rw [← hi, ds_self]
      exact ⟨hf, by decide⟩)
  have up := settle (ρ 0 2) (fun k q => decide (ds ρ V ra f q < 99999) && !(Rk ρ V ra f k).testBit q) (fun q => ds ρ V ra q f) hf (by
    have : (Rk ρ V ra f 0).testBit f = true := by
      show (2 ^ f).testBit f = true
      rw [bit_pow]
      simp
    simp [this]) (fun k q hq h => by
    simp only [Bool.and_eq_true, Bool.not_eq_true', decide_eq_true_iff] at h ⊢
    refine ⟨h.1, ?_⟩
    cases hb : (Rk ρ V ra f k).testBit q
    · rfl
    · have : (Rk ρ V ra f (k + 1)).testBit q = true := fo_sub (fun j R i h => rrj_sub j R i h) _ _ hb _
      rw [h.2] at this
      cases this) (fun k q hq h => by
    simp only [Bool.and_eq_true, Bool.not_eq_true', decide_eq_true_iff] at h
    have hr : ds ρ V ra q f < 99999 := by
      rw [ds_sym W hq hf]
      exact h.1
    have hne : q ≠ f := by
      intro e
      have : (Rk ρ V ra f k).testBit f = true := by
        refine fo_sub (fun j R i h => fo_sub (fun j R i h => rrj_sub j R i h) R i h _) (2 ^ f) f ?_ k
        rw [bit_pow]
        simp
      rw [e, this] at h
      cases h.2
    obtain ⟨m, hm, e1, e2⟩ := ds_via W hq hf hne hr
    obtain ⟨w1, w2⟩ := pq_qm W hq hm e1
    cases hb : (Rk ρ V ra f k).testBit m
    · refine Or.inr ⟨m, hm, by omega, ?_⟩
      simp only [Bool.and_eq_true, Bool.not_eq_true', decide_eq_true_iff, hb, and_true]
      rw [ds_sym W hf hm]
      omega
    · left
      obtain ⟨j, hj, ho, hw, hend⟩ := road_pq W hq hm e1
      have : (Rk ρ V ra f (k + 1)).testBit q = true := by
        show (fo (rrj ρ V ra) (Rk ρ V ra f k) (ρ 0 3)).testBit q = true
        rcases hend with ⟨a1, a2⟩ | ⟨a1, a2⟩
        · have := (rrd_end (Rk ρ V ra f k) ho (Or.inr (by rw [a2]; exact hb)) (ρ 0 3) hj).1
          rwa [a1] at this
        · have := (rrd_end (Rk ρ V ra f k) ho (Or.inl (by rw [a1]; exact hb)) (ρ 0 3) hj).2
          rwa [a2] at this
      simp [this])
  apply Nat.eq_of_testBit_eq
  intro i
  rw [rs_bit]
  rcases hb : (Rk ρ V ra f (ρ 0 2)).testBit i with _ | _
  · rcases Nat.lt_or_ge i (ρ 0 2) with c | c
    · have := up i c
      rw [hb] at this
      simp at this
      simp [show ¬ ds ρ V ra f i < 99999 by omega]
    · simp [show ¬ i < ρ 0 2 by omega]
  · have := low _ i hb
    simp [this]
end
