/-! ===== the reference: which song is better; the next order ===== -/
def BO (g E : Nat → Int32) : Option (List Nat) → Prop
  | none => g 30 = nI 49
  | some b => g 30 = nI b.length ∧ hl E b ∧ b.length ≤ 48 ∧ ∀ i, b.getD i 0 < 1024
def btO (y : List Nat) : Option (List Nat) → Bool
  | none => true
  | some b => bt2 y b
section
variable {h : Mem}
theorem m_better {A B E g : Nat → Int32} (S : SH (soM h A B E g)) {y : List Nat} (hy : y.length ≤ 48) (hB : hl B y) (ys : ∀ i, y.getD i 0 < 1024) (h29 : g 29 = nI y.length) {o : Option (List Nat)} (ho : BO g E o) : f_X13_isBetter (soM h A B E g) 55 = some (nI (btO y o).toNat) := by
  unfold f_X13_isBetter
  cases o with
  | none =>
    have ho : g 30 = nI 49 := ho
    simp (disch := omega) only [ob, nI_lit, nI_add, pk_mul, nI_eq, nI_ltI, nI_leI, if_true, if_false, if_pos, if_neg, ck_of (tS_55 S), gI_of (tS_55 S), soM_55, h29, ho]
    rfl
  | some b =>
    obtain ⟨h30, hE, hb, bs⟩ := ho
    have hb2 : b.length ≤ 48 := hb
    simp (disch := omega) only [ob, nI_lit, nI_add, pk_mul, nI_eq, nI_ltI, nI_leI, if_true, if_false, if_pos, if_neg, ck_of (tS_55 S), gI_of (tS_55 S), soM_55, h29, h30]
    show _ = some (nI (bt2 y b).toNat)
    rcases Decidable.em (y.length = b.length) with e | e
    · have e1 : bt2 y b = lx y b := by
        unfold bt2
        rw [e]
        simp
      rw [if_pos e, e1]
      refine iter_lx (fun i => nI i) (fun i => nI i) _ y b _ rfl e.symm (fun i hi => ?_) ?_ (fun i hi => ?_) rfl y.length 0 FU (FU_lt (by omega)) (by omega)
      · have b1 := ys i
        have b2 := bs i
        unfold b_X13_isBetter_30
        simp (disch := omega) only [ob, nI_lit, nI_add, pk_mul, nI_eq, nI_ltI, nI_leI, if_true, if_false, if_pos, if_neg, gI_of (tS_55 S), gR_of (tS_55 S), soM_55, h29, rS_55_26 S, rS_55_27 S, aI_of (tS_62 S), aI_of (tS_63 S), soM_62, soM_63, hB i hi, hE i (show i < b.length by omega)]
      · unfold b_X13_isBetter_30
        simp (disch := omega) only [ob, nI_lit, nI_add, pk_mul, nI_eq, nI_ltI, nI_leI, if_true, if_false, if_pos, if_neg, gI_of (tS_55 S), soM_55, h29]
      · have b1 := ys i
        have b2 := bs i
        simp (disch := omega) only [ob, nI_lit, nI_add, pk_mul, nI_eq, nI_ltI, nI_leI, if_true, if_false, if_pos, if_neg, Sum.elim_inl, gR_of (tS_55 S), rS_55_26 S, rS_55_27 S, aI_of (tS_62 S), aI_of (tS_63 S), soM_62, soM_63, hB i hi, hE i (show i < b.length by omega)]
        rcases Nat.lt_or_ge (y.getD i 0) (b.getD i 0) with z | z
        · rw [decide_eq_true z, if_neg (by omega)]
          rfl
        · rw [decide_eq_false (by omega), if_pos z]
          rfl
    · rw [if_neg e]
      rcases Nat.lt_or_ge y.length b.length with z | z
      · rw [if_neg (by omega), (bt2_iff y b).2 (Or.inl z)]
        rfl
      · have : bt2 y b = false := by
          unfold bt2
          rw [decide_eq_false (by omega), decide_eq_false e]
          rfl
        rw [if_pos z, this]
        rfl
end
def pvt (x : Nat → Nat) : Nat → Nat
  | 0 => 0
  | k + 1 => if x k ≤ x (k + 1) then k + 1 else pvt x k
def wvt (x : Nat → Nat) (p : Nat) : Nat → Nat
  | 0 => 0
  | w + 1 => if x p ≤ x (w + 1) then w + 1 else wvt x p w
def swp (x : Nat → Nat) (i j : Nat) : Nat → Nat := fun k => if k = j then x i else if k = i then x j else x k
def rvs : Nat → (Nat → Nat) → Nat → Nat → (Nat → Nat)
  | 0, x, _, _ => x
  | f + 1, x, lo, hi => if hi ≤ lo then x else rvs f (swp x lo hi) (lo + 1) (hi - 1)
def nO (m : Nat) (x : Nat → Nat) : Option (Nat → Nat) := if pvt x (m - 1) = 0 then none else some (rvs 6 (swp x (pvt x (m - 1) - 1) (wvt x (pvt x (m - 1) - 1) (m - 1))) (pvt x (m - 1)) (m - 1))
/-- a list of orders, each the next one of the one ahead -/
def chn (m : Nat) : List (List Nat) → Bool
  | [] => true
  | [a] => (nO m (fun i => a.getD i 0)).isNone
  | a :: b :: r => (match nO m (fun i => a.getD i 0) with
    | none => false
    | some y => decide ((List.range m).map y = b)) && chn m (b :: r)
theorem chn_all : ∀ m, m < 7 → chn m (pms m (List.range m)) = true := by decide +kernel
theorem pvt_le (x : Nat → Nat) : ∀ k, pvt x k ≤ k
  | 0 => Nat.le_refl 0
  | k + 1 => by
    have := pvt_le x k
    unfold pvt
    split <;> omega
theorem wvt_le (x : Nat → Nat) (p : Nat) : ∀ w, p ≤ w → p ≤ wvt x p w ∧ wvt x p w ≤ w
  | 0 => fun h => ⟨h, Nat.le_refl 0⟩
  | w + 1 => fun h => by
    unfold wvt
    split
    · omega
    · rename_i q
      have : p ≠ w + 1 := fun e => q (by rw [e]; exact Nat.le_refl _)
      have := wvt_le x p w (by omega)
      omega
section
variable {h : Mem} {B E g : Nat → Int32}
theorem m_swaps {A : Nat → Int32} (S : SH h) {i j : Nat} (hi : i < 6) (hj : j < 6) : f_X13_swaps (soM h A B E g) 55 (nI i) (nI j) = some (soM h (upd (upd A i (A j)) j (A i)) B E g) := by
  have S1 : SH (soM h A B E g) := S
  have S2 : SH (soM h (upd A i (A j)) B E g) := S
  unfold f_X13_swaps
  simp (disch := omega) only [ob, nI_lit, nI_add, pk_mul, nI_eq, nI_ltI, nI_leI, if_true, if_false, if_pos, if_neg, ck_of (tS_55 S1), gR_of (tS_55 S1), rS_55_25 S1, aI_of (tS_61 S1), soM_61, sI_of (tS_61 S1), soM_w61, gR_of (tS_55 S2), rS_55_25 S2, sI_of (tS_61 S2)]
theorem swp_at {A : Nat → Int32} {x : Nat → Nat} {m i j : Nat} (hA : ∀ k, k < m → A k = nI (x k)) (hi : i < m) (hj : j < m) : ∀ k, k < m → upd (upd A i (A j)) j (A i) k = nI (swp x i j k) := by
  intro k hk
  unfold swp
  rcases Decidable.em (k = j) with e | e
  · rw [e, pk_us, if_pos rfl, hA i hi]
  · rw [pk_un e, if_neg e]
    rcases Decidable.em (k = i) with e2 | e2
    · rw [e2, pk_us, if_pos rfl, hA j hj]
    · rw [pk_un e2, if_neg e2, hA k hk]
theorem m_rvs (S : SH h) {m : Nat} (hm : m ≤ 6) : ∀ (f : Nat) (x : Nat → Nat) (lo hi N : Nat) (A : Nat → Int32), hi ≤ lo + 2 * f → hi < m → lo ≤ 6 → f < N → (∀ k, k < m → A k = nI (x k)) → ∃ A', iter (fun (s : Int32 × Int32 × Mem) => b_X13_nextOrder_86 s.2.2 55 s.1 s.2.1) N (nI lo, nI hi, soM h A B E g) = some (soM h A' B E g) ∧ ∀ k, k < m → A' k = nI (rvs f x lo hi k) := by
  intro f
  induction f with
  | zero =>
    intro x lo hi N A h1 h2 h3 h4 hA
    obtain ⟨N, rfl⟩ : ∃ M, N = M + 1 := ⟨N - 1, by omega⟩
    have e : b_X13_nextOrder_86 (soM h A B E g) 55 (nI lo) (nI hi) = some (.inr (soM h A B E g)) := by
      unfold b_X13_nextOrder_86
      simp (disch := omega) only [ob, nI_lit, nI_add, pk_mul, nI_eq, nI_ltI, nI_leI, if_true, if_false, if_pos, if_neg]
    exact ⟨A, iter_exit e, hA⟩
  | succ f ih =>
    intro x lo hi N A h1 h2 h3 h4 hA
    obtain ⟨N, rfl⟩ : ∃ M, N = M + 1 := ⟨N - 1, by omega⟩
    rcases Nat.lt_or_ge lo hi with c | c
    · have e : b_X13_nextOrder_86 (soM h A B E g) 55 (nI lo) (nI hi) = some (.inl (nI (lo + 1), nI (hi - 1), soM h (upd (upd A lo (A hi)) hi (A lo)) B E g)) := by
        unfold b_X13_nextOrder_86
        simp (disch := omega) only [ob, nI_lit, nI_add, pk_mul, nI_eq, nI_ltI, nI_leI, if_true, if_false, if_pos, if_neg, m_swaps (B := B) (E := E) (g := g) (A := A) S (show lo < 6 by omega) (show hi < 6 by omega), nI_m1]
      obtain ⟨A', e2, k⟩ := ih (swp x lo hi) (lo + 1) (hi - 1) N _ (by omega) (by omega) (by omega) (by omega) (swp_at hA (show lo < m by omega) h2)
      refine ⟨A', (iter_step e).trans e2, fun i hi2 => ?_⟩
      rw [k i hi2]
      show _ = nI ((if hi ≤ lo then x else rvs f (swp x lo hi) (lo + 1) (hi - 1)) i)
      rw [if_neg (by omega)]
    · have e : b_X13_nextOrder_86 (soM h A B E g) 55 (nI lo) (nI hi) = some (.inr (soM h A B E g)) := by
        unfold b_X13_nextOrder_86
        simp (disch := omega) only [ob, nI_lit, nI_add, pk_mul, nI_eq, nI_ltI, nI_leI, if_true, if_false, if_pos, if_neg]
      refine ⟨A, iter_exit e, fun k hk => ?_⟩
      show _ = nI ((if hi ≤ lo then x else rvs f (swp x lo hi) (lo + 1) (hi - 1)) k)
      rw [if_pos c]
      exact hA k hk
theorem m_nextO (S : SH h) {m : Nat} (hm : m ≤ 6) {x : Nat → Nat} {A : Nat → Int32} (hx : ∀ i, i < m → x i < 6) (hA : ∀ k, k < m → A k = nI (x k)) (h31 : g 31 = nI m) : (nO m x = none → f_X13_nextOrder (soM h A B E g) 55 = some (nI 0, soM h A B E g)) ∧ (∀ y, nO m x = some y → ∃ A', f_X13_nextOrder (soM h A B E g) 55 = some (nI 1, soM h A' B E g) ∧ ∀ k, k < m → A' k = nI (y k)) := by
  have S1 : SH (soM h A B E g) := S
  have q1 : ∀ k N, k < N → k ≤ m - 1 → iter (fun (s : Int32) => b_X13_nextOrder_7 (soM h A B E g) 55 s) N (nI k - nI 1) = some (nI (pvt x k) - nI 1) := by
    intro k
    induction k with
    | zero =>
      intro N hN hk
      obtain ⟨N, rfl⟩ : ∃ M, N = M + 1 := ⟨N - 1, by omega⟩
      refine iter_exit ?_
      unfold b_X13_nextOrder_7
      rw [if_pos (show nI 0 - nI 1 < 0 by decide)]
      rfl
    | succ k ih =>
      intro N hN hk
      obtain ⟨N, rfl⟩ : ∃ M, N = M + 1 := ⟨N - 1, by omega⟩
      have a1 := hx k (by omega)
      have a2 := hx (k + 1) (by omega)
      have e0 : nI (k + 1) - nI 1 = nI k := by
        rw [pk_sub (by omega)]
        rfl
      rw [e0]
      have e1 : b_X13_nextOrder_7 (soM h A B E g) 55 (nI k) = if x k ≤ x (k + 1) then some (.inr (nI k)) else some (.inl (nI k + -nI 1)) := by
        unfold b_X13_nextOrder_7
        simp (disch := omega) only [ob, nI_lit, nI_add, pk_mul, nI_eq, nI_ltI, nI_leI, if_true, if_false, if_pos, if_neg, gR_of (tS_55 S1), rS_55_25 S1, aI_of (tS_61 S1), soM_61, hA k (show k < m by omega), hA (k + 1) (show k + 1 < m by omega)]
      show _ = some (nI (if x k ≤ x (k + 1) then k + 1 else pvt x k) - nI 1)
      rcases Decidable.em (x k ≤ x (k + 1)) with c | c
      · rw [if_pos c] at e1
        rw [if_pos c, iter_exit e1, e0]
      · rw [if_neg c] at e1
        rw [if_neg c, iter_step e1, ← Int32.sub_eq_add_neg]
        exact ih N (by omega) (by omega)
  have q2 : ∀ p, p < m → ∀ w N, w < N → w < m → p ≤ w → iter (fun (s : Int32) => b_X13_nextOrder_47 (soM h A B E g) 55 (nI p) s) N (nI w) = some (nI (wvt x p w)) := by
    intro p hp w
    induction w with
    | zero =>
      intro N hN hw hpw
      obtain ⟨N, rfl⟩ : ∃ M, N = M + 1 := ⟨N - 1, by omega⟩
      have : p = 0 := by omega
      have a1 := hx p hp
      have e1 : b_X13_nextOrder_47 (soM h A B E g) 55 (nI p) (nI p) = some (.inr (nI p)) := by
        unfold b_X13_nextOrder_47
        simp (disch := omega) only [ob, nI_lit, nI_add, pk_mul, nI_eq, nI_ltI, nI_leI, if_true, if_false, if_pos, if_neg, gR_of (tS_55 S1), rS_55_25 S1, aI_of (tS_61 S1), soM_61, hA p hp]
      subst this
      exact iter_exit e1
    | succ w ih =>
      intro N hN hw hpw
      obtain ⟨N, rfl⟩ : ∃ M, N = M + 1 := ⟨N - 1, by omega⟩
      have a1 := hx p hp
      have a2 := hx (w + 1) hw
      have e1 : b_X13_nextOrder_47 (soM h A B E g) 55 (nI p) (nI (w + 1)) = if x p ≤ x (w + 1) then some (.inr (nI (w + 1))) else some (.inl (nI w)) := by
        unfold b_X13_nextOrder_47
        simp (disch := omega) only [ob, nI_lit, nI_add, pk_mul, nI_eq, nI_ltI, nI_leI, if_true, if_false, if_pos, if_neg, gR_of (tS_55 S1), rS_55_25 S1, aI_of (tS_61 S1), soM_61, hA p hp, hA (w + 1) hw, nI_m1]
        rfl
      show _ = some (nI (if x p ≤ x (w + 1) then w + 1 else wvt x p w))
      rcases Decidable.em (x p ≤ x (w + 1)) with c | c
      · rw [if_pos c] at e1
        rw [if_pos c, iter_exit e1]
      · rw [if_neg c] at e1
        have : p ≠ w + 1 := fun e => c (by rw [e]; exact Nat.le_refl _)
        rw [if_neg c, iter_step e1]
        exact ih N (by omega) (by omega) (by omega)
  unfold f_X13_nextOrder
  rcases Decidable.em (m = 0) with z | z
  · subst z
    have e : b_X13_nextOrder_7 (soM h A B E g) 55 (nI 0 - nI 2) = some (.inr (nI 0 - nI 2)) := by
      unfold b_X13_nextOrder_7
      rw [if_pos (by decide)]
    have e2 : iter (fun (s : Int32) => b_X13_nextOrder_7 (soM h A B E g) 55 s) FU (nI 0 - nI 2) = some (nI 0 - nI 2) := by
      obtain ⟨N, hN⟩ : ∃ N, FU = N + 1 := ⟨FU - 1, rfl⟩
      rw [hN]
      exact iter_exit e
    refine ⟨fun _ => ?_, fun y hy => ?_⟩
    · simp (disch := omega) only [ob, nI_lit, nI_add, pk_mul, nI_eq, nI_ltI, nI_leI, if_true, if_false, if_pos, if_neg, ck_of (tS_55 S1), gI_of (tS_55 S1), soM_55, h31, e2]
      rfl
    · simp [nO, pvt] at hy
  · have e2 : nI m - nI 2 = nI (m - 1) - nI 1 := by
      rcases Decidable.em (m = 1) with y | y
      · subst y
        decide
      · rw [pk_sub (by omega), pk_sub (by omega)]
        rfl
    have p1 := q1 (m - 1) FU (FU_lt (by omega)) (Nat.le_refl _)
    have pl := pvt_le x (m - 1)
    rcases Decidable.em (pvt x (m - 1) = 0) with c | c
    · refine ⟨fun _ => ?_, fun y hy => ?_⟩
      · simp (disch := omega) only [ob, nI_lit, nI_add, pk_mul, nI_eq, nI_ltI, nI_leI, if_true, if_false, if_pos, if_neg, ck_of (tS_55 S1), gI_of (tS_55 S1), soM_55, h31, e2, p1, c]
        rfl
      · unfold nO at hy
        rw [if_pos c] at hy
        cases hy
    · refine ⟨fun hn => ?_, fun y hy => ?_⟩
      · unfold nO at hn
        rw [if_neg c] at hn
        cases hn
      · unfold nO at hy
        rw [if_neg c] at hy
        have hy := Option.some.inj hy
        obtain ⟨p, hp⟩ : ∃ p, pvt x (m - 1) = p + 1 := ⟨pvt x (m - 1) - 1, by omega⟩
        rw [hp, Nat.add_sub_cancel] at hy
        have e3 : nI (p + 1) - nI 1 = nI p := by
          rw [pk_sub (by omega)]
          rfl
        rw [hp, e3] at p1
        have wl := wvt_le x p (m - 1) (by omega)
        have p2 := q2 p (by omega) (m - 1) FU (FU_lt (by omega)) (by omega) (by omega)
        have sw := m_swaps (B := B) (E := E) (g := g) (A := A) S (show p < 6 by omega) (show wvt x p (m - 1) < 6 by omega)
        have S3 : SH (soM h (upd (upd A p (A (wvt x p (m - 1)))) (wvt x p (m - 1)) (A p)) B E g) := S
        obtain ⟨A', e5, k⟩ := m_rvs (B := B) (E := E) (g := g) S hm 6 (swp x p (wvt x p (m - 1))) (p + 1) (m - 1) FU _ (by omega) (by omega) (by omega) (FU_lt (by omega)) (swp_at hA (show p < m by omega) (show wvt x p (m - 1) < m by omega))
        refine ⟨A', ?_, fun i hi => by rw [k i hi, hy]⟩
        have em1 : nI m - nI 1 = nI (m - 1) := pk_sub (by omega)
        simp (disch := omega) only [ob, nI_lit, nI_add, pk_mul, nI_eq, nI_ltI, nI_leI, if_true, if_false, if_pos, if_neg, ck_of (tS_55 S1), gI_of (tS_55 S1), soM_55, h31, e2, p1, em1, p2, sw, gI_of (tS_55 S3), e5]
end
