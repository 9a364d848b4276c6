/-! ===== bits counted ===== -/
def bcN (n : Nat) : Nat := cn (fun i => n.testBit i) 7
theorem h_bc0 : ∀ n, n < 128 → f_J6_bitCount_0f7a4 h00 (nI n) = some (nI (bcN n)) := by decide +kernel
theorem h_bc (h : Mem) {n : Nat} (hn : n < 128) : f_J6_bitCount_0f7a4 h (nI n) = some (nI (bcN n)) := h_bc0 n hn
theorem h_tz0 : ∀ n, n < 128 → n ≠ 0 → f_J6_numberOfTrailingZeros_0f7a4 h00 (nI n) = some (nI (lb n)) := by decide +kernel
theorem h_tz (h : Mem) {n : Nat} (hn : n < 128) (h0 : n ≠ 0) : f_J6_numberOfTrailingZeros_0f7a4 h (nI n) = some (nI (lb n)) := h_tz0 n hn h0
theorem bcN_le (n : Nat) : bcN n ≤ 7 := cn_le _ 7
theorem h_bits (h : Mem) {n : Nat} (hn : n < 128) : f_X13_bits h (nI n) = some (nI (bcN n)) := by
  have st : ∀ m, m < 128 → m ≠ 0 → nI m &&& (nI m - nI 1) = nI (m &&& (m - 1)) ∧ (m &&& (m - 1)) < m ∧ bcN m = bcN (m &&& (m - 1)) + 1 := by decide +kernel
  have key : ∀ (N m c : Nat), m < N → m < 128 → iter (fun (s : Int32 × Int32) => b_X13_bits_4 h s.1 s.2) N (nI c, nI m) = some (nI (c + bcN m)) := by
    intro N
    induction N with
    | zero => intro m c h1; omega
    | succ N ih =>
      intro m c h1 h2
      rcases Decidable.em (m = 0) with e | e
      · subst e
        exact iter_exit (show b_X13_bits_4 h (nI c) (nI 0) = some (.inr (nI c)) from rfl)
      · obtain ⟨s1, s2, s3⟩ := st m h2 e
        have e1 : b_X13_bits_4 h (nI c) (nI m) = some (.inl (nI (c + 1), nI (m &&& (m - 1)))) := by
          unfold b_X13_bits_4
          rw [if_neg (show ¬ nI m = 0 from nI_ne0 (by omega) (by omega)), show (1 : Int32) = nI 1 from rfl, s1, nI_add]
        rw [iter_step e1, ih _ _ (by omega) (by omega), s3]
        congr 2
        omega
  unfold f_X13_bits
  have k := key FU n 0 (FU_lt (by omega)) hn
  rw [Nat.zero_add] at k
  rw [show (0 : Int32) = nI 0 from rfl, k]
  rfl
/-- a single bit -/
theorem bc_one : ∀ n, n < 128 → (bcN n = 1 ↔ n = 2 ^ lb n ∧ n ≠ 0) := by decide +kernel
theorem lb_pow : ∀ p, p < 7 → lb (2 ^ p) = p := by decide +kernel
/-! ===== the stranger in the reference ===== -/
def sdM (h : Mem) (U D : Nat → Int32) : Mem := rowI (rowI h 66 U) 67 D
theorem sdM_66 (h : Mem) (U D : Nat → Int32) : mI (sdM h U D) 66 = U := by
  unfold sdM
  rw [mI_row_ne _ _ (by decide), mI_row]
theorem sdM_67 (h : Mem) (U D : Nat → Int32) : mI (sdM h U D) 67 = D := mI_row _ _ _
theorem sdM_o (h : Mem) (U D : Nat → Int32) {x : Nat} (h1 : x ≠ 66) (h2 : x ≠ 67) : mI (sdM h U D) x = mI h x := by
  unfold sdM
  rw [mI_row_ne _ _ h2, mI_row_ne _ _ h1]
theorem sdM_u (h : Mem) (U D : Nat → Int32) (k : Nat) (v : Int32) : wI (sdM h U D) 66 k v = sdM h (upd U k v) D := by
  refine mem_ext (fun x => ?_) rfl rfl rfl rfl
  rcases Decidable.em (x = 66) with e | e
  · subst e
    rw [mI_wI_at, sdM_66, sdM_66]
  · rw [mI_wI_ne _ _ _ e]
    rcases Decidable.em (x = 67) with e2 | e2
    · subst e2
      rw [sdM_67, sdM_67]
    · rw [sdM_o _ _ _ e e2, sdM_o _ _ _ e e2]
theorem sdM_d (h : Mem) (U D : Nat → Int32) (k : Nat) (v : Int32) : wI (sdM h U D) 67 k v = sdM h U (upd D k v) := rowI_wI _ _ _ _ _
theorem sdM_id (h : Mem) : sdM h (mI h 66) (mI h 67) = h := by
  unfold sdM
  rw [rowI_id, rowI_id]
theorem SH.sd {h : Mem} (S : SH h) (U D : Nat → Int32) : SH (sdM h U D) := S
theorem fo_pair {α β : Type} (f : Nat → α → α) (g : Nat → β → β) (a : α) (b : β) : ∀ n, fo (fun i (s : α × β) => (f i s.1, g i s.2)) (a, b) n = (fo f a n, fo g b n)
  | 0 => rfl
  | n + 1 => by
    show (f n (fo (fun i (s : α × β) => (f i s.1, g i s.2)) (a, b) n).1, g n (fo (fun i (s : α × β) => (f i s.1, g i s.2)) (a, b) n).2) = _
    rw [fo_pair f g a b n]
    rfl
section
variable {h : Mem} {p : Nat} {ρ ν : RO}
def uq (ρ : RO) (k p q : Nat) (U : Nat → Int32) : Nat → Int32 := if hs ρ p q k = true then upd U (7 * (k + 1) + q) (U (7 * (k + 1) + q) + U (7 * k + p)) else U
def dq (ρ : RO) (m p q : Nat) (D : Nat → Int32) : Nat → Int32 := if hs ρ p q m = true then upd D (7 * m + p) (D (7 * m + p) + D (7 * (m + 1) + q)) else D
theorem uq_fo (ρ : RO) (k p : Nat) (hp : p < 7) (U : Nat → Int32) : ∀ n, n ≤ 7 → ∀ j, fo (uq ρ k p) U n j = if 7 * (k + 1) ≤ j ∧ j < 7 * (k + 1) + n ∧ hs ρ p (j - 7 * (k + 1)) k = true then U j + U (7 * k + p) else U j
  | 0, _, j => by
    show U j = _
    rw [if_neg (by omega)]
  | n + 1, hn, j => by
    have ih := uq_fo ρ k p hp U n (by omega)
    show uq ρ k p n (fo (uq ρ k p) U n) j = _
    generalize fo (uq ρ k p) U n = W at ih ⊢
    unfold uq
    rcases hb : hs ρ p n k with _ | _
    · rw [if_neg (by decide), ih j]
      rcases Decidable.em (j = 7 * (k + 1) + n) with e | e
      · subst e
        rw [if_neg (by omega), if_neg (by rw [Nat.add_sub_cancel_left, hb]; simp)]
      · rcases Decidable.em (7 * (k + 1) ≤ j ∧ j < 7 * (k + 1) + n ∧ hs ρ p (j - 7 * (k + 1)) k = true) with e2 | e2
        · rw [if_pos e2, if_pos ⟨e2.1, by omega, e2.2.2⟩]
        · rw [if_neg e2, if_neg (fun q => e2 ⟨q.1, by omega, q.2.2⟩)]
    · rw [if_pos rfl]
      rcases Decidable.em (j = 7 * (k + 1) + n) with e | e
      · subst e
        rw [pk_us, ih, ih, if_neg (by omega), if_neg (by omega), if_pos ⟨by omega, by omega, by rw [Nat.add_sub_cancel_left]; exact hb⟩]
      · rw [pk_un e, ih j]
        rcases Decidable.em (7 * (k + 1) ≤ j ∧ j < 7 * (k + 1) + n ∧ hs ρ p (j - 7 * (k + 1)) k = true) with e2 | e2
        · rw [if_pos e2, if_pos ⟨e2.1, by omega, e2.2.2⟩]
        · rw [if_neg e2, if_neg (fun q => e2 ⟨q.1, by omega, q.2.2⟩)]
theorem uk_fo (ρ : RO) (k P : Nat) (hP : P ≤ 7) (U : Nat → Int32) (V : Nat → Nat) (hV : ∀ p, p < P → U (7 * k + p) = nI (V p)) (h0 : ∀ q, q < P → U (7 * (k + 1) + q) = nI 0) : ∀ n, n ≤ P → (∀ q, q < P → fo (fun p U => fo (uq ρ k p) U P) U n (7 * (k + 1) + q) = nI (su (fun p => if hs ρ p q k = true then V p else 0) n)) ∧ (∀ j, ¬ (7 * (k + 1) ≤ j ∧ j < 7 * (k + 1) + P) → fo (fun p U => fo (uq ρ k p) U P) U n j = U j)
  | 0, _ => ⟨h0, fun _ _ => rfl⟩
  | n + 1, hn => by
    obtain ⟨i1, i2⟩ := uk_fo ρ k P hP U V hV h0 n (by omega)
    generalize hW : fo (fun p U => fo (uq ρ k p) U P) U n = W at *
    have e0 : fo (fun p U => fo (uq ρ k p) U P) U (n + 1) = fo (uq ρ k n) W P := by
      show fo (uq ρ k n) (fo (fun p U => fo (uq ρ k p) U P) U n) P = _
      rw [hW]
    rw [e0]
    refine ⟨fun q hq => ?_, fun j hj => ?_⟩
    · rw [uq_fo ρ k n (by omega) W P hP, i1 q hq, i2 (7 * k + n) (by omega), hV n (by omega), su_s, Nat.add_sub_cancel_left]
      rcases hb : hs ρ n q k with _ | _
      · rw [if_neg (by simp)]
        simp
      · rw [if_pos ⟨by omega, by omega, rfl⟩, nI_add]
        simp
    · rw [uq_fo ρ k n (by omega) W P hP, if_neg (fun q => hj ⟨q.1, q.2.1⟩), i2 j hj]
theorem dq_fo (ρ : RO) (m p : Nat) (hp : p < 7) (D : Nat → Int32) (V : Nat → Nat) (x : Nat) (hx : D (7 * m + p) = nI x) : ∀ n, n ≤ 7 → (∀ q, q < n → D (7 * (m + 1) + q) = nI (V q)) → ∀ j, fo (dq ρ m p) D n j = if j = 7 * m + p then nI (x + su (fun q => if hs ρ p q m = true then V q else 0) n) else D j
  | 0, _, _, j => by
    show D j = _
    rcases Decidable.em (j = 7 * m + p) with e | e
    · rw [if_pos e, e, hx]
      rfl
    · rw [if_neg e]
  | n + 1, hn, hV, j => by
    have ih := dq_fo ρ m p hp D V x hx n (by omega) (fun q hq => hV q (by omega))
    show dq ρ m p n (fo (dq ρ m p) D n) j = _
    generalize fo (dq ρ m p) D n = W at ih ⊢
    unfold dq
    rw [su_s]
    rcases hb : hs ρ p n m with _ | _
    · rw [if_neg (by decide), ih j]
      simp
    · rw [if_pos rfl]
      rcases Decidable.em (j = 7 * m + p) with e | e
      · subst e
        rw [pk_us, ih, ih, if_pos rfl, if_neg (by omega), hV n (by omega), nI_add, if_pos rfl]
        simp [Nat.add_assoc]
      · rw [pk_un e, ih j, if_neg e, if_neg e]
theorem dk_fo (ρ : RO) (m P : Nat) (hP : P ≤ 7) (D : Nat → Int32) (V : Nat → Nat) (hV : ∀ q, q < P → D (7 * (m + 1) + q) = nI (V q)) (h0 : ∀ p, p < P → D (7 * m + p) = nI 0) : ∀ n, n ≤ P → ∀ j, fo (fun p D => fo (dq ρ m p) D P) D n j = if 7 * m ≤ j ∧ j < 7 * m + n then nI (su (fun q => if hs ρ (j - 7 * m) q m = true then V q else 0) P) else D j
  | 0, _, j => by
    show D j = _
    rw [if_neg (by omega)]
  | n + 1, hn, j => by
    have ih := dk_fo ρ m P hP D V hV h0 n (by omega)
    generalize hW : fo (fun p D => fo (dq ρ m p) D P) D n = W at *
    have e0 : fo (fun p D => fo (dq ρ m p) D P) D (n + 1) = fo (dq ρ m n) W P := by
      show fo (dq ρ m n) (fo (fun p D => fo (dq ρ m p) D P) D n) P = _
      rw [hW]
    rw [e0, dq_fo ρ m n (by omega) W V 0 (by rw [ih, if_neg (by omega)]; exact h0 n (by omega)) P hP (fun q hq => by rw [ih, if_neg (by omega)]; exact hV q hq) j]
    rcases Decidable.em (j = 7 * m + n) with e | e
    · rw [if_pos e, if_pos (by omega), e, Nat.add_sub_cancel_left, Nat.zero_add]
    · rw [if_neg e, ih j]
      rcases Decidable.em (7 * m ≤ j ∧ j < 7 * m + n) with e2 | e2
      · rw [if_pos e2, if_pos (by omega)]
      · rw [if_neg e2, if_neg (by omega)]
end
