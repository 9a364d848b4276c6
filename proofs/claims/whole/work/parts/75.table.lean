/-! ===== the class's table of songs: a note of a song, which is ahead ===== -/
theorem upd_us (f : Nat → Int32) (k : Nat) (u v : Int32) : upd (upd f k u) k v = upd f k v := by
  funext i
  rcases Decidable.em (i = k) with e | e
  · rw [e, pk_us, pk_us]
  · rw [pk_un e, pk_un e, pk_un e]
def tbM (h : Mem) (U D : Nat → Int32) : Mem := rowI (rowI h 45 U) 46 D
theorem tbM_45 (h : Mem) (U D : Nat → Int32) : mI (tbM h U D) 45 = U := by
  unfold tbM
  rw [mI_row_ne _ _ (by decide), mI_row]
theorem tbM_46 (h : Mem) (U D : Nat → Int32) : mI (tbM h U D) 46 = D := mI_row _ _ _
theorem tbM_o (h : Mem) (U D : Nat → Int32) {x : Nat} (h1 : x ≠ 45) (h2 : x ≠ 46) : mI (tbM h U D) x = mI h x := by
  unfold tbM
  rw [mI_row_ne _ _ h2, mI_row_ne _ _ h1]
theorem tbM_u (h : Mem) (U D : Nat → Int32) (k : Nat) (v : Int32) : wI (tbM h U D) 45 k v = tbM h (upd U k v) D := by
  refine mem_ext (fun x => ?_) rfl rfl rfl rfl
  rcases Decidable.em (x = 45) with e | e
  · subst e
    rw [mI_wI_at, tbM_45, tbM_45]
  · rw [mI_wI_ne _ _ _ e]
    rcases Decidable.em (x = 46) with e2 | e2
    · subst e2
      rw [tbM_46, tbM_46]
    · rw [tbM_o _ _ _ e e2, tbM_o _ _ _ e e2]
theorem tbM_d (h : Mem) (U D : Nat → Int32) (k : Nat) (v : Int32) : wI (tbM h U D) 46 k v = tbM h U (upd D k v) := rowI_wI _ _ _ _ _
theorem tbM_id (h : Mem) : tbM h (mI h 45) (mI h 46) = h := by
  unfold tbM
  rw [rowI_id, rowI_id]
theorem SH.tb {h : Mem} (S : SH h) (U D : Nat → Int32) : SH (tbM h U D) := S
def SG (h : Mem) (r : Nat) (ρ : RO) (nd : Nat) : Prop := (CT h r ρ) ∧ (r = 2 ∨ r = 21) ∧ (mI h 43 4 = nI nd) ∧ (∀ t u, t < ρ 0 1 → u < ρ 0 1 → mI h 44 (t * 6 + u) = nI (o7 ρ t u)) ∧ (∀ u, u < 6 → mI h 44 (36 + u) = nI 0)
theorem SG.ct {h : Mem} {r : Nat} {ρ : RO} {nd : Nat} (H : SG h r ρ nd) : CT h r ρ := H.1
theorem SG.rr {h : Mem} {r : Nat} {ρ : RO} {nd : Nat} (H : SG h r ρ nd) : r = 2 ∨ r = 21 := H.2.1
theorem SG.nd {h : Mem} {r : Nat} {ρ : RO} {nd : Nat} (H : SG h r ρ nd) : mI h 43 4 = nI nd := H.2.2.1
theorem SG.ov {h : Mem} {r : Nat} {ρ : RO} {nd : Nat} (H : SG h r ρ nd) : ∀ t u, t < ρ 0 1 → u < ρ 0 1 → mI h 44 (t * 6 + u) = nI (o7 ρ t u) := H.2.2.2.1
theorem SG.o6 {h : Mem} {r : Nat} {ρ : RO} {nd : Nat} (H : SG h r ρ nd) : ∀ u, u < 6 → mI h 44 (36 + u) = nI 0 := H.2.2.2.2
section
variable {h : Mem} {r : Nat} {ρ : RO} {nd : Nat}
theorem SG.tb (G : SG h r ρ nd) (U D : Nat → Int32) : SG (tbM h U D) r ρ nd := by
  have f : FQ [45, 46] h (tbM h U D) := (FQ.row h U (by decide)).tr (FQ.row _ D (by decide))
  have hr := G.rr
  refine ⟨G.ct.fq f (fun k hk hq => ?_), hr, ?_, ?_, ?_⟩
  · simp only [List.mem_cons, List.not_mem_nil, or_false] at hq
    omega
  · rw [tbM_o _ _ _ (by decide) (by decide)]
    exact G.nd
  · rw [tbM_o _ _ _ (by decide) (by decide)]
    exact G.ov
  · rw [tbM_o _ _ _ (by decide) (by decide)]
    exact G.o6
theorem o7_le (l t : Nat) : o7 ρ l t ≤ ρ 1 t := by
  have := ov_le (ρ := ρ) l t
  unfold o7
  split
  · omega
  · split <;> omega
theorem c_own (W : RW ρ) (G : SG h r ρ nd) {l t : Nat} (hl : l = 6 ∨ l < ρ 0 1) (ht : t < ρ 0 1) : f_X6_ownNotes h 43 r (nI l) (nI t) = some (nI (ρ 1 t - o7 ρ l t)) := by
  have := W.len t ht
  have htu := W.tu
  have ho := o7_le (ρ := ρ) l t
  have e : mI h 44 (l * 6 + t) = nI (o7 ρ l t) := by
    rcases hl with e | e
    · subst e
      rw [G.o6 t (by omega)]
      rfl
    · exact G.ov l t e ht
  unfold f_X6_ownNotes
  simp (disch := omega) only [ob, nI_lit, nI_add, pk_mul, nI_eq, nI_ltI, nI_leI, if_true, if_false, if_pos, if_neg, ck_of (tS_43 G.ct.sh), gR_of (tS_43 G.ct.sh), rS_43_0 G.ct.sh, gR_of (tR G.ct.rd.rd), rR_9 G.ct.rd.rd, c_len W G.ct.rd ht, aI_of (tS_44 G.ct.sh), e, pk_sub]
/-- enough fuel -/
theorem bs_fuel (hnd : nd < 64) : ∀ k b l, bcN (nd ^^^ (nd &&& b)) ≤ k → bs ρ nd (k + 1) b l = bs ρ nd k b l
  | 0, b, l => fun hk => by
    have e : nd ^^^ (nd &&& b) = 0 := (bc_tab _ (rest_lt hnd)).2 (by omega)
    rw [bs_succ]
    have key : ∀ n, fo (bF ρ nd 0 b l) (0, []) n = (0, []) := by
      intro n
      induction n with
      | zero => rfl
      | succ n ih =>
        show bF ρ nd 0 b l n (fo (bF ρ nd 0 b l) (0, []) n) = _
        rw [ih]
        unfold bF
        rw [← rest_bit, e, Nat.zero_testBit]
        rfl
    rw [key]
    rfl
  | k + 1, b, l => fun hk => by
    rw [bs_succ, bs_succ]
    refine fo_congr (fun t ht x => ?_)
    unfold bF
    cases q : (nd.testBit t && !b.testBit t)
    · simp only [Bool.false_eq_true, if_false]
    · have e : bV ρ nd (k + 1) b l t = bV ρ nd k b l t := by
        rw [← rest_bit] at q
        have h1 := rest_or q
        have h2 := xb_tab _ (rest_lt hnd) t (bit6 (rest_lt hnd) q) q
        unfold bV
        rw [bs_fuel hnd k _ _ (by rw [h1]; omega)]
      rw [e]
theorem bs6 (hnd : nd < 64) (b l : Nat) : bs ρ nd 6 b l = fo (bF ρ nd 6 b l) (0, []) (ρ 0 1) := by
  rw [← bs_succ, bs_fuel hnd 6 b l (bc_tab _ (rest_lt hnd)).1]
theorem bs6I (hnd : nd < 64) (b l : Nat) : BI ρ nd 6 b l (ρ 0 1) (bs ρ nd 6 b l) := by
  rw [bs6 hnd]
  exact BI.fo nd 6 b l _
theorem bs_len (W : RW ρ) : ∀ k b l, (bs ρ nd k b l).2.length ≤ 8 * k
  | 0, b, l => by simp [bs]
  | k + 1, b, l => by
    have I := BI.fo (ρ := ρ) nd k b l (ρ 0 1)
    rw [← bs_succ] at I
    rcases Decidable.em ((bs ρ nd (k + 1) b l).1 = 0) with z | z
    · rw [(I.no z).1]
      simp
    · obtain ⟨a1, a2, a3, _⟩ := I.at z
      rw [a3]
      unfold bV
      have := bs_len W k (b ||| 2 ^ ((bs ρ nd (k + 1) b l).1 - 1)) ((bs ρ nd (k + 1) b l).1 - 1)
      have := W.len ((bs ρ nd (k + 1) b l).1 - 1) (by omega)
      rw [List.length_append, tl_len]
      omega
theorem bV_len (W : RW ρ) {b l t : Nat} (ht : t < ρ 0 1) : (bV ρ nd 6 b l t).length ≤ 56 := by
  have := bs_len (nd := nd) W 6 (b ||| 2 ^ t) t
  have := W.len t ht
  unfold bV
  rw [List.length_append, tl_len]
  omega
def TB (ρ : RO) (nd : Nat) (P : Nat → Nat → Prop) (U D : Nat → Int32) : Prop := ∀ b l, sst nd b l → P b l → U (b * 7 + l) = nI (bs ρ nd 6 b l).2.length ∧ D (b * 7 + l) = nI (bs ρ nd 6 b l).1 - nI 1
theorem or_grow {b t : Nat} (ht : b.testBit t = false) : b < b ||| 2 ^ t := by
  have h1 : b ≤ b ||| 2 ^ t := Nat.left_le_or
  have h2 : b ≠ b ||| 2 ^ t := by
    intro e
    rw [e, or_self_bit] at ht
    cases ht
  omega
theorem or_st {b t : Nat} (h6 : t < 6) (hb : b &&& nd = b) (hn : nd.testBit t = true) : sst nd (b ||| 2 ^ t) t := by
  refine Or.inr ⟨fun e => ?_, ?_, h6, or_self_bit b t⟩
  · have := or_self_bit b t
    rw [e, Nat.zero_testBit] at this
    cases this
  · refine Nat.eq_of_testBit_eq (fun i => ?_)
    have := congrArg (fun x => Nat.testBit x i) hb
    simp only [Nat.testBit_and, Nat.testBit_or, bit_pow] at *
    rcases Decidable.em (t = i) with e | e
    · subst e
      simp [hn]
    · rw [decide_eq_false e, Bool.or_false]
      exact this
theorem sub_lt {b : Nat} (hnd : nd < 64) (hb : b &&& nd = b) : b < 64 := by
  rw [← hb]
  exact Nat.lt_of_le_of_lt Nat.and_le_right hnd
theorem or_and {b t : Nat} (hb : b &&& nd = b) (hn : nd.testBit t = true) : (b ||| 2 ^ t) &&& nd = b ||| 2 ^ t := by
  refine Nat.eq_of_testBit_eq (fun i => ?_)
  have := congrArg (fun x => Nat.testBit x i) hb
  simp only [Nat.testBit_and, Nat.testBit_or, bit_pow] at *
  rcases Decidable.em (t = i) with e | e
  · subst e
    simp [hn]
  · rw [decide_eq_false e, Bool.or_false]
    exact this
theorem tl_getD {t o i : Nat} (hi : i < ρ 1 t - o) (X : List Nat) : (tl ρ t o ++ X).getD i 0 = ρ 2 (8 * t + (o + i)) := by
  rw [List.getD_eq_getElem?_getD, List.getElem?_append_left (by rw [tl_len]; exact hi), List.getElem?_eq_getElem (by rw [tl_len]; exact hi), tl_at]
  rfl
theorem tl_getD2 {t o i : Nat} (hi : ρ 1 t - o ≤ i) (X : List Nat) : (tl ρ t o ++ X).getD i 0 = X.getD (i - (ρ 1 t - o)) 0 := by
  rw [List.getD_eq_getElem?_getD, List.getElem?_append_right (by rw [tl_len]; exact hi), tl_len, ← List.getD_eq_getElem?_getD]
theorem c_nb (W : RW ρ) (G : SG h r ρ nd) (hnd : nd < 64) (hT : ∀ t, nd.testBit t = true → t < ρ 0 1) {U D : Nat → Int32} (e46 : mI h 46 = D) {b0 : Nat} (T : TB ρ nd (fun b _ => b0 < b) U D) : ∀ n N s b l t i, bcN (nd ^^^ (nd &&& b)) ≤ n → n + s ≤ 6 → n < N → (l = 6 ∨ l < ρ 0 1) → b0 ≤ b → b &&& nd = b → (nd.testBit t && !b.testBit t) = true → i < (bV ρ nd 6 b l t).length → ∃ t' i' w, iter (fun (s : Int32 × Int32 × Int32 × Int32 × Int32) => b_X6_noteBehind_17 h 43 r s.1 s.2.1 s.2.2.1 s.2.2.2.1 s.2.2.2.2) N (nI b, nI l, nI t, nI i, nI s) = some (Sum.inl (nI t', nI i', nI w)) ∧ t' < ρ 0 1 ∧ i' < w ∧ w ≤ ρ 1 t' ∧ ρ 2 (8 * t' + (ρ 1 t' - w + i')) = (bV ρ nd 6 b l t).getD i 0 := by
  intro n
  induction n with
  | zero =>
    intro N s b l t i h1 h2 h3 h4 h5 h6 h7 h8
    exfalso
    have e : nd ^^^ (nd &&& b) = 0 := (bc_tab _ (rest_lt hnd)).2 (by omega)
    rw [← rest_bit, e, Nat.zero_testBit] at h7
    cases h7
  | succ n ih =>
    intro N s b l t i h1 h2 h3 h4 h5 h6 h7 h8
    obtain ⟨N, rfl⟩ : ∃ M, N = M + 1 := ⟨N - 1, by omega⟩
    have h9 := h7
    rw [Bool.and_eq_true] at h9
    obtain ⟨hn, hb⟩ := h9
    have hb : b.testBit t = false := by simpa using hb
    have ht := hT t hn
    have htu := W.tu
    have hlen := W.len t ht
    have h64 := sub_lt hnd h6
    have ho := o7_le (ρ := ρ) l t
    have hbl : (bV ρ nd 6 b l t).length = (ρ 1 t - o7 ρ l t) + (bs ρ nd 6 (b ||| 2 ^ t) t).2.length := by
      unfold bV
      rw [List.length_append, tl_len]
    have h48 : (ρ 1 t - o7 ρ l t) ≤ 8 := by omega
    have h56 := bV_len (nd := nd) (b := b) (l := l) W ht
    have hor := or_and h6 hn
    have ho64 := sub_lt hnd hor
    have hlt := or_grow hb
    have hsh : nI 1 <<< (nI t &&& nI 31) = nI (2 ^ t) := nI_sh1 (by omega)
    have hp : 2 ^ t < 2 ^ 6 := Nat.pow_lt_pow_right (by decide) (by omega)
    rcases Nat.lt_or_ge i (ρ 1 t - o7 ρ l t) with c | c
    · refine ⟨t, i, ρ 1 t - o7 ρ l t, ?_, ht, c, by omega, ?_⟩
      · refine iter_exit ?_
        unfold b_X6_noteBehind_17
        simp (disch := omega) only [ob, nI_lit, nI_add, pk_mul, nI_eq, nI_ltI, nI_leI, if_true, if_false, if_pos, if_neg, c_own W G h4 ht]
      · unfold bV
        rw [tl_getD c]
        congr 2
        omega
    · have I := bs6I (ρ := ρ) hnd (b ||| 2 ^ t) t
      have z : (bs ρ nd 6 (b ||| 2 ^ t) t).1 ≠ 0 := by
        intro z
        rw [(I.no z).1] at hbl
        simp at hbl
        omega
      obtain ⟨a1, a2, a3, _⟩ := I.at z
      have k := T _ _ (or_st (by omega) h6 hn) (Nat.lt_of_le_of_lt h5 hlt)
      have hD : mI h 46 ((b ||| 2 ^ t) * 7 + t) = nI ((bs ρ nd 6 (b ||| 2 ^ t) t).1 - 1) := by
        rw [e46, k.2, pk_sub (by omega)]
      have hstep : b_X6_noteBehind_17 h 43 r (nI b) (nI l) (nI t) (nI i) (nI s) = some (.inl (nI (b ||| 2 ^ t), nI t, nI ((bs ρ nd 6 (b ||| 2 ^ t) t).1 - 1), nI (i - (ρ 1 t - o7 ρ l t)), nI (s + 1))) := by
        unfold b_X6_noteBehind_17
        simp (disch := omega) only [ob, nI_lit, nI_add, pk_mul, nI_eq, nI_ltI, nI_leI, if_true, if_false, if_pos, if_neg, c_own W G h4 ht, gR_of (tS_43 G.ct.sh), rS_43_2 G.ct.sh, hsh, nI_or, aI_of (tS_46 G.ct.sh), hD, pk_sub]
      rw [iter_step hstep]
      rw [← rest_bit] at h7
      have x1 := rest_or h7
      have x2 := xb_tab _ (rest_lt hnd) t (bit6 (rest_lt hnd) h7) h7
      obtain ⟨t', i', w, y1, y2, y3, y4, y5⟩ := ih N (s + 1) (b ||| 2 ^ t) t ((bs ρ nd 6 (b ||| 2 ^ t) t).1 - 1) (i - (ρ 1 t - o7 ρ l t)) (by rw [x1]; omega) (by omega) (by omega) (Or.inr ht) (by omega) hor a2 (by rw [← a3]; omega)
      refine ⟨t', i', w, y1, y2, y3, y4, ?_⟩
      rw [y5, ← a3]
      show _ = (tl ρ t (o7 ρ l t) ++ _).getD i 0
      rw [tl_getD2 c]
theorem c_noteBehind (W : RW ρ) (G : SG h r ρ nd) (hnd : nd < 64) (hT : ∀ t, nd.testBit t = true → t < ρ 0 1) {U D : Nat → Int32} (e46 : mI h 46 = D) {b : Nat} (T : TB ρ nd (fun b' _ => b < b') U D) {l t i : Nat} (hl : l = 6 ∨ l < ρ 0 1) (hb : b &&& nd = b) (ht : (nd.testBit t && !b.testBit t) = true) (hi : i < (bV ρ nd 6 b l t).length) : f_X6_noteBehind h 43 r (nI b) (nI l) (nI t) (nI i) = some (nI ((bV ρ nd 6 b l t).getD i 0)) := by
  obtain ⟨t', i', w, y1, y2, y3, y4, y5⟩ := c_nb W G hnd hT e46 T 6 FU 0 b l t i (bc_tab _ (rest_lt hnd)).1 (by omega) (FU_lt (by omega)) hl (Nat.le_refl _) hb ht hi
  have := W.len t' y2
  unfold f_X6_noteBehind
  simp (disch := omega) only [ob, nI_lit, nI_add, pk_mul, nI_eq, nI_ltI, nI_leI, if_true, if_false, if_pos, if_neg, ck_of (tS_43 G.ct.sh), y1, Sum.elim_inl, gR_of (tR G.ct.rd.rd), rR_9 G.ct.rd.rd, c_len W G.ct.rd y2, pk_sub, c_note W G.ct.rd y2 (show ρ 1 t' - w + i' < ρ 1 t' by omega), y5]
/-- which of two rows of one length is ahead, note by note -/
theorem iter_lx {σ θ : Type} {b : σ → Option (σ ⊕ (θ ⊕ Unit))} (S : Nat → σ) (R : Nat → θ) (K : θ ⊕ Unit → Option Int32) (x y : List Nat) (n : Nat) (hx : x.length = n) (hy : y.length = n) (hs : ∀ i, i < n → b (S i) = if x.getD i 0 = y.getD i 0 then some (.inl (S (i + 1))) else some (.inr (.inl (R i)))) (he : b (S n) = some (.inr (.inr ()))) (k1 : ∀ i, i < n → K (.inl (R i)) = some (nI (decide (x.getD i 0 < y.getD i 0)).toNat)) (k2 : K (.inr ()) = some (nI 0)) : ∀ m i N, m < N → i + m = n → (iter b N (S i)).bind K = some (nI (lx (x.drop i) (y.drop i)).toNat) := by
  intro m
  induction m with
  | zero =>
    intro i N hN e
    obtain ⟨N, rfl⟩ : ∃ M, N = M + 1 := ⟨N - 1, by omega⟩
    have : i = n := by omega
    subst this
    rw [iter_exit he, ob, k2, List.drop_eq_nil_of_le (by omega)]
    rfl
  | succ m ih =>
    intro i N hN e
    obtain ⟨N, rfl⟩ : ∃ M, N = M + 1 := ⟨N - 1, by omega⟩
    have hi : i < n := by omega
    have q := hs i hi
    have dx : x.drop i = x.getD i 0 :: x.drop (i + 1) := by
      rw [List.drop_eq_getElem_cons (by omega), List.getD_eq_getElem?_getD, List.getElem?_eq_getElem (by omega)]
      rfl
    have dy : y.drop i = y.getD i 0 :: y.drop (i + 1) := by
      rw [List.drop_eq_getElem_cons (by omega), List.getD_eq_getElem?_getD, List.getElem?_eq_getElem (by omega)]
      rfl
    rcases Decidable.em (x.getD i 0 = y.getD i 0) with c | c
    · rw [if_pos c] at q
      rw [iter_step q, ih (i + 1) N (by omega) (by omega), dx, dy]
      simp only [lx, c, Nat.lt_irrefl, decide_false, decide_true, Bool.false_or, Bool.true_and]
    · rw [if_neg c] at q
      rw [iter_exit q, ob, k1 i hi, dx, dy]
      simp only [lx, decide_eq_false c, Bool.false_and, Bool.or_false]
end
