/-! ===== acts: both sides change ===== -/
def FLo (h h' : Mem) : Prop := (∀ x, mT h' x = mT h x) ∧ (∀ x, 55 ≤ x → mI h' x = mI h x ∧ mR h' x = mR h x) ∧ mN h' = mN h
def FHi (h h' : Mem) : Prop := (∀ x, x < 69 → mT h' x = mT h x) ∧ (∀ x, x < 55 → mI h' x = mI h x ∧ mR h' x = mR h x ∧ mL h' x = mL h x) ∧ mN h ≤ mN h'
def AC (a : AB) (z : Nat) (a' : AB) (z' : Nat) (f : Mem → Option (Int32 × Mem)) (v : Int32) : Prop := ∀ h, IC h a → mI h 1 0 = nI z → OK (f h) (fun q => q.1 = v ∧ FLo h q.2 ∧ IC q.2 a' ∧ mI q.2 1 0 = nI z')
def AM (a : AB) (z : Nat) (a' : AB) (z' : Nat) (g : Mem → Option (Int32 × Mem)) (v : Int32) : Prop := ∀ h, IM h a → mI h 55 1 = nI z → mI h 55 2 = (if z = 4 then nI (a 2 0 8) - nI 1 else -nI 1) → OK (g h) (fun q => q.1 = v ∧ FHi h q.2 ∧ IM q.2 a' ∧ mI q.2 55 1 = nI z' ∧ mI q.2 55 2 = if z' = 4 then nI (a' 2 0 8) - nI 1 else -nI 1)
theorem IC.hi {h h' : Mem} {a : AB} (W : IW a) (C : IC h a) (f : FHi h h') (sh : SH h') : IC h' a :=
  C.fr W sh (fun x hx _ => (f.2.1 x hx).1) (f.2.1 16 (by decide)).2.2 (fun x hx => (f.2.1 x hx).2.1) f.1 (C.so.fr (f.2.1 43 (by decide)).1 (f.2.1 44 (by decide)).1 (f.2.1 45 (by decide)).1 (f.2.1 46 (by decide)).1)
theorem IM.lo {h h' : Mem} {a : AB} (M : IM h a) (f : FLo h h') (sh : SH h') : IM h' a :=
  M.fr sh (fun x hx _ => (f.2.1 x hx).1) (by rw [(f.2.1 55 (by decide)).1]) (by rw [(f.2.1 55 (by decide)).1]) (by rw [(f.2.1 55 (by decide)).1]) (by rw [(f.2.1 55 (by decide)).1]) (by rw [(f.2.1 65 (by decide)).1]) (fun x hx => (f.2.1 x hx).2) (fun x _ => f.1 x) f.2.2
theorem a2 {f g : Mem → Option (Int32 × Mem)} {h : Mem} (hI : INV h) (hq : ∀ a z, IW a → z ≤ 6 → ∃ a' v z', IW a' ∧ z' ≤ 6 ∧ AC a z a' z' f v ∧ AM a z a' z' g v) : OK ((f h).bind fun q => (g q.2).bind fun q' => if q.1 = q'.1 then some q'.2 else none) INV := by
  obtain ⟨a, z, W, C, M, Z⟩ := hI
  obtain ⟨a', v, z', W', z6, qc, qm⟩ := hq a z W Z.lt
  obtain ⟨q1, e1, v1, f1, C1, t1⟩ := qc h C Z.c
  have M1 : IM q1.2 a := M.lo f1 C1.ct.sh
  have e55 := (f1.2.1 55 (by decide)).1
  obtain ⟨q3, e3, v3, f3, M3, t3, w3⟩ := qm q1.2 M1 (by rw [e55]; exact Z.m) (by rw [e55]; exact Z.w)
  have C3 : IC q3.2 a' := C1.hi W' f3 M3.sh
  refine ⟨q3.2, ?_, a', z', W', C3, M3, z6, ?_, t3, w3⟩
  · rw [e1]
    show (g q1.2).bind _ = _
    rw [e3]
    show (if q1.1 = q3.1 then some q3.2 else none) = _
    rw [if_pos (by rw [v1, v3])]
  · rw [(f3.2.1 1 (by decide)).1]; exact t1
/-- a question's answer, as an act -/
theorem AC.ofQ {a : AB} {f : Mem → Option (Int32 × Mem)} {v : Int32} {z : Nat} (W : IW a) (q : QC a f v z) (z0 : Nat) : AC a z0 a z f v := by
  intro h C _
  obtain ⟨r, e, v1, f1, s1, t1⟩ := q h C
  have sh1 := f1.sh C.ct.sh
  refine ⟨r, e, v1, ⟨fun x => by rw [f1.1], fun x hx => ⟨f1.2.2.2.2 x ?_, by rw [f1.2.1]⟩, f1.2.2.2.1⟩, C.fr W sh1 (fun x _ hx => f1.2.2.2.2 x hx) (by rw [f1.2.2.1]) (fun x _ => by rw [f1.2.1]) (fun x _ => by rw [f1.1]) s1, t1⟩
  intro hq
  simp only [LQ, List.mem_cons, List.not_mem_nil, or_false] at hq
  omega
theorem AM.ofQ {a : AB} {g : Mem → Option (Int32 × Mem)} {v : Int32} {z : Nat} (q : QM a g v z) (hz : z ≠ 4) (z0 : Nat) : AM a z0 a z g v := by
  intro h M _ _
  obtain ⟨r, e, v1, f1, t1, w1⟩ := q h M
  refine ⟨r, e, v1, ⟨fun x _ => by rw [f1.1.1], fun x hx => ⟨f1.1.2.2.2.2 x ?_, by rw [f1.1.2.1], by rw [f1.1.2.2.1]⟩, by rw [f1.1.2.2.2.1]; exact Nat.le_refl _⟩, M.fm f1, t1, by rw [if_neg hz]; exact w1⟩
  intro hq
  simp only [LM, List.mem_cons, List.not_mem_nil, or_false] at hq
  omega
/-! what an act may change -/
theorem IC.ch {h h' : Mem} {a a' : AB} (W : IW a) (C : IC h a) (f : FQ [1, 33, 34, 35, 36] h h') (e0 : a' 0 = a 0) (e2 : ∀ k, k ≠ 3 → k ≠ 4 → k ≠ 5 → a' 2 0 k = a 2 0 k) (e3 : a' 3 = a 3) (n1 : cNw h' (a' 1)) (n2 : mI h' 33 4 = nI (a' 2 0 3)) (n3 : mI h' 33 3 = nI (a' 2 0 4)) (n4 : mI h' 33 5 = nI (a' 2 0 5)) (n5 : ∀ j, j < a' 2 0 3 → rC (mI h' 35) (21 * ((a' 2 0 4 + 15 - j) % 16)) (a' (10 + j))) (n6 : ∀ k, k < a' 2 0 5 → rC (mI h' 36) (21 * k) (a' (30 + k))) : IC h' a' := by
  have sh := f.sh C.ct.sh
  obtain ⟨⟨-, c1, c2, c3, c4⟩, k1, k2, k3, k4, k5, k6, k7, k8, k9, k10, k11, k12, k15, k13, k14⟩ := C
  have hr : a 2 0 0 = 2 ∨ a 2 0 0 = 21 := by
    rcases W.rr with q | q
    · exact Or.inl q.1
    · exact Or.inr q.1
  have hno : ∀ x, x ≠ 1 → x ≠ 33 → x ≠ 34 → x ≠ 35 → x ≠ 36 → mI h' x = mI h x := fun x h1 h2 h3 h4 h5 => f.2.2.2.2 x (by simp [h1, h2, h3, h4, h5])
  have eI2 : ∀ k, k < 12 → mI h' (a 2 0 0 + k) = mI h (a 2 0 0 + k) := fun k hk => hno _ (by omega) (by omega) (by omega) (by omega) (by omega)
  unfold IC CT
  rw [e0, e3, e2 0 (by decide) (by decide) (by decide), e2 6 (by decide) (by decide) (by decide), e2 7 (by decide) (by decide) (by decide), e2 8 (by decide) (by decide) (by decide), e2 1 (by decide) (by decide) (by decide), eI2 10 (by decide), hno 14 (by decide) (by decide) (by decide) (by decide) (by decide), hno 15 (by decide) (by decide) (by decide) (by decide) (by decide), f.2.1, f.2.2.1]
  exact ⟨⟨sh, c1, c2.fr (fun k hk => by rw [f.1]) (by rw [f.2.1]) (fun k hk => eI2 k (by omega)), c3, c4⟩, n1, n2, n3, n4, n5, n6, k7, k8, k9, k10, k11, k12, k15.fr (hno 43 (by decide) (by decide) (by decide) (by decide) (by decide)) (hno 44 (by decide) (by decide) (by decide) (by decide) (by decide)) (hno 45 (by decide) (by decide) (by decide) (by decide) (by decide)) (hno 46 (by decide) (by decide) (by decide) (by decide) (by decide)), k13.fr (hno 48 (by decide) (by decide) (by decide) (by decide) (by decide)) (hno 50 (by decide) (by decide) (by decide) (by decide) (by decide)), k14.fr (hno 52 (by decide) (by decide) (by decide) (by decide) (by decide)) (hno 53 (by decide) (by decide) (by decide) (by decide) (by decide))⟩
theorem IM.ch {h h' : Mem} {a a' : AB} (M : IM h a) (f : FQ [55, 57, 58, 59] h h') (e6 : mI h' 55 6 = mI h 55 6) (e12 : mI h' 55 12 = mI h 55 12) (e0 : a' 0 = a 0) (e2 : ∀ k, k ≠ 3 → k ≠ 4 → k ≠ 5 → a' 2 0 k = a 2 0 k) (e3 : a' 3 = a 3) (n1 : mNw h' (a' 1)) (n2 : mI h' 55 19 = nI (a' 2 0 3)) (n3 : mI h' 55 20 = nI (a' 2 0 5)) (n5 : ∀ j, j < a' 2 0 3 → rM (mI h' 58) (21 * (a' 2 0 3 - 1 - j)) (a' (10 + j))) (n6 : ∀ k, k < a' 2 0 5 → rM (mI h' 59) (21 * k) (a' (30 + k))) : IM h' a' := by
  have sh := f.sh M.sh
  obtain ⟨-, k1, k2, k3, k4, k5, k6, k7, k8, k9, k10⟩ := M
  have hno : ∀ x, x ≠ 55 → x ≠ 57 → x ≠ 58 → x ≠ 59 → mI h' x = mI h x := fun x h1 h2 h3 h4 => f.2.2.2.2 x (by simp [h1, h2, h3, h4])
  unfold IM
  rw [e0, e3, e2 2 (by decide) (by decide) (by decide), e2 6 (by decide) (by decide) (by decide), e2 7 (by decide) (by decide) (by decide), e6, e12, hno 56 (by decide) (by decide) (by decide) (by decide), hno 65 (by decide) (by decide) (by decide) (by decide), f.2.1, f.2.2.2.1]
  refine ⟨sh, ?_, n1, n2, n3, n5, n6, k7, k8, k9, k10⟩
  rcases k1 with q | ⟨q1, ⟨-, q3, q4, q5⟩, q6, q7⟩
  · exact Or.inl q
  · exact Or.inr ⟨q1, ⟨sh, by rw [f.2.1]; exact q3, q4, q5.fr (fun k hk => by rw [f.1]) (by rw [f.2.1]) (fun k hk => hno _ (by omega) (by omega) (by omega) (by omega))⟩, q6, q7⟩
theorem IW.ch {a a' : AB} (W : IW a) (ht : 0 < a 0 0 2) (e0 : a' 0 = a 0) (e2 : ∀ k, k ≠ 3 → k ≠ 4 → k ≠ 5 → a' 2 0 k = a 2 0 k) (e3 : a' 3 = a 3) (n1 : NF (a 0) (a' 1)) (n2 : a' 2 0 3 ≤ 16) (n3 : a' 2 0 4 < 16) (n4 : a' 2 0 5 ≤ 3) (n5 : ∀ j, j < a' 2 0 3 → NF (a 0) (a' (10 + j))) (n6 : ∀ k, k < a' 2 0 5 → NF (a 0) (a' (30 + k))) : IW a' := by
  obtain ⟨k1, k2, k3, k4, k5, k6, k7, k8, k9, k10, k11, k12, k13⟩ := W
  unfold IW
  rw [e0, e3, e2 0 (by decide) (by decide) (by decide), e2 1 (by decide) (by decide) (by decide), e2 6 (by decide) (by decide) (by decide), e2 7 (by decide) (by decide) (by decide), e2 8 (by decide) (by decide) (by decide)]
  exact ⟨k1, n1, k3, n2, n3, n4, k7, n5, n6, k10, k11, k12, fun q => by omega⟩
/-! rows -/
theorem rowI_rowI (h : Mem) (x : Nat) (f g : Nat → Int32) : rowI (rowI h x f) x g = rowI h x g := by
  unfold rowI
  congr 1
  funext y
  unfold mI
  simp only
  split <;> rfl
theorem rowI_wI (h : Mem) (x : Nat) (f : Nat → Int32) (k : Nat) (v : Int32) : wI (rowI h x f) x k v = rowI h x (upd f k v) := by
  unfold wI
  rw [mI_row, rowI_rowI]
theorem rowI_id (h : Mem) (x : Nat) : rowI h x (mI h x) = h := by
  unfold rowI
  have : (fun y => if y = x then mI h x else mI h y) = mI h := by
    funext y
    split
    · rename_i e; rw [e]
    · rfl
  rw [this]
  rfl
theorem FQ.row {l : List Nat} (h : Mem) {x : Nat} (f : Nat → Int32) (hx : x ∈ l) : FQ l h (rowI h x f) := ⟨rfl, rfl, rfl, rfl, fun y hy => mI_row_ne h f (fun e => hy (e ▸ hx))⟩
theorem SH.row {h : Mem} (S : SH h) (x : Nat) (f : Nat → Int32) : SH (rowI h x f) := S
theorem fo_upd (o : Nat) (v : Nat → Int32) (f0 : Nat → Int32) : ∀ n, fo (fun i f => upd f (o + i) (v i)) f0 n = fun j => if o ≤ j ∧ j < o + n then v (j - o) else f0 j
  | 0 => by
    funext j
    show f0 j = _
    rw [if_neg (by omega)]
  | n + 1 => by
    show upd (fo _ f0 n) (o + n) (v n) = _
    rw [fo_upd o v f0 n]
    funext j
    show (if j = o + n then v n else if o ≤ j ∧ j < o + n then v (j - o) else f0 j) = _
    rcases Decidable.em (j = o + n) with e | e
    · rw [if_pos e, if_pos (by omega), e, show o + n - o = n by omega]
    · rw [if_neg e]
      rcases Decidable.em (o ≤ j ∧ j < o + n) with e2 | e2
      · rw [if_pos e2, if_pos (by omega)]
      · rw [if_neg e2, if_neg (by omega)]
theorem fo_shift (d : Nat) (f0 : Nat → Int32) (hd : 0 < d) : ∀ n, fo (fun i f => upd f i (f (i + d))) f0 n = fun j => if j < n then f0 (j + d) else f0 j
  | 0 => rfl
  | n + 1 => by
    show upd (fo _ f0 n) n ((fo _ f0 n) (n + d)) = _
    rw [fo_shift d f0 hd n]
    funext j
    show (if j = n then (if n + d < n then f0 (n + d + d) else f0 (n + d)) else if j < n then f0 (j + d) else f0 j) = _
    rcases Decidable.em (j = n) with e | e
    · rw [if_pos e, if_neg (by omega), if_pos (by omega), e]
    · rw [if_neg e]
      rcases Decidable.em (j < n) with e2 | e2
      · rw [if_pos e2, if_pos (by omega)]
      · rw [if_neg e2, if_neg (by omega)]
/-! keeping: the class -/
theorem c_keep {h : Mem} {a : AB} (W : IW a) (C : IC h a) : f_X2_keep h 33 = some (wI (wI (rowI h 35 (va_cpy (mI h 34) (mI h 35) 0 (a 2 0 4 * 21) 21)) 33 3 (nI ((a 2 0 4 + 1) % 16))) 33 4 (nI (min (a 2 0 3 + 1) 16))) := by
  have S := C.ct.sh
  have := W.nx
  have := W.ac
  have e1 := cpI_of (sp := 0) (dp := a 2 0 4 * 21) (n := 21) (tS_34 S) (tS_35 S) (by omega) (by omega) (by decide) (by decide)
  have e33 : mI (rowI h 35 (va_cpy (mI h 34) (mI h 35) 0 (a 2 0 4 * 21) 21)) 33 = mI h 33 := mI_row_ne h _ (by decide)
  unfold f_X2_keep
  simp (disch := omega) only [ob, nI_lit, nI_add, pk_mul, nI_eq, nI_ltI, nI_leI, if_true, if_false, if_pos, if_neg, ck_of (tS_33 S), gR_of (tS_33 S), gI_of (tS_33 S), rS_33_0 S, rS_33_1 S, C.nx, e1, gI_of (tS_33 (S.row 35 _)), pI_of (tS_33 (S.row 35 _)), e33, irm_of, gI_of (tS_33 ((S.row 35 _).wI 33 3 _)), pI_of (tS_33 ((S.row 35 _).wI 33 3 _)), mI_wI_at, pk_un (show (4 : Nat) ≠ 3 by decide), C.ac, mMin_n]
/-! remembering: the reference -/
def rmf (n : Nat) (v f : Nat → Int32) : Nat → Int32 := fun j => if n = 16 then (if j < 315 then f (j + 21) else if j < 336 then v (j - 315) else f j) else if 21 * n ≤ j ∧ j < 21 * n + 21 then v (j - 21 * n) else f j
theorem m_rem49 {h : Mem} (S : SH h) {n : Nat} (hn : n < 16) (e : mI h 55 19 = nI n) : f_X13_remembers_49 h 55 = some (wI (rowI h 58 (fun j => if 21 * n ≤ j ∧ j < 21 * n + 21 then mI h 57 (j - 21 * n) else mI h 58 j)) 55 19 (nI (n + 1))) := by
  have q : iter (fun (s : Int32 × Mem) => b_X13_remembers_51 s.2 55 s.1) FU (nI 0, rowI h 58 (mI h 58)) = some (rowI h 58 (fun j => if 21 * n ≤ j ∧ j < 21 * n + 21 then mI h 57 (j - 21 * n) else mI h 58 j)) := by
    refine iter_fo (fun f i => (nI i, rowI h 58 f)) (fun i f => upd f (21 * n + i) (mI h 57 i)) (mI h 58) 21 (FU_lt (by decide)) (fun i f hi => ?_) ?_
    · have e55 : mI (rowI h 58 f) 55 = mI h 55 := mI_row_ne h _ (by decide)
      have e57 : mI (rowI h 58 f) 57 = mI h 57 := mI_row_ne h _ (by decide)
      unfold b_X13_remembers_51
      simp (disch := omega) only [ob, nI_lit, nI_add, pk_mul, nI_eq, nI_ltI, nI_leI, if_true, if_false, if_pos, if_neg, gR_of (tS_55 (S.row 58 f)), gI_of (tS_55 (S.row 58 f)), mR_rowI, rS_55_17 S, rS_55_16 S, e55, e57, e, aI_of (tS_57 (S.row 58 f)), sI_of (tS_58 (S.row 58 f)), rowI_wI]
    · unfold b_X13_remembers_51
      simp (disch := omega) only [ob, nI_lit, nI_add, pk_mul, nI_eq, nI_ltI, nI_leI, if_true, if_false, if_pos, if_neg]
      rw [fo_upd]
  rw [rowI_id] at q
  unfold f_X13_remembers_49
  have e55 : ∀ f, mI (rowI h 58 f) 55 = mI h 55 := fun f => mI_row_ne h _ (by decide)
  simp (disch := omega) only [ob, nI_lit, nI_add, pk_mul, nI_eq, nI_ltI, nI_leI, if_true, if_false, if_pos, if_neg, q, gI_of (tS_55 (S.row 58 _)), pI_of (tS_55 (S.row 58 _)), e55, e]
theorem m_rem {h : Mem} {a : AB} (W : IW a) (M : IM h a) : f_X13_remembers h 55 = some (wI (rowI h 58 (rmf (a 2 0 3) (mI h 57) (mI h 58))) 55 19 (nI (min (a 2 0 3 + 1) 16))) := by
  have S := M.sh
  have hac := W.ac
  unfold f_X13_remembers rmf
  rcases Decidable.em (a 2 0 3 = 16) with e | e
  · have q : iter (fun (s : Int32 × Mem) => b_X13_remembers_11 s.2 55 s.1) FU (nI 0, rowI h 58 (mI h 58)) = some (rowI h 58 (fun j => if j < 315 then mI h 58 (j + 21) else mI h 58 j)) := by
      refine iter_fo (fun f i => (nI i, rowI h 58 f)) (fun i f => upd f i (f (i + 21))) (mI h 58) 315 (FU_lt (by decide)) (fun i f hi => ?_) ?_
      · unfold b_X13_remembers_11
        simp (disch := omega) only [ob, nI_lit, nI_add, pk_mul, nI_eq, nI_ltI, nI_leI, if_true, if_false, if_pos, if_neg, gR_of (tS_55 (S.row 58 f)), mR_rowI, rS_55_17 S, aI_of (tS_58 (S.row 58 f)), sI_of (tS_58 (S.row 58 f)), mI_row, rowI_wI]
      · unfold b_X13_remembers_11
        simp (disch := omega) only [ob, nI_lit, nI_add, pk_mul, nI_eq, nI_ltI, nI_leI, if_true, if_false, if_pos, if_neg]
        rw [fo_shift 21 _ (by decide)]
    rw [rowI_id] at q
    have e55 : ∀ f, mI (rowI h 58 f) 55 = mI h 55 := fun f => mI_row_ne h _ (by decide)
    have hac2 := M.ac
    rw [e] at hac2
    have k := m_rem49 (h := wI (rowI h 58 (fun j => if j < 315 then mI h 58 (j + 21) else mI h 58 j)) 55 19 (nI 15)) ((S.row 58 _).wI 55 19 _) (n := 15) (by decide) (by rw [mI_wI_at, pk_us])
    simp (disch := omega) only [ob, nI_lit, nI_add, pk_mul, nI_eq, nI_ltI, nI_leI, if_true, if_false, if_pos, if_neg, ck_of (tS_55 S), gI_of (tS_55 S), hac2, q, gI_of (tS_55 (S.row 58 _)), pI_of (tS_55 (S.row 58 _)), e55, pk_sub, Nat.reduceSub]
    rw [k]
    congr 1
    have e57 : ∀ f v, mI (wI (rowI h 58 f) 55 19 v) 57 = mI h 57 := fun f v => by
      rw [mI_wI_ne _ 19 v (by decide), mI_row_ne h f (by decide)]
    have e58 : ∀ f v, mI (wI (rowI h 58 f) 55 19 v) 58 = f := fun f v => by
      rw [mI_wI_ne _ 19 v (by decide), mI_row]
    rw [e57, e58]
    have ee : ∀ (f g : Nat → Int32) (u v : Int32), wI (rowI (wI (rowI h 58 f) 55 19 u) 58 g) 55 19 v = wI (rowI h 58 g) 55 19 v := by
      intro f g u v
      unfold wI rowI
      congr 1
      funext y
      rcases Decidable.em (y = 55) with q | q
      · subst q
        simp only [if_true, mI]
        funext j
        simp [upd]
        split <;> rfl
      · simp only [q, if_false, mI]
        rcases Decidable.em (y = 58) with q2 | q2
        · simp [q2]
        · simp [q, q2]
    rw [ee]
    rw [e]
    congr 1
    congr 1
    funext j
    simp only [if_true, Nat.reduceMul, Nat.reduceAdd]
    rcases Nat.lt_or_ge j 315 with q1 | q1
    · rw [if_neg (by omega), if_pos q1, if_pos q1]
    · rcases Nat.lt_or_ge j 336 with q2 | q2
      · rw [if_pos ⟨q1, q2⟩, if_neg (by omega), if_pos q2]
      · rw [if_neg (by omega), if_neg (by omega), if_neg (by omega), if_neg (by omega)]
  · have hac2 := M.ac
    have k := m_rem49 S (n := a 2 0 3) (by omega) hac2
    rw [Nat.min_eq_left (by omega)]
    simp (disch := omega) only [ob, nI_lit, nI_add, pk_mul, nI_eq, nI_ltI, nI_leI, if_true, if_false, if_pos, if_neg, ck_of (tS_55 S), gI_of (tS_55 S), hac2, k]
