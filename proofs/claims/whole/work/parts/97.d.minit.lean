/-! ===== a new Pike ===== -/
def PT : Nat → Nat × Nat := fun j => [(100, 6), (100, 48), (100, 49), (100, 49), (100, 49), (100, 10), (100, 10), (100, 6), (100, 6), (100, 6), (100, 6), (100, 4), (100, 4), (100, 4), (100, 5), (101, 17), (100, 17), (100, 17)].getD j (99, 0)
def NP (h0 : Mem) (p : Nat) (k : Nat) (q : Mem) : Prop := (mN q = p + 1 + k) ∧ (∀ x, x < p → mT q x = mT h0 x ∧ mI q x = mI h0 x ∧ mL q x = mL h0 x ∧ mR q x = mR h0 x) ∧ (mT q p = (10, 0)) ∧ (∀ j, mI q p j = if j = 0 then -nI 1 else nI 0) ∧ (∀ j, j < k → mR q p (10 + j) = p + (j + 1) ∧ mT q (p + (j + 1)) = PT j ∧ mI q (p + (j + 1)) = (fun _ => nI 0) ∧ mL q (p + (j + 1)) = (fun _ => 0))
theorem NP.nx {h0 : Mem} {p : Nat} {k : Nat} {q : Mem} (H : NP h0 p k q) : mN q = p + 1 + k := H.1
theorem NP.fr {h0 : Mem} {p : Nat} {k : Nat} {q : Mem} (H : NP h0 p k q) : ∀ x, x < p → mT q x = mT h0 x ∧ mI q x = mI h0 x ∧ mL q x = mL h0 x ∧ mR q x = mR h0 x := H.2.1
theorem NP.tp {h0 : Mem} {p : Nat} {k : Nat} {q : Mem} (H : NP h0 p k q) : mT q p = (10, 0) := H.2.2.1
theorem NP.ip {h0 : Mem} {p : Nat} {k : Nat} {q : Mem} (H : NP h0 p k q) : ∀ j, mI q p j = if j = 0 then -nI 1 else nI 0 := H.2.2.2.1
theorem NP.ar {h0 : Mem} {p : Nat} {k : Nat} {q : Mem} (H : NP h0 p k q) : ∀ j, j < k → mR q p (10 + j) = p + (j + 1) ∧ mT q (p + (j + 1)) = PT j ∧ mI q (p + (j + 1)) = (fun _ => nI 0) ∧ mL q (p + (j + 1)) = (fun _ => 0) := H.2.2.2.2
theorem np_step {h0 q : Mem} {p k i kd len : Nat} (N : NP h0 p k q) (hi : i = 10 + k) (c : PT k = (kd, len)) : ∃ q', pR (mNew q kd len) p i 10 (mN q) = some q' ∧ NP h0 p (k + 1) q' := by
  subst hi
  have n0 := N.nx
  have e1 : mT (mNew q kd len) p = (10, 0) := by
    show (if p = mN q then _ else mT q p) = _
    rw [if_neg (by omega), N.tp]
  refine ⟨wR (mNew q kd len) p (10 + k) (mN q), pR_of e1, ?_⟩
  refine ⟨?_, fun x hx => ?_, e1, fun j => ?_, fun j hj => ?_⟩
  · show mN q + 1 = _
    omega
  · have hm : x ≠ mN q := by omega
    have hp : x ≠ p := by omega
    obtain ⟨a1, a2, a3, a4⟩ := N.fr x hx
    refine ⟨?_, ?_, ?_, ?_⟩
    · show (if x = mN q then _ else mT q x) = _
      rw [if_neg hm]; exact a1
    · show (if x = mN q then _ else mI q x) = _
      rw [if_neg hm]; exact a2
    · show (if x = mN q then _ else mL q x) = _
      rw [if_neg hm]; exact a3
    · rw [mR_wR_ne _ _ _ hp]
      show (if x = mN q then _ else mR q x) = _
      rw [if_neg hm]; exact a4
  · show (if p = mN q then (fun _ => 0) else mI q p) j = _
    rw [if_neg (by omega)]
    exact N.ip j
  · rcases Decidable.em (j = k) with hk | hk
    · subst hk
      refine ⟨?_, ?_, ?_, ?_⟩
      · rw [mR_wR]; omega
      · show (if p + (j + 1) = mN q then (kd, len) else _) = _
        rw [if_pos (by omega), c]
      · show (if p + (j + 1) = mN q then (fun _ => 0) else _) = _
        rw [if_pos (by omega)]; rfl
      · show (if p + (j + 1) = mN q then (fun _ => 0) else _) = _
        rw [if_pos (by omega)]
    · obtain ⟨a1, a2, a3, a4⟩ := N.ar j (by omega)
      refine ⟨?_, ?_, ?_, ?_⟩
      · rw [mR_wR_at]
        show (if 10 + j = 10 + k then mN q else mR (mNew q kd len) p (10 + j)) = _
        rw [if_neg (by omega)]
        show (if p = mN q then (fun _ => 0) else mR q p) (10 + j) = _
        rw [if_neg (by omega)]; exact a1
      · show (if p + (j + 1) = mN q then _ else mT q (p + (j + 1))) = _
        rw [if_neg (by omega)]; exact a2
      · show (if p + (j + 1) = mN q then _ else mI q (p + (j + 1))) = _
        rw [if_neg (by omega)]; exact a3
      · show (if p + (j + 1) = mN q then _ else mL q (p + (j + 1))) = _
        rw [if_neg (by omega)]; exact a4
theorem NP.pk {h0 q : Mem} {p : Nat} (N : NP h0 p 18 q) : PK q p := ⟨N.tp, (N.ar 0 (by decide)).1, (N.ar 1 (by decide)).1, (N.ar 2 (by decide)).1, (N.ar 3 (by decide)).1, (N.ar 4 (by decide)).1, (N.ar 5 (by decide)).1, (N.ar 6 (by decide)).1, (N.ar 7 (by decide)).1, (N.ar 8 (by decide)).1, (N.ar 9 (by decide)).1, (N.ar 10 (by decide)).1, (N.ar 11 (by decide)).1, (N.ar 12 (by decide)).1, (N.ar 13 (by decide)).1, (N.ar 14 (by decide)).1, (N.ar 15 (by decide)).1, (N.ar 16 (by decide)).1, (N.ar 17 (by decide)).1, (N.ar 0 (by decide)).2.1, (N.ar 1 (by decide)).2.1, (N.ar 2 (by decide)).2.1, (N.ar 3 (by decide)).2.1, (N.ar 4 (by decide)).2.1, (N.ar 5 (by decide)).2.1, (N.ar 6 (by decide)).2.1, (N.ar 7 (by decide)).2.1, (N.ar 8 (by decide)).2.1, (N.ar 9 (by decide)).2.1, (N.ar 10 (by decide)).2.1, (N.ar 11 (by decide)).2.1, (N.ar 12 (by decide)).2.1, (N.ar 13 (by decide)).2.1, (N.ar 14 (by decide)).2.1, (N.ar 15 (by decide)).2.1, (N.ar 16 (by decide)).2.1, (N.ar 17 (by decide)).2.1⟩
def NI (h : Mem) (q : Mem) : Prop := (mN q = mN h + 19) ∧ (∀ x, x < mN h → mT q x = mT h x ∧ mI q x = mI h x ∧ mL q x = mL h x ∧ mR q x = mR h x) ∧ (MB q (mN h) Z0 Z0) ∧ (MN q (mN h) Z0)
theorem NI.nx {h : Mem} {q : Mem} (H : NI h q) : mN q = mN h + 19 := H.1
theorem NI.fr {h : Mem} {q : Mem} (H : NI h q) : ∀ x, x < mN h → mT q x = mT h x ∧ mI q x = mI h x ∧ mL q x = mL h x ∧ mR q x = mR h x := H.2.1
theorem NI.bo {h : Mem} {q : Mem} (H : NI h q) : MB q (mN h) Z0 Z0 := H.2.2.1
theorem NI.nm {h : Mem} {q : Mem} (H : NI h q) : MN q (mN h) Z0 := H.2.2.2
theorem m_init (h : Mem) : OK (f_X12_init (mNew h 10 0) (mN h)) (fun q => NI h q) := by
  obtain ⟨p, ep⟩ : ∃ p, mN h = p := ⟨_, rfl⟩
  have t0 : mT (mNew h 10 0) p = (10, 0) := by rw [← ep]; exact mT_new h 10 0
  obtain ⟨q0, eq0⟩ : ∃ q0, wI (mNew h 10 0) p 0 (-1) = q0 := ⟨_, rfl⟩
  have N0 : NP h p 0 q0 := by
    subst eq0
    refine ⟨?_, fun x hx => ?_, t0, fun j => ?_, fun j hj => by omega⟩
    · show mN h + 1 = _
      omega
    · have hm : x ≠ mN h := by omega
      have hp : x ≠ p := by omega
      refine ⟨?_, ?_, ?_, ?_⟩
      · show (if x = mN h then _ else mT h x) = _
        rw [if_neg hm]
      · rw [mI_wI_ne _ _ _ hp]
        show (if x = mN h then _ else mI h x) = _
        rw [if_neg hm]
      · show (if x = mN h then _ else mL h x) = _
        rw [if_neg hm]
      · show (if x = mN h then _ else mR h x) = _
        rw [if_neg hm]
    · rw [mI_wI_at]
      show (if j = 0 then -nI 1 else mI (mNew h 10 0) p j) = _
      split
      · rfl
      · show (if p = mN h then (fun _ => 0) else mI h p) j = _
        rw [if_pos ep.symm]; rfl
  obtain ⟨q1, e1, N1⟩ := np_step N0 (i := 10) rfl (kd := 100) (len := 6) rfl
  obtain ⟨q2, e2, N2⟩ := np_step N1 (i := 11) rfl (kd := 100) (len := 48) rfl
  obtain ⟨q3, e3, N3⟩ := np_step N2 (i := 12) rfl (kd := 100) (len := 49) rfl
  obtain ⟨q4, e4, N4⟩ := np_step N3 (i := 13) rfl (kd := 100) (len := 49) rfl
  obtain ⟨q5, e5, N5⟩ := np_step N4 (i := 14) rfl (kd := 100) (len := 49) rfl
  obtain ⟨q6, e6, N6⟩ := np_step N5 (i := 15) rfl (kd := 100) (len := 10) rfl
  obtain ⟨q7, e7, N7⟩ := np_step N6 (i := 16) rfl (kd := 100) (len := 10) rfl
  obtain ⟨q8, e8, N8⟩ := np_step N7 (i := 17) rfl (kd := 100) (len := 6) rfl
  obtain ⟨q9, e9, N9⟩ := np_step N8 (i := 18) rfl (kd := 100) (len := 6) rfl
  obtain ⟨q10, e10, N10⟩ := np_step N9 (i := 19) rfl (kd := 100) (len := 6) rfl
  obtain ⟨q11, e11, N11⟩ := np_step N10 (i := 20) rfl (kd := 100) (len := 6) rfl
  obtain ⟨q12, e12, N12⟩ := np_step N11 (i := 21) rfl (kd := 100) (len := 4) rfl
  obtain ⟨q13, e13, N13⟩ := np_step N12 (i := 22) rfl (kd := 100) (len := 4) rfl
  obtain ⟨q14, e14, N14⟩ := np_step N13 (i := 23) rfl (kd := 100) (len := 4) rfl
  obtain ⟨q15, e15, N15⟩ := np_step N14 (i := 24) rfl (kd := 100) (len := 5) rfl
  obtain ⟨q16, e16, N16⟩ := np_step N15 (i := 25) rfl (kd := 101) (len := 17) rfl
  obtain ⟨q17, e17, N17⟩ := np_step N16 (i := 26) rfl (kd := 100) (len := 17) rfl
  obtain ⟨q18, e18, N18⟩ := np_step N17 (i := 27) rfl (kd := 100) (len := 17) rfl
  have N := N18
  have er : ∀ f, mR (rowI q18 (p + 4) f) p 13 = p + 4 := fun f => (N.ar 3 (by decide)).1
  have et : ∀ f, mT (rowI q18 (p + 4) f) p = (10, 0) := fun f => N.tp
  have tk4 : ∀ f, mT (rowI q18 (p + 4) f) (p + 4) = (100, 49) := fun f => (N.ar 3 (by decide)).2.1
  obtain ⟨F, eF⟩ : ∃ F : Nat → Int32, (fun j => if 0 ≤ j ∧ j < 0 + 49 then -nI 2 else mI q18 (p + 4) j) = F := ⟨_, rfl⟩
  have ql : iter (fun (s : Int32 × Mem) => b_X12_init_151 s.2 p s.1) FU (nI 0, rowI q18 (p + 4) (mI q18 (p + 4))) = some (rowI q18 (p + 4) F) := by
    refine iter_fo (fun f i => (nI i, rowI q18 (p + 4) f)) (fun i f => upd f (0 + i) (-nI 2)) (mI q18 (p + 4)) 49 (FU_lt (by decide)) (fun i f hi => ?_) ?_
    · unfold b_X12_init_151
      simp (disch := omega) only [ob, nI_lit, nI_add, pk_mul, nI_eq, nI_ltI, nI_leI, if_true, if_false, if_pos, if_neg, gR_of (et f), er f, sI_of (tk4 f), rowI_wI, Nat.zero_add]
    · unfold b_X12_init_151
      simp (disch := omega) only [ob, nI_lit, nI_add, pk_mul, nI_eq, nI_ltI, nI_leI, if_true, if_false, if_pos, if_neg]
      rw [fo_upd 0 (fun _ => -nI 2), eF]
  rw [rowI_id] at ql
  unfold f_X12_init
  rw [ep]
  have ql2 : iter (fun (s : Int32 × Mem) => b_X12_init_151 s.2 p s.1) FU (0, q18) = some (rowI q18 (p + 4) F) := ql
  refine ⟨rowI q18 (p + 4) F, by rw [ck_of t0, obx, pI_of t0, obx, eq0, e1, obx, e2, obx, e3, obx, e4, obx, e5, obx, e6, obx, e7, obx, e8, obx, e9, obx, e10, obx, e11, obx, e12, obx, e13, obx, e14, obx, e15, obx, e16, obx, e17, obx, e18, obx, ql2, obx], ?_⟩
  show NI h (rowI q18 (p + 4) F)
  unfold NI
  rw [ep]
  have ne : ∀ x f, x ≠ p + 4 → mI (rowI q18 (p + 4) f) x = mI q18 x := fun x f hx => mI_row_ne _ _ hx
  have zq : ∀ a c, qm Z0 a c = 0 ∧ qk Z0 a c = 0 := fun a c => ⟨if_pos rfl, if_pos rfl⟩
  refine ⟨?_, fun x hx => ?_, ⟨N.pk, ?_, fun k h1 h9 => ?_, fun t ht => (Nat.not_lt_zero _ ht).elim, fun t i ht => (Nat.not_lt_zero _ ht).elim, fun a c ha hc => ?_, fun a c ha hc => ?_, fun a c ha hc hq => absurd (zq a c).2 hq, fun t ht => (Nat.not_lt_zero _ ht).elim, fun t ht => (Nat.not_lt_zero _ ht).elim, fun t ht => (Nat.not_lt_zero _ ht).elim, fun t ht => (Nat.not_lt_zero _ ht).elim, fun t ht => (Nat.not_lt_zero _ ht).elim, fun t ht => (Nat.not_lt_zero _ ht).elim, fun t ht => (Nat.not_lt_zero _ ht).elim, fun t ht => (Nat.not_lt_zero _ ht).elim, fun x hx => ?_, fun t ht => (Nat.not_lt_zero _ ht).elim⟩, ⟨?_, fun t ht => (Nat.not_lt_zero _ ht).elim, fun t ht => (Nat.not_lt_zero _ ht).elim, fun t ht => (Nat.not_lt_zero _ ht).elim⟩⟩
  · have := N.nx
    show mN q18 = _
    omega
  · obtain ⟨a1, a2, a3, a4⟩ := N.fr x hx
    exact ⟨a1, by rw [ne x _ (by omega)]; exact a2, a3, a4⟩
  · rw [ne p _ (by omega), N.ip 0]
  · rw [ne p _ (by omega), N.ip k, if_neg (by omega)]
  · rw [ne (p + 3) _ (by omega), (zq a c).1, (N.ar 2 (by decide)).2.2.1]
  · rw [mI_row, if_pos (zq a c).2, ← eF]
    exact if_pos (by omega)
  · rw [ne (p + 14) _ (by omega), (N.ar 13 (by decide)).2.2.1]
  · rw [ne p _ (by omega), N.ip 9]; rfl
