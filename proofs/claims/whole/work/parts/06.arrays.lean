section AWA
variable {G : GE} {X : CX} {cc : ByteArray} {own : String} {pc : Nat} {lv : List (Nat × AV)} {st : List AV} {h : Mem} {ce sl : Nat}
theorem RelM.row {h' : Mem} {H H' : Heap} {a : Nat} (hR : RelM G h H) (e2 : H'.size = H.size) (e3 : ∀ q : Nat, q ≠ gB G + a → H'[q]? = H[q]?) (hn : mN h' = mN h) (hT : mT h' = mT h) (hI : ∀ b, b ≠ a → mI h' b = mI h b) (hL : ∀ b, b ≠ a → mL h' b = mL h b) (hRR : ∀ b, b ≠ a → mR h' b = mR h b) (hat : cellOK G h' a H') : RelM G h' H' := by
  refine ⟨by rw [e2, hn]; exact hR.1, by rw [hn]; exact hR.2.1, by rw [hT]; exact hR.2.2.1, fun b => ?_⟩
  by_cases hb : b = a
  · rw [hb]; exact hat
  · exact (hR.2.2.2 b).kept (by rw [hT]) (hI b hb) (hL b hb) (hRR b hb) (fun _ => e3 _ (by omega)) hR.2.2.1
theorem nz {H : Heap} (hR : RelM G h H) {a k : Nat} (ha : (mT h a).1 = k) (hk : k ≠ 99) : a ≠ 0 := by
  intro e
  rw [e, hR.2.2.1] at ha
  exact hk ha.symm
theorem aw_aI (hX : Ok G X cc own) {a : Nat} {i : Int32} {α : Type} {f : Int32 → Option α} {P : α → Prop} (hy : OK ((aI h a i).bind f) P) (d : decode cc pc = .ok (.iaload, 1)) (kk : ∀ v, OK (f v) P → AW G X (pc + 1) lv (vI v :: st) h ce sl) : AW G X pc lv (vI i :: vR a :: st) h ce sl := by
  obtain ⟨v, e, hy⟩ := hy.b
  unfold aI at e
  split at e
  · rename_i hc
    cases e
    intro H locs ls hR hS hl
    show W _ _ _ _ _ _ _ _ _ _ _ _ _ _ _ (F0 _ pc ls (.int i :: rv G a :: st.map (tv G)))
    rw [rv_pos G (nz hR hc.1 (by omega))]
    exact va_iald (D := gD G) (cl := vwCl) (tys := gtys G) (ws := [(gB G + a, .inl (gi G, (mT h a).2, .inl (mI h a)))]) hX.1 hX.2.1 hX.2.2.2.2.2.1.1 (fun j q hj => by
      have hz : j < 1 := (List.getElem?_eq_some_iff.mp hj).1
      rw [show j = 0 by omega] at hj
      cases hj
      exact (hR.2.2.2 a).2.1 hc.1) 0 0 rfl rfl (vp_in_iff.mpr hc.2) d (kk _ hy H locs ls hR hS hl)
  · cases e
theorem aw_aB (hX : Ok G X cc own) {a : Nat} {i : Int32} {α : Type} {f : Int32 → Option α} {P : α → Prop} (hy : OK ((aB h a i).bind f) P) (d : decode cc pc = .ok (.baload, 1)) (kk : ∀ v, OK (f v) P → AW G X (pc + 1) lv (vI v :: st) h ce sl) : AW G X pc lv (vI i :: vR a :: st) h ce sl := by
  obtain ⟨v, e, hy⟩ := hy.b
  unfold aB at e
  split at e
  · rename_i hc
    cases e
    intro H locs ls hR hS hl
    show W _ _ _ _ _ _ _ _ _ _ _ _ _ _ _ (F0 _ pc ls (.int i :: rv G a :: st.map (tv G)))
    rw [rv_pos G (nz hR hc.1 (by omega))]
    exact va_bald (D := gD G) (cl := vwCl) (tys := gtys G) (ws := [(gB G + a, .inl (gb G, (mT h a).2, .inl (mI h a)))]) hX.1 hX.2.1 hX.2.2.2.2.2.1.1 (fun j q hj => by
      have hz : j < 1 := (List.getElem?_eq_some_iff.mp hj).1
      rw [show j = 0 by omega] at hj
      cases hj
      exact (hR.2.2.2 a).2.2.2 hc.1) 0 2 rfl rfl (vp_in_iff.mpr hc.2) d (kk _ hy H locs ls hR hS hl)
  · cases e
theorem aw_aL (hX : Ok G X cc own) {a : Nat} {i : Int32} {α : Type} {f : Int64 → Option α} {P : α → Prop} (hy : OK ((aL h a i).bind f) P) (d : decode cc pc = .ok (.laload, 1)) (kk : ∀ v, OK (f v) P → AW G X (pc + 1) lv (vL v :: st) h ce sl) : AW G X pc lv (vI i :: vR a :: st) h ce sl := by
  obtain ⟨v, e, hy⟩ := hy.b
  unfold aL at e
  split at e
  · rename_i hc
    cases e
    intro H locs ls hR hS hl
    show W _ _ _ _ _ _ _ _ _ _ _ _ _ _ _ (F0 _ pc ls (.int i :: rv G a :: st.map (tv G)))
    rw [rv_pos G (nz hR hc.1 (by omega))]
    exact va_lald (D := gD G) (cl := vwCl) (tys := gtys G) (ws := [(gB G + a, .inl (gl G, (mT h a).2, .inr (.inl (mL h a))))]) hX.1 hX.2.1 hX.2.2.2.2.2.1.1 (fun j q hj => by
      have hz : j < 1 := (List.getElem?_eq_some_iff.mp hj).1
      rw [show j = 0 by omega] at hj
      cases hj
      exact (hR.2.2.2 a).2.2.1 hc.1) 0 1 rfl rfl (vp_in_iff.mpr hc.2) d (kk _ hy H locs ls hR hS hl)
  · cases e
theorem aw_aLen (hX : Ok G X cc own) {a : Nat} {α : Type} {f : Int32 → Option α} {P : α → Prop} (hy : OK ((aLen h a).bind f) P) (d : decode cc pc = .ok (.arraylength, 1)) (kk : ∀ v, OK (f v) P → AW G X (pc + 1) lv (vI v :: st) h ce sl) : AW G X pc lv (vR a :: st) h ce sl := by
  obtain ⟨v, e, hy⟩ := hy.b
  unfold aLen at e
  split at e
  · rename_i hc
    cases e
    intro H locs ls hR hS hl
    have ha0 : a ≠ 0 := by rcases hc with hc | hc | hc <;> exact nz hR hc (by omega)
    show W _ _ _ _ _ _ _ _ _ _ _ _ _ _ _ (F0 _ pc ls (rv G a :: st.map (tv G)))
    rw [rv_pos G ha0]
    rcases hc with hc | hc | hc
    · exact va_alen (D := gD G) (cl := vwCl) (tys := gtys G) (ws := [(gB G + a, .inl (gi G, (mT h a).2, .inl (mI h a)))]) hX.1 hX.2.1 hX.2.2.2.2.2.1.1 (fun j q hj => by
        have hz : j < 1 := (List.getElem?_eq_some_iff.mp hj).1
        rw [show j = 0 by omega] at hj
        cases hj
        exact (hR.2.2.2 a).2.1 hc) 0 0 rfl rfl rfl d (kk _ hy H locs ls hR hS hl)
    · exact va_alen (D := gD G) (cl := vwCl) (tys := gtys G) (ws := [(gB G + a, .inl (gl G, (mT h a).2, .inr (.inl (mL h a))))]) hX.1 hX.2.1 hX.2.2.2.2.2.1.1 (fun j q hj => by
        have hz : j < 1 := (List.getElem?_eq_some_iff.mp hj).1
        rw [show j = 0 by omega] at hj
        cases hj
        exact (hR.2.2.2 a).2.2.1 hc) 0 1 rfl rfl rfl d (kk _ hy H locs ls hR hS hl)
    · exact va_alen (D := gD G) (cl := vwCl) (tys := gtys G) (ws := [(gB G + a, .inl (gb G, (mT h a).2, .inl (mI h a)))]) hX.1 hX.2.1 hX.2.2.2.2.2.1.1 (fun j q hj => by
        have hz : j < 1 := (List.getElem?_eq_some_iff.mp hj).1
        rw [show j = 0 by omega] at hj
        cases hj
        exact (hR.2.2.2 a).2.2.2 hc) 0 2 rfl rfl rfl d (kk _ hy H locs ls hR hS hl)
  · cases e
theorem aw_sI (hX : Ok G X cc own) {a : Nat} {i x : Int32} {α : Type} {f : Mem → Option α} {P : α → Prop} (hy : OK ((sI h a i x).bind f) P) (d : decode cc pc = .ok (.iastore, 1)) (kk : ∀ h', OK (f h') P → AW G X (pc + 1) lv st h' ce sl) : AW G X pc lv (vI x :: vI i :: vR a :: st) h ce sl := by
  obtain ⟨v, e, hy⟩ := hy.b
  unfold sI at e
  split at e
  · rename_i hc
    cases e
    intro H locs ls hR hS hl
    have ha0 := nz hR hc.1 (by omega)
    have hgA : gA G (gB G + a) := by show G.1 < G.1 + a; omega
    show W _ _ _ _ _ _ _ _ _ _ _ _ _ _ _ (F0 _ pc ls (.int x :: .int i :: rv G a :: st.map (tv G)))
    rw [rv_pos G ha0]
    refine W.iast hX.1 hX.2.1 ((hR.2.2.2 a).2.1 hc.1) ((hX.2.2.2.2.2.1.1.2 0 (gi G, .int) rfl).1 _ (fun j => .int (mI h a j))) (fun q => by cases q) (by show ¬ (i < 0 ∨ (arrV _ _ _).slots.size ≤ _); rw [arrV_size]; exact vp_in_iff.mpr hc.2) rfl rfl d fun H1 e z oq => ?_
    refine kk _ hy H1 _ ls (hR.row (a := a) z oq rfl rfl (fun b hb => mI_row_ne h _ hb) (fun _ _ => rfl) (fun _ _ => rfl) ⟨fun q => ?_, fun _ => ?_, fun q => ?_, fun q => ?_⟩) (hS.putA z oq hgA) hl
    · exact absurd (show (mT h a).1 < 12 from q) (by rw [hc.1]; omega)
    · rw [e]
      show _ = some (vp_cell (gi G) ((mT h a).2, .inl (mI (rowI h a (upd (mI h a) i.toNatClampNeg x)) a)))
      rw [mI_row, vp_cell_i, vp_cell_i, arrV_store]
      congr 2
      funext q
      by_cases hq : q = i.toNatClampNeg
      · subst hq
        simp [updV, upd]
      · simp [updV, upd, hq]
    · exact absurd (show (mT h a).1 = 101 from q) (by rw [hc.1]; omega)
    · exact absurd (show (mT h a).1 = 102 from q) (by rw [hc.1]; omega)
  · cases e
theorem aw_sB (hX : Ok G X cc own) {a : Nat} {i x : Int32} {α : Type} {f : Mem → Option α} {P : α → Prop} (hy : OK ((sB h a i x).bind f) P) (d : decode cc pc = .ok (.bastore, 1)) (kk : ∀ h', OK (f h') P → AW G X (pc + 1) lv st h' ce sl) : AW G X pc lv (vI x :: vI i :: vR a :: st) h ce sl := by
  obtain ⟨v, e, hy⟩ := hy.b
  unfold sB at e
  split at e
  · rename_i hc
    cases e
    intro H locs ls hR hS hl
    have ha0 := nz hR hc.1 (by omega)
    have hgA : gA G (gB G + a) := by show G.1 < G.1 + a; omega
    show W _ _ _ _ _ _ _ _ _ _ _ _ _ _ _ (F0 _ pc ls (.int x :: .int i :: rv G a :: st.map (tv G)))
    rw [rv_pos G ha0]
    refine W.bast hX.1 hX.2.1 ((hR.2.2.2 a).2.2.2 hc.1) ((hX.2.2.2.2.2.1.1.2 2 (gb G, .byte) rfl).1 _ (fun j => .int (mI h a j))) (fun q => by cases q) (by show ¬ (i < 0 ∨ (arrV _ _ _).slots.size ≤ _); rw [arrV_size]; exact vp_in_iff.mpr hc.2) rfl rfl d fun H1 e z oq => ?_
    refine kk _ hy H1 _ ls (hR.row (a := a) z oq rfl rfl (fun b hb => mI_row_ne h _ hb) (fun _ _ => rfl) (fun _ _ => rfl) ⟨fun q => ?_, fun q => ?_, fun q => ?_, fun _ => ?_⟩) (hS.putA z oq hgA) hl
    · exact absurd (show (mT h a).1 < 12 from q) (by rw [hc.1]; omega)
    · exact absurd (show (mT h a).1 = 100 from q) (by rw [hc.1]; omega)
    · exact absurd (show (mT h a).1 = 101 from q) (by rw [hc.1]; omega)
    · rw [e]
      show _ = some (vp_cell (gb G) ((mT h a).2, .inl (mI (rowI h a (upd (mI h a) i.toNatClampNeg (vp_nar .byte x))) a)))
      rw [mI_row, vp_cell_i, vp_cell_i, arrV_store]
      congr 2
      funext q
      by_cases hq : q = i.toNatClampNeg
      · subst hq
        simp [updV, upd, vp_nar]
        try rfl
      · simp [updV, upd, hq]
  · cases e
theorem aw_sL (hX : Ok G X cc own) {a : Nat} {i : Int32} {x : Int64} {α : Type} {f : Mem → Option α} {P : α → Prop} (hy : OK ((sL h a i x).bind f) P) (d : decode cc pc = .ok (.lastore, 1)) (kk : ∀ h', OK (f h') P → AW G X (pc + 1) lv st h' ce sl) : AW G X pc lv (vL x :: vI i :: vR a :: st) h ce sl := by
  obtain ⟨v, e, hy⟩ := hy.b
  unfold sL at e
  split at e
  · rename_i hc
    cases e
    intro H locs ls hR hS hl
    have ha0 := nz hR hc.1 (by omega)
    have hgA : gA G (gB G + a) := by show G.1 < G.1 + a; omega
    show W _ _ _ _ _ _ _ _ _ _ _ _ _ _ _ (F0 _ pc ls (.long x :: .int i :: rv G a :: st.map (tv G)))
    rw [rv_pos G ha0]
    refine W.last hX.1 hX.2.1 ((hR.2.2.2 a).2.2.1 hc.1) ((hX.2.2.2.2.2.1.1.2 1 (gl G, .long) rfl).1 _ (fun j => .long (mL h a j))) (fun q => by cases q) (by show ¬ (i < 0 ∨ (arrV _ _ _).slots.size ≤ _); rw [arrV_size]; exact vp_in_iff.mpr hc.2) rfl rfl d fun H1 e z oq => ?_
    refine kk _ hy H1 _ ls (hR.row (a := a) z oq rfl rfl (fun _ _ => rfl) (fun b hb => mL_row_ne h _ hb) (fun _ _ => rfl) ⟨fun q => ?_, fun q => ?_, fun _ => ?_, fun q => ?_⟩) (hS.putA z oq hgA) hl
    · exact absurd (show (mT h a).1 < 12 from q) (by rw [hc.1]; omega)
    · exact absurd (show (mT h a).1 = 100 from q) (by rw [hc.1]; omega)
    · rw [e]
      show _ = some (vp_cell (gl G) ((mT h a).2, .inr (.inl (mL (rowL h a (vp_updL (mL h a) i.toNatClampNeg x)) a))))
      rw [mL_row, vp_cell_l, vp_cell_l, arrV_store]
      congr 2
      funext q
      by_cases hq : q = i.toNatClampNeg
      · subst hq
        simp [updV, vp_updL]
      · simp [updV, vp_updL, hq]
    · exact absurd (show (mT h a).1 = 102 from q) (by rw [hc.1]; omega)
  · cases e
/-! making -/
theorem va_S.newA {A : Nat → Prop} {H0 H H1 : Heap} {locs : List Loc} (hS : va_S A H0 H locs) (z : H1.size = H.size + 1) (o : ∀ q : Nat, q < H.size → H1[q]? = H[q]?) : va_S A H0 H1 locs :=
  ⟨Nat.le_trans hS.1 (by omega), fun x h1 h2 => (o x (Nat.lt_of_lt_of_le h1 hS.1)).trans (hS.2.1 x h1 h2), hS.2.2⟩
theorem mT_new (h : Mem) (kd len : Nat) : mT (mNew h kd len) (mN h) = (kd, len) := if_pos rfl
theorem mI_new (h : Mem) (kd len : Nat) : mI (mNew h kd len) (mN h) = fun _ => 0 := if_pos rfl
theorem mL_new (h : Mem) (kd len : Nat) : mL (mNew h kd len) (mN h) = fun _ => 0 := if_pos rfl
theorem mR_new (h : Mem) (kd len : Nat) : mR (mNew h kd len) (mN h) = fun _ => 0 := if_pos rfl
theorem RelM.new {H H' : Heap} {kd len : Nat} (hR : RelM G h H) (z : H'.size = H.size + 1) (o : ∀ q : Nat, q < H.size → H'[q]? = H[q]?) (hat : cellOK G (mNew h kd len) (mN h) H') : RelM G (mNew h kd len) H' := by
  have h0 : (0 : Nat) ≠ mN h := by have := hR.2.1; omega
  refine ⟨by show H'.size = gB G + (mN h + 1); rw [z, hR.1]; omega, by show 1 ≤ mN h + 1; omega, by show (if 0 = mN h then _ else mT h 0).1 = 99; rw [if_neg h0]; exact hR.2.2.1, fun b => ?_⟩
  by_cases hb : b = mN h
  · rw [hb]; exact hat
  · have e0 : mT (mNew h kd len) b = mT h b := if_neg hb
    have e1 : mI (mNew h kd len) b = mI h b := if_neg hb
    have e2 : mL (mNew h kd len) b = mL h b := if_neg hb
    have e3 : mR (mNew h kd len) b = mR h b := if_neg hb
    obtain ⟨k1, k2, k3, k4⟩ := hR.2.2.2 b
    unfold cellOK
    rw [e0, e1, e2]
    refine ⟨fun q => ?_, fun q => ?_, fun q => ?_, fun q => ?_⟩
    · rw [flds_ne G _ e1 e2 e3]
      exact (k1 q).kept (o _ (k1 q).lt)
    · rw [o _ (Array.getElem?_eq_some_iff.mp (k2 q)).1]; exact k2 q
    · rw [o _ (Array.getElem?_eq_some_iff.mp (k3 q)).1]; exact k3 q
    · rw [o _ (Array.getElem?_eq_some_iff.mp (k4 q)).1]; exact k4 q
def nfl (t : FieldType) : Bool := match t with
  | .float => false
  | .double => false
  | _ => true
theorem nf_at : ∀ c, c < 12 → ∀ k, k < cN c → nfl (cY c k) = true := c12 (by decide +kernel) (by decide +kernel) (by decide +kernel) (by decide +kernel) (by decide +kernel) (by decide +kernel) (by decide +kernel) (by decide +kernel) (by decide +kernel) (by decide +kernel) (by decide +kernel) (by decide +kernel)
theorem rv_new (G : GE) {a : Nat} (h : 1 ≤ a) : rv G a = .ref (gB G + a) := rv_pos G (by omega)
theorem aw_new (hX : Ok G X cc own) {idx ci : Nat} (hc : ci < 12) (hw : Cond.classLink own idx (cR ci) ∈ TT) (hw2 : Cond.instantiable (cR ci) (cN ci) ∈ TT) (hw3 : Cond.initialized (cR ci) ∈ TT) (h1 : ce + 1 ≤ (xr X).cells) (h2 : sl + cN ci ≤ (xr X).slots) (d : decode cc pc = .ok (.new idx, 3)) (kk : AW G X (pc + 3) lv (vR (mN h) :: st) (mNew h ci 0) (ce + 1) (sl + cN ci)) : AW G X pc lv st h ce sl := by
  intro H locs ls hR hS hl
  have hts := hX.2.2.2.2.1
  have hK := hX.2.2.2.2.2.1.1
  have hcl := cl_at ci hc
  have hKn := hK.1 ci _ hcl
  have kq := kk
  refine W.newcK hX.1 hX.2.1 hX.2.2.2.1 (hts _ hw) (hts _ hw2) (hts _ hw3) rfl d h1 h2 hKn.2.1 hR.1 fun H1 kC hkC e1 z1 o1 => ?_
  have hat : cellOK G (mNew h ci 0) (mN h) H1 := by
    unfold cellOK
    rw [mT_new]
    refine ⟨fun _ => ?_, fun q => ?_, fun q => ?_, fun q => ?_⟩
    · refine ⟨_, hcl, (u_born (cY ci) hts (uw_at ci hc) hKn hkC e1 (ty_at ci hc)).to (fun j hj => ?_)⟩
      show _ = vp_V (flds G (mNew h ci 0) (mN h) ci) j
      rw [vp_V, List.getD_eq_getElem?_getD, flds_at G _ _ _ hj]
      unfold fval
      rw [mI_new, mL_new, mR_new]
      have hnf := nf_at ci hc j hj
      generalize cY ci j = t at hnf ⊢
      cases t <;> first | rfl | cases hnf
    all_goals (have q' : ci = _ := q; omega)
  have := kq H1 locs ls (hR.new (by rw [hR.1]; exact z1) (by rw [hR.1]; exact o1) hat) (hS.newA (by rw [hR.1]; exact z1) (by rw [hR.1]; exact o1)) hl
  have e : (vR (mN h) :: st).map (tv G) = .ref (gB G + mN h) :: st.map (tv G) := by
    show rv G (mN h) :: _ = _
    rw [rv_new G hR.2.1]
  rw [e] at this
  exact this
def nAr (h : Mem) (kd : Nat) (n : Int32) : Option Mem := if 0 ≤ n.toInt ∧ n.toInt ≤ 4000 then some (mNew h kd n.toNatClampNeg) else none
theorem aw_newi (hX : Ok G X cc own) (n : Int32) (N : Nat) (hn : ¬ n < 0) (hN : n.toNatClampNeg = N) (hb : N ≤ 4000) (hw : Cond.arrayClass .int ∈ TT) (h1 : ce + 1 ≤ (xr X).cells) (h2 : sl + N ≤ (xr X).slots) (d : decode cc pc = .ok (.newarray .int, 2)) (kk : AW G X (pc + 2) lv (vR (mN h) :: st) (mNew h 100 N) (ce + 1) (sl + N)) : AW G X pc lv (vI n :: st) h ce sl := by
  intro H locs ls hR hS hl
  have hts := hX.2.2.2.2.1
  refine va_newaK (atype := .int) hX.1 hX.2.1 (hts _ hw) rfl d rfl hn hN (by show N * 4 ≤ _; omega) h1 h2 hR.1 fun H1 cA e1 z1 o1 _ hNm => ?_
  have hcA : cA = gi G := by
    have := (hX.2.2.2.2.2.1.1.2 0 (gi G, .int) rfl).2
    exact Option.some.inj (hNm.symm.trans this)
  subst hcA
  have hat : cellOK G (mNew h 100 N) (mN h) H1 := by
    unfold cellOK
    rw [mT_new, mI_new]
    refine ⟨fun q => ?_, fun _ => e1, fun q => ?_, fun q => ?_⟩
    · exact absurd (show (100 : Nat) < 12 from q) (by omega)
    · exact absurd (show (100 : Nat) = 101 from q) (by omega)
    · exact absurd (show (100 : Nat) = 102 from q) (by omega)
  have := kk H1 locs ls (hR.new (by rw [hR.1]; exact z1) (by rw [hR.1]; exact o1) hat) (hS.newA (by rw [hR.1]; exact z1) (by rw [hR.1]; exact o1)) hl
  have e : (vR (mN h) :: st).map (tv G) = .ref (gB G + mN h) :: st.map (tv G) := by
    show rv G (mN h) :: _ = _
    rw [rv_new G hR.2.1]
  rw [e] at this
  exact this
theorem aw_newl (hX : Ok G X cc own) (n : Int32) (N : Nat) (hn : ¬ n < 0) (hN : n.toNatClampNeg = N) (hb : N ≤ 4000) (hw : Cond.arrayClass .long ∈ TT) (h1 : ce + 1 ≤ (xr X).cells) (h2 : sl + N ≤ (xr X).slots) (d : decode cc pc = .ok (.newarray .long, 2)) (kk : AW G X (pc + 2) lv (vR (mN h) :: st) (mNew h 101 N) (ce + 1) (sl + N)) : AW G X pc lv (vI n :: st) h ce sl := by
  intro H locs ls hR hS hl
  have hts := hX.2.2.2.2.1
  refine va_newaK (atype := .long) hX.1 hX.2.1 (hts _ hw) rfl d rfl hn hN (by show N * 8 ≤ _; omega) h1 h2 hR.1 fun H1 cA e1 z1 o1 _ hNm => ?_
  have hcA : cA = gl G := by
    have := (hX.2.2.2.2.2.1.1.2 1 (gl G, .long) rfl).2
    exact Option.some.inj (hNm.symm.trans this)
  subst hcA
  have hat : cellOK G (mNew h 101 N) (mN h) H1 := by
    unfold cellOK
    rw [mT_new, mL_new]
    refine ⟨fun q => ?_, fun q => ?_, fun _ => e1, fun q => ?_⟩
    · exact absurd (show (101 : Nat) < 12 from q) (by omega)
    · exact absurd (show (101 : Nat) = 100 from q) (by omega)
    · exact absurd (show (101 : Nat) = 102 from q) (by omega)
  have := kk H1 locs ls (hR.new (by rw [hR.1]; exact z1) (by rw [hR.1]; exact o1) hat) (hS.newA (by rw [hR.1]; exact z1) (by rw [hR.1]; exact o1)) hl
  have e : (vR (mN h) :: st).map (tv G) = .ref (gB G + mN h) :: st.map (tv G) := by
    show rv G (mN h) :: _ = _
    rw [rv_new G hR.2.1]
  rw [e] at this
  exact this
theorem aw_newb (hX : Ok G X cc own) (n : Int32) (N : Nat) (hn : ¬ n < 0) (hN : n.toNatClampNeg = N) (hb : N ≤ 4000) (hw : Cond.arrayClass .byte ∈ TT) (h1 : ce + 1 ≤ (xr X).cells) (h2 : sl + N ≤ (xr X).slots) (d : decode cc pc = .ok (.newarray .byte, 2)) (kk : AW G X (pc + 2) lv (vR (mN h) :: st) (mNew h 102 N) (ce + 1) (sl + N)) : AW G X pc lv (vI n :: st) h ce sl := by
  intro H locs ls hR hS hl
  have hts := hX.2.2.2.2.1
  refine va_newaK (atype := .byte) hX.1 hX.2.1 (hts _ hw) rfl d rfl hn hN (by show N * 1 ≤ _; omega) h1 h2 hR.1 fun H1 cA e1 z1 o1 _ hNm => ?_
  have hcA : cA = gb G := by
    have := (hX.2.2.2.2.2.1.1.2 2 (gb G, .byte) rfl).2
    exact Option.some.inj (hNm.symm.trans this)
  subst hcA
  have hat : cellOK G (mNew h 102 N) (mN h) H1 := by
    unfold cellOK
    rw [mT_new, mI_new]
    refine ⟨fun q => ?_, fun q => ?_, fun q => ?_, fun _ => e1⟩
    · exact absurd (show (102 : Nat) < 12 from q) (by omega)
    · exact absurd (show (102 : Nat) = 100 from q) (by omega)
    · exact absurd (show (102 : Nat) = 101 from q) (by omega)
  have := kk H1 locs ls (hR.new (by rw [hR.1]; exact z1) (by rw [hR.1]; exact o1) hat) (hS.newA (by rw [hR.1]; exact z1) (by rw [hR.1]; exact o1)) hl
  have e : (vR (mN h) :: st).map (tv G) = .ref (gB G + mN h) :: st.map (tv G) := by
    show rv G (mN h) :: _ = _
    rw [rv_new G hR.2.1]
  rw [e] at this
  exact this
end AWA
