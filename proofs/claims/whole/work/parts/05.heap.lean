section AWH
variable {G : GE} {X : CX} {cc : ByteArray} {own : String} {pc : Nat} {lv : List (Nat × AV)} {st : List AV} {h : Mem} {ce sl : Nat}
/-- a field by its entry: the class's number, its place, the word -/
def FL (own : String) (idx ci k : Nat) : Prop := ci < 12 ∧ k < cN ci ∧ (Cond.fieldLink own idx (cT ci k).1 (cT ci k).2.1 (cT ci k).2.2.1 ∈ TT ∨ ∃ host, Cond.fieldLinkNest own idx (cT ci k).1 (cT ci k).2.1 (cT ci k).2.2.1 host ∈ NW)
theorem aw_get (hX : Ok G X cc own) {idx ci k a : Nat} (lk : FL own idx ci k) (ha : (mT h a).1 = ci) (v : AV) (hv : tv G v = fval G h a (cY ci k) k) (d : decode cc pc = .ok (.getfield idx, 3)) (kk : AW G X (pc + 3) lv (v :: st) h ce sl) : AW G X pc lv (vR a :: st) h ce sl := by
  intro H locs ls hR hS hl
  obtain ⟨hc, hk, hw⟩ := lk
  have ha0 : a ≠ 0 := by
    intro e
    rw [e, hR.2.2.1] at ha
    omega
  have hP : va_P (gD G) vwCl [(gB G + a, .inr (ci, flds G h a ci))] H := by
    intro j q hj
    have hz : j < 1 := (List.getElem?_eq_some_iff.mp hj).1
    rw [show j = 0 by omega] at hj
    cases hj
    have := (hR.2.2.2 a).1 (by rw [ha]; exact hc)
    rw [ha] at this
    exact this
  have k1 := kk H locs ls hR hS hl
  show W _ _ _ _ _ _ _ _ _ _ _ _ _ _ _ (F0 _ pc ls (rv G a :: st.map (tv G)))
  rw [rv_pos G ha0]
  have hv' : (flds G h a ci)[k]? = some (tv G v) := by rw [flds_at G h a ci hk, hv]
  rcases hw with hw | ⟨host, hw⟩
  · exact va_get (C := cR ci) (T := cT ci) (N := cN ci) hX.1 hX.2.1 hX.2.2.2.2.1 (uw_at ci hc) hX.2.2.2.1 hX.2.2.2.2.2.1.1 hP 0 rfl (cl_at ci hc) k hk (hX.2.2.2.2.1 _ hw) (fun _ h9 => h9) hv' d k1
  · exact va_getN (C := cR ci) (T := cT ci) (N := cN ci) hX.1 hX.2.1 hX.2.2.2.2.1 (uw_at ci hc) hX.2.2.2.1 hX.2.2.2.2.2.1.1 hP 0 rfl (cl_at ci hc) k hk (va_Nw.use rfl (hX.2.2.2.2.2.1.2.1 _ hw)) (fun _ h9 => h9) hv' d k1
theorem aw_gI (hX : Ok G X cc own) {idx ci k a : Nat} {α : Type} {f : Int32 → Option α} {P : α → Prop} (hy : OK ((gI h a k ci).bind f) P) (lk : FL own idx ci k) (ht : ∀ h a, fval G h a (cY ci k) k = .int (mI h a k)) (d : decode cc pc = .ok (.getfield idx, 3)) (kk : ∀ v, OK (f v) P → AW G X (pc + 3) lv (vI v :: st) h ce sl) : AW G X pc lv (vR a :: st) h ce sl := by
  obtain ⟨v, e, hy⟩ := hy.b
  unfold gI at e
  split at e
  · cases e
    exact aw_get hX lk (by assumption) (vI (mI h a k)) (ht h a).symm d (kk _ hy)
  · cases e
theorem aw_gL (hX : Ok G X cc own) {idx ci k a : Nat} {α : Type} {f : Int64 → Option α} {P : α → Prop} (hy : OK ((gL h a k ci).bind f) P) (lk : FL own idx ci k) (ht : ∀ h a, fval G h a (cY ci k) k = .long (mL h a k)) (d : decode cc pc = .ok (.getfield idx, 3)) (kk : ∀ v, OK (f v) P → AW G X (pc + 3) lv (vL v :: st) h ce sl) : AW G X pc lv (vR a :: st) h ce sl := by
  obtain ⟨v, e, hy⟩ := hy.b
  unfold gL at e
  split at e
  · cases e
    exact aw_get hX lk (by assumption) (vL (mL h a k)) (ht h a).symm d (kk _ hy)
  · cases e
theorem aw_gR (hX : Ok G X cc own) {idx ci k a : Nat} {α : Type} {f : Nat → Option α} {P : α → Prop} (hy : OK ((gR h a k ci).bind f) P) (lk : FL own idx ci k) (ht : ∀ h a, fval G h a (cY ci k) k = rv G (mR h a k)) (d : decode cc pc = .ok (.getfield idx, 3)) (kk : ∀ v, OK (f v) P → AW G X (pc + 3) lv (vR v :: st) h ce sl) : AW G X pc lv (vR a :: st) h ce sl := by
  obtain ⟨v, e, hy⟩ := hy.b
  unfold gR at e
  split at e
  · cases e
    exact aw_get hX lk (by assumption) (vR (mR h a k)) (ht h a).symm d (kk _ hy)
  · cases e
/-! writing a field -/
theorem RelM.put {h' : Mem} {H H' : Heap} {a ci k : Nat} {v : Value} (hR : RelM G h H) (hc : ci < 12) (ha : (mT h a).1 = ci) (e2 : H'.size = H.size) (e3 : ∀ q : Nat, q ≠ gB G + a → H'[q]? = H[q]?) (hn : mN h' = mN h) (hT : mT h' = mT h) (hI : ∀ b, b ≠ a → mI h' b = mI h b) (hL : ∀ b, b ≠ a → mL h' b = mL h b) (hRR : ∀ b, b ≠ a → mR h' b = mR h b) (hf : flds G h' a ci = (flds G h a ci).set k v)
    (hat : va_at (gD G) vwCl (gB G + a, .inr (ci, (flds G h a ci).set k v)) H') : RelM G h' H' := by
  refine ⟨by rw [e2, hn]; exact hR.1, by rw [hn]; exact hR.2.1, by rw [hT]; exact hR.2.2.1, fun b => ?_⟩
  by_cases hb : b = a
  · subst hb
    refine ⟨fun _ => ?_, fun q => ?_, fun q => ?_, fun q => ?_⟩
    · rw [hT, ha, hf]; exact hat
    all_goals (rw [hT, ha] at q; omega)
  · exact (hR.2.2.2 b).kept (by rw [hT]) (hI b hb) (hL b hb) (hRR b hb) (fun _ => e3 _ (by omega)) hR.2.2.1
theorem va_S.putA {A : Nat → Prop} {H0 H H1 : Heap} {locs : List Loc} {a i : Nat} (hS : va_S A H0 H locs) (e2 : H1.size = H.size) (e3 : ∀ q : Nat, q ≠ a → H1[q]? = H[q]?) (ha : A a) : va_S A H0 H1 (locs ++ [⟨a, i⟩]) := by
  refine ⟨by rw [e2]; exact hS.1, fun q h1 h2 => ?_, fun l hl => ?_⟩
  · rw [e3 q (fun e => h2 (by rw [e]; exact ha))]; exact hS.2.1 q h1 h2
  · rcases List.mem_append.mp hl with h | h
    · exact hS.2.2 l h
    · rw [List.mem_singleton.mp h]; exact ha
theorem aw_put (hX : Ok G X cc own) {idx ci k a : Nat} (lk : FL own idx ci k) (hnf : (cT ci k).2.2.2 = false ∨ ((cT ci k).2.2.2 = true ∧ (xt X).name = "<init>" ∧ (cT ci k).1 = own ∧ Cond.fieldLink own idx (cT ci k).1 (cT ci k).2.1 (cT ci k).2.2.1 ∈ TT)) (ha : (mT h a).1 = ci) (v : AV) {h' : Mem} (hn : mN h' = mN h) (hT : mT h' = mT h) (hI : ∀ b, b ≠ a → mI h' b = mI h b) (hL : ∀ b, b ≠ a → mL h' b = mL h b) (hRR : ∀ b, b ≠ a → mR h' b = mR h b) (hf : flds G h' a ci = (flds G h a ci).set k (tv G v))
    (hnw : narrow (cY ci k) (tv G v) = tv G v) (hft : fits (cY ci k) (tv G v) = true) (d : decode cc pc = .ok (.putfield idx, 3)) (kk : AW G X (pc + 3) lv st h' ce sl) : AW G X pc lv (v :: vR a :: st) h ce sl := by
  intro H locs ls hR hS hl
  obtain ⟨hc, hk, hw⟩ := lk
  have ha0 : a ≠ 0 := by
    intro e
    rw [e, hR.2.2.1] at ha
    omega
  have hgA : gA G (gB G + a) := by show G.1 < G.1 + a; omega
  have hat := (hR.2.2.2 a).1 (by rw [ha]; exact hc)
  rw [ha] at hat
  show W _ _ _ _ _ _ _ _ _ _ _ _ _ _ _ (F0 _ pc ls (tv G v :: rv G a :: st.map (tv G)))
  rw [rv_pos G ha0]
  have hin := uw_at ci hc
  have hts := hX.2.2.2.2.1
  have hK := hX.2.2.2.2.2.1.1
  have hcl := cl_at ci hc
  have hap := va_apart (own := own) hts hin (cY ci) (ty_at ci hc) (nm_at ci hc) hK hcl
  obtain ⟨r, h1, cell, q1, q2, q3, q4⟩ := hat
  have hr : r = (cR ci, cT ci, cN ci) := Option.some.inj (h1.symm.trans hcl)
  subst hr
  obtain ⟨hS9, hfc, kC, hkC, hkind⟩ := hK.1 ci _ hcl
  obtain ⟨cf, kf, fi, f, hi, hsl⟩ := hS9 k hk
  have hlay := hts _ (hin _ (u_in_lay hk))
  unfold u_lay at hlay
  have hst := (u_facts hfc hkC (u_lays hts hin hk) hi).1
  have hln : k < (flds G h a ci).length := by rw [flds_len]; exact hk
  have fin : ∀ H' : Heap, H'[gB G + a]? = some (cell.setSlot f.slot (tv G v)) → H'.size = H.size → (∀ q, q ≠ gB G + a → H'[q]? = H[q]?) → W (xp X) (xl X) (xe X) (xr X) (xs X) (xm X) (xa X) (xb X) (xt X) (xc X) H' (locs ++ [⟨gB G + a, f.slot⟩]) ce sl (xq X) (F0 (xm X) (pc + 3) ls (st.map (tv G))) := by
    intro H' e1 e2 e3
    rw [hsl] at e1
    refine kk H' _ ls (hR.put hc ha e2 e3 hn hT hI hL hRR hf ⟨_, hcl, t_OB.to (V := updV (vp_V (flds G h a ci)) k (tv G v)) ⟨_, e1, q2, q3, t_set q4 hap hk (tv G v)⟩ (fun j _ => vp_updV_set hln (tv G v) j)⟩) (hS.putA e2 e3 hgA) hl
  rcases hnf with hnf | ⟨hnf, hin2, hdecl, hw2⟩
  · rw [if_neg (by rw [hnf]; decide)] at hlay
    have h6 := u_store hfc hkC hkind hlay hi (ty_at ci hc k hk) hnw hft
    rcases hw with hw | ⟨host, hw⟩
    · exact W.putK hX.1 hX.2.1 (f := f) ⟨hX.2.2.2.1, hts _ hw, ⟨_, _, _, hi⟩, hst⟩ (by rw [q2]; exact h6) q1 q3 (by rw [hsl]; exact k2_hasslot (q4 k hk)) rfl rfl d fin
    · exact va_WputK hX.1 hX.2.1 (f := f) hX.2.2.2.1 (va_Nw.use rfl (hX.2.2.2.2.2.1.2.1 _ hw)) hi hst (by rw [q2]; exact h6) q1 q3 (by rw [hsl]; exact k2_hasslot (q4 k hk)) rfl rfl d fin
  · rw [if_pos hnf] at hlay
    have hcf : (xm X).cls = cf := by
      obtain ⟨_, _, c', _, _, _, -, -, hf', -, -, -, hown2, -⟩ := Cond.laysFinal_spec hlay
      have e1 : c' = cf := by have := hi.symm.trans hf'; simp at this; exact this.1.symm
      rw [hdecl] at hown2
      rw [← e1]; exact Option.some.inj (hX.2.2.2.1.symm.trans hown2)
    have h6 := u_fits hfc hkC hkind (Or.inr hlay) hi (ty_at ci hc k hk) hnw hft
    exact W.putFinK hX.1 hX.2.1 hX.2.2.2.1 (hts _ hw2) hi hst hcf hin2 (by rw [q2]; exact h6) q1 q3 (by rw [hsl]; exact k2_hasslot (q4 k hk)) rfl rfl d fin
theorem flds_set (G : GE) {h h' : Mem} {a c k : Nat} {v : Value} (hk : k < cN c) (h1 : fval G h' a (cY c k) k = v) (h2 : ∀ j, j ≠ k → j < cN c → fval G h' a (cY c j) j = fval G h a (cY c j) j) : flds G h' a c = (flds G h a c).set k v := by
  apply List.ext_getElem?
  intro j
  by_cases hj : j < cN c
  · rw [flds_at G h' a c hj]
    by_cases e : j = k
    · subst e
      rw [List.getElem?_set_self (by rw [flds_len]; exact hj), h1]
    · rw [List.getElem?_set_ne (Ne.symm e), flds_at G h a c hj, h2 j e hj]
  · rw [List.getElem?_eq_none (by rw [flds_len]; omega), List.getElem?_eq_none (by rw [List.length_set, flds_len]; omega)]
theorem fval_wI (G : GE) (h : Mem) (a k : Nat) (v : Int32) {j : Nat} (ty : FieldType) (hj : j ≠ k) : fval G (wI h a k v) a ty j = fval G h a ty j := by
  have e : mI (wI h a k v) a j = mI h a j := by
    show mI (rowI h a _) a j = _
    rw [mI_row]
    exact if_neg hj
  cases ty <;> first | rfl | exact congrArg Value.int e
theorem fval_wL (G : GE) (h : Mem) (a k : Nat) (v : Int64) {j : Nat} (ty : FieldType) (hj : j ≠ k) : fval G (wL h a k v) a ty j = fval G h a ty j := by
  have e : mL (wL h a k v) a j = mL h a j := by
    show mL (rowL h a _) a j = _
    rw [mL_row]
    exact if_neg hj
  cases ty <;> first | rfl | exact congrArg Value.long e
theorem fval_wR (G : GE) (h : Mem) (a k : Nat) (v : Nat) {j : Nat} (ty : FieldType) (hj : j ≠ k) : fval G (wR h a k v) a ty j = fval G h a ty j := by
  have e : mR (wR h a k v) a j = mR h a j := by
    show mR (rowR h a _) a j = _
    rw [mR_row]
    exact if_neg hj
  cases ty <;> first | rfl | exact congrArg (rv G) e
/-- is a field of ints, booleans, longs, references -/
def isFI (t : FieldType) : Bool := match t with
  | .int => true
  | _ => false
def isFZ (t : FieldType) : Bool := match t with
  | .boolean => true
  | _ => false
def isFL (t : FieldType) : Bool := match t with
  | .long => true
  | _ => false
def isFR (t : FieldType) : Bool := match t with
  | .object _ => true
  | .array _ => true
  | _ => false
theorem isFI.e {t : FieldType} (h : isFI t = true) : t = .int := by cases t <;> first | rfl | cases h
theorem isFZ.e {t : FieldType} (h : isFZ t = true) : t = .boolean := by cases t <;> first | rfl | cases h
theorem isFL.e {t : FieldType} (h : isFL t = true) : t = .long := by cases t <;> first | rfl | cases h
theorem mI_wI (h : Mem) (a k : Nat) (v : Int32) : mI (wI h a k v) a k = v := by
  show mI (rowI h a _) a k = _
  rw [mI_row]
  exact if_pos rfl
theorem mL_wL (h : Mem) (a k : Nat) (v : Int64) : mL (wL h a k v) a k = v := by
  show mL (rowL h a _) a k = _
  rw [mL_row]
  exact if_pos rfl
theorem mR_wR (h : Mem) (a k : Nat) (v : Nat) : mR (wR h a k v) a k = v := by
  show mR (rowR h a _) a k = _
  rw [mR_row]
  exact if_pos rfl
abbrev FinOk (X : CX) (own : String) (idx ci k : Nat) : Prop := (cT ci k).2.2.2 = false ∨ ((cT ci k).2.2.2 = true ∧ (xt X).name = "<init>" ∧ (cT ci k).1 = own ∧ Cond.fieldLink own idx (cT ci k).1 (cT ci k).2.1 (cT ci k).2.2.1 ∈ TT)
theorem aw_pI (hX : Ok G X cc own) {idx ci k a : Nat} {x : Int32} {α : Type} {f : Mem → Option α} {P : α → Prop} (hy : OK ((pI h a k ci x).bind f) P) (lk : FL own idx ci k) (ht : isFI (cY ci k) = true) (hnf : FinOk X own idx ci k) (d : decode cc pc = .ok (.putfield idx, 3)) (kk : ∀ h', OK (f h') P → AW G X (pc + 3) lv st h' ce sl) : AW G X pc lv (vI x :: vR a :: st) h ce sl := by
  obtain ⟨v, e, hy⟩ := hy.b
  unfold pI at e
  split at e
  · cases e
    have ht := isFI.e ht
    refine aw_put (h' := wI h a k x) hX lk hnf (by assumption) (vI x) rfl rfl (fun b hb => mI_row_ne h _ hb) (fun _ _ => rfl) (fun _ _ => rfl) (flds_set G lk.2.1 ?_ (fun j hj _ => fval_wI G h a k x _ hj)) ?_ ?_ d (kk _ hy)
    · rw [ht]; exact congrArg Value.int (mI_wI h a k x)
    · rw [ht]; rfl
    · rw [ht]; rfl
  · cases e
theorem aw_pZ (hX : Ok G X cc own) {idx ci k a : Nat} {x : Int32} {α : Type} {f : Mem → Option α} {P : α → Prop} (hy : OK ((pZ h a k ci x).bind f) P) (lk : FL own idx ci k) (ht : isFZ (cY ci k) = true) (hnf : FinOk X own idx ci k) (d : decode cc pc = .ok (.putfield idx, 3)) (kk : ∀ h', OK (f h') P → AW G X (pc + 3) lv st h' ce sl) : AW G X pc lv (vI x :: vR a :: st) h ce sl := by
  obtain ⟨v, e, hy⟩ := hy.b
  unfold pZ at e
  split at e
  · rename_i hc
    obtain ⟨hc1, hc2⟩ := hc
    cases e
    have ht := isFZ.e ht
    refine aw_put (h' := wI h a k x) hX lk hnf hc1 (vI x) rfl rfl (fun b hb => mI_row_ne h _ hb) (fun _ _ => rfl) (fun _ _ => rfl) (flds_set G lk.2.1 ?_ (fun j hj _ => fval_wI G h a k x _ hj)) ?_ ?_ d (kk _ hy)
    · rw [ht]; exact congrArg Value.int (mI_wI h a k x)
    · rw [ht]; rcases hc2 with rfl | rfl <;> rfl
    · rw [ht]; rcases hc2 with rfl | rfl <;> rfl
  · cases e
theorem aw_pL (hX : Ok G X cc own) {idx ci k a : Nat} {x : Int64} {α : Type} {f : Mem → Option α} {P : α → Prop} (hy : OK ((pL h a k ci x).bind f) P) (lk : FL own idx ci k) (ht : isFL (cY ci k) = true) (hnf : FinOk X own idx ci k) (d : decode cc pc = .ok (.putfield idx, 3)) (kk : ∀ h', OK (f h') P → AW G X (pc + 3) lv st h' ce sl) : AW G X pc lv (vL x :: vR a :: st) h ce sl := by
  obtain ⟨v, e, hy⟩ := hy.b
  unfold pL at e
  split at e
  · cases e
    have ht := isFL.e ht
    refine aw_put (h' := wL h a k x) hX lk hnf (by assumption) (vL x) rfl rfl (fun _ _ => rfl) (fun b hb => mL_row_ne h _ hb) (fun _ _ => rfl) (flds_set G lk.2.1 ?_ (fun j hj _ => fval_wL G h a k x _ hj)) ?_ ?_ d (kk _ hy)
    · rw [ht]; exact congrArg Value.long (mL_wL h a k x)
    · rw [ht]; rfl
    · rw [ht]; rfl
  · cases e
theorem aw_pR (hX : Ok G X cc own) {idx ci k a : Nat} {x : Nat} {α : Type} {f : Mem → Option α} {P : α → Prop} (hy : OK ((pR h a k ci x).bind f) P) (lk : FL own idx ci k) (ht : isFR (cY ci k) = true) (hnf : FinOk X own idx ci k) (d : decode cc pc = .ok (.putfield idx, 3)) (kk : ∀ h', OK (f h') P → AW G X (pc + 3) lv st h' ce sl) : AW G X pc lv (vR x :: vR a :: st) h ce sl := by
  obtain ⟨v, e, hy⟩ := hy.b
  unfold pR at e
  split at e
  · cases e
    refine aw_put (h' := wR h a k x) hX lk hnf (by assumption) (vR x) rfl rfl (fun _ _ => rfl) (fun _ _ => rfl) (fun b hb => mR_row_ne h _ hb) (flds_set G lk.2.1 ?_ (fun j hj _ => fval_wR G h a k x _ hj)) ?_ ?_ d (kk _ hy)
    · generalize cY ci k = t at ht ⊢
      cases t <;> first | exact congrArg (rv G) (mR_wR h a k x) | cases ht
    · generalize cY ci k = t at ht ⊢
      show narrow t (rv G x) = rv G x
      cases t <;> first | (cases x <;> rfl) | cases ht
    · generalize cY ci k = t at ht ⊢
      show fits t (rv G x) = true
      cases t <;> first | (cases x <;> rfl) | cases ht
  · cases e
end AWH
