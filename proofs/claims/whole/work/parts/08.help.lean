section AWP
variable {G : GE} {X : CX} {cc : ByteArray} {own : String} {pc : Nat} {lv : List (Nat × AV)} {st : List AV} {h : Mem} {ce sl : Nat}
/-! ends of methods -/
def ppI (h : Mem) (P : Int32 → Prop) : Option AV → Mem → Prop := fun r h' => h' = h ∧ ∃ v, r = some (vI v) ∧ P v
def ppL (h : Mem) (P : Int64 → Prop) : Option AV → Mem → Prop := fun r h' => h' = h ∧ ∃ v, r = some (vL v) ∧ P v
def ppR (h : Mem) (P : Nat → Prop) : Option AV → Mem → Prop := fun r h' => h' = h ∧ ∃ v, r = some (vR v) ∧ P v
def ppV (h : Mem) (P : Unit → Prop) : Option AV → Mem → Prop := fun r h' => h' = h ∧ r = none ∧ P ()
def pmI (P : Int32 × Mem → Prop) : Option AV → Mem → Prop := fun r h' => ∃ v, r = some (vI v) ∧ P (v, h')
def pmL (P : Int64 × Mem → Prop) : Option AV → Mem → Prop := fun r h' => ∃ v, r = some (vL v) ∧ P (v, h')
def pmR (P : Nat × Mem → Prop) : Option AV → Mem → Prop := fun r h' => ∃ v, r = some (vR v) ∧ P (v, h')
def pmV (P : Mem → Prop) : Option AV → Mem → Prop := fun r h' => r = none ∧ P h'
theorem kpI {P : Int32 → Prop} {rm : Room} (z1 : rm.cells = 0) (z2 : rm.slots = 0) (kk : ∀ v, P v → AW G X pc lv (vI v :: st) h ce sl) : ∀ r h', ppI h P r h' → AW G X pc lv (r.toList ++ st) h' (ce + rm.cells) (sl + rm.slots) := by
  rintro r h' ⟨rfl, v, rfl, hv⟩
  rw [z1, z2]
  exact kk v hv
theorem kpL {P : Int64 → Prop} {rm : Room} (z1 : rm.cells = 0) (z2 : rm.slots = 0) (kk : ∀ v, P v → AW G X pc lv (vL v :: st) h ce sl) : ∀ r h', ppL h P r h' → AW G X pc lv (r.toList ++ st) h' (ce + rm.cells) (sl + rm.slots) := by
  rintro r h' ⟨rfl, v, rfl, hv⟩
  rw [z1, z2]
  exact kk v hv
theorem kpR {P : Nat → Prop} {rm : Room} (z1 : rm.cells = 0) (z2 : rm.slots = 0) (kk : ∀ v, P v → AW G X pc lv (vR v :: st) h ce sl) : ∀ r h', ppR h P r h' → AW G X pc lv (r.toList ++ st) h' (ce + rm.cells) (sl + rm.slots) := by
  rintro r h' ⟨rfl, v, rfl, hv⟩
  rw [z1, z2]
  exact kk v hv
theorem kpV {P : Unit → Prop} {rm : Room} (z1 : rm.cells = 0) (z2 : rm.slots = 0) (kk : ∀ v, P v → AW G X pc lv st h ce sl) : ∀ r h', ppV h P r h' → AW G X pc lv (r.toList ++ st) h' (ce + rm.cells) (sl + rm.slots) := by
  rintro r h' ⟨rfl, rfl, hv⟩
  rw [z1, z2]
  exact kk () hv
theorem kmI {P : Int32 × Mem → Prop} {rm : Room} (z1 : rm.cells = 0) (z2 : rm.slots = 0) (kk : ∀ q, P q → AW G X pc lv (vI q.1 :: st) q.2 ce sl) : ∀ r h', pmI P r h' → AW G X pc lv (r.toList ++ st) h' (ce + rm.cells) (sl + rm.slots) := by
  rintro r h' ⟨v, rfl, hv⟩
  rw [z1, z2]
  exact kk (v, h') hv
theorem kmL {P : Int64 × Mem → Prop} {rm : Room} (z1 : rm.cells = 0) (z2 : rm.slots = 0) (kk : ∀ q, P q → AW G X pc lv (vL q.1 :: st) q.2 ce sl) : ∀ r h', pmL P r h' → AW G X pc lv (r.toList ++ st) h' (ce + rm.cells) (sl + rm.slots) := by
  rintro r h' ⟨v, rfl, hv⟩
  rw [z1, z2]
  exact kk (v, h') hv
theorem kmR {P : Nat × Mem → Prop} {rm : Room} (z1 : rm.cells = 0) (z2 : rm.slots = 0) (kk : ∀ q, P q → AW G X pc lv (vR q.1 :: st) q.2 ce sl) : ∀ r h', pmR P r h' → AW G X pc lv (r.toList ++ st) h' (ce + rm.cells) (sl + rm.slots) := by
  rintro r h' ⟨v, rfl, hv⟩
  rw [z1, z2]
  exact kk (v, h') hv
theorem kmV {P : Mem → Prop} {rm : Room} (z1 : rm.cells = 0) (z2 : rm.slots = 0) (kk : ∀ h', P h' → AW G X pc lv st h' ce sl) : ∀ r h', pmV P r h' → AW G X pc lv (r.toList ++ st) h' (ce + rm.cells) (sl + rm.slots) := by
  rintro r h' ⟨rfl, hv⟩
  rw [z1, z2]
  exact kk h' hv
theorem kmVa {P : Mem → Prop} {rm : Room} {ce' sl' : Nat} (z1 : ce + rm.cells = ce') (z2 : sl + rm.slots = sl') (kk : ∀ h', P h' → AW G X pc lv st h' ce' sl') : ∀ r h', pmV P r h' → AW G X pc lv (r.toList ++ st) h' (ce + rm.cells) (sl + rm.slots) := by
  rintro r h' ⟨rfl, hv⟩
  rw [z1, z2]
  exact kk h' hv
theorem kmIa {P : Int32 × Mem → Prop} {rm : Room} {ce' sl' : Nat} (z1 : ce + rm.cells = ce') (z2 : sl + rm.slots = sl') (kk : ∀ q, P q → AW G X pc lv (vI q.1 :: st) q.2 ce' sl') : ∀ r h', pmI P r h' → AW G X pc lv (r.toList ++ st) h' (ce + rm.cells) (sl + rm.slots) := by
  rintro r h' ⟨v, rfl, hv⟩
  rw [z1, z2]
  exact kk (v, h') hv
theorem AW.eqa {ce' sl' : Nat} (e1 : ce = ce') (e2 : sl = sl') (k : AW G X pc lv st h ce' sl') : AW G X pc lv st h ce sl := by
  subst e1
  subst e2
  exact k
theorem lt_n {n j : Nat} (e : xn X = n) (hj : j < n) : j < xn X := by rw [e]; exact hj
theorem rm_of {l : Launch} {y : MethodName} {rt : Option FieldType} {rm rm' : Room} {post : Option AV → Mem → Prop} {mxl : Nat} (hr : Rt G X l y rt rm post) (hd : (rm'.frames + 1 ≤ rm.frames ∧ 8 + (mxl + 11) + rm'.locals ≤ rm.locals) ∧ ce + rm'.cells ≤ rm.cells ∧ sl + rm'.slots ≤ rm.slots) : Rm X rm' mxl ce sl := by
  unfold Rm
  rw [hr.2.1]
  exact hd
theorem le_c {l : Launch} {y : MethodName} {rt : Option FieldType} {rm : Room} {post : Option AV → Mem → Prop} {n : Nat} (hr : Rt G X l y rt rm post) (hd : n ≤ rm.cells) : n ≤ (xr X).cells := by rw [hr.2.1]; exact hd
theorem le_s {l : Launch} {y : MethodName} {rt : Option FieldType} {rm : Room} {post : Option AV → Mem → Prop} {n : Nat} (hr : Rt G X l y rt rm post) (hd : n ≤ rm.slots) : n ≤ (xr X).slots := by rw [hr.2.1]; exact hd
theorem le_f {l : Launch} {y : MethodName} {rt : Option FieldType} {rm : Room} {post : Option AV → Mem → Prop} {n : Nat} (hr : Rt G X l y rt rm post) (hd : n ≤ rm.frames) : n ≤ (xr X).frames := by rw [hr.2.1]; exact hd
theorem le_l {l : Launch} {y : MethodName} {rt : Option FieldType} {rm : Room} {post : Option AV → Mem → Prop} {n : Nat} (hr : Rt G X l y rt rm post) (hd : n ≤ rm.locals) : n ≤ (xr X).locals := by rw [hr.2.1]; exact hd
theorem OK.rz {α : Type} {v : Int32} {x : α} {P : α → Prop} (hy : OK (retZ v x) P) : (v = 0 ∨ v = 1) ∧ P x := by
  unfold retZ at hy
  by_cases hv : v = 0 ∨ v = 1
  · rw [if_pos hv] at hy
    exact ⟨hv, hy.s⟩
  · rw [if_neg hv] at hy
    obtain ⟨a, ha, -⟩ := hy
    cases ha
theorem aw_objInit0 (hX : Ok G X cc own) {idx a ci : Nat} (hk : (mT h a).1 = ci) (hw : Cond.methodLink own idx Lib.objectInit ∈ TT) (hw2 : Cond.instanceMethod Lib.objectInit ∈ TT) (hw3 : Cond.code Lib.objectInit ⟨#[0xb1]⟩ 1 none ∈ TT) (hne : ci ≠ 99) (hst : (st.map ac).sum ≤ 8) (hf : 1 ≤ (xr X).frames) (hlo : 20 ≤ (xr X).locals) (d : decode cc pc = .ok (.invokespecial idx, 3)) (kk : AW G X (pc + 3) lv st h ce sl) : AW G X pc lv (vR a :: st) h ce sl :=
  fun H locs ls hR hS hl => aw_objInit hX hw hw2 hw3 (nz hR hk hne) hst hf hlo d kk H locs ls hR hS hl
theorem aw_callIk (hX : Ok G X cc own) {y : MethodName} {cd : ByteArray} {mxl idx n a ci : Nat} {rm : Room} {post : Option AV → Mem → Prop} (avs : List AV) (hM : Con (xl X) G y cd mxl none rm (vR a :: avs) h post) (mc : MC y cd mxl none n) (hw : Cond.methodLink own idx y ∈ TT) (hw2 : Cond.instanceMethod y ∈ TT) (hy : y.name = "<init>") (hk0 : (mT h a).1 = ci) (hne : ci ≠ 99) (hn : avs.length = n) (hR9 : Rm X rm mxl ce sl) (hst : (st.map ac).sum ≤ 8) {stk : List AV} (hk : stk = avs.reverse ++ vR a :: st) (d : decode cc pc = .ok (.invokespecial idx, 3))
    (kk : ∀ r h', post r h' → AW G X (pc + 3) lv (r.toList ++ st) h' (ce + rm.cells) (sl + rm.slots)) : AW G X pc lv stk h ce sl :=
  fun H locs ls hR hS hl => aw_callI hX avs hM mc hw hw2 hy (nz hR hk0 hne) hn hR9 hst hk d kk H locs ls hR hS hl
theorem aw_callINk (hX : Ok G X cc own) {y : MethodName} {host : String} {cd : ByteArray} {mxl idx n a ci : Nat} {rm : Room} {post : Option AV → Mem → Prop} (avs : List AV) (hM : Con (xl X) G y cd mxl none rm (vR a :: avs) h post) (mc : MC y cd mxl none n) (hw : Cond.methodLinkNest own idx y host ∈ NW) (hw2 : Cond.instanceMethod y ∈ TT) (hy : y.name = "<init>") (hk0 : (mT h a).1 = ci) (hne : ci ≠ 99) (hn : avs.length = n) (hR9 : Rm X rm mxl ce sl) (hst : (st.map ac).sum ≤ 8) {stk : List AV} (hk : stk = avs.reverse ++ vR a :: st) (d : decode cc pc = .ok (.invokespecial idx, 3))
    (kk : ∀ r h', post r h' → AW G X (pc + 3) lv (r.toList ++ st) h' (ce + rm.cells) (sl + rm.slots)) : AW G X pc lv stk h ce sl :=
  fun H locs ls hR hS hl => aw_callIN hX avs hM mc hw hw2 hy (nz hR hk0 hne) hn hR9 hst hk d kk H locs ls hR hS hl
theorem tsw_out {x : Int32} {lo hi : Int} (hk : ∀ k : Int, lo ≤ k → k ≤ hi → ¬ x.toInt = k) : x.toInt < lo ∨ hi < x.toInt := by
  rcases Int.lt_or_le x.toInt lo with h1 | h1
  · exact Or.inl h1
  · rcases Int.lt_or_le hi x.toInt with h2 | h2
    · exact Or.inr h2
    · exact absurd rfl (hk _ h1 h2)
/-! copying -/
def cpI (h : Mem) (a0 : Nat) (sp : Int32) (a : Nat) (dp n : Int32) : Option Mem :=
  if (mT h a0).1 = 100 ∧ (mT h a).1 = 100 ∧ ¬ sp < 0 ∧ ¬ dp < 0 ∧ ¬ n < 0 ∧ sp.toNatClampNeg + n.toNatClampNeg ≤ (mT h a0).2 ∧ dp.toNatClampNeg + n.toNatClampNeg ≤ (mT h a).2 then some (rowI h a (va_cpy (mI h a0) (mI h a) sp.toNatClampNeg dp.toNatClampNeg n.toNatClampNeg)) else none
theorem acn : Cond.native arraycopyName ∈ TT ∧ Cond.static arraycopyName ∈ TT ∧ Cond.initialized "java/lang/System" ∈ TT := ⟨TT_i 623 (by decide +kernel) rfl, TT_i 622 (by decide +kernel) rfl, TT_i 18 (by decide +kernel) rfl⟩
theorem aw_copy (hX : Ok G X cc own) {idx a0 a : Nat} {sp dp n : Int32} {α : Type} {f : Mem → Option α} {P : α → Prop} (hy : OK ((cpI h a0 sp a dp n).bind f) P) (hw : Cond.methodLink own idx arraycopyName ∈ TT) (hst : (st.map ac).sum ≤ 8) (hf : 1 ≤ (xr X).frames) (hlo : 60 ≤ (xr X).locals) (d : decode cc pc = .ok (.invokestatic idx, 3)) (kk : ∀ h', OK (f h') P → AW G X (pc + 3) lv st h' ce sl) : AW G X pc lv (vI n :: vI dp :: vR a :: vI sp :: vR a0 :: st) h ce sl := by
  obtain ⟨v, e, hy⟩ := hy.b
  unfold cpI at e
  split at e
  · rename_i hc
    obtain ⟨k0, k1, h1, h2, h3, h4, h5⟩ := hc
    cases e
    intro H locs ls hR hS hl
    have ha0 := nz hR k0 (by omega)
    have ha1 := nz hR k1 (by omega)
    have hgA : gA G (gB G + a) := by show G.1 < G.1 + a; omega
    have hts := hX.2.2.2.2.1
    have hK := hX.2.2.2.2.2.1.1
    show W _ _ _ _ _ _ _ _ _ _ _ _ _ _ _ (F0 _ pc ls (.int n :: .int dp :: rv G a :: .int sp :: rv G a0 :: st.map (tv G)))
    rw [rv_pos G ha0, rv_pos G ha1]
    have nn : ∀ z : Int32, ¬ z < 0 → z.toInt = (z.toNatClampNeg : Int) := by
      intro z hz
      have hz0 : (0 : Int) ≤ z.toInt := by
        have := Int32.not_lt.mp hz
        simpa using Int32.le_iff_toInt_le.mp this
      show z.toInt = ((z.toInt.toNat : Nat) : Int)
      omega
    intro T hT X9
    have hc0 : H[gB G + a0]? = some (vp_cell (gi G) ((mT h a0).2, .inl (mI h a0))) := (hR.2.2.2 a0).2.1 k0
    have hc1 : H[gB G + a]? = some (vp_cell (gi G) ((mT h a).2, .inl (mI h a))) := (hR.2.2.2 a).2.1 k1
    obtain ⟨-, q0, hq0, cm0, hkk0⟩ := (hK.2 0 (gi G, .int) rfl).1 (mT h a0).2 (fun j => .int (mI h a0 j))
    obtain ⟨-, q1, hq1, cm1, hkk1⟩ := (hK.2 0 (gi G, .int) rfl).1 (mT h a).2 (fun j => .int (mI h a j))
    obtain ⟨vm', X', step⟩ := X9.arraycopy hX.1 hX.2.2.2.1 (hts _ hw) (hts _ acn.1) (hts _ acn.2.1) (hts _ acn.2.2) (src := gB G + a0) (dst := gB G + a) (cs := vp_cell (gi G) ((mT h a0).2, .inl (mI h a0))) (cd := vp_cell (gi G) ((mT h a).2, .inl (mI h a))) (srcPos := sp) (destPos := dp) (n := n) (by rw [hT]; exact hc0) (by rw [hT]; exact hc1)
      (fun _ h => by cases h) (fun _ h => by cases h) (fun h => by cases h) (fun h => by cases h) hq0 hq1 hkk0 hkk1 (by simp [refKind]) h1 h2 h3
      (by rw [nn sp h1, nn n h3]; show ¬ _ > ((arrV _ _ (fun j => .int (mI h a0 j))).slots.size : Int); rw [arrV_size]; omega)
      (by rw [nn dp h2, nn n h3]; show ¬ _ > ((arrV _ _ (fun j => .int (mI h a j))).slots.size : Int); rw [arrV_size]; omega)
      (fun vm₁ _ i hi => by
        have e : (vp_cell (gi G) ((mT h a0).2, .inl (mI h a0))).slots.getD (sp.toNatClampNeg + i) .null = .int (mI h a0 (sp.toNatClampNeg + i)) := by
          show (arrV _ _ (fun j => .int (mI h a0 j))).slots.getD _ _ = _
          rw [Array.getD_eq_getD_getElem?, arrV_read _ _ (by omega)]
          rfl
        refine ⟨?_, ?_⟩
        · rw [e]
          rfl
        · rw [e]
          exact trivial)
      (g := F0 (xm X) pc ls (.int n :: .int dp :: .ref (gB G + a) :: .int sp :: .ref (gB G + a0) :: st.map (tv G))) rfl (by rw [hX.2.2.1]; exact hl.1) (rest := st.map (tv G)) rfl (by rw [hX.2.1]; exact d) hf (by
        show 2 * 0 + ((st.map (tv G)).map fun v => v.category).sum + (nativeFrameWords "java/lang/System" "arraycopy" 5 + 11) ≤ _
        rw [acs]
        have : nativeFrameWords "java/lang/System" "arraycopy" 5 + 11 ≤ 52 := by decide
        omega)
    have e1 : copied (vp_cell (gi G) ((mT h a0).2, .inl (mI h a0))) (vp_cell (gi G) ((mT h a).2, .inl (mI h a))) sp dp n = vp_cell (gi G) ((mT h a).2, .inl (va_cpy (mI h a0) (mI h a) sp.toNatClampNeg dp.toNatClampNeg n.toNatClampNeg)) := va_copied (fun z => .int z) (gi G) (gi G) (mI h a0) (mI h a) h4
    rw [e1] at X' step
    have hl9 : gB G + a < H.size := (Array.getElem?_eq_some_iff.mp hc1).1
    have hheap : ((T.setVm vm').setCell (gB G + a) (vp_cell (gi G) ((mT h a).2, .inl (va_cpy (mI h a0) (mI h a) sp.toNatClampNeg dp.toNatClampNeg n.toNatClampNeg)))).heap = H.setIfInBounds (gB G + a) (vp_cell (gi G) ((mT h a).2, .inl (va_cpy (mI h a0) (mI h a) sp.toNatClampNeg dp.toNatClampNeg n.toNatClampNeg))) := by rw [← hT]; rfl
    have oq : ∀ q : Nat, q ≠ gB G + a → (H.setIfInBounds (gB G + a) (vp_cell (gi G) ((mT h a).2, .inl (va_cpy (mI h a0) (mI h a) sp.toNatClampNeg dp.toNatClampNeg n.toNatClampNeg))))[q]? = H[q]? := fun q hq => by simp [Array.getElem?_setIfInBounds, Ne.symm hq]
    obtain ⟨t, a1, b1⟩ := kk _ hy _ _ ls (hR.row (a := a) (H' := H.setIfInBounds (gB G + a) (vp_cell (gi G) ((mT h a).2, .inl (va_cpy (mI h a0) (mI h a) sp.toNatClampNeg dp.toNatClampNeg n.toNatClampNeg)))) (by simp) oq rfl rfl (fun b hb => mI_row_ne h _ hb) (fun _ _ => rfl) (fun _ _ => rfl) ⟨fun q => absurd (show (mT h a).1 < 12 from q) (by rw [k1]; omega), fun _ => by
        show (H.setIfInBounds (gB G + a) _)[gB G + a]? = some (vp_cell (gi G) ((mT h a).2, .inl (mI (rowI h a _) a)))
        rw [mI_row]
        simp [Array.getElem?_setIfInBounds, hl9], fun q => absurd (show (mT h a).1 = 101 from q) (by rw [k1]; omega), fun q => absurd (show (mT h a).1 = 102 from q) (by rw [k1]; omega)⟩)
      ⟨by simp; exact hS.1, fun q g1 g2 => by
        rw [oq q (fun e => g2 (by rw [e]; exact hgA))]
        exact hS.2.1 q g1 g2, fun q hq => by
        rcases List.mem_append.mp hq with h | h
        · exact hS.2.2 q h
        · obtain ⟨z, -, hz⟩ := List.mem_map.mp h
          rw [← hz]
          exact hgA⟩ hl _ hheap X'
    exact ⟨t, step t a1, b1⟩
  · cases e
end AWP
