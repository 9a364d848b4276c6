section AWC
variable {G : GE} {X : CX} {cc : ByteArray} {own : String} {pc : Nat} {lv : List (Nat × AV)} {st : List AV} {h : Mem} {ce sl : Nat}
/-! ===== a method's contract over the memory ===== -/
def QQ (G : GE) (post : Option AV → Mem → Prop) : Array Value → State → Outcome → State → Prop := fun _ st o t => (∃ (r : Option AV) (h' : Mem), o = .returned (r.map (tv G)) ∧ post r h' ∧ RelM G h' t.heap) ∧ va_F (gA G) st t
def PP (G : GE) (avs : List AV) (h : Mem) : Array Value → State → Prop := va_Pc (avs.map (tv G)) (fun U => RelM G h U.heap ∧ KE G U)
def Con (l : Launch) (G : GE) (y : MethodName) (cd : ByteArray) (mxl : Nat) (rt : Option FieldType) (rm : Room) (avs : List AV) (h : Mem) (post : Option AV → Mem → Prop) : Prop :=
  Met l y (.code y cd mxl rt :: TT) rm (PP G avs h) (QQ G post) rm.cells rm.slots (gA G)
def lav : Nat → List AV → List (Nat × AV)
  | _, [] => []
  | i, v :: vs => (i, v) :: lav (i + ac v) vs
theorem lav_lvm (G : GE) : ∀ (avs : List AV) (i : Nat), lv_args i (avs.map (tv G)) = lvm G (lav i avs)
  | [], _ => rfl
  | v :: vs, i => by
    show (i, tv G v) :: lv_args (if (tv G v).category = 2 then i + 2 else i + 1) (vs.map (tv G)) = (i, tv G v) :: lvm G (lav (i + ac v) vs)
    have e : (if (tv G v).category = 2 then i + 2 else i + 1) = i + ac v := by
      rw [tv_cat]
      rcases v with x | x | a | k <;> rfl
    rw [e, lav_lvm G vs (i + ac v)]
/-- what the body of a method has: where it ends, its room, its name -/
def Rt (G : GE) (X : CX) (l : Launch) (y : MethodName) (rt : Option FieldType) (rm : Room) (post : Option AV → Mem → Prop) : Prop :=
  xq X = MQ (xb X) (QQ G post) (xa X) (xs X) rm.cells rm.slots (gA G) ∧ xr X = rm ∧ xl X = l ∧ (xt X).name = y.name ∧ (xt X).sig.returnType = rt
theorem Con.of {l : Launch} {y : MethodName} {cd : ByteArray} {mxl : Nat} {rt : Option FieldType} {rm : Room} {avs : List AV} {post : Option AV → Mem → Prop} (hy : plainName y.cls = true) (hl : (avs.map ac).sum ≤ mxl)
    (body : ∀ X : CX, Ok G X cd y.cls → Rt G X l y rt rm post → xn X = mxl → AW G X 0 (lav 0 avs) [] h 0 0) : Con l G y cd mxl rt rm avs h post := by
  refine Met.ofW (cc := cd) (maxL := mxl) (ret := rt) hy rfl ?_
  intro p e s m args below meth c s₁ B hml hv
  obtain ⟨rfl, hR, hK⟩ := hv
  have hown : s.vm.findClass y.cls = some m.cls := findClass_of_methodNamed B.named
  have hts : ∀ w ∈ TT, w.before (avs.map (tv G)).toArray s = true := fun w hw => atoms_spec (ws := .code y cd mxl rt :: TT) B.pre w (List.mem_cons_of_mem _ hw)
  have hlen : ∀ vs : List AV, (lg_sl (vs.map (tv G))).length = (vs.map ac).sum := by
    intro vs
    induction vs with
    | nil => rfl
    | cons v t ih =>
      simp only [lg_sl, List.map_cons, List.flatMap_cons, List.length_append, List.sum_cons] at ih ⊢
      rw [ih, tv_cat]
      rcases v with x | x | a | k <;> rfl
  have hle := lv_entry (avs.map (tv G)) (n := mxl) (by rw [hlen]; exact hl)
  rw [lg_entry_eq]
  generalize (lg_sl (avs.map (tv G)) ++ List.replicate (mxl - (lg_sl (avs.map (tv G))).length) Slot.unset).toArray = ls at hle ⊢
  rw [lav_lvm] at hle
  have hgA : ∀ q, s.heap.size ≤ q → gA G q := fun q hq => by
    have h1 := hR.1
    have h2 := hR.2.1
    show G.1 < q
    have : s.heap.size = G.1 + mN h := h1
    omega
  exact body (p, l, e, rm, s, m, (avs.map (tv G)).toArray, below, meth, c, MQ below (QQ G post) (avs.map (tv G)).toArray s rm.cells rm.slots (gA G), mxl)
    ⟨B.exec, B.bytes, hml, hown, hts, hK, B.notSynchronized, hgA⟩ ⟨rfl, rfl, rfl, (name_of_methodNamed B.named B.method).1, B.returns⟩ rfl s.heap [] ls hR va_S.rf hle
/-! ===== returns ===== -/
theorem aw_iret {l : Launch} {y : MethodName} {rm : Room} {post : Option AV → Mem → Prop} {v : Int32} (hX : Ok G X cc own) (hr : Rt G X l y (some .int) rm post) (hc : ce ≤ rm.cells) (hs : sl ≤ rm.slots) (d : decode cc pc = .ok (.ireturn, 1)) (hp : post (some (vI v)) h) : AW G X pc lv [vI v] h ce sl := by
  intro H locs ls hR hS hl
  rw [hr.1]
  exact W.widen hc hs (W.iret hX.1 hX.2.1 hr.2.2.2.2 (fun t ht hW => ⟨⟨some (vI v), h, rfl, hp, by rw [ht]; exact hR⟩, hS.F ht⟩) hS.2.2 d hX.2.2.2.2.2.2.1)
theorem aw_zret {l : Launch} {y : MethodName} {rm : Room} {post : Option AV → Mem → Prop} {v : Int32} (hX : Ok G X cc own) (hr : Rt G X l y (some .boolean) rm post) (hc : ce ≤ rm.cells) (hs : sl ≤ rm.slots) (d : decode cc pc = .ok (.ireturn, 1)) (hv : v = 0 ∨ v = 1) (hp : post (some (vI v)) h) : AW G X pc lv [vI v] h ce sl := by
  intro H locs ls hR hS hl
  rw [hr.1]
  exact W.widen hc hs (W.zret hX.1 hX.2.1 hr.2.2.2.2 (by rcases hv with rfl | rfl <;> rfl) (fun t ht hW => ⟨⟨some (vI v), h, rfl, hp, by rw [ht]; exact hR⟩, hS.F ht⟩) hS.2.2 d hX.2.2.2.2.2.2.1)
theorem aw_lret {l : Launch} {y : MethodName} {rm : Room} {post : Option AV → Mem → Prop} {v : Int64} (hX : Ok G X cc own) (hr : Rt G X l y (some .long) rm post) (hc : ce ≤ rm.cells) (hs : sl ≤ rm.slots) (d : decode cc pc = .ok (.lreturn, 1)) (hp : post (some (vL v)) h) : AW G X pc lv [vL v] h ce sl := by
  intro H locs ls hR hS hl
  rw [hr.1]
  exact W.widen hc hs (W.lret hX.1 hX.2.1 hr.2.2.2.2 (fun t ht hW => ⟨⟨some (vL v), h, rfl, hp, by rw [ht]; exact hR⟩, hS.F ht⟩) hS.2.2 d hX.2.2.2.2.2.2.1)
theorem aw_vret {l : Launch} {y : MethodName} {rm : Room} {post : Option AV → Mem → Prop} (hX : Ok G X cc own) (hr : Rt G X l y none rm post) (hc : ce ≤ rm.cells) (hs : sl ≤ rm.slots) (d : decode cc pc = .ok (.return_, 1)) (hp : post none h) : AW G X pc lv [] h ce sl := by
  intro H locs ls hR hS hl
  rw [hr.1]
  exact W.widen hc hs (W.vret hX.1 hX.2.1 hr.2.2.2.2 (fun t ht hW => ⟨⟨none, h, rfl, hp, by rw [ht]; exact hR⟩, hS.F ht⟩) hS.2.2 d hX.2.2.2.2.2.2.1)
theorem aw_aret {l : Launch} {y : MethodName} {rm : Room} {post : Option AV → Mem → Prop} {C : String} {a : Nat} (hX : Ok G X cc own) (hr : Rt G X l y (some (.object C)) rm post) (hc : ce ≤ rm.cells) (hs : sl ≤ rm.slots) (d : decode cc pc = .ok (.areturn, 1)) (hp : post (some (vR a)) h) : AW G X pc lv [vR a] h ce sl := by
  intro H locs ls hR hS hl
  rw [hr.1]
  refine W.widen hc hs (W.aret hX.1 hX.2.1 hr.2.2.2.2 (Or.inl ⟨_, rfl⟩) ?_ (fun t ht hW => ⟨⟨some (vR a), h, rfl, hp, by rw [ht]; exact hR⟩, hS.F ht⟩) hS.2.2 d hX.2.2.2.2.2.2.1)
  show rv G a = .null ∨ ∃ b, rv G a = .ref b
  cases a with
  | zero => exact Or.inl rfl
  | succ a => exact Or.inr ⟨_, rfl⟩
/-! ===== calls ===== -/
theorem PP_blind (G : GE) (avs : List AV) (h : Mem) : FrameBlind (PP G avs h) := fun a U g mk q => ⟨q.1, q.2.1, q.2.2.same rfl rfl⟩
theorem PP_of (hX : Ok G X cc own) {H : Heap} {locs : List Loc} (hR : RelM G h H) (hS : va_S (gA G) (xs X).heap H locs) (avs : List AV) (U : State) (hU : U.heap = H) (hW : (xs X).WarmedH U.vm) : PP G avs h (avs.map (tv G)).toArray U :=
  ⟨rfl, by rw [hU]; exact hR, hX.2.2.2.2.2.1.moved hW (fun a h1 h2 => by rw [hU]; exact hS.2.1 a h1 h2)⟩
theorem aw_run {H : Heap} {locs : List Loc} {ls : Array Slot} {mc ms : Nat} {stk : List Value} {post : Option AV → Mem → Prop} {a : Array Value} (hS : va_S (gA G) (xs X).heap H locs) (hl : lv_has ls (xn X) (lvm G lv))
    (hr : va_Run (xp X) (xl X) (xe X) (xr X) (xs X) (xm X) (xa X) (xb X) (xt X) (xc X) H locs ce sl mc ms (F0 (xm X) pc ls stk) (st.map (tv G)) (QQ G post a) (gA G))
    (kk : ∀ r h', post r h' → AW G X (pc + 3) lv (r.toList ++ st) h' (ce + mc) (sl + ms)) : W (xp X) (xl X) (xe X) (xr X) (xs X) (xm X) (xa X) (xb X) (xt X) (xc X) H locs ce sl (xq X) (F0 (xm X) pc ls stk) := by
  intro T hT X9
  obtain ⟨v, st₀, t, T', L, h0, X', hL, e1, e2, ⟨⟨r, h', hv, hp, hR'⟩, hz, hk⟩, go⟩ := hr T hT X9
  have hv' : v = r.map (tv G) := by
    cases hv
    rfl
  rw [h0] at hz hk
  obtain ⟨t2, a1, b1⟩ := kk r h' hp T'.heap (locs ++ L) ls (by rw [e1]; exact hR') ⟨Nat.le_trans hS.1 (by rw [e1]; exact hz), fun q h1 h2 => by rw [e1, hk q (Nat.lt_of_lt_of_le h1 hS.1) h2]; exact hS.2.1 q h1 h2, fun q hq => by
      rcases List.mem_append.mp hq with h | h
      · exact hS.2.2 q h
      · exact hL q h⟩ hl T' rfl X'
  have e : v.toList ++ st.map (tv G) = (r.toList ++ st).map (tv G) := by
    rw [hv']
    cases r <;> rfl
  refine ⟨t2, go t2 ?_, b1⟩
  show Steps (xp X).tables (xe X) (xb X) (T'.setTop (F0 (xm X) (pc + 3) ls (v.toList ++ st.map (tv G)))) t2
  rw [e]
  exact a1
/-- the room of a callee -/
abbrev Rm (X : CX) (rm : Room) (mxl ce sl : Nat) : Prop := (rm.frames + 1 ≤ (xr X).frames ∧ 8 + (mxl + 11) + rm.locals ≤ (xr X).locals) ∧ ce + rm.cells ≤ (xr X).cells ∧ sl + rm.slots ≤ (xr X).slots
/-- what the tables say of a callee -/
def MC (y : MethodName) (cd : ByteArray) (mxl : Nat) (rt : Option FieldType) (n : Nat) : Prop :=
  Cond.code y cd mxl rt ∈ TT ∧ Cond.initialized y.cls ∈ TT ∧ (y.cls ≠ "java/lang/invoke/MethodHandle" ∧ y.cls ≠ "java/lang/invoke/VarHandle" ∧ (parseMethodDescriptor y.desc).map (fun d => d.parameters.length) = some n)
theorem MC.g {y : MethodName} {cd : ByteArray} {mxl : Nat} {rt : Option FieldType} {n : Nat} (h : MC y cd mxl rt n) : GoodIn TT (.code y cd mxl rt :: TT) := fun w hw => by
  rcases List.mem_cons.mp hw with rfl | hw
  · exact TT_good _ h.1
  · exact TT_good _ hw
theorem MC.b (hX : Ok G X cc own) {y : MethodName} {cd : ByteArray} {mxl : Nat} {rt : Option FieldType} {n : Nat} (h : MC y cd mxl rt n) {idx : Nat} (hw : Cond.methodLink own idx y ∈ TT) {rm : Room} (hR : Rm X rm mxl ce sl) : CallB (xr X) (xs X) (xa X) own idx y cd mxl rt (.code y cd mxl rt :: TT) rm rm.cells rm.slots n :=
  callB_of n hX.2.2.2.2.1 h.g rfl rfl rfl (hX.2.2.2.2.1 _ h.2.1) (hX.2.2.2.2.1 _ hw) h.2.2 hR.1
theorem MC.n (hX : Ok G X cc own) {y : MethodName} {cd : ByteArray} {mxl : Nat} {rt : Option FieldType} {n : Nat} (h : MC y cd mxl rt n) {idx : Nat} {host : String} (hw : Cond.methodLinkNest own idx y host ∈ NW) {rm : Room} (hR : Rm X rm mxl ce sl) : va_CN (xr X) (xs X) (xa X) own idx y host cd mxl rt (.code y cd mxl rt :: TT) rm rm.cells rm.slots n :=
  va_cnB n hX.2.2.2.2.1 h.g rfl rfl rfl (hX.2.2.2.2.2.1.2.1 _ hw) (hX.2.2.2.2.1 _ h.2.1) h.2.2 hR.1
theorem acs (G : GE) (st : List AV) : ((st.map (tv G)).map fun v => v.category).sum = (st.map ac).sum := by
  rw [List.map_map]
  congr 1
  exact List.map_congr_left fun v _ => tv_cat G v
theorem stk_e (G : GE) (avs st : List AV) : (avs.reverse ++ st).map (tv G) = (avs.map (tv G)).reverse ++ st.map (tv G) := by rw [List.map_append, List.map_reverse]
theorem aw_callS (hX : Ok G X cc own) {y : MethodName} {cd : ByteArray} {mxl idx n : Nat} {rt : Option FieldType} {rm : Room} {post : Option AV → Mem → Prop} (avs : List AV) (hM : Con (xl X) G y cd mxl rt rm avs h post) (mc : MC y cd mxl rt n) (hw : Cond.methodLink own idx y ∈ TT) (hw2 : Cond.static y ∈ TT) (hn : avs.length = n) (hR9 : Rm X rm mxl ce sl) (hst : (st.map ac).sum ≤ 8) {stk : List AV} (hk : stk = avs.reverse ++ st) (d : decode cc pc = .ok (.invokestatic idx, 3))
    (kk : ∀ r h', post r h' → AW G X (pc + 3) lv (r.toList ++ st) h' (ce + rm.cells) (sl + rm.slots)) : AW G X pc lv stk h ce sl := by
  intro H locs ls hR hS hl
  subst hk
  rw [stk_e]
  refine aw_run hS hl (va_runS (As := avs.map (tv G)) (nL := xn X) ⟨hX.1, hX.2.1, hX.2.2.1, hX.2.2.2.1, hX.2.2.2.2.1⟩ hM ⟨mc.b hX hw hR9, hX.2.2.2.2.1 _ hw2⟩ ⟨PP_blind G avs h, fun U hU hW => PP_of hX hR hS avs U hU hW⟩ rfl (by rw [List.length_map]; exact hn) hl.1 rfl (lv_room (by rw [acs]; exact hst)) d hR9.2) kk
theorem aw_callSN (hX : Ok G X cc own) {y : MethodName} {host : String} {cd : ByteArray} {mxl idx n : Nat} {rt : Option FieldType} {rm : Room} {post : Option AV → Mem → Prop} (avs : List AV) (hM : Con (xl X) G y cd mxl rt rm avs h post) (mc : MC y cd mxl rt n) (hw : Cond.methodLinkNest own idx y host ∈ NW) (hw2 : Cond.static y ∈ TT) (hn : avs.length = n) (hR9 : Rm X rm mxl ce sl) (hst : (st.map ac).sum ≤ 8) {stk : List AV} (hk : stk = avs.reverse ++ st) (d : decode cc pc = .ok (.invokestatic idx, 3))
    (kk : ∀ r h', post r h' → AW G X (pc + 3) lv (r.toList ++ st) h' (ce + rm.cells) (sl + rm.slots)) : AW G X pc lv stk h ce sl := by
  intro H locs ls hR hS hl
  subst hk
  rw [stk_e]
  refine aw_run hS hl (va_runSN (As := avs.map (tv G)) (nL := xn X) ⟨hX.1, hX.2.1, hX.2.2.1, hX.2.2.2.1, hX.2.2.2.2.1⟩ hM ⟨mc.n hX hw hR9, hX.2.2.2.2.1 _ hw2, trivial⟩ ⟨PP_blind G avs h, fun U hU hW => PP_of hX hR hS avs U hU hW⟩ rfl (by rw [List.length_map]; exact hn) hl.1 rfl (lv_room (by rw [acs]; exact hst)) d hR9.2) kk
theorem rcv_of {H : Heap} (hX : Ok G X cc own) (hR : RelM G h H) {a ci : Nat} (hc : ci < 12) (ha : (mT h a).1 = ci) : ∃ cellB : Cell, H[gB G + a]? = some cellB ∧ cellB.vm.isStatics = false ∧ (xs X).vm.findClass (cR ci) = some cellB.cls := by
  have hat := (hR.2.2.2 a).1 (by rw [ha]; exact hc)
  rw [ha] at hat
  obtain ⟨r, h1, cell, q1, q2, q3, q4⟩ := hat
  have hcl := cl_at ci hc
  have hr : r = (cR ci, cT ci, cN ci) := Option.some.inj (h1.symm.trans hcl)
  subst hr
  exact ⟨cell, q1, by rw [q3]; rfl, by rw [q2]; exact (hX.2.2.2.2.2.1.1.1 ci _ hcl).2.1⟩
theorem stk_v (G : GE) (avs st : List AV) {a : Nat} (ha : a ≠ 0) : (avs.reverse ++ vR a :: st).map (tv G) = (avs.map (tv G)).reverse ++ .ref (gB G + a) :: st.map (tv G) := by
  rw [stk_e, List.map_cons]
  show _ ++ rv G a :: _ = _
  rw [rv_pos G ha]
theorem args_v (G : GE) (avs : List AV) {a : Nat} (ha : a ≠ 0) : (.ref (gB G + a) :: avs.map (tv G) : List Value) = (vR a :: avs).map (tv G) := by
  rw [List.map_cons]
  show _ = rv G a :: _
  rw [rv_pos G ha]
theorem aw_callV (hX : Ok G X cc own) {y : MethodName} {cd : ByteArray} {mxl idx n ci a : Nat} {rt : Option FieldType} {rm : Room} {post : Option AV → Mem → Prop} (avs : List AV) (hM : Con (xl X) G y cd mxl rt rm (vR a :: avs) h post) (mc : MC y cd mxl rt n) (hw : Cond.methodLink own idx y ∈ TT) (hw2 : Cond.instanceMethod y ∈ TT) (hw3 : Cond.selects (cR ci) y y ∈ TT) (hc : ci < 12) (ha : (mT h a).1 = ci) (hn : avs.length = n) (hR9 : Rm X rm mxl ce sl) (hst : (st.map ac).sum ≤ 8) {stk : List AV} (hk : stk = avs.reverse ++ vR a :: st) (d : decode cc pc = .ok (.invokevirtual idx, 3))
    (kk : ∀ r h', post r h' → AW G X (pc + 3) lv (r.toList ++ st) h' (ce + rm.cells) (sl + rm.slots)) : AW G X pc lv stk h ce sl := by
  intro H locs ls hR hS hl
  subst hk
  have ha0 := nz hR ha (by omega)
  rw [stk_v G avs st ha0]
  refine aw_run hS hl (va_runV (As := avs.map (tv G)) (nL := xn X) (C := cR ci) ⟨hX.1, hX.2.1, hX.2.2.1, hX.2.2.2.1, hX.2.2.2.2.1⟩ hM ⟨mc.b hX hw hR9, hX.2.2.2.2.1 _ hw2, hX.2.2.2.2.1 _ hw3⟩ ⟨PP_blind G _ h, rcv_of hX hR hc ha, fun U hU hW => ?_⟩ rfl (by rw [List.length_map]; exact hn) hl.1 rfl (lv_room (by rw [acs]; exact hst)) d hR9.2) kk
  rw [args_v G avs ha0]
  exact PP_of hX hR hS _ U hU hW
theorem aw_callVN (hX : Ok G X cc own) {y : MethodName} {host : String} {cd : ByteArray} {mxl idx n ci a : Nat} {rt : Option FieldType} {rm : Room} {post : Option AV → Mem → Prop} (avs : List AV) (hM : Con (xl X) G y cd mxl rt rm (vR a :: avs) h post) (mc : MC y cd mxl rt n) (hw : Cond.methodLinkNest own idx y host ∈ NW) (hw2 : Cond.instanceMethod y ∈ TT) (hw3 : Cond.selects (cR ci) y y ∈ TT) (hc : ci < 12) (ha : (mT h a).1 = ci) (hn : avs.length = n) (hR9 : Rm X rm mxl ce sl) (hst : (st.map ac).sum ≤ 8) {stk : List AV} (hk : stk = avs.reverse ++ vR a :: st) (d : decode cc pc = .ok (.invokevirtual idx, 3))
    (kk : ∀ r h', post r h' → AW G X (pc + 3) lv (r.toList ++ st) h' (ce + rm.cells) (sl + rm.slots)) : AW G X pc lv stk h ce sl := by
  intro H locs ls hR hS hl
  subst hk
  have ha0 := nz hR ha (by omega)
  rw [stk_v G avs st ha0]
  refine aw_run hS hl (va_runVN (As := avs.map (tv G)) (nL := xn X) (C := cR ci) ⟨hX.1, hX.2.1, hX.2.2.1, hX.2.2.2.1, hX.2.2.2.2.1⟩ hM ⟨mc.n hX hw hR9, hX.2.2.2.2.1 _ hw2, hX.2.2.2.2.1 _ hw3⟩ ⟨PP_blind G _ h, rcv_of hX hR hc ha, fun U hU hW => ?_⟩ rfl (by rw [List.length_map]; exact hn) hl.1 rfl (lv_room (by rw [acs]; exact hst)) d hR9.2) kk
  rw [args_v G avs ha0]
  exact PP_of hX hR hS _ U hU hW
theorem aw_callI (hX : Ok G X cc own) {y : MethodName} {cd : ByteArray} {mxl idx n a : Nat} {rm : Room} {post : Option AV → Mem → Prop} (avs : List AV) (hM : Con (xl X) G y cd mxl none rm (vR a :: avs) h post) (mc : MC y cd mxl none n) (hw : Cond.methodLink own idx y ∈ TT) (hw2 : Cond.instanceMethod y ∈ TT) (hy : y.name = "<init>") (ha0 : a ≠ 0) (hn : avs.length = n) (hR9 : Rm X rm mxl ce sl) (hst : (st.map ac).sum ≤ 8) {stk : List AV} (hk : stk = avs.reverse ++ vR a :: st) (d : decode cc pc = .ok (.invokespecial idx, 3))
    (kk : ∀ r h', post r h' → AW G X (pc + 3) lv (r.toList ++ st) h' (ce + rm.cells) (sl + rm.slots)) : AW G X pc lv stk h ce sl := by
  intro H locs ls hR hS hl
  subst hk
  rw [stk_v G avs st ha0]
  refine aw_run hS hl (va_runI (As := avs.map (tv G)) (nL := xn X) ⟨hX.1, hX.2.1, hX.2.2.1, hX.2.2.2.1, hX.2.2.2.2.1⟩ hM ⟨mc.b hX hw hR9, hy, hX.2.2.2.2.1 _ hw2⟩ ⟨PP_blind G _ h, fun U hU hW => ?_⟩ rfl (by rw [List.length_map]; exact hn) hl.1 rfl (lv_room (by rw [acs]; exact hst)) d hR9.2) kk
  rw [args_v G avs ha0]
  exact PP_of hX hR hS _ U hU hW
theorem aw_callIN (hX : Ok G X cc own) {y : MethodName} {host : String} {cd : ByteArray} {mxl idx n a : Nat} {rm : Room} {post : Option AV → Mem → Prop} (avs : List AV) (hM : Con (xl X) G y cd mxl none rm (vR a :: avs) h post) (mc : MC y cd mxl none n) (hw : Cond.methodLinkNest own idx y host ∈ NW) (hw2 : Cond.instanceMethod y ∈ TT) (hy : y.name = "<init>") (ha0 : a ≠ 0) (hn : avs.length = n) (hR9 : Rm X rm mxl ce sl) (hst : (st.map ac).sum ≤ 8) {stk : List AV} (hk : stk = avs.reverse ++ vR a :: st) (d : decode cc pc = .ok (.invokespecial idx, 3))
    (kk : ∀ r h', post r h' → AW G X (pc + 3) lv (r.toList ++ st) h' (ce + rm.cells) (sl + rm.slots)) : AW G X pc lv stk h ce sl := by
  intro H locs ls hR hS hl
  subst hk
  rw [stk_v G avs st ha0]
  refine aw_run hS hl (va_runIN (As := avs.map (tv G)) (nL := xn X) ⟨hX.1, hX.2.1, hX.2.2.1, hX.2.2.2.1, hX.2.2.2.2.1⟩ hM ⟨mc.n hX hw hR9, hy, hX.2.2.2.2.1 _ hw2⟩ ⟨PP_blind G _ h, fun U hU hW => ?_⟩ rfl (by rw [List.length_map]; exact hn) hl.1 rfl (lv_room (by rw [acs]; exact hst)) d hR9.2) kk
  rw [args_v G avs ha0]
  exact PP_of hX hR hS _ U hU hW
theorem aw_objInit (hX : Ok G X cc own) {idx a : Nat} (hw : Cond.methodLink own idx Lib.objectInit ∈ TT) (hw2 : Cond.instanceMethod Lib.objectInit ∈ TT) (hw3 : Cond.code Lib.objectInit ⟨#[0xb1]⟩ 1 none ∈ TT) (ha0 : a ≠ 0) (hst : (st.map ac).sum ≤ 8) (hf : 1 ≤ (xr X).frames) (hlo : 20 ≤ (xr X).locals) (d : decode cc pc = .ok (.invokespecial idx, 3)) (kk : AW G X (pc + 3) lv st h ce sl) : AW G X pc lv (vR a :: st) h ce sl := by
  intro H locs ls hR hS hl
  have e : (vR a :: st).map (tv G) = .ref (gB G + a) :: st.map (tv G) := by
    show rv G a :: _ = _
    rw [rv_pos G ha0]
  rw [e]
  refine W.objInit hX.1 hX.2.1 hX.2.2.2.1 (hX.2.2.2.2.1 _ hw) (hX.2.2.2.2.1 _ hw2) (hX.2.2.2.2.1 _ hw3) rfl (by rw [hX.2.2.1]; exact hl.1) rfl d hf ?_ (kk H locs ls hR hS hl)
  show 2 * 0 + ((st.map (tv G)).map fun v => v.category).sum + 12 ≤ _
  rw [acs]
  omega
end AWC
/-- the receiver's class -/
def ck (h : Mem) (a c : Nat) : Option Unit := if (mT h a).1 = c then some () else none
theorem OK.kd {h : Mem} {a c : Nat} {α : Type} {f : Unit → Option α} {P : α → Prop} (hy : OK ((ck h a c).bind f) P) : (mT h a).1 = c := by
  obtain ⟨v, e, -⟩ := hy.b
  unfold ck at e
  split at e
  · assumption
  · cases e
theorem OK.kb {h : Mem} {a c : Nat} {α : Type} {f : Unit → Option α} {P : α → Prop} (hy : OK ((ck h a c).bind f) P) : OK (f ()) P := by
  obtain ⟨v, -, e⟩ := hy.b
  exact e
