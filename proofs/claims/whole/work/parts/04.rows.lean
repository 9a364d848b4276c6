/-! ===== what lies outside the memory, and stays ===== -/
def EXT (G : GE) (U : State) : Prop :=
  vk_S 20 strL strB (gX G) (fun k => gX G (100 + k)) (gA G) U U.heap ∧ (∀ q ∈ strR, vk_R q.1 q.2.1 q.2.2.1 (gX G q.2.2.2) U) ∧
  va_Z "java/lang/String" "COMPACT_STRINGS" "Z" (.int 1) (gA G) U U.heap ∧ va_Z "TuneGates$Reader" "LINES_AT_MOST" "[I" (.ref (gX G 21)) (gA G) U U.heap ∧ va_T .int (gX G 21) 9 (fun j => .int (lamv j)) (gA G) U U.heap ∧
  (va_Z "jdk/internal/util/Preconditions" "SIOOBE_FORMATTER" "Ljava/util/function/BiFunction;" .null (gA G) U U.heap ∨ va_Z "jdk/internal/util/Preconditions" "SIOOBE_FORMATTER" "Ljava/util/function/BiFunction;" (.ref (gX G 22)) (gA G) U U.heap)
theorem EXT.moved {G : GE} {s U : State} (h : EXT G s) (hW : s.WarmedH U.vm) (hq : ∀ a : Nat, a < s.heap.size → ¬ gA G a → U.heap[a]? = s.heap[a]?) : EXT G U := by
  obtain ⟨h1, h2, h3, h4, h5, h6⟩ := h
  exact ⟨vk_S.moved hW.alike (h1.kept hq), fun q hm => (h2 q hm).warm hW, va_Z.moved hW.alike (h3.kept hq), va_Z.moved hW.alike (h4.kept hq), va_T.moved hW.alike (h5.kept hq), h6.imp (fun z => va_Z.moved hW.alike (z.kept hq)) (fun z => va_Z.moved hW.alike (z.kept hq))⟩
theorem EXT.same {G : GE} {s U : State} (h : EXT G s) (hv : s.vm = U.vm) (hh : U.heap = s.heap) : EXT G U := by
  obtain ⟨h1, h2, h3, h4, h5, h6⟩ := h
  have hA : s.vm.Alike U.vm := by rw [hv]; exact Vm.Alike.refl _
  refine ⟨?_, fun q hm => (h2 q hm).same hv.symm, ?_, ?_, ?_, ?_⟩ <;> rw [hh]
  · exact vk_S.moved hA h1
  · exact va_Z.moved hA h3
  · exact va_Z.moved hA h4
  · exact va_T.moved hA h5
  · exact h6.imp (fun z => va_Z.moved hA z) (fun z => va_Z.moved hA z)
abbrev gtys (G : GE) : List (ClassId × FieldType) := [(gi G, .int), (gl G, .long), (gb G, .byte)]
def KE (G : GE) (U : State) : Prop := va_K (gD G) vwCl (gtys G) U ∧ NWok U ∧ EXT G U
theorem KE.moved {G : GE} {s U : State} (h : KE G s) (hW : s.WarmedH U.vm) (hq : ∀ a : Nat, a < s.heap.size → ¬ gA G a → U.heap[a]? = s.heap[a]?) : KE G U := ⟨va_K.moved hW.alike h.1, h.2.1.warm hW, h.2.2.moved hW hq⟩
theorem KE.same {G : GE} {s U : State} (h : KE G s) (hv : s.vm = U.vm) (hh : U.heap = s.heap) : KE G U := ⟨va_K.moved (by rw [hv]; exact Vm.Alike.refl _) h.1, h.2.1.same hv, h.2.2.same hv hh⟩
/-! ===== a method's walk: its context, the judgement ===== -/
abbrev CX : Type := Program × Launch × Env × Room × State × MethodId × Array Value × List Frame × Method × Code × (State → Prop) × Nat
abbrev xp (X : CX) := X.1
abbrev xl (X : CX) := X.2.1
abbrev xe (X : CX) := X.2.2.1
abbrev xr (X : CX) := X.2.2.2.1
abbrev xs (X : CX) := X.2.2.2.2.1
abbrev xm (X : CX) := X.2.2.2.2.2.1
abbrev xa (X : CX) := X.2.2.2.2.2.2.1
abbrev xb (X : CX) := X.2.2.2.2.2.2.2.1
abbrev xt (X : CX) := X.2.2.2.2.2.2.2.2.1
abbrev xc (X : CX) := X.2.2.2.2.2.2.2.2.2.1
abbrev xq (X : CX) := X.2.2.2.2.2.2.2.2.2.2.1
abbrev xn (X : CX) := X.2.2.2.2.2.2.2.2.2.2.2
def Ok (G : GE) (X : CX) (cc : ByteArray) (own : String) : Prop := (xp X).tables.exec = Jvm.exec ∧ (xc X).code = cc ∧ (xc X).maxLocals = xn X ∧ (xs X).vm.findClass own = some (xm X).cls ∧ (∀ w ∈ TT, w.before (xa X) (xs X) = true) ∧ KE G (xs X) ∧ (xt X).locks = false ∧ (∀ q, (xs X).heap.size ≤ q → gA G q)
def lvm (G : GE) (lv : List (Nat × AV)) : List (Nat × Value) := lv.map fun q => (q.1, tv G q.2)
def AW (G : GE) (X : CX) (pc : Nat) (lv : List (Nat × AV)) (st : List AV) (h : Mem) (ce sl : Nat) : Prop :=
  ∀ (H : Heap) (locs : List Loc) (ls : Array Slot), RelM G h H → va_S (gA G) (xs X).heap H locs → lv_has ls (xn X) (lvm G lv) →
    W (xp X) (xl X) (xe X) (xr X) (xs X) (xm X) (xa X) (xb X) (xt X) (xc X) H locs ce sl (xq X) (F0 (xm X) pc ls (st.map (tv G)))
def OK {α : Type} (o : Option α) (P : α → Prop) : Prop := ∃ a, o = some a ∧ P a
theorem OK.b {α β : Type} {o : Option α} {f : α → Option β} {P : β → Prop} (h : OK (o.bind f) P) : ∃ a, o = some a ∧ OK (f a) P := by
  obtain ⟨b, hb, hp⟩ := h
  cases o with
  | none => cases hb
  | some a => exact ⟨a, rfl, b, hb, hp⟩
theorem OK.bd {α β : Type} {o : Option α} {f : α → Option β} {P : β → Prop} (h : OK (o.bind f) P) : OK o (fun a => OK (f a) P) := h.b
theorem OK.s {α : Type} {a : α} {P : α → Prop} (h : OK (some a) P) : P a := by
  obtain ⟨b, hb, hp⟩ := h
  cases hb
  exact hp
theorem OK.t {α : Type} {c : Prop} {_ : Decidable c} {x y : Option α} {P : α → Prop} (h : OK (if c then x else y) P) (hc : c) : OK x P := by rwa [if_pos hc] at h
theorem OK.f {α : Type} {c : Prop} {_ : Decidable c} {x y : Option α} {P : α → Prop} (h : OK (if c then x else y) P) (hc : ¬ c) : OK y P := by rwa [if_neg hc] at h
theorem OK.mono {α : Type} {o : Option α} {P Q : α → Prop} (h : OK o P) (k : ∀ a, P a → Q a) : OK o Q := by
  obtain ⟨a, ha, hp⟩ := h
  exact ⟨a, ha, k a hp⟩
/-- a loop: at most n times -/
def iter {σ ρ : Type} (f : σ → Option (σ ⊕ ρ)) : Nat → σ → Option ρ
  | 0, _ => none
  | n + 1, s => (f s).bind fun q => match q with
    | .inl s' => iter f n s'
    | .inr r => some r
theorem OK.it {σ ρ : Type} {f : σ → Option (σ ⊕ ρ)} {n : Nat} {s : σ} {P : ρ → Prop} (h : OK (iter f (n + 1) s) P) : OK (f s) (fun q => match q with | .inl s' => OK (iter f n s') P | .inr r => P r) := by
  obtain ⟨a, ha, hp⟩ := OK.b h
  refine ⟨a, ha, ?_⟩
  cases a with
  | inl s' => exact hp
  | inr r => exact hp.s
theorem OK.it0 {σ ρ : Type} {f : σ → Option (σ ⊕ ρ)} {s : σ} {P : ρ → Prop} (h : OK (iter f 0 s) P) : False := by
  obtain ⟨a, ha, -⟩ := h
  cases ha
def FU : Nat := 100000
section AWS
variable {G : GE} {X : CX} {cc : ByteArray} {own : String} {pc : Nat} {lv : List (Nat × AV)} {st : List AV} {h : Mem} {ce sl : Nat}
theorem lvm_at {G : GE} {lv : List (Nat × AV)} {ls : Array Slot} {n k i : Nat} {v : AV} (hl : lv_has ls n (lvm G lv)) (hk : lv[k]? = some (i, v)) : ls[i]? = some (.val (tv G v)) :=
  lv_at hl k (by rw [lvm, List.getElem?_map, hk]; rfl)
/-- fewer locals, by their places -/
theorem AW.sub {lv' : List (Nat × AV)} (ks : List Nat) (e : ks.filterMap (fun k => lv[k]?) = lv') (k : AW G X pc lv' st h ce sl) : AW G X pc lv st h ce sl := by
  intro H locs ls hR hS hl
  refine k H locs ls hR hS ⟨hl.1, hl.2.1, fun q hq => ?_⟩
  subst e
  obtain ⟨q', hq', rfl⟩ := List.mem_map.mp hq
  obtain ⟨j, -, hj⟩ := List.mem_filterMap.mp hq'
  exact hl.2.2 _ (List.mem_map.mpr ⟨q', List.mem_of_getElem? hj, rfl⟩)
theorem AW.widen {ce' sl' : Nat} (h1 : ce ≤ ce') (h2 : sl ≤ sl') (k : AW G X pc lv st h ce' sl') : AW G X pc lv st h ce sl := fun H locs ls hR hS hl => W.widen h1 h2 (k H locs ls hR hS hl)
def stl (i : Nat) (v : AV) (lv : List (Nat × AV)) : List (Nat × AV) := (i, v) :: lv.filter (fun q => !(q.1 == i) && !(q.1 + 1 == i && ac q.2 == 2))
def stl2 (i : Nat) (v : AV) (lv : List (Nat × AV)) : List (Nat × AV) := (i, v) :: lv.filter (fun q => !(q.1 == i) && (!(q.1 == i + 1) && !(q.1 + 1 == i && ac q.2 == 2)))
theorem stl_lvm (i : Nat) (v : AV) (lv : List (Nat × AV)) : (i, tv G v) :: (lvm G lv).filter (fun q => !(q.1 == i) && !(q.1 + 1 == i && q.2.category == 2)) = lvm G (stl i v lv) := by
  simp only [stl, lvm, List.map_cons, List.filter_map]
  congr 2
  apply List.filter_congr
  intro q _
  simp only [Function.comp, tv_cat]
theorem stl2_lvm (i : Nat) (v : AV) (lv : List (Nat × AV)) : (i, tv G v) :: (lvm G lv).filter (fun q => !(q.1 == i) && (!(q.1 == i + 1) && !(q.1 + 1 == i && q.2.category == 2))) = lvm G (stl2 i v lv) := by
  simp only [stl2, lvm, List.map_cons, List.filter_map]
  congr 2
  apply List.filter_congr
  intro q _
  simp only [Function.comp, tv_cat]
theorem aw_iadd (hX : Ok G X cc own) {x y : Int32} (d : decode cc pc = .ok (.iadd, 1)) (k : AW G X (pc + 1) lv (vI (x + y) :: st) h ce sl) : AW G X pc lv (vI y :: vI x :: st) h ce sl := fun H locs ls hR hS hl => lv_iadd hX.1 hX.2.1 d (k H locs ls hR hS hl)
theorem aw_isub (hX : Ok G X cc own) {x y : Int32} (d : decode cc pc = .ok (.isub, 1)) (k : AW G X (pc + 1) lv (vI (x - y) :: st) h ce sl) : AW G X pc lv (vI y :: vI x :: st) h ce sl := fun H locs ls hR hS hl => lv_isub hX.1 hX.2.1 d (k H locs ls hR hS hl)
theorem aw_imul (hX : Ok G X cc own) {x y : Int32} (d : decode cc pc = .ok (.imul, 1)) (k : AW G X (pc + 1) lv (vI (x * y) :: st) h ce sl) : AW G X pc lv (vI y :: vI x :: st) h ce sl := fun H locs ls hR hS hl => lv_imul hX.1 hX.2.1 d (k H locs ls hR hS hl)
theorem aw_iand (hX : Ok G X cc own) {x y : Int32} (d : decode cc pc = .ok (.iand, 1)) (k : AW G X (pc + 1) lv (vI (x &&& y) :: st) h ce sl) : AW G X pc lv (vI y :: vI x :: st) h ce sl := fun H locs ls hR hS hl => lv_iand hX.1 hX.2.1 d (k H locs ls hR hS hl)
theorem aw_ior (hX : Ok G X cc own) {x y : Int32} (d : decode cc pc = .ok (.ior, 1)) (k : AW G X (pc + 1) lv (vI (x ||| y) :: st) h ce sl) : AW G X pc lv (vI y :: vI x :: st) h ce sl := fun H locs ls hR hS hl => lv_ior hX.1 hX.2.1 d (k H locs ls hR hS hl)
theorem aw_ixor (hX : Ok G X cc own) {x y : Int32} (d : decode cc pc = .ok (.ixor, 1)) (k : AW G X (pc + 1) lv (vI (x ^^^ y) :: st) h ce sl) : AW G X pc lv (vI y :: vI x :: st) h ce sl := fun H locs ls hR hS hl => lv_ixor hX.1 hX.2.1 d (k H locs ls hR hS hl)
theorem aw_ladd (hX : Ok G X cc own) {x y : Int64} (d : decode cc pc = .ok (.ladd, 1)) (k : AW G X (pc + 1) lv (vL (x + y) :: st) h ce sl) : AW G X pc lv (vL y :: vL x :: st) h ce sl := fun H locs ls hR hS hl => lv_ladd hX.1 hX.2.1 d (k H locs ls hR hS hl)
theorem aw_lmul (hX : Ok G X cc own) {x y : Int64} (d : decode cc pc = .ok (.lmul, 1)) (k : AW G X (pc + 1) lv (vL (x * y) :: st) h ce sl) : AW G X pc lv (vL y :: vL x :: st) h ce sl := fun H locs ls hR hS hl => lv_lmul hX.1 hX.2.1 d (k H locs ls hR hS hl)
theorem aw_land (hX : Ok G X cc own) {x y : Int64} (d : decode cc pc = .ok (.land, 1)) (k : AW G X (pc + 1) lv (vL (x &&& y) :: st) h ce sl) : AW G X pc lv (vL y :: vL x :: st) h ce sl := fun H locs ls hR hS hl => lv_land hX.1 hX.2.1 d (k H locs ls hR hS hl)
theorem aw_ishl (hX : Ok G X cc own) {x y : Int32} (d : decode cc pc = .ok (.ishl, 1)) (k : AW G X (pc + 1) lv (vI (x <<< (y &&& 31)) :: st) h ce sl) : AW G X pc lv (vI y :: vI x :: st) h ce sl := fun H locs ls hR hS hl => lv_ishl hX.1 hX.2.1 d (k H locs ls hR hS hl)
theorem aw_ishr (hX : Ok G X cc own) {x y : Int32} (d : decode cc pc = .ok (.ishr, 1)) (k : AW G X (pc + 1) lv (vI (x >>> (y &&& 31)) :: st) h ce sl) : AW G X pc lv (vI y :: vI x :: st) h ce sl := fun H locs ls hR hS hl => lv_ishr hX.1 hX.2.1 d (k H locs ls hR hS hl)
theorem aw_iushr (hX : Ok G X cc own) {x y : Int32} (d : decode cc pc = .ok (.iushr, 1)) (k : AW G X (pc + 1) lv (vI ((x.toUInt32 >>> (y.toUInt32 &&& Int32.toUInt32 31)).toInt32) :: st) h ce sl) : AW G X pc lv (vI y :: vI x :: st) h ce sl := fun H locs ls hR hS hl => lv_iushr hX.1 hX.2.1 d rfl (k H locs ls hR hS hl)
theorem aw_lshr (hX : Ok G X cc own) {x : Int64} {y : Int32} (d : decode cc pc = .ok (.lshr, 1)) (k : AW G X (pc + 1) lv (vL (x >>> (y.toInt64 &&& 63)) :: st) h ce sl) : AW G X pc lv (vI y :: vL x :: st) h ce sl := fun H locs ls hR hS hl => lv_lshr hX.1 hX.2.1 d rfl (k H locs ls hR hS hl)
theorem aw_i2l (hX : Ok G X cc own) {x : Int32} (d : decode cc pc = .ok (.i2l, 1)) (k : AW G X (pc + 1) lv (vL x.toInt64 :: st) h ce sl) : AW G X pc lv (vI x :: st) h ce sl := fun H locs ls hR hS hl => lv_i2l hX.1 hX.2.1 d rfl (k H locs ls hR hS hl)
theorem aw_l2i (hX : Ok G X cc own) {x : Int64} (d : decode cc pc = .ok (.l2i, 1)) (k : AW G X (pc + 1) lv (vI x.toInt32 :: st) h ce sl) : AW G X pc lv (vL x :: st) h ce sl := fun H locs ls hR hS hl => lv_l2i hX.1 hX.2.1 d rfl (k H locs ls hR hS hl)
theorem aw_i2b (hX : Ok G X cc own) {x : Int32} (d : decode cc pc = .ok (.i2b, 1)) (k : AW G X (pc + 1) lv (vI x.toInt8.toInt32 :: st) h ce sl) : AW G X pc lv (vI x :: st) h ce sl := fun H locs ls hR hS hl => lv_i2b hX.1 hX.2.1 d rfl (k H locs ls hR hS hl)
theorem aw_lcmp (hX : Ok G X cc own) {x y : Int64} (d : decode cc pc = .ok (.lcmp, 1)) (k : AW G X (pc + 1) lv (vI (lg_cmp x y) :: st) h ce sl) : AW G X pc lv (vL y :: vL x :: st) h ce sl := fun H locs ls hR hS hl => W.lcmp hX.1 hX.2.1 d (k H locs ls hR hS hl)
theorem aw_iconst (hX : Ok G X cc own) {n : Int} (v : Int32) (hv : Int32.ofInt n = v) (d : decode cc pc = .ok (.iconst n, 1)) (k : AW G X (pc + 1) lv (vI v :: st) h ce sl) : AW G X pc lv (st) h ce sl := fun H locs ls hR hS hl => lv_iconst hX.1 hX.2.1 d hv (k H locs ls hR hS hl)
theorem aw_bipush (hX : Ok G X cc own) {n : Int} (v : Int32) (hv : (Int8.ofInt n).toInt32 = v) (d : decode cc pc = .ok (.bipush n, 2)) (k : AW G X (pc + 2) lv (vI v :: st) h ce sl) : AW G X pc lv (st) h ce sl := fun H locs ls hR hS hl => lv_bipush hX.1 hX.2.1 d hv (k H locs ls hR hS hl)
theorem aw_sipush (hX : Ok G X cc own) {n : Int} (v : Int32) (hv : (Int16.ofInt n).toInt32 = v) (d : decode cc pc = .ok (.sipush n, 3)) (k : AW G X (pc + 3) lv (vI v :: st) h ce sl) : AW G X pc lv (st) h ce sl := fun H locs ls hR hS hl => lv_sipush hX.1 hX.2.1 d hv (k H locs ls hR hS hl)
theorem aw_lconst (hX : Ok G X cc own) {n : Fin 2} (v : Int64) (hv : Int64.ofNat (n : Nat) = v) (d : decode cc pc = .ok (.lconst n, 1)) (k : AW G X (pc + 1) lv (vL v :: st) h ce sl) : AW G X pc lv (st) h ce sl := fun H locs ls hR hS hl => lv_lconst hX.1 hX.2.1 d hv (k H locs ls hR hS hl)
theorem aw_ldc (hX : Ok G X cc own) {i : Nat} {v : Int32} (hw : Cond.constant own i v ∈ TT) (d : decode cc pc = .ok (.ldc i, 2)) (k : AW G X (pc + 2) lv (vI v :: st) h ce sl) : AW G X pc lv (st) h ce sl := fun H locs ls hR hS hl => lv_ldc hX.1 hX.2.1 hX.2.2.2.1 (hX.2.2.2.2.1 _ hw) d (k H locs ls hR hS hl)
theorem aw_ldcw (hX : Ok G X cc own) {i : Nat} {v : Int32} (hw : Cond.constant own i v ∈ TT) (d : decode cc pc = .ok (.ldc_w i, 3)) (k : AW G X (pc + 3) lv (vI v :: st) h ce sl) : AW G X pc lv (st) h ce sl := fun H locs ls hR hS hl => lv_ldcw hX.1 hX.2.1 hX.2.2.2.1 (hX.2.2.2.2.1 _ hw) d (k H locs ls hR hS hl)
theorem aw_ldc2 (hX : Ok G X cc own) {i : Nat} {v : Int64} (hw : Cond.constantLong own i v ∈ TT) (d : decode cc pc = .ok (.ldc2_w i, 3)) (k : AW G X (pc + 3) lv (vL v :: st) h ce sl) : AW G X pc lv (st) h ce sl := fun H locs ls hR hS hl => lv_ldc2 hX.1 hX.2.1 hX.2.2.2.1 (hX.2.2.2.2.1 _ hw) d (k H locs ls hR hS hl)
theorem aw_dup (hX : Ok G X cc own) {v : AV} (hv : ac v = 1) (d : decode cc pc = .ok (.dup, 1)) (k : AW G X (pc + 1) lv (v :: v :: st) h ce sl) : AW G X pc lv (v :: st) h ce sl := fun H locs ls hR hS hl => lv_dup hX.1 hX.2.1 d ((tv_cat G v).trans hv) (k H locs ls hR hS hl)
theorem aw_pop (hX : Ok G X cc own) {v : AV} (hv : ac v = 1) (d : decode cc pc = .ok (.pop, 1)) (k : AW G X (pc + 1) lv (st) h ce sl) : AW G X pc lv (v :: st) h ce sl := fun H locs ls hR hS hl => lv_pop hX.1 hX.2.1 d ((tv_cat G v).trans hv) (k H locs ls hR hS hl)
theorem aw_dup2 (hX : Ok G X cc own) {v w : AV} (hv : ac v = 1) (hw : ac w = 1) (d : decode cc pc = .ok (.dup2, 1)) (k : AW G X (pc + 1) lv (v :: w :: v :: w :: st) h ce sl) : AW G X pc lv (v :: w :: st) h ce sl := fun H locs ls hR hS hl => lv_dup2_11 hX.1 hX.2.1 d ((tv_cat G v).trans hv) ((tv_cat G w).trans hw) (k H locs ls hR hS hl)
theorem aw_iloadn (hX : Ok G X cc own) {j : Fin 4} {x : Int32} (p : Nat) (hp : lv[p]? = some ((j : Nat), vI x)) (d : decode cc pc = .ok (.iload_n j, 1)) (k : AW G X (pc + 1) lv (vI x :: st) h ce sl) : AW G X pc lv (st) h ce sl := fun H locs ls hR hS hl => lv_iload_n hX.1 hX.2.1 d rfl (lvm_at hl hp) (k H locs ls hR hS hl)
theorem aw_iload (hX : Ok G X cc own) {j : Nat} {x : Int32} (p : Nat) (hp : lv[p]? = some (j, vI x)) (d : decode cc pc = .ok (.iload j, 2)) (k : AW G X (pc + 2) lv (vI x :: st) h ce sl) : AW G X pc lv (st) h ce sl := fun H locs ls hR hS hl => lv_iload hX.1 hX.2.1 d (lvm_at hl hp) (k H locs ls hR hS hl)
theorem aw_lloadn (hX : Ok G X cc own) {j : Fin 4} {x : Int64} (p : Nat) (hp : lv[p]? = some ((j : Nat), vL x)) (d : decode cc pc = .ok (.lload_n j, 1)) (k : AW G X (pc + 1) lv (vL x :: st) h ce sl) : AW G X pc lv (st) h ce sl := fun H locs ls hR hS hl => lv_lload_n hX.1 hX.2.1 d rfl (lvm_at hl hp) (k H locs ls hR hS hl)
theorem aw_aloadn (hX : Ok G X cc own) {j : Fin 4} {a : Nat} (p : Nat) (hp : lv[p]? = some ((j : Nat), vR a)) (d : decode cc pc = .ok (.aload_n j, 1)) (k : AW G X (pc + 1) lv (vR a :: st) h ce sl) : AW G X pc lv st h ce sl := fun H locs ls hR hS hl => by
  have h1 := lvm_at hl hp
  have h2 := k H locs ls hR hS hl
  cases a with
  | zero => exact lv_aload_nN hX.1 hX.2.1 d rfl h1 h2
  | succ a => exact lv_aload_n hX.1 hX.2.1 d rfl h1 h2
theorem aw_aload (hX : Ok G X cc own) {j : Nat} {a : Nat} (p : Nat) (hp : lv[p]? = some (j, vR a)) (d : decode cc pc = .ok (.aload j, 2)) (k : AW G X (pc + 2) lv (vR a :: st) h ce sl) : AW G X pc lv st h ce sl := fun H locs ls hR hS hl => by
  have h1 := lvm_at hl hp
  have h2 := k H locs ls hR hS hl
  cases a with
  | zero => exact lv_aloadN hX.1 hX.2.1 d h1 h2
  | succ a => exact lv_aload hX.1 hX.2.1 d h1 h2
theorem aw_xloadn (hX : Ok G X cc own) {j : Fin 4} {a : Nat} (p : Nat) (hp : lv[p]? = some ((j : Nat), vX a)) (d : decode cc pc = .ok (.aload_n j, 1)) (k : AW G X (pc + 1) lv (vX a :: st) h ce sl) : AW G X pc lv st h ce sl := fun H locs ls hR hS hl => lv_aload_n hX.1 hX.2.1 d rfl (lvm_at hl hp) (k H locs ls hR hS hl)
theorem aw_istoren (hX : Ok G X cc own) {j : Fin 4} {x : Int32} (lv' : List (Nat × AV)) (e : stl j (vI x) lv = lv') (hn : (j : Nat) < xn X) (d : decode cc pc = .ok (.istore_n j, 1)) (k : AW G X (pc + 1) lv' st h ce sl) : AW G X pc lv (vI x :: st) h ce sl := fun H locs ls hR hS hl => lv_istore_n hX.1 hX.2.1 d rfl hl hn (stl_lvm j (vI x) lv) (fun ls' hl' => k H locs ls' hR hS (e ▸ hl'))
theorem aw_istore (hX : Ok G X cc own) {j : Nat} {x : Int32} (lv' : List (Nat × AV)) (e : stl j (vI x) lv = lv') (hn : j < xn X) (d : decode cc pc = .ok (.istore j, 2)) (k : AW G X (pc + 2) lv' st h ce sl) : AW G X pc lv (vI x :: st) h ce sl := fun H locs ls hR hS hl => lv_istore hX.1 hX.2.1 d hl hn (stl_lvm j (vI x) lv) (fun ls' hl' => k H locs ls' hR hS (e ▸ hl'))
theorem aw_lstoren (hX : Ok G X cc own) {j : Fin 4} {x : Int64} (lv' : List (Nat × AV)) (e : stl2 j (vL x) lv = lv') (hn : (j : Nat) + 1 < xn X) (d : decode cc pc = .ok (.lstore_n j, 1)) (k : AW G X (pc + 1) lv' st h ce sl) : AW G X pc lv (vL x :: st) h ce sl := fun H locs ls hR hS hl => lv_lstore_n hX.1 hX.2.1 d rfl hl hn (stl2_lvm j (vL x) lv) (fun ls' hl' => k H locs ls' hR hS (e ▸ hl'))
theorem aw_astoren (hX : Ok G X cc own) {j : Fin 4} {a : Nat} (lv' : List (Nat × AV)) (e : stl j (vR a) lv = lv') (hn : (j : Nat) < xn X) (d : decode cc pc = .ok (.astore_n j, 1)) (k : AW G X (pc + 1) lv' st h ce sl) : AW G X pc lv (vR a :: st) h ce sl := fun H locs ls hR hS hl => by
  have h1 := stl_lvm (G := G) j (vR a) lv
  subst e
  cases a with
  | zero => exact lv_astore_nN hX.1 hX.2.1 d rfl hl hn h1 (fun ls' hl' => k H locs ls' hR hS hl')
  | succ a => exact lv_astore_n hX.1 hX.2.1 d rfl hl hn h1 (fun ls' hl' => k H locs ls' hR hS hl')
theorem aw_iinc (hX : Ok G X cc own) {j : Nat} {n : Int} {x : Int32} (v : Int32) (hv : Int32.ofInt n = v) (p : Nat) (hp : lv[p]? = some (j, vI x)) (lv' : List (Nat × AV)) (e : stl j (vI (x + v)) lv = lv') (hn : j < xn X) (d : decode cc pc = .ok (.iinc j n, 3)) (k : AW G X (pc + 3) lv' st h ce sl) : AW G X pc lv st h ce sl := fun H locs ls hR hS hl => lv_iinc (v := x + v) (k := p) hX.1 hX.2.1 d hl (by rw [lvm, List.getElem?_map, hp]; rfl) (by rw [hv]) hn (stl_lvm j (vI (x + v)) lv) (fun ls' hl' => k H locs ls' hR hS (e ▸ hl'))
theorem aw_goto (hX : Ok G X cc own) {off : Int} (tgt : Nat) (ht : (pc : Int) + off = (tgt : Int)) (d : decode cc pc = .ok (.goto off, 3)) (k : AW G X tgt lv st h ce sl) : AW G X pc lv st h ce sl := fun H locs ls hR hS hl => lv_goto hX.1 hX.2.1 d ht (k H locs ls hR hS hl)
theorem aw_idiv (hX : Ok G X cc own) {x y : Int32} {α : Type} {f : Int32 → Option α} {P : α → Prop} (hy : OK ((idv x y).bind f) P) (d : decode cc pc = .ok (.idiv, 1)) (k : ∀ v, OK (f v) P → AW G X (pc + 1) lv (vI v :: st) h ce sl) : AW G X pc lv (vI y :: vI x :: st) h ce sl := fun H locs ls hR hS hl => by
  obtain ⟨v, e, hy⟩ := hy.b
  unfold idv at e
  split at e
  · cases e
  · cases e
    exact lv_idiv hX.1 hX.2.1 d (by assumption) (k _ hy H locs ls hR hS hl)
theorem aw_irem (hX : Ok G X cc own) {x y : Int32} {α : Type} {f : Int32 → Option α} {P : α → Prop} (hy : OK ((irm x y).bind f) P) (d : decode cc pc = .ok (.irem, 1)) (k : ∀ v, OK (f v) P → AW G X (pc + 1) lv (vI v :: st) h ce sl) : AW G X pc lv (vI y :: vI x :: st) h ce sl := fun H locs ls hR hS hl => by
  obtain ⟨v, e, hy⟩ := hy.b
  unfold irm at e
  split at e
  · cases e
  · cases e
    exact lv_irem hX.1 hX.2.1 d (by assumption) (k _ hy H locs ls hR hS hl)
theorem aw_lrem (hX : Ok G X cc own) {x y : Int64} (hy : ¬ y = 0) (d : decode cc pc = .ok (.lrem, 1)) (k : AW G X (pc + 1) lv (vL (x - x / y * y) :: st) h ce sl) : AW G X pc lv (vL y :: vL x :: st) h ce sl := fun H locs ls hR hS hl => lv_lrem hX.1 hX.2.1 d hy (k H locs ls hR hS hl)
theorem aw_if_eq (hX : Ok G X cc own) {x : Int32} {off : Int} (tgt : Nat) (ht : (pc : Int) + off = (tgt : Int)) (d : decode cc pc = .ok (.ifCond .eq off, 3)) (kt : x = 0 → AW G X tgt lv st h ce sl) (kf : ¬ x = 0 → AW G X (pc + 3) lv st h ce sl) : AW G X pc lv (vI x :: st) h ce sl := fun H locs ls hR hS hl => lv_if_eq hX.1 hX.2.1 d ht (fun q => kt q H locs ls hR hS hl) (fun q => kf q H locs ls hR hS hl)
theorem aw_ic_eq (hX : Ok G X cc own) {x y : Int32} {off : Int} (tgt : Nat) (ht : (pc : Int) + off = (tgt : Int)) (d : decode cc pc = .ok (.if_icmp .eq off, 3)) (kt : x = y → AW G X tgt lv st h ce sl) (kf : ¬ x = y → AW G X (pc + 3) lv st h ce sl) : AW G X pc lv (vI y :: vI x :: st) h ce sl := fun H locs ls hR hS hl => lv_icmp_eq hX.1 hX.2.1 d ht (fun q => kt q H locs ls hR hS hl) (fun q => kf q H locs ls hR hS hl)
theorem aw_if_ne (hX : Ok G X cc own) {x : Int32} {off : Int} (tgt : Nat) (ht : (pc : Int) + off = (tgt : Int)) (d : decode cc pc = .ok (.ifCond .ne off, 3)) (kt : ¬ x = 0 → AW G X tgt lv st h ce sl) (kf : x = 0 → AW G X (pc + 3) lv st h ce sl) : AW G X pc lv (vI x :: st) h ce sl := fun H locs ls hR hS hl => lv_if_ne hX.1 hX.2.1 d ht (fun q => kt q H locs ls hR hS hl) (fun q => kf q H locs ls hR hS hl)
theorem aw_ic_ne (hX : Ok G X cc own) {x y : Int32} {off : Int} (tgt : Nat) (ht : (pc : Int) + off = (tgt : Int)) (d : decode cc pc = .ok (.if_icmp .ne off, 3)) (kt : ¬ x = y → AW G X tgt lv st h ce sl) (kf : x = y → AW G X (pc + 3) lv st h ce sl) : AW G X pc lv (vI y :: vI x :: st) h ce sl := fun H locs ls hR hS hl => lv_icmp_ne hX.1 hX.2.1 d ht (fun q => kt q H locs ls hR hS hl) (fun q => kf q H locs ls hR hS hl)
theorem aw_if_lt (hX : Ok G X cc own) {x : Int32} {off : Int} (tgt : Nat) (ht : (pc : Int) + off = (tgt : Int)) (d : decode cc pc = .ok (.ifCond .lt off, 3)) (kt : x < 0 → AW G X tgt lv st h ce sl) (kf : ¬ x < 0 → AW G X (pc + 3) lv st h ce sl) : AW G X pc lv (vI x :: st) h ce sl := fun H locs ls hR hS hl => lv_if_lt hX.1 hX.2.1 d ht (fun q => kt q H locs ls hR hS hl) (fun q => kf q H locs ls hR hS hl)
theorem aw_ic_lt (hX : Ok G X cc own) {x y : Int32} {off : Int} (tgt : Nat) (ht : (pc : Int) + off = (tgt : Int)) (d : decode cc pc = .ok (.if_icmp .lt off, 3)) (kt : x < y → AW G X tgt lv st h ce sl) (kf : ¬ x < y → AW G X (pc + 3) lv st h ce sl) : AW G X pc lv (vI y :: vI x :: st) h ce sl := fun H locs ls hR hS hl => lv_icmp_lt hX.1 hX.2.1 d ht (fun q => kt q H locs ls hR hS hl) (fun q => kf q H locs ls hR hS hl)
theorem aw_if_ge (hX : Ok G X cc own) {x : Int32} {off : Int} (tgt : Nat) (ht : (pc : Int) + off = (tgt : Int)) (d : decode cc pc = .ok (.ifCond .ge off, 3)) (kt : 0 ≤ x → AW G X tgt lv st h ce sl) (kf : ¬ 0 ≤ x → AW G X (pc + 3) lv st h ce sl) : AW G X pc lv (vI x :: st) h ce sl := fun H locs ls hR hS hl => lv_if_ge hX.1 hX.2.1 d ht (fun q => kt q H locs ls hR hS hl) (fun q => kf q H locs ls hR hS hl)
theorem aw_ic_ge (hX : Ok G X cc own) {x y : Int32} {off : Int} (tgt : Nat) (ht : (pc : Int) + off = (tgt : Int)) (d : decode cc pc = .ok (.if_icmp .ge off, 3)) (kt : y ≤ x → AW G X tgt lv st h ce sl) (kf : ¬ y ≤ x → AW G X (pc + 3) lv st h ce sl) : AW G X pc lv (vI y :: vI x :: st) h ce sl := fun H locs ls hR hS hl => lv_icmp_ge hX.1 hX.2.1 d ht (fun q => kt q H locs ls hR hS hl) (fun q => kf q H locs ls hR hS hl)
theorem aw_if_gt (hX : Ok G X cc own) {x : Int32} {off : Int} (tgt : Nat) (ht : (pc : Int) + off = (tgt : Int)) (d : decode cc pc = .ok (.ifCond .gt off, 3)) (kt : 0 < x → AW G X tgt lv st h ce sl) (kf : ¬ 0 < x → AW G X (pc + 3) lv st h ce sl) : AW G X pc lv (vI x :: st) h ce sl := fun H locs ls hR hS hl => lv_if_gt hX.1 hX.2.1 d ht (fun q => kt q H locs ls hR hS hl) (fun q => kf q H locs ls hR hS hl)
theorem aw_ic_gt (hX : Ok G X cc own) {x y : Int32} {off : Int} (tgt : Nat) (ht : (pc : Int) + off = (tgt : Int)) (d : decode cc pc = .ok (.if_icmp .gt off, 3)) (kt : y < x → AW G X tgt lv st h ce sl) (kf : ¬ y < x → AW G X (pc + 3) lv st h ce sl) : AW G X pc lv (vI y :: vI x :: st) h ce sl := fun H locs ls hR hS hl => lv_icmp_gt hX.1 hX.2.1 d ht (fun q => kt q H locs ls hR hS hl) (fun q => kf q H locs ls hR hS hl)
theorem aw_if_le (hX : Ok G X cc own) {x : Int32} {off : Int} (tgt : Nat) (ht : (pc : Int) + off = (tgt : Int)) (d : decode cc pc = .ok (.ifCond .le off, 3)) (kt : x ≤ 0 → AW G X tgt lv st h ce sl) (kf : ¬ x ≤ 0 → AW G X (pc + 3) lv st h ce sl) : AW G X pc lv (vI x :: st) h ce sl := fun H locs ls hR hS hl => lv_if_le hX.1 hX.2.1 d ht (fun q => kt q H locs ls hR hS hl) (fun q => kf q H locs ls hR hS hl)
theorem aw_ic_le (hX : Ok G X cc own) {x y : Int32} {off : Int} (tgt : Nat) (ht : (pc : Int) + off = (tgt : Int)) (d : decode cc pc = .ok (.if_icmp .le off, 3)) (kt : x ≤ y → AW G X tgt lv st h ce sl) (kf : ¬ x ≤ y → AW G X (pc + 3) lv st h ce sl) : AW G X pc lv (vI y :: vI x :: st) h ce sl := fun H locs ls hR hS hl => lv_icmp_le hX.1 hX.2.1 d ht (fun q => kt q H locs ls hR hS hl) (fun q => kf q H locs ls hR hS hl)
theorem aw_ifnull (hX : Ok G X cc own) {a : Nat} {off : Int} (tgt : Nat) (ht : (pc : Int) + off = (tgt : Int)) (d : decode cc pc = .ok (.ifnull off, 3)) (kt : a = 0 → AW G X tgt lv st h ce sl) (kf : ¬ a = 0 → AW G X (pc + 3) lv st h ce sl) : AW G X pc lv (vR a :: st) h ce sl := fun H locs ls hR hS hl => by
  cases a with
  | zero => exact lv_ifnullN hX.1 hX.2.1 d ht (kt rfl H locs ls hR hS hl)
  | succ a => exact lv_ifnull hX.1 hX.2.1 d (kf (by omega) H locs ls hR hS hl)
theorem aw_ifnonnull (hX : Ok G X cc own) {a : Nat} {off : Int} (tgt : Nat) (ht : (pc : Int) + off = (tgt : Int)) (d : decode cc pc = .ok (.ifnonnull off, 3)) (kt : ¬ a = 0 → AW G X tgt lv st h ce sl) (kf : a = 0 → AW G X (pc + 3) lv st h ce sl) : AW G X pc lv (vR a :: st) h ce sl := fun H locs ls hR hS hl => by
  cases a with
  | zero => exact lv_ifnonnullN hX.1 hX.2.1 d (kf rfl H locs ls hR hS hl)
  | succ a => exact lv_ifnonnull hX.1 hX.2.1 d ht (kt (by omega) H locs ls hR hS hl)
theorem aw_tout (hX : Ok G X cc own) {dflt lo hi : Int} {offs : Array Int} {len : Nat} {x : Int32} (tgt : Nat) (hh : x.toInt < lo ∨ hi < x.toInt) (ht : (pc : Int) + dflt = (tgt : Int)) (d : decode cc pc = .ok (.tableswitch dflt lo hi offs, len)) (k : AW G X tgt lv st h ce sl) : AW G X pc lv (vI x :: st) h ce sl := fun H locs ls hR hS hl => lv_tableOut hX.1 hX.2.1 d hh ht (k H locs ls hR hS hl)
theorem aw_tin (hX : Ok G X cc own) {dflt lo hi : Int} {offs : Array Int} {len : Nat} {x : Int32} {off : Int} (tgt : Nat) (h1 : ¬ x.toInt < lo) (h2 : ¬ hi < x.toInt) (ho : offs[(x.toInt - lo).toNat]? = some off) (ht : (pc : Int) + off = (tgt : Int)) (d : decode cc pc = .ok (.tableswitch dflt lo hi offs, len)) (k : AW G X tgt lv st h ce sl) : AW G X pc lv (vI x :: st) h ce sl := fun H locs ls hR hS hl => lv_tableIn hX.1 hX.2.1 d h1 h2 ho ht (k H locs ls hR hS hl)
end AWS
