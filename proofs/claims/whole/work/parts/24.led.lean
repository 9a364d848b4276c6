
theorem rm_ofx {X : CX} {rm rm' : Room} {mxl ce sl : Nat} (hr : xr X = rm) (hd : (rm'.frames + 1 ≤ rm.frames ∧ 8 + (mxl + 11) + rm'.locals ≤ rm.locals) ∧ ce + rm'.cells ≤ rm.cells ∧ sl + rm'.slots ≤ rm.slots) : Rm X rm' mxl ce sl := by
  unfold Rm
  rw [hr]
  exact hd
theorem dX11_led_0 : decode cX11_led 0 = .ok (.iload_n 1, 1) := by decide +kernel
theorem dX11_led_1 : decode cX11_led 1 = .ok (.istore_n 2, 1) := by decide +kernel
theorem dX11_led_2 : decode cX11_led 2 = .ok (.iconst 0, 1) := by decide +kernel
theorem dX11_led_3 : decode cX11_led 3 = .ok (.istore_n 3, 1) := by decide +kernel
theorem dX11_led_4 : decode cX11_led 4 = .ok (.iload_n 3, 1) := by decide +kernel
theorem dX11_led_5 : decode cX11_led 5 = .ok (.aload_n 0, 1) := by decide +kernel
theorem dX11_led_6 : decode cX11_led 6 = .ok (.getfield 10, 3) := by decide +kernel
theorem dX11_led_9 : decode cX11_led 9 = .ok (.getfield 241, 3) := by decide +kernel
theorem dX11_led_12 : decode cX11_led 12 = .ok (.if_icmp .ge 37, 3) := by decide +kernel
theorem dX11_led_15 : decode cX11_led 15 = .ok (.iload_n 2, 1) := by decide +kernel
theorem dX11_led_16 : decode cX11_led 16 = .ok (.ifCond .lt 33, 3) := by decide +kernel
theorem dX11_led_19 : decode cX11_led 19 = .ok (.aload_n 0, 1) := by decide +kernel
theorem dX11_led_20 : decode cX11_led 20 = .ok (.getfield 26, 3) := by decide +kernel
theorem dX11_led_23 : decode cX11_led 23 = .ok (.iload_n 3, 1) := by decide +kernel
theorem dX11_led_24 : decode cX11_led 24 = .ok (.iconst 3, 1) := by decide +kernel
theorem dX11_led_25 : decode cX11_led 25 = .ok (.invokevirtual 172, 3) := by decide +kernel
theorem dX11_led_28 : decode cX11_led 28 = .ok (.ifCond .ne 6, 3) := by decide +kernel
theorem dX11_led_31 : decode cX11_led 31 = .ok (.goto 12, 3) := by decide +kernel
theorem dX11_led_34 : decode cX11_led 34 = .ok (.iload_n 2, 1) := by decide +kernel
theorem dX11_led_35 : decode cX11_led 35 = .ok (.ifCond .ne 5, 3) := by decide +kernel
theorem dX11_led_38 : decode cX11_led 38 = .ok (.iload_n 3, 1) := by decide +kernel
theorem dX11_led_39 : decode cX11_led 39 = .ok (.ireturn, 1) := by decide +kernel
theorem dX11_led_40 : decode cX11_led 40 = .ok (.iinc 2 (-1), 3) := by decide +kernel
theorem dX11_led_43 : decode cX11_led 43 = .ok (.iinc 3 1, 3) := by decide +kernel
theorem dX11_led_46 : decode cX11_led 46 = .ok (.goto (-42), 3) := by decide +kernel
theorem dX11_led_49 : decode cX11_led 49 = .ok (.new 350, 3) := by decide +kernel
theorem dX11_led_52 : decode cX11_led 52 = .ok (.dup, 1) := by decide +kernel
theorem dX11_led_53 : decode cX11_led 53 = .ok (.invokespecial 352, 3) := by decide +kernel
theorem dX11_led_56 : decode cX11_led 56 = .ok (.athrow, 1) := by decide +kernel
abbrev rm_X11_led : Room := { frames := 8, cells := 1, slots := 6, locals := 160 }
def f_X11_led_43 (h : Mem) (v0 : Nat) (v2 : Int32) (v3 : Int32) : Option ((Int32 × Int32) ⊕ (Int32 ⊕ Unit)) :=
  some (.inl (v2, (v3 + 1)))
set_option maxRecDepth 100000 in
set_option maxHeartbeats 4000000 in
theorem w_X11_led_43 {G : GE} {X : CX} (hX : Ok G X cX11_led RX11) (hN : xn X = 4) (h : Mem) (hr : xr X = rm_X11_led)  (v0 : Nat) {P : ((Int32 × Int32) ⊕ (Int32 ⊕ Unit)) → Prop} (hc : ∀ s, P (.inl s) → AW G X 4 [(0, vR v0), (2, vI s.1), (3, vI s.2)] [] h 0 0) (he0 : ∀ e, P (.inr (.inl e)) → AW G X 38 [(3, vI e)] [] h 0 0) (he1 : ∀ e, P (.inr (.inr e)) → AW G X 49 [] [] h 0 0) (v2 : Int32) (v3 : Int32) (hy : OK (f_X11_led_43 h v0 v2 v3) P) : AW G X 43 [(0, vR v0), (2, vI v2), (3, vI v3)] [] h 0 0 := by
  unfold f_X11_led_43 at hy
  refine aw_iinc (pc := 43) hX 1 (by decide) 2 rfl [(3, vI (v3 + 1)), (0, vR v0), (2, vI v2)] rfl (lt_n hN (by decide)) dX11_led_43 ?_
  refine aw_goto (pc := 46) hX 4 (by decide) dX11_led_46 ?_
  refine AW.sub [1, 2, 0] rfl ?_
  exact hc (v2, (v3 + 1)) hy.s
def b_X11_led_4 (h : Mem) (v0 : Nat) (v2 : Int32) (v3 : Int32) : Option ((Int32 × Int32) ⊕ (Int32 ⊕ Unit)) :=
  (gR h v0 1 9).bind fun r1 => (gI h r1 6 4).bind fun x2 => (if x2 ≤ v3 then some (.inr (.inr ())) else (if v2 < 0 then some (.inr (.inr ())) else (gR h v0 3 9).bind fun r3 => (f_X2_of h r3 v3 3).bind fun x4 => (if x4 = 0 then f_X11_led_43 h v0 v2 v3 else (if v2 = 0 then some (.inr (.inl v3)) else f_X11_led_43 h v0 (v2 + (-1)) v3))))
set_option maxRecDepth 100000 in
set_option maxHeartbeats 4000000 in
theorem wb_X11_led_4 {G : GE} {X : CX} (hX : Ok G X cX11_led RX11) (hN : xn X = 4) (h : Mem) (hr : xr X = rm_X11_led)  (v0 : Nat) {P : ((Int32 × Int32) ⊕ (Int32 ⊕ Unit)) → Prop} (hc : ∀ s, P (.inl s) → AW G X 4 [(0, vR v0), (2, vI s.1), (3, vI s.2)] [] h 0 0) (he0 : ∀ e, P (.inr (.inl e)) → AW G X 38 [(3, vI e)] [] h 0 0) (he1 : ∀ e, P (.inr (.inr e)) → AW G X 49 [] [] h 0 0) (v2 : Int32) (v3 : Int32) (hy : OK (b_X11_led_4 h v0 v2 v3) P) : AW G X 4 [(0, vR v0), (2, vI v2), (3, vI v3)] [] h 0 0 := by
  unfold b_X11_led_4 at hy
  refine aw_iloadn (pc := 4) hX 2 rfl dX11_led_4 ?_
  refine aw_aloadn (pc := 5) hX 0 rfl dX11_led_5 ?_
  refine aw_gR (pc := 6) hX hy fl_X11_10 (fun _ _ => rfl) dX11_led_6 (fun r1 hy => ?_)
  refine aw_gI (pc := 9) hX hy fl_X11_241 (fun _ _ => rfl) dX11_led_9 (fun x2 hy => ?_)
  refine aw_ic_ge (pc := 12) hX 49 (by decide) dX11_led_12 (fun hc9 => ?_) (fun hc9 => ?_)
  · have hy := hy.t hc9
    refine AW.sub [] rfl ?_
    exact he1 () hy.s
  · have hy := hy.f hc9
    refine aw_iloadn (pc := 15) hX 1 rfl dX11_led_15 ?_
    refine aw_if_lt (pc := 16) hX 49 (by decide) dX11_led_16 (fun hc9 => ?_) (fun hc9 => ?_)
    · have hy := hy.t hc9
      refine AW.sub [] rfl ?_
      exact he1 () hy.s
    · have hy := hy.f hc9
      refine aw_aloadn (pc := 19) hX 0 rfl dX11_led_19 ?_
      refine aw_gR (pc := 20) hX hy fl_X11_26 (fun _ _ => rfl) dX11_led_20 (fun r3 hy => ?_)
      refine aw_iloadn (pc := 23) hX 2 rfl dX11_led_23 ?_
      refine aw_iconst (pc := 24) hX 3 (by decide) dX11_led_24 ?_
      refine aw_callV (pc := 25) (st := []) (a := r3) hX [vI v3, vI 3] (con_X2_of _ G _ r3 v3 3 hy.bd) mc_X2_of ml_X11_172 im_X2_of se_X2_of (by decide) hy.bd.kd rfl (rm_ofx hr (by decide)) (Nat.le_of_ble_eq_true rfl) rfl dX11_led_25 (kpI rfl rfl (fun x4 hy => ?_))
      refine aw_if_ne (pc := 28) hX 34 (by decide) dX11_led_28 (fun hc9 => ?_) (fun hc9 => ?_)
      · have hy := hy.f hc9
        refine aw_iloadn (pc := 34) hX 1 rfl dX11_led_34 ?_
        refine aw_if_ne (pc := 35) hX 40 (by decide) dX11_led_35 (fun hc9 => ?_) (fun hc9 => ?_)
        · have hy := hy.f hc9
          refine aw_iinc (pc := 40) hX (-1) (by decide) 1 rfl [(2, vI (v2 + (-1))), (0, vR v0), (3, vI v3)] rfl (lt_n hN (by decide)) dX11_led_40 ?_
          refine AW.sub [1, 0, 2] rfl ?_
          exact w_X11_led_43 hX hN _ hr _ hc he0 he1 (v2 + (-1)) v3 hy
        · have hy := hy.t hc9
          refine AW.sub [2] rfl ?_
          exact he0 v3 hy.s
      · have hy := hy.t hc9
        refine aw_goto (pc := 31) hX 43 (by decide) dX11_led_31 ?_
        exact w_X11_led_43 hX hN _ hr _ hc he0 he1 v2 v3 hy
theorem wl_X11_led_4 {G : GE} {X : CX} (hX : Ok G X cX11_led RX11) (hN : xn X = 4) (h : Mem) (hr : xr X = rm_X11_led) (v0 : Nat) {P : (Int32 ⊕ Unit) → Prop} (he0 : ∀ e, P (.inl e) → AW G X 38 [(3, vI e)] [] h 0 0) (he1 : ∀ e, P (.inr e) → AW G X 49 [] [] h 0 0) : ∀ (n : Nat) (s : Int32 × Int32), OK (iter (fun (s : Int32 × Int32) => b_X11_led_4 h v0 s.1 s.2) n s) P → AW G X 4 [(0, vR v0), (2, vI s.1), (3, vI s.2)] [] h 0 0 := by
  intro n
  induction n with
  | zero => exact fun s hy => hy.it0.elim
  | succ n ih =>
    intro s hy
    exact wb_X11_led_4 hX hN h hr v0 (fun s hs => ih s hs) (fun e hs => he0 e hs) (fun e hs => he1 e hs) s.1 s.2 hy.it
def f_X11_led (h : Mem) (v0 : Nat) (v1 : Int32) : Option (Int32 ⊕ Unit) :=
  (ck h v0 9).bind fun _ => (iter (fun (s : Int32 × Int32) => b_X11_led_4 h v0 s.1 s.2) FU (v1, 0)).bind (Sum.elim (fun e6 => some (.inl e6)) (fun e7 => some (.inr ())))
set_option maxRecDepth 100000 in
set_option maxHeartbeats 4000000 in
theorem w_X11_led {G : GE} {X : CX} (hX : Ok G X cX11_led RX11) (hN : xn X = 4) (h : Mem) {P : (Int32 ⊕ Unit) → Prop} (hr : xr X = rm_X11_led) (hret : ∀ lv x, P (.inl x) → AW G X 39 lv [vI x] h 0 0) (hthr : ∀ lv, P (.inr ()) → AW G X 49 lv [] h 0 0) (v0 : Nat) (v1 : Int32) (hy : OK (f_X11_led h v0 v1) P) : AW G X 0 [(0, vR v0), (1, vI v1)] [] h 0 0 := by
  unfold f_X11_led at hy
  have hkd := hy.kd
  have hy := hy.kb
  refine aw_iloadn (pc := 0) hX 1 rfl dX11_led_0 ?_
  refine aw_istoren (pc := 1) hX [(2, vI v1), (0, vR v0), (1, vI v1)] rfl (lt_n hN (by decide)) dX11_led_1 ?_
  refine aw_iconst (pc := 2) hX 0 (by decide) dX11_led_2 ?_
  refine aw_istoren (pc := 3) hX [(3, vI 0), (2, vI v1), (0, vR v0), (1, vI v1)] rfl (lt_n hN (by decide)) dX11_led_3 ?_
  refine AW.sub [2, 1, 0] rfl ?_
  refine wl_X11_led_4 hX hN _ hr v0 ?_ ?_ FU (v1, 0) hy.bd
  · intro e6 hy
    refine aw_iloadn (pc := 38) hX 0 rfl dX11_led_38 ?_
    exact hret _ e6 hy.s
  · intro e7 hy
    exact hthr _ hy.s

/-! the throwing: what lies outside for it -/
abbrev nse : String := "java/util/NoSuchElementException"
abbrev nsn : List String := ["java/lang/RuntimeException", "java/lang/Exception"]
def ETH (G : GE) (U : State) : Prop := vx_Zq Bundle.tN "UNASSIGNED_STACK" Bundle.steD (gA G) U U.heap ∧ vx_Zq Bundle.tN "SUPPRESSED_SENTINEL" Bundle.listD (gA G) U U.heap ∧
  va_Nw (.declares ⟨"java/lang/RuntimeException", "<init>", "()V"⟩) U ∧ va_Nw (.declares ⟨"java/lang/Exception", "<init>", "()V"⟩) U ∧ va_Nw (.declares ⟨"java/lang/Throwable", "<init>", "()V"⟩) U ∧ va_Nw (.castable nse nse) U
theorem ETH.moved {G : GE} {s U : State} (h : ETH G s) (hW : s.WarmedH U.vm) (hq : ∀ a : Nat, a < s.heap.size → ¬ gA G a → U.heap[a]? = s.heap[a]?) : ETH G U := by
  obtain ⟨h1, h2, h3, h4, h5, h6⟩ := h
  exact ⟨vx_Zq.moved hW.alike (h1.kept hq), vx_Zq.moved hW.alike (h2.kept hq), va_Nw.warmD hW h3, va_Nw.warmD hW h4, va_Nw.warmD hW h5, va_Nw.warmC hW h6⟩
theorem ETH.same {G : GE} {s U : State} (h : ETH G s) (hv : s.vm = U.vm) (hh : U.heap = s.heap) : ETH G U := by
  obtain ⟨h1, h2, h3, h4, h5, h6⟩ := h
  have hA : s.vm.Alike U.vm := by rw [hv]; exact Vm.Alike.refl _
  exact ⟨by rw [hh]; exact vx_Zq.moved hA h1, by rw [hh]; exact vx_Zq.moved hA h2, va_Nw.same rfl hv h3, va_Nw.same rfl hv h4, va_Nw.same rfl hv h5, va_Nw.same rfl hv h6⟩
theorem led_good : ∀ w ∈ (vx_at0 RX11 352 nse nsn).filter goodWord, w ∈ TT := uw_of (by decide +kernel)
def ledB : List Cond := [.declares ⟨"java/lang/RuntimeException", "<init>", "()V"⟩, .declares ⟨"java/lang/Exception", "<init>", "()V"⟩, .declares ⟨"java/lang/Throwable", "<init>", "()V"⟩, .castable nse nse]
theorem led_bad : ∀ w ∈ (vx_at0 RX11 352 nse nsn).filter (fun w => !goodWord w), w ∈ ledB := by decide +kernel
theorem led_ot : ∀ w ∈ Cond.classLink RX11 350 nse :: Cond.initialized nse :: vx_at0 RX11 352 nse nsn, vx_ot w = true := by decide +kernel
theorem led_cl : Cond.classLink RX11 350 nse ∈ TT := TT_i 1200 (by decide +kernel) rfl
theorem led_in : Cond.initialized nse ∈ TT := TT_i 26 (by decide +kernel) rfl
def setN (h : Mem) (n : Nat) : Mem := (mI h, mL h, mR h, mT h, n)
/-- where led has thrown: the memory is as it was, but for its next place -/
def XL (G : GE) (h : Mem) (PX : Prop) : String → State → State → Prop := fun E st t => E = nse ∧ PX ∧ (∃ n, mN h ≤ n ∧ RelM G (setN h n) t.heap) ∧ va_F (gA G) st t
theorem RelM.setN {G : GE} {h : Mem} {H H' : Heap} (hR : RelM G h H) (hz : H.size ≤ H'.size) (hq : ∀ q : Nat, q < H.size → H'[q]? = H[q]?) : ∃ n, mN h ≤ n ∧ RelM G (setN h n) H' := by
  have h1 := hR.1
  refine ⟨H'.size - gB G, by omega, ?_, ?_, hR.2.2.1, fun a => ?_⟩
  · show H'.size = gB G + (H'.size - gB G)
    omega
  · show 1 ≤ H'.size - gB G
    have := hR.2.1
    omega
  · obtain ⟨k1, k2, k3, k4⟩ := hR.2.2.2 a
    refine ⟨fun q => ?_, fun q => ?_, fun q => ?_, fun q => ?_⟩
    · have := k1 q
      exact this.kept (hq _ this.lt)
    · rw [hq _ (Array.getElem?_eq_some_iff.mp (k2 q)).1]; exact k2 q
    · rw [hq _ (Array.getElem?_eq_some_iff.mp (k3 q)).1]; exact k3 q
    · rw [hq _ (Array.getElem?_eq_some_iff.mp (k4 q)).1]; exact k4 q
def PPx (G : GE) (avs : List AV) (h : Mem) : Array Value → State → Prop := va_Pc (avs.map (tv G)) (fun U => (RelM G h U.heap ∧ KE G U) ∧ ETH G U)
set_option maxHeartbeats 4000000 in
set_option maxRecDepth 100000 in
theorem con_X11_led (l : Launch) (hl : l.stackTraces = false) (G : GE) (h : Mem) (v0 : Nat) (v1 : Int32) {P : Int32 ⊕ Unit → Prop} (hy : OK (f_X11_led h v0 v1) P) : vx_Met l yX11_led (.code yX11_led cX11_led 4 (some .int) :: TT) rm_X11_led (PPx G [vR v0, vI v1] h) (QQ G (ppI h (fun v => P (.inl v)))) (XL G h (P (.inr ()))) 1 6 (gA G) := by
  refine vx_ofW (cc := cX11_led) (maxL := 4) (ret := some .int) (by decide) rfl ?_
  intro p e s m args below meth c s₁ B hml htab hv
  obtain ⟨rfl, ⟨hR, hK⟩, hE⟩ := hv
  have hown : s.vm.findClass yX11_led.cls = some m.cls := findClass_of_methodNamed B.named
  have hts : ∀ w ∈ TT, w.before ([vR v0, vI v1].map (tv G)).toArray s = true := fun w hw => atoms_spec (ws := .code yX11_led cX11_led 4 (some .int) :: TT) B.pre w (List.mem_cons_of_mem _ hw)
  have hle := lv_entry ([vR v0, vI v1].map (tv G)) (n := 4) (by
    simp only [lg_sl, List.map_cons, List.map_nil, List.flatMap_cons, List.flatMap_nil, tv_cat, ac]
    exact Nat.le_of_ble_eq_true rfl)
  rw [lg_entry_eq]
  generalize (lg_sl ([vR v0, vI v1].map (tv G)) ++ List.replicate (4 - (lg_sl ([vR v0, vI v1].map (tv G))).length) Slot.unset).toArray = ls at hle ⊢
  rw [lav_lvm] at hle
  have hgA : ∀ q, s.heap.size ≤ q → gA G q := fun q hq => by
    have h1 := hR.1
    have h2 := hR.2.1
    show G.1 < q
    have : s.heap.size = G.1 + mN h := h1
    omega
  have key : ∀ X : CX, X = (p, l, e, rm_X11_led, s, m, ([vR v0, vI v1].map (tv G)).toArray, below, meth, c, vx_MQ below (QQ G (ppI h (fun v => P (.inl v)))) (XL G h (P (.inr ()))) ([vR v0, vI v1].map (tv G)).toArray s 1 6 (gA G), 4) → AW G X 0 [(0, vR v0), (1, vI v1)] [] h 0 0 := by
    intro X eX
    have hX : Ok G X cX11_led RX11 := by subst eX; exact ⟨B.exec, B.bytes, hml, hown, hts, hK, B.notSynchronized, hgA⟩
    have hr : xr X = rm_X11_led := by subst eX; rfl
    have hN : xn X = 4 := by subst eX; rfl
    refine w_X11_led hX hN h hr (fun lv x hx => ?_) (fun lv hx => ?_) v0 v1 hy
    · intro H locs ls' hR' hS' hl'
      subst eX
      exact vx_ret (W.widen (Nat.zero_le _) (Nat.zero_le _) (W.iret hX.1 hX.2.1 B.returns (fun t ht hW => ⟨⟨some (vI x), h, rfl, ⟨rfl, _, rfl, hx⟩, by rw [ht]; exact hR'⟩, hS'.F ht⟩) hS'.2.2 dX11_led_39 hX.2.2.2.2.2.2.1))
    · intro H locs ls' hR' hS' hl'
      subst eX
      refine vx_throw0 (names := nsn) (cls := nse) (own := RX11) (ik := 350) (ic := 352) (A := gA G) hX.1 hX.2.1 hl hX.2.2.2.1 (by decide) (by decide) (hts _ led_cl) (hts _ led_in) ?_ led_ot hE.1 hE.2.1 hS' (hl'.1.trans hml.symm) dX11_led_49 dX11_led_52 dX11_led_53 dX11_led_56 (fun x hx => (htab x hx).elim) (show 2 + 3 < 8 by decide) (show 0 + (13 * (2 + 1) + 42) ≤ 160 by decide) (Nat.le_of_ble_eq_true rfl) (Nat.le_of_ble_eq_true rfl) hX.2.2.2.2.2.2.1 ?_ hS'.2.2 (Nat.le_of_ble_eq_true rfl) (Nat.le_of_ble_eq_true rfl)
      · refine vx_hat (B := ledB) (fun w hw => hts w (led_good w hw)) led_bad ?_
        exact vx_c (va_Nw.use rfl hE.2.2.1) (vx_c (va_Nw.use rfl hE.2.2.2.1) (vx_c (va_Nw.use rfl hE.2.2.2.2.1) (vx_c (va_Nw.use rfl hE.2.2.2.2.2) vx_n)))
      · intro t hvm hz hq
        refine ⟨rfl, hx, hR'.setN hz hq, Nat.le_trans hS'.1 hz, fun q h1 h2 => ?_⟩
        rw [hq q (Nat.lt_of_lt_of_le h1 hS'.1)]
        exact hS'.2.1 q h1 h2
  exact key _ rfl s.heap [] ls hR va_S.rf hle
theorem dL_led_0 : decode cL_led 0 = .ok (.aload_n 2, 1) := by decide +kernel
theorem dL_led_1 : decode cL_led 1 = .ok (.iconst 0, 1) := by decide +kernel
theorem dL_led_2 : decode cL_led 2 = .ok (.aload_n 0, 1) := by decide +kernel
theorem dL_led_3 : decode cL_led 3 = .ok (.iload_n 1, 1) := by decide +kernel
theorem dL_led_4 : decode cL_led 4 = .ok (.invokevirtual 7, 3) := by decide +kernel
theorem dL_led_7 : decode cL_led 7 = .ok (.i2l, 1) := by decide +kernel
theorem dL_led_8 : decode cL_led 8 = .ok (.lastore, 1) := by decide +kernel
theorem dL_led_9 : decode cL_led 9 = .ok (.goto 6, 3) := by decide +kernel
theorem dL_led_12 : decode cL_led 12 = .ok (.astore_n 3, 1) := by decide +kernel
theorem dL_led_13 : decode cL_led 13 = .ok (.iconst 1, 1) := by decide +kernel
theorem dL_led_14 : decode cL_led 14 = .ok (.ireturn, 1) := by decide +kernel
theorem dL_led_15 : decode cL_led 15 = .ok (.iconst 0, 1) := by decide +kernel
theorem dL_led_16 : decode cL_led 16 = .ok (.ireturn, 1) := by decide +kernel
theorem mc_X11_led : MC yX11_led cX11_led 4 (some .int) 1 := ⟨TT_i 1199 (by decide +kernel) rfl, TT_i 1 (by decide +kernel) rfl, by decide +kernel⟩
theorem im_X11_led : Cond.instanceMethod yX11_led ∈ TT := TT_i 1197 (by decide +kernel) rfl
theorem se_X11_led : Cond.selects (cR 9) yX11_led yX11_led ∈ TT := TT_i 1198 (by decide +kernel) rfl
theorem ml_L_7 : Cond.methodLink RL 7 yX11_led ∈ TT := TT_i 1196 (by decide +kernel) rfl
theorem cl_L_13 : Cond.classLink RL 13 nse ∈ TT := TT_i 1195 (by decide +kernel) rfl
theorem cw_L_led : Cond.codeWith yL_led cL_led 4 (some .int) [(0, 9, 12, 13)] ∈ TT := TT_i 1194 (by decide +kernel) rfl
theorem st_L_led : Cond.static yL_led ∈ TT := TT_i 1193 (by decide +kernel) rfl
theorem in_L : Cond.initialized RL ∈ TT := TT_i 0 (by decide +kernel) rfl
theorem ml_L_223 : Cond.methodLink RL 223 yL_led ∈ TT := TT_i 1192 (by decide +kernel) rfl
abbrev rm_L_led : Room := { frames := 9, cells := 1, slots := 6, locals := 190 }
theorem PPx_blind (G : GE) (avs : List AV) (h : Mem) : FrameBlind (PPx G avs h) := fun a U g mk q => ⟨q.1, ⟨q.2.1.1, q.2.1.2.same rfl rfl⟩, q.2.2.same rfl rfl⟩
set_option maxHeartbeats 4000000 in
set_option maxRecDepth 100000 in
theorem con_L_led (l : Launch) (hl : l.stackTraces = false) (G : GE) (h : Mem) (v0 : Nat) (v1 : Int32) (v2 : Nat) {P : Int32 ⊕ Unit → Prop} (hy : OK (f_X11_led h v0 v1) P) {post : Option AV → Mem → Prop} (k0 : ∀ x, P (.inl x) → OK (sL h v2 0 x.toInt64) (post (some (vI 0)))) (k1 : P (.inr ()) → ∀ n, mN h ≤ n → post (some (vI 1)) (setN h n)) :
    Met l yL_led (.codeWith yL_led cL_led 4 (some .int) [(0, 9, 12, 13)] :: TT) rm_L_led (PPx G [vR v0, vI v1, vR v2] h) (QQ G post) 1 6 (gA G) := by
  refine va_MetW (cc := cL_led) (maxL := 4) (ret := some .int) (by decide) rfl ?_
  intro p e s m args below meth c s₁ B hml hv
  obtain ⟨rfl, ⟨hR, hK⟩, hE⟩ := hv
  have hown : s.vm.findClass yL_led.cls = some m.cls := findClass_of_methodNamed B.named
  have hts0 := atoms_spec (ws := .codeWith yL_led cL_led 4 (some .int) [(0, 9, 12, 13)] :: TT) B.pre
  have hts : ∀ w ∈ TT, w.before ([vR v0, vI v1, vR v2].map (tv G)).toArray s = true := fun w hw => hts0 w (List.mem_cons_of_mem _ hw)
  have htab := vx_table (x := yL_led) B (hts0 _ List.mem_cons_self)
  have hle := lv_entry ([vR v0, vI v1, vR v2].map (tv G)) (n := 4) (by
    simp only [lg_sl, List.map_cons, List.map_nil, List.flatMap_cons, List.flatMap_nil, tv_cat, ac]
    exact Nat.le_of_ble_eq_true rfl)
  rw [lg_entry_eq]
  generalize (lg_sl ([vR v0, vI v1, vR v2].map (tv G)) ++ List.replicate (4 - (lg_sl ([vR v0, vI v1, vR v2].map (tv G))).length) Slot.unset).toArray = ls at hle ⊢
  rw [lav_lvm] at hle
  have hgA : ∀ q, s.heap.size ≤ q → gA G q := fun q hq => by
    have h1 := hR.1
    have h2 := hR.2.1
    show G.1 < q
    have : s.heap.size = G.1 + mN h := h1
    omega
  have key : ∀ X : CX, X = (p, l, e, rm_L_led, s, m, ([vR v0, vI v1, vR v2].map (tv G)).toArray, below, meth, c, MQ below (QQ G post) ([vR v0, vI v1, vR v2].map (tv G)).toArray s 1 6 (gA G), 4) → AW G X 0 [(0, vR v0), (1, vI v1), (2, vR v2)] [] h 0 0 := by
    intro X eX
    have hX : Ok G X cL_led RL := by subst eX; exact ⟨B.exec, B.bytes, hml, hown, hts, hK, B.notSynchronized, hgA⟩
    have hN : xn X = 4 := by subst eX; rfl
    have hr : Rt G X l yL_led (some .int) rm_L_led post := by subst eX; exact ⟨rfl, rfl, rfl, (name_of_methodNamed B.named B.method).1, B.returns⟩
    refine aw_aloadn (pc := 0) hX 2 rfl dL_led_0 ?_
    refine aw_iconst (pc := 1) hX 0 (by decide) dL_led_1 ?_
    refine aw_aloadn (pc := 2) hX 0 rfl dL_led_2 ?_
    refine aw_iloadn (pc := 3) hX 1 rfl dL_led_3 ?_
    intro H locs ls' hR' hS' hl'
    have hkd : (mT h v0).1 = 9 := hy.kd
    have ha0 := nz hR' hkd (by decide)
    have e9 : ([vI v1, vR v0, vI 0, vR v2] : List AV).map (tv G) = ([vI v1].map (tv G)).reverse ++ .ref (gB G + v0) :: [vI 0, vR v2].map (tv G) := by
      show tv G (vI v1) :: rv G v0 :: _ = _
      rw [rv_pos G ha0]
      rfl
    show W _ _ _ _ _ _ _ _ _ _ _ _ _ _ _ (F0 _ 4 ls' (([vI v1, vR v0, vI 0, vR v2] : List AV).map (tv G)))
    rw [e9]
    have hPP : ∀ U : State, U.heap = H → (xs X).WarmedH U.vm → PPx G [vR v0, vI v1] h (Value.ref (gB G + v0) :: [vI v1].map (tv G)).toArray U := by
      intro U hU hW
      rw [args_v G [vI v1] ha0]
      subst eX
      exact ⟨rfl, ⟨by rw [hU]; exact hR', hK.moved hW (fun a h1 h2 => by rw [hU]; exact hS'.2.1 a h1 h2)⟩, hE.moved hW (fun a h1 h2 => by rw [hU]; exact hS'.2.1 a h1 h2)⟩
    have hrm : Rm X rm_X11_led 4 0 0 := rm_of hr (by decide)
    have run := vx_runV (As := [vI v1].map (tv G)) (nL := xn X) (C := cR 9) (b := gB G + v0) (locs := locs) (cells := 0) (slots := 0) (below := xb X) (meth := xt X) (e := xe X) (rest := [vI 0, vR v2].map (tv G)) (g := F0 (xm X) 4 ls' (([vI v1].map (tv G)).reverse ++ .ref (gB G + v0) :: [vI 0, vR v2].map (tv G))) ⟨hX.1, hX.2.1, hX.2.2.1, hX.2.2.2.1, hX.2.2.2.2.1⟩ (con_X11_led l hl G h v0 v1 hy) ⟨mc_X11_led.b hX ml_L_7 hrm, hX.2.2.2.2.1 _ im_X11_led, hX.2.2.2.2.1 _ se_X11_led⟩ ⟨PPx_blind G _ h, rcv_of hX hR' (by decide) hkd, hPP⟩ rfl rfl hl'.1 rfl (lv_room (by rw [acs]; exact Nat.le_of_ble_eq_true rfl)) dL_led_4 hrm.2
    intro T hT X9
    have hlx : xl X = l := by subst eX; rfl
    have X8 := X9
    rw [hlx] at X8
    have hS2 : ∀ (t T' : State) (L : List Loc), T'.heap = t.heap → H.size ≤ t.heap.size → (∀ q : Nat, q < H.size → ¬ gA G q → t.heap[q]? = H[q]?) → (∀ q ∈ L, gA G q.base) → va_S (gA G) (xs X).heap T'.heap (locs ++ L) := by
      intro t T' L e1 hz hk hL
      exact ⟨Nat.le_trans hS'.1 (by rw [e1]; exact hz), fun q h1 h2 => by rw [e1, hk q (Nat.lt_of_lt_of_le h1 hS'.1) h2]; exact hS'.2.1 q h1 h2, fun q hq => by
        rcases List.mem_append.mp hq with h | h
        · exact hS'.2.2 q h
        · exact hL q h⟩
    rcases run T hT X8 with ⟨v, st₀, t, T', L, h0, X', hL, e1, e2, ⟨⟨r, h', hv, ⟨rfl, x, rfl, hp⟩, hR2⟩, hz, hk⟩, go⟩ | ⟨q, st₀, t, T', L, E, ce, h0, X', hL, e1, e2, ⟨rfl, hpx, ⟨n, hn, hR2⟩, hz, hk⟩, hce, hcv, hcl, go⟩
    · have hv' : v = some (.int x) := by
        cases hv
        rfl
      rw [h0] at hz hk
      obtain ⟨h1, eh1, hp1⟩ := k0 x hp
      have W1 : AW G X 7 [(0, vR v0), (1, vI v1), (2, vR v2)] [vI x, vI 0, vR v2] h' 1 6 := by
        refine aw_i2l (pc := 7) hX dL_led_7 ?_
        refine aw_sL (pc := 8) (f := some) (P := post (some (vI 0))) hX ?_ dL_led_8 (fun h2 hy2 => ?_)
        · rw [eh1]; exact ⟨h1, rfl, hp1⟩
        refine aw_goto (pc := 9) hX 15 (by decide) dL_led_9 ?_
        refine aw_iconst (pc := 15) hX 0 (by decide) dL_led_15 ?_
        exact aw_iret (pc := 16) hX hr (by decide) (by decide) dL_led_16 hy2.s
      have X7 := X'
      rw [← hlx] at X7
      obtain ⟨t2, a1, b1⟩ := W1 T'.heap (locs ++ L) ls' (by rw [e1]; exact hR2) (hS2 t T' L e1 hz hk hL) hl' T' rfl X7
      refine ⟨t2, go t2 ?_, b1⟩
      subst hv'
      exact a1
    · rw [h0] at hz hk
      have hS3 := hS2 t T' L e1 hz hk hL
      have W2 : vx_W (xp X) (xl X) (xe X) (xr X) (xs X) (xm X) (xa X) (xb X) (xt X) (xc X) T'.heap (locs ++ L) 1 6 (xq X) (F0 (xm X) 4 ls' ([vI 0, vR v2].map (tv G))) q := by
        have htab' : (xc X).exceptionTable.toList = tableOf [(0, 9, 12, 13)] := by subst eX; exact htab
        refine vx_catch (own := RL) (name := nse) (E := nse) (ce := ce) hX.2.2.2.1 [] { startPc := 0, endPc := 9, handlerPc := 12, catchType := 13 } [] htab' (fun z hz => nomatch hz) (by decide) (by decide) (hX.2.2.2.2.1 _ cl_L_13) (va_Nw.use rfl (by subst eX; exact hE.2.2.2.2.2)) (by rw [e1]; exact hce) hcv hcl ?_
        refine lv_astore_n (k := 3) (i := 3) (nL := 4) (lv := lvm G [(0, vR v0), (1, vI v1), (2, vR v2)]) (lv' := (3, .ref q) :: (lvm G [(0, vR v0), (1, vI v1), (2, vR v2)]).filter (fun z => !(z.1 == 3) && !(z.1 + 1 == 3 && z.2.category == 2))) hX.1 hX.2.1 dL_led_12 rfl (by rw [← hN]; exact hl') (by decide) rfl (fun ls2 hl2 => ?_)
        refine lv_iconst (v := 1) hX.1 hX.2.1 dL_led_13 (by decide) ?_
        rw [hr.1]
        exact W.iret hX.1 hX.2.1 hr.2.2.2.2 (fun t3 ht hW => ⟨⟨some (vI 1), setN h n, rfl, k1 hpx n hn, by rw [ht, e1]; exact hR2⟩, hS3.F ht⟩) hS3.2.2 dL_led_14 hX.2.2.2.2.2.2.1
      have X7 := X'
      rw [← hlx] at X7
      obtain ⟨t2, a1, b1⟩ := W2 T' rfl X7
      exact ⟨t2, go.trans a1, b1⟩
  exact key _ rfl s.heap [] ls hR va_S.rf hle
