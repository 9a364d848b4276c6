/-! X0_init -/
theorem dX0_init_0 : decode cX0_init 0 = .ok (.aload_n 0, 1) := by decide +kernel
theorem dX0_init_1 : decode cX0_init 1 = .ok (.invokespecial 1, 3) := by decide +kernel
theorem dX0_init_4 : decode cX0_init 4 = .ok (.return_, 1) := by decide +kernel
abbrev rm_X0_init : Room := { frames := 1, cells := 0, slots := 0, locals := 20 }
def f_X0_init (h : Mem) (v0 : Nat) : Option Unit :=
  (ck h v0 0).bind fun _ => some ()
set_option maxRecDepth 100000 in
set_option maxHeartbeats 4000000 in
theorem w_X0_init {G : GE} {X : CX} {l : Launch} (hX : Ok G X cX0_init RX0) (hN : xn X = 1) (h : Mem) {P : Unit → Prop} (hr : Rt G X l yX0_init none rm_X0_init (ppV h P)) (v0 : Nat) (hy : OK (f_X0_init h v0) P) : AW G X 0 [(0, vR v0)] [] h 0 0 := by
  unfold f_X0_init at hy
  have hkd := hy.kd
  have hy := hy.kb
  refine aw_aloadn (pc := 0) hX 0 rfl dX0_init_0 ?_
  refine aw_objInit0 (pc := 1) hX hkd oi_X0_1 oi_i oi_c (by decide) (Nat.le_of_ble_eq_true rfl) (le_f hr (by decide)) (le_l hr (by decide)) dX0_init_1 ?_
  exact aw_vret (pc := 4) hX hr (by decide) (by decide) dX0_init_4 ⟨rfl, rfl, hy.s⟩
theorem con_X0_init (l : Launch) (G : GE) (h : Mem) (v0 : Nat) {P : Unit → Prop} (hy : OK (f_X0_init h v0) P) : Con l G yX0_init cX0_init 1 none rm_X0_init [vR v0] h (ppV h P) := Con.of (by decide) (Nat.le_of_ble_eq_true rfl) (fun X hX hr hN => w_X0_init hX hN h hr v0 hy)
/-! X0_begin -/
theorem dX0_begin_0 : decode cX0_begin 0 = .ok (.aload_n 0, 1) := by decide +kernel
theorem dX0_begin_1 : decode cX0_begin 1 = .ok (.iload_n 1, 1) := by decide +kernel
theorem dX0_begin_2 : decode cX0_begin 2 = .ok (.putfield 7, 3) := by decide +kernel
theorem dX0_begin_5 : decode cX0_begin 5 = .ok (.aload_n 0, 1) := by decide +kernel
theorem dX0_begin_6 : decode cX0_begin 6 = .ok (.iload_n 2, 1) := by decide +kernel
theorem dX0_begin_7 : decode cX0_begin 7 = .ok (.putfield 13, 3) := by decide +kernel
theorem dX0_begin_10 : decode cX0_begin 10 = .ok (.aload_n 0, 1) := by decide +kernel
theorem dX0_begin_11 : decode cX0_begin 11 = .ok (.iload_n 3, 1) := by decide +kernel
theorem dX0_begin_12 : decode cX0_begin 12 = .ok (.putfield 16, 3) := by decide +kernel
theorem dX0_begin_15 : decode cX0_begin 15 = .ok (.aload_n 0, 1) := by decide +kernel
theorem dX0_begin_16 : decode cX0_begin 16 = .ok (.iconst 0, 1) := by decide +kernel
theorem dX0_begin_17 : decode cX0_begin 17 = .ok (.putfield 19, 3) := by decide +kernel
theorem dX0_begin_20 : decode cX0_begin 20 = .ok (.aload_n 0, 1) := by decide +kernel
theorem dX0_begin_21 : decode cX0_begin 21 = .ok (.iconst 0, 1) := by decide +kernel
theorem dX0_begin_22 : decode cX0_begin 22 = .ok (.putfield 22, 3) := by decide +kernel
theorem dX0_begin_25 : decode cX0_begin 25 = .ok (.return_, 1) := by decide +kernel
abbrev rm_X0_begin : Room := { frames := 0, cells := 0, slots := 0, locals := 0 }
def f_X0_begin (h : Mem) (v0 : Nat) (v1 : Int32) (v2 : Int32) (v3 : Int32) : Option Mem :=
  (ck h v0 0).bind fun _ => (pI h v0 2 0 v1).bind fun h1 => (pI h1 v0 1 0 v2).bind fun h2 => (pI h2 v0 0 0 v3).bind fun h3 => (pI h3 v0 3 0 0).bind fun h4 => (pI h4 v0 4 0 0).bind fun h5 => some h5
set_option maxRecDepth 100000 in
set_option maxHeartbeats 4000000 in
theorem w_X0_begin {G : GE} {X : CX} {l : Launch} (hX : Ok G X cX0_begin RX0) (hN : xn X = 4) {P : Mem → Prop} (hr : Rt G X l yX0_begin none rm_X0_begin (pmV P)) (h : Mem) (v0 : Nat) (v1 : Int32) (v2 : Int32) (v3 : Int32) (hy : OK (f_X0_begin h v0 v1 v2 v3) P) : AW G X 0 [(0, vR v0), (1, vI v1), (2, vI v2), (3, vI v3)] [] h 0 0 := by
  unfold f_X0_begin at hy
  have hkd := hy.kd
  have hy := hy.kb
  refine aw_aloadn (pc := 0) hX 0 rfl dX0_begin_0 ?_
  refine aw_iloadn (pc := 1) hX 1 rfl dX0_begin_1 ?_
  refine aw_pI (pc := 2) hX hy fl_X0_7 rfl (Or.inl rfl) dX0_begin_2 (fun h1 hy => ?_)
  refine aw_aloadn (pc := 5) hX 0 rfl dX0_begin_5 ?_
  refine aw_iloadn (pc := 6) hX 2 rfl dX0_begin_6 ?_
  refine aw_pI (pc := 7) hX hy fl_X0_13 rfl (Or.inl rfl) dX0_begin_7 (fun h2 hy => ?_)
  refine aw_aloadn (pc := 10) hX 0 rfl dX0_begin_10 ?_
  refine aw_iloadn (pc := 11) hX 3 rfl dX0_begin_11 ?_
  refine aw_pI (pc := 12) hX hy fl_X0_16 rfl (Or.inl rfl) dX0_begin_12 (fun h3 hy => ?_)
  refine aw_aloadn (pc := 15) hX 0 rfl dX0_begin_15 ?_
  refine aw_iconst (pc := 16) hX 0 (by decide) dX0_begin_16 ?_
  refine aw_pI (pc := 17) hX hy fl_X0_19 rfl (Or.inl rfl) dX0_begin_17 (fun h4 hy => ?_)
  refine aw_aloadn (pc := 20) hX 0 rfl dX0_begin_20 ?_
  refine aw_iconst (pc := 21) hX 0 (by decide) dX0_begin_21 ?_
  refine aw_pI (pc := 22) hX hy fl_X0_22 rfl (Or.inl rfl) dX0_begin_22 (fun h5 hy => ?_)
  exact aw_vret (pc := 25) hX hr (by decide) (by decide) dX0_begin_25 ⟨rfl, hy.s⟩
theorem con_X0_begin (l : Launch) (G : GE) (h : Mem) (v0 : Nat) (v1 : Int32) (v2 : Int32) (v3 : Int32) {P : Mem → Prop} (hy : OK (f_X0_begin h v0 v1 v2 v3) P) : Con l G yX0_begin cX0_begin 4 none rm_X0_begin [vR v0, vI v1, vI v2, vI v3] h (pmV P) := Con.of (by decide) (Nat.le_of_ble_eq_true rfl) (fun X hX hr hN => w_X0_begin hX hN hr h v0 v1 v2 v3 hy)
/-! X0_draw -/
theorem dX0_draw_0 : decode cX0_draw 0 = .ok (.aload_n 0, 1) := by decide +kernel
theorem dX0_draw_1 : decode cX0_draw 1 = .ok (.bipush 75, 2) := by decide +kernel
theorem dX0_draw_3 : decode cX0_draw 3 = .ok (.aload_n 0, 1) := by decide +kernel
theorem dX0_draw_4 : decode cX0_draw 4 = .ok (.getfield 16, 3) := by decide +kernel
theorem dX0_draw_7 : decode cX0_draw 7 = .ok (.imul, 1) := by decide +kernel
theorem dX0_draw_8 : decode cX0_draw 8 = .ok (.bipush 74, 2) := by decide +kernel
theorem dX0_draw_10 : decode cX0_draw 10 = .ok (.iadd, 1) := by decide +kernel
theorem dX0_draw_11 : decode cX0_draw 11 = .ok (.ldc 54, 2) := by decide +kernel
theorem dX0_draw_13 : decode cX0_draw 13 = .ok (.irem, 1) := by decide +kernel
theorem dX0_draw_14 : decode cX0_draw 14 = .ok (.putfield 16, 3) := by decide +kernel
theorem dX0_draw_17 : decode cX0_draw 17 = .ok (.aload_n 0, 1) := by decide +kernel
theorem dX0_draw_18 : decode cX0_draw 18 = .ok (.getfield 16, 3) := by decide +kernel
theorem dX0_draw_21 : decode cX0_draw 21 = .ok (.ireturn, 1) := by decide +kernel
abbrev rm_X0_draw : Room := { frames := 0, cells := 0, slots := 0, locals := 0 }
def f_X0_draw (h : Mem) (v0 : Nat) : Option (Int32 × Mem) :=
  (ck h v0 0).bind fun _ => (gI h v0 0 0).bind fun x1 => (irm ((75 * x1) + 74) 65537).bind fun x2 => (pI h v0 0 0 x2).bind fun h3 => (gI h3 v0 0 0).bind fun x4 => some (x4, h3)
set_option maxRecDepth 100000 in
set_option maxHeartbeats 4000000 in
theorem w_X0_draw {G : GE} {X : CX} {l : Launch} (hX : Ok G X cX0_draw RX0) (hN : xn X = 1) {P : (Int32 × Mem) → Prop} (hr : Rt G X l yX0_draw (some .int) rm_X0_draw (pmI P)) (h : Mem) (v0 : Nat) (hy : OK (f_X0_draw h v0) P) : AW G X 0 [(0, vR v0)] [] h 0 0 := by
  unfold f_X0_draw at hy
  have hkd := hy.kd
  have hy := hy.kb
  refine aw_aloadn (pc := 0) hX 0 rfl dX0_draw_0 ?_
  refine aw_bipush (pc := 1) hX 75 (by decide) dX0_draw_1 ?_
  refine aw_aloadn (pc := 3) hX 0 rfl dX0_draw_3 ?_
  refine aw_gI (pc := 4) hX hy fl_X0_16 (fun _ _ => rfl) dX0_draw_4 (fun x1 hy => ?_)
  refine aw_imul (pc := 7) hX dX0_draw_7 ?_
  refine aw_bipush (pc := 8) hX 74 (by decide) dX0_draw_8 ?_
  refine aw_iadd (pc := 10) hX dX0_draw_10 ?_
  refine aw_ldc (pc := 11) hX kc_X0_54 dX0_draw_11 ?_
  refine aw_irem (pc := 13) hX hy dX0_draw_13 (fun x2 hy => ?_)
  refine aw_pI (pc := 14) hX hy fl_X0_16 rfl (Or.inl rfl) dX0_draw_14 (fun h3 hy => ?_)
  refine aw_aloadn (pc := 17) hX 0 rfl dX0_draw_17 ?_
  refine aw_gI (pc := 18) hX hy fl_X0_16 (fun _ _ => rfl) dX0_draw_18 (fun x4 hy => ?_)
  exact aw_iret (pc := 21) hX hr (by decide) (by decide) dX0_draw_21 ⟨_, rfl, hy.s⟩
theorem con_X0_draw (l : Launch) (G : GE) (h : Mem) (v0 : Nat) {P : (Int32 × Mem) → Prop} (hy : OK (f_X0_draw h v0) P) : Con l G yX0_draw cX0_draw 1 (some .int) rm_X0_draw [vR v0] h (pmI P) := Con.of (by decide) (Nat.le_of_ble_eq_true rfl) (fun X hX hr hN => w_X0_draw hX hN hr h v0 hy)
/-! X1_isOpen -/
theorem dX1_isOpen_0 : decode cX1_isOpen 0 = .ok (.aload_n 0, 1) := by decide +kernel
theorem dX1_isOpen_1 : decode cX1_isOpen 1 = .ok (.getfield 23, 3) := by decide +kernel
theorem dX1_isOpen_4 : decode cX1_isOpen 4 = .ok (.iload_n 3, 1) := by decide +kernel
theorem dX1_isOpen_5 : decode cX1_isOpen 5 = .ok (.ifCond .eq 10, 3) := by decide +kernel
theorem dX1_isOpen_8 : decode cX1_isOpen 8 = .ok (.bipush 10, 2) := by decide +kernel
theorem dX1_isOpen_10 : decode cX1_isOpen 10 = .ok (.iload_n 1, 1) := by decide +kernel
theorem dX1_isOpen_11 : decode cX1_isOpen 11 = .ok (.iadd, 1) := by decide +kernel
theorem dX1_isOpen_12 : decode cX1_isOpen 12 = .ok (.goto 4, 3) := by decide +kernel
theorem dX1_isOpen_15 : decode cX1_isOpen 15 = .ok (.iload_n 1, 1) := by decide +kernel
theorem dX1_isOpen_16 : decode cX1_isOpen 16 = .ok (.iaload, 1) := by decide +kernel
theorem dX1_isOpen_17 : decode cX1_isOpen 17 = .ok (.iload_n 2, 1) := by decide +kernel
theorem dX1_isOpen_18 : decode cX1_isOpen 18 = .ok (.iand, 1) := by decide +kernel
theorem dX1_isOpen_19 : decode cX1_isOpen 19 = .ok (.ifCond .eq 7, 3) := by decide +kernel
theorem dX1_isOpen_22 : decode cX1_isOpen 22 = .ok (.iconst 1, 1) := by decide +kernel
theorem dX1_isOpen_23 : decode cX1_isOpen 23 = .ok (.goto 4, 3) := by decide +kernel
theorem dX1_isOpen_26 : decode cX1_isOpen 26 = .ok (.iconst 0, 1) := by decide +kernel
theorem dX1_isOpen_27 : decode cX1_isOpen 27 = .ok (.ireturn, 1) := by decide +kernel
abbrev rm_X1_isOpen : Room := { frames := 0, cells := 0, slots := 0, locals := 0 }
def f_X1_isOpen_16 (h : Mem) (v2 : Int32) (s0 : Nat) (s1 : Int32) : Option Int32 :=
  (aI h s0 s1).bind fun x2 => (if (x2 &&& v2) = 0 then some 0 else some 1)
set_option maxRecDepth 100000 in
set_option maxHeartbeats 4000000 in
theorem w_X1_isOpen_16 {G : GE} {X : CX} {l : Launch} (hX : Ok G X cX1_isOpen RX1) (hN : xn X = 4) (h : Mem) {P : Int32 → Prop} (hr : Rt G X l yX1_isOpen (some .boolean) rm_X1_isOpen (ppI h P)) (v2 : Int32) (s0 : Nat) (s1 : Int32) (hy : OK (f_X1_isOpen_16 h v2 s0 s1) P) : AW G X 16 [(2, vI v2)] [vI s1, vR s0] h 0 0 := by
  unfold f_X1_isOpen_16 at hy
  refine aw_aI (pc := 16) hX hy dX1_isOpen_16 (fun x2 hy => ?_)
  refine aw_iloadn (pc := 17) hX 0 rfl dX1_isOpen_17 ?_
  refine aw_iand (pc := 18) hX dX1_isOpen_18 ?_
  refine aw_if_eq (pc := 19) hX 26 (by decide) dX1_isOpen_19 (fun hc9 => ?_) (fun hc9 => ?_)
  · have hy := hy.t hc9
    refine aw_iconst (pc := 26) hX 0 (by decide) dX1_isOpen_26 ?_
    exact aw_zret (pc := 27) hX hr (by decide) (by decide) dX1_isOpen_27 (Or.inl rfl) ⟨rfl, _, rfl, hy.s⟩
  · have hy := hy.f hc9
    refine aw_iconst (pc := 22) hX 1 (by decide) dX1_isOpen_22 ?_
    refine aw_goto (pc := 23) hX 27 (by decide) dX1_isOpen_23 ?_
    exact aw_zret (pc := 27) hX hr (by decide) (by decide) dX1_isOpen_27 (Or.inr rfl) ⟨rfl, _, rfl, hy.s⟩
def f_X1_isOpen (h : Mem) (v0 : Nat) (v1 : Int32) (v2 : Int32) (v3 : Int32) : Option Int32 :=
  (gR h v0 18 4).bind fun r1 => (if v3 = 0 then f_X1_isOpen_16 h v2 r1 v1 else f_X1_isOpen_16 h v2 r1 (10 + v1))
set_option maxRecDepth 100000 in
set_option maxHeartbeats 4000000 in
theorem w_X1_isOpen {G : GE} {X : CX} {l : Launch} (hX : Ok G X cX1_isOpen RX1) (hN : xn X = 4) (h : Mem) {P : Int32 → Prop} (hr : Rt G X l yX1_isOpen (some .boolean) rm_X1_isOpen (ppI h P)) (v0 : Nat) (v1 : Int32) (v2 : Int32) (v3 : Int32) (hy : OK (f_X1_isOpen h v0 v1 v2 v3) P) : AW G X 0 [(0, vR v0), (1, vI v1), (2, vI v2), (3, vI v3)] [] h 0 0 := by
  unfold f_X1_isOpen at hy
  refine aw_aloadn (pc := 0) hX 0 rfl dX1_isOpen_0 ?_
  refine aw_gR (pc := 1) hX hy fl_X1_23 (fun _ _ => rfl) dX1_isOpen_1 (fun r1 hy => ?_)
  refine aw_iloadn (pc := 4) hX 3 rfl dX1_isOpen_4 ?_
  refine aw_if_eq (pc := 5) hX 15 (by decide) dX1_isOpen_5 (fun hc9 => ?_) (fun hc9 => ?_)
  · have hy := hy.t hc9
    refine aw_iloadn (pc := 15) hX 1 rfl dX1_isOpen_15 ?_
    refine AW.sub [2] rfl ?_
    exact w_X1_isOpen_16 hX hN _ hr v2 r1 v1 hy
  · have hy := hy.f hc9
    refine aw_bipush (pc := 8) hX 10 (by decide) dX1_isOpen_8 ?_
    refine aw_iloadn (pc := 10) hX 1 rfl dX1_isOpen_10 ?_
    refine aw_iadd (pc := 11) hX dX1_isOpen_11 ?_
    refine aw_goto (pc := 12) hX 16 (by decide) dX1_isOpen_12 ?_
    refine AW.sub [2] rfl ?_
    exact w_X1_isOpen_16 hX hN _ hr v2 r1 (10 + v1) hy
theorem con_X1_isOpen (l : Launch) (G : GE) (h : Mem) (v0 : Nat) (v1 : Int32) (v2 : Int32) (v3 : Int32) {P : Int32 → Prop} (hy : OK (f_X1_isOpen h v0 v1 v2 v3) P) : Con l G yX1_isOpen cX1_isOpen 4 (some .boolean) rm_X1_isOpen [vR v0, vI v1, vI v2, vI v3] h (ppI h P) := Con.of (by decide) (Nat.le_of_ble_eq_true rfl) (fun X hX hr hN => w_X1_isOpen hX hN h hr v0 v1 v2 v3 hy)
/-! X5_oneEnd -/
theorem dX5_oneEnd_0 : decode cX5_oneEnd 0 = .ok (.aload_n 0, 1) := by decide +kernel
theorem dX5_oneEnd_1 : decode cX5_oneEnd 1 = .ok (.getfield 18, 3) := by decide +kernel
theorem dX5_oneEnd_4 : decode cX5_oneEnd 4 = .ok (.iload_n 1, 1) := by decide +kernel
theorem dX5_oneEnd_5 : decode cX5_oneEnd 5 = .ok (.iconst 2, 1) := by decide +kernel
theorem dX5_oneEnd_6 : decode cX5_oneEnd 6 = .ok (.imul, 1) := by decide +kernel
theorem dX5_oneEnd_7 : decode cX5_oneEnd 7 = .ok (.iaload, 1) := by decide +kernel
theorem dX5_oneEnd_8 : decode cX5_oneEnd 8 = .ok (.ireturn, 1) := by decide +kernel
abbrev rm_X5_oneEnd : Room := { frames := 0, cells := 0, slots := 0, locals := 0 }
def f_X5_oneEnd (h : Mem) (v0 : Nat) (v1 : Int32) : Option Int32 :=
  (ck h v0 4).bind fun _ => (gR h v0 11 4).bind fun r1 => (aI h r1 (v1 * 2)).bind fun x2 => some x2
set_option maxRecDepth 100000 in
set_option maxHeartbeats 4000000 in
theorem w_X5_oneEnd {G : GE} {X : CX} {l : Launch} (hX : Ok G X cX5_oneEnd RX5) (hN : xn X = 2) (h : Mem) {P : Int32 → Prop} (hr : Rt G X l yX5_oneEnd (some .int) rm_X5_oneEnd (ppI h P)) (v0 : Nat) (v1 : Int32) (hy : OK (f_X5_oneEnd h v0 v1) P) : AW G X 0 [(0, vR v0), (1, vI v1)] [] h 0 0 := by
  unfold f_X5_oneEnd at hy
  have hkd := hy.kd
  have hy := hy.kb
  refine aw_aloadn (pc := 0) hX 0 rfl dX5_oneEnd_0 ?_
  refine aw_gR (pc := 1) hX hy fl_X5_18 (fun _ _ => rfl) dX5_oneEnd_1 (fun r1 hy => ?_)
  refine aw_iloadn (pc := 4) hX 1 rfl dX5_oneEnd_4 ?_
  refine aw_iconst (pc := 5) hX 2 (by decide) dX5_oneEnd_5 ?_
  refine aw_imul (pc := 6) hX dX5_oneEnd_6 ?_
  refine aw_aI (pc := 7) hX hy dX5_oneEnd_7 (fun x2 hy => ?_)
  exact aw_iret (pc := 8) hX hr (by decide) (by decide) dX5_oneEnd_8 ⟨rfl, _, rfl, hy.s⟩
theorem con_X5_oneEnd (l : Launch) (G : GE) (h : Mem) (v0 : Nat) (v1 : Int32) {P : Int32 → Prop} (hy : OK (f_X5_oneEnd h v0 v1) P) : Con l G yX5_oneEnd cX5_oneEnd 2 (some .int) rm_X5_oneEnd [vR v0, vI v1] h (ppI h P) := Con.of (by decide) (Nat.le_of_ble_eq_true rfl) (fun X hX hr hN => w_X5_oneEnd hX hN h hr v0 v1 hy)
/-! X5_otherEnd -/
theorem dX5_otherEnd_0 : decode cX5_otherEnd 0 = .ok (.aload_n 0, 1) := by decide +kernel
theorem dX5_otherEnd_1 : decode cX5_otherEnd 1 = .ok (.getfield 18, 3) := by decide +kernel
theorem dX5_otherEnd_4 : decode cX5_otherEnd 4 = .ok (.iload_n 1, 1) := by decide +kernel
theorem dX5_otherEnd_5 : decode cX5_otherEnd 5 = .ok (.iconst 2, 1) := by decide +kernel
theorem dX5_otherEnd_6 : decode cX5_otherEnd 6 = .ok (.imul, 1) := by decide +kernel
theorem dX5_otherEnd_7 : decode cX5_otherEnd 7 = .ok (.iconst 1, 1) := by decide +kernel
theorem dX5_otherEnd_8 : decode cX5_otherEnd 8 = .ok (.iadd, 1) := by decide +kernel
theorem dX5_otherEnd_9 : decode cX5_otherEnd 9 = .ok (.iaload, 1) := by decide +kernel
theorem dX5_otherEnd_10 : decode cX5_otherEnd 10 = .ok (.ireturn, 1) := by decide +kernel
abbrev rm_X5_otherEnd : Room := { frames := 0, cells := 0, slots := 0, locals := 0 }
def f_X5_otherEnd (h : Mem) (v0 : Nat) (v1 : Int32) : Option Int32 :=
  (ck h v0 4).bind fun _ => (gR h v0 11 4).bind fun r1 => (aI h r1 ((v1 * 2) + 1)).bind fun x2 => some x2
set_option maxRecDepth 100000 in
set_option maxHeartbeats 4000000 in
theorem w_X5_otherEnd {G : GE} {X : CX} {l : Launch} (hX : Ok G X cX5_otherEnd RX5) (hN : xn X = 2) (h : Mem) {P : Int32 → Prop} (hr : Rt G X l yX5_otherEnd (some .int) rm_X5_otherEnd (ppI h P)) (v0 : Nat) (v1 : Int32) (hy : OK (f_X5_otherEnd h v0 v1) P) : AW G X 0 [(0, vR v0), (1, vI v1)] [] h 0 0 := by
  unfold f_X5_otherEnd at hy
  have hkd := hy.kd
  have hy := hy.kb
  refine aw_aloadn (pc := 0) hX 0 rfl dX5_otherEnd_0 ?_
  refine aw_gR (pc := 1) hX hy fl_X5_18 (fun _ _ => rfl) dX5_otherEnd_1 (fun r1 hy => ?_)
  refine aw_iloadn (pc := 4) hX 1 rfl dX5_otherEnd_4 ?_
  refine aw_iconst (pc := 5) hX 2 (by decide) dX5_otherEnd_5 ?_
  refine aw_imul (pc := 6) hX dX5_otherEnd_6 ?_
  refine aw_iconst (pc := 7) hX 1 (by decide) dX5_otherEnd_7 ?_
  refine aw_iadd (pc := 8) hX dX5_otherEnd_8 ?_
  refine aw_aI (pc := 9) hX hy dX5_otherEnd_9 (fun x2 hy => ?_)
  exact aw_iret (pc := 10) hX hr (by decide) (by decide) dX5_otherEnd_10 ⟨rfl, _, rfl, hy.s⟩
theorem con_X5_otherEnd (l : Launch) (G : GE) (h : Mem) (v0 : Nat) (v1 : Int32) {P : Int32 → Prop} (hy : OK (f_X5_otherEnd h v0 v1) P) : Con l G yX5_otherEnd cX5_otherEnd 2 (some .int) rm_X5_otherEnd [vR v0, vI v1] h (ppI h P) := Con.of (by decide) (Nat.le_of_ble_eq_true rfl) (fun X hX hr hN => w_X5_otherEnd hX hN h hr v0 v1 hy)
/-! X0_walk -/
theorem dX0_walk_0 : decode cX0_walk 0 = .ok (.aload_n 0, 1) := by decide +kernel
theorem dX0_walk_1 : decode cX0_walk 1 = .ok (.getfield 7, 3) := by decide +kernel
theorem dX0_walk_4 : decode cX0_walk 4 = .ok (.iload_n 1, 1) := by decide +kernel
theorem dX0_walk_5 : decode cX0_walk 5 = .ok (.if_icmp .ne 21, 3) := by decide +kernel
theorem dX0_walk_8 : decode cX0_walk 8 = .ok (.aload_n 0, 1) := by decide +kernel
theorem dX0_walk_9 : decode cX0_walk 9 = .ok (.iload_n 2, 1) := by decide +kernel
theorem dX0_walk_10 : decode cX0_walk 10 = .ok (.putfield 7, 3) := by decide +kernel
theorem dX0_walk_13 : decode cX0_walk 13 = .ok (.aload_n 0, 1) := by decide +kernel
theorem dX0_walk_14 : decode cX0_walk 14 = .ok (.dup, 1) := by decide +kernel
theorem dX0_walk_15 : decode cX0_walk 15 = .ok (.getfield 19, 3) := by decide +kernel
theorem dX0_walk_18 : decode cX0_walk 18 = .ok (.iconst 1, 1) := by decide +kernel
theorem dX0_walk_19 : decode cX0_walk 19 = .ok (.iadd, 1) := by decide +kernel
theorem dX0_walk_20 : decode cX0_walk 20 = .ok (.putfield 19, 3) := by decide +kernel
theorem dX0_walk_23 : decode cX0_walk 23 = .ok (.goto 26, 3) := by decide +kernel
theorem dX0_walk_26 : decode cX0_walk 26 = .ok (.aload_n 0, 1) := by decide +kernel
theorem dX0_walk_27 : decode cX0_walk 27 = .ok (.getfield 7, 3) := by decide +kernel
theorem dX0_walk_30 : decode cX0_walk 30 = .ok (.iload_n 2, 1) := by decide +kernel
theorem dX0_walk_31 : decode cX0_walk 31 = .ok (.if_icmp .ne 18, 3) := by decide +kernel
theorem dX0_walk_34 : decode cX0_walk 34 = .ok (.aload_n 0, 1) := by decide +kernel
theorem dX0_walk_35 : decode cX0_walk 35 = .ok (.iload_n 1, 1) := by decide +kernel
theorem dX0_walk_36 : decode cX0_walk 36 = .ok (.putfield 7, 3) := by decide +kernel
theorem dX0_walk_39 : decode cX0_walk 39 = .ok (.aload_n 0, 1) := by decide +kernel
theorem dX0_walk_40 : decode cX0_walk 40 = .ok (.dup, 1) := by decide +kernel
theorem dX0_walk_41 : decode cX0_walk 41 = .ok (.getfield 19, 3) := by decide +kernel
theorem dX0_walk_44 : decode cX0_walk 44 = .ok (.iconst 1, 1) := by decide +kernel
theorem dX0_walk_45 : decode cX0_walk 45 = .ok (.iadd, 1) := by decide +kernel
theorem dX0_walk_46 : decode cX0_walk 46 = .ok (.putfield 19, 3) := by decide +kernel
theorem dX0_walk_49 : decode cX0_walk 49 = .ok (.return_, 1) := by decide +kernel
abbrev rm_X0_walk : Room := { frames := 0, cells := 0, slots := 0, locals := 0 }
def f_X0_walk (h : Mem) (v0 : Nat) (v1 : Int32) (v2 : Int32) : Option Mem :=
  (ck h v0 0).bind fun _ => (gI h v0 2 0).bind fun x1 => (if x1 = v1 then (pI h v0 2 0 v2).bind fun h6 => (gI h6 v0 3 0).bind fun x7 => (pI h6 v0 3 0 (x7 + 1)).bind fun h8 => some h8 else (gI h v0 2 0).bind fun x2 => (if x2 = v2 then (pI h v0 2 0 v1).bind fun h3 => (gI h3 v0 3 0).bind fun x4 => (pI h3 v0 3 0 (x4 + 1)).bind fun h5 => some h5 else some h))
set_option maxRecDepth 100000 in
set_option maxHeartbeats 4000000 in
theorem w_X0_walk {G : GE} {X : CX} {l : Launch} (hX : Ok G X cX0_walk RX0) (hN : xn X = 3) {P : Mem → Prop} (hr : Rt G X l yX0_walk none rm_X0_walk (pmV P)) (h : Mem) (v0 : Nat) (v1 : Int32) (v2 : Int32) (hy : OK (f_X0_walk h v0 v1 v2) P) : AW G X 0 [(0, vR v0), (1, vI v1), (2, vI v2)] [] h 0 0 := by
  unfold f_X0_walk at hy
  have hkd := hy.kd
  have hy := hy.kb
  refine aw_aloadn (pc := 0) hX 0 rfl dX0_walk_0 ?_
  refine aw_gI (pc := 1) hX hy fl_X0_7 (fun _ _ => rfl) dX0_walk_1 (fun x1 hy => ?_)
  refine aw_iloadn (pc := 4) hX 1 rfl dX0_walk_4 ?_
  refine aw_ic_ne (pc := 5) hX 26 (by decide) dX0_walk_5 (fun hc9 => ?_) (fun hc9 => ?_)
  · have hy := hy.f hc9
    refine aw_aloadn (pc := 26) hX 0 rfl dX0_walk_26 ?_
    refine aw_gI (pc := 27) hX hy fl_X0_7 (fun _ _ => rfl) dX0_walk_27 (fun x2 hy => ?_)
    refine aw_iloadn (pc := 30) hX 2 rfl dX0_walk_30 ?_
    refine aw_ic_ne (pc := 31) hX 49 (by decide) dX0_walk_31 (fun hc9 => ?_) (fun hc9 => ?_)
    · have hy := hy.f hc9
      exact aw_vret (pc := 49) hX hr (by decide) (by decide) dX0_walk_49 ⟨rfl, hy.s⟩
    · have hy := hy.t hc9
      refine aw_aloadn (pc := 34) hX 0 rfl dX0_walk_34 ?_
      refine aw_iloadn (pc := 35) hX 1 rfl dX0_walk_35 ?_
      refine aw_pI (pc := 36) hX hy fl_X0_7 rfl (Or.inl rfl) dX0_walk_36 (fun h3 hy => ?_)
      refine aw_aloadn (pc := 39) hX 0 rfl dX0_walk_39 ?_
      refine aw_dup (pc := 40) hX rfl dX0_walk_40 ?_
      refine aw_gI (pc := 41) hX hy fl_X0_19 (fun _ _ => rfl) dX0_walk_41 (fun x4 hy => ?_)
      refine aw_iconst (pc := 44) hX 1 (by decide) dX0_walk_44 ?_
      refine aw_iadd (pc := 45) hX dX0_walk_45 ?_
      refine aw_pI (pc := 46) hX hy fl_X0_19 rfl (Or.inl rfl) dX0_walk_46 (fun h5 hy => ?_)
      exact aw_vret (pc := 49) hX hr (by decide) (by decide) dX0_walk_49 ⟨rfl, hy.s⟩
  · have hy := hy.t hc9
    refine aw_aloadn (pc := 8) hX 0 rfl dX0_walk_8 ?_
    refine aw_iloadn (pc := 9) hX 2 rfl dX0_walk_9 ?_
    refine aw_pI (pc := 10) hX hy fl_X0_7 rfl (Or.inl rfl) dX0_walk_10 (fun h6 hy => ?_)
    refine aw_aloadn (pc := 13) hX 0 rfl dX0_walk_13 ?_
    refine aw_dup (pc := 14) hX rfl dX0_walk_14 ?_
    refine aw_gI (pc := 15) hX hy fl_X0_19 (fun _ _ => rfl) dX0_walk_15 (fun x7 hy => ?_)
    refine aw_iconst (pc := 18) hX 1 (by decide) dX0_walk_18 ?_
    refine aw_iadd (pc := 19) hX dX0_walk_19 ?_
    refine aw_pI (pc := 20) hX hy fl_X0_19 rfl (Or.inl rfl) dX0_walk_20 (fun h8 hy => ?_)
    refine aw_goto (pc := 23) hX 49 (by decide) dX0_walk_23 ?_
    exact aw_vret (pc := 49) hX hr (by decide) (by decide) dX0_walk_49 ⟨rfl, hy.s⟩
theorem con_X0_walk (l : Launch) (G : GE) (h : Mem) (v0 : Nat) (v1 : Int32) (v2 : Int32) {P : Mem → Prop} (hy : OK (f_X0_walk h v0 v1 v2) P) : Con l G yX0_walk cX0_walk 3 none rm_X0_walk [vR v0, vI v1, vI v2] h (pmV P) := Con.of (by decide) (Nat.le_of_ble_eq_true rfl) (fun X hX hr hN => w_X0_walk hX hN hr h v0 v1 v2 hy)
/-! X0_pass -/
theorem dX0_pass_0 : decode cX0_pass 0 = .ok (.iconst 1, 1) := by decide +kernel
theorem dX0_pass_1 : decode cX0_pass 1 = .ok (.istore 4, 2) := by decide +kernel
theorem dX0_pass_3 : decode cX0_pass 3 = .ok (.iload 4, 2) := by decide +kernel
theorem dX0_pass_5 : decode cX0_pass 5 = .ok (.iload_n 3, 1) := by decide +kernel
theorem dX0_pass_6 : decode cX0_pass 6 = .ok (.if_icmp .gt 100, 3) := by decide +kernel
theorem dX0_pass_9 : decode cX0_pass 9 = .ok (.aload_n 1, 1) := by decide +kernel
theorem dX0_pass_10 : decode cX0_pass 10 = .ok (.getfield 25, 3) := by decide +kernel
theorem dX0_pass_13 : decode cX0_pass 13 = .ok (.ifCond .le 93, 3) := by decide +kernel
theorem dX0_pass_16 : decode cX0_pass 16 = .ok (.aload_n 0, 1) := by decide +kernel
theorem dX0_pass_17 : decode cX0_pass 17 = .ok (.invokevirtual 30, 3) := by decide +kernel
theorem dX0_pass_20 : decode cX0_pass 20 = .ok (.bipush 100, 2) := by decide +kernel
theorem dX0_pass_22 : decode cX0_pass 22 = .ok (.irem, 1) := by decide +kernel
theorem dX0_pass_23 : decode cX0_pass 23 = .ok (.aload_n 1, 1) := by decide +kernel
theorem dX0_pass_24 : decode cX0_pass 24 = .ok (.getfield 34, 3) := by decide +kernel
theorem dX0_pass_27 : decode cX0_pass 27 = .ok (.if_icmp .ge 7, 3) := by decide +kernel
theorem dX0_pass_30 : decode cX0_pass 30 = .ok (.iconst 1, 1) := by decide +kernel
theorem dX0_pass_31 : decode cX0_pass 31 = .ok (.goto 4, 3) := by decide +kernel
theorem dX0_pass_34 : decode cX0_pass 34 = .ok (.iconst 0, 1) := by decide +kernel
theorem dX0_pass_35 : decode cX0_pass 35 = .ok (.istore 5, 2) := by decide +kernel
theorem dX0_pass_37 : decode cX0_pass 37 = .ok (.aload_n 0, 1) := by decide +kernel
theorem dX0_pass_38 : decode cX0_pass 38 = .ok (.invokevirtual 30, 3) := by decide +kernel
theorem dX0_pass_41 : decode cX0_pass 41 = .ok (.aload_n 1, 1) := by decide +kernel
theorem dX0_pass_42 : decode cX0_pass 42 = .ok (.getfield 25, 3) := by decide +kernel
theorem dX0_pass_45 : decode cX0_pass 45 = .ok (.irem, 1) := by decide +kernel
theorem dX0_pass_46 : decode cX0_pass 46 = .ok (.istore 6, 2) := by decide +kernel
theorem dX0_pass_48 : decode cX0_pass 48 = .ok (.aload_n 1, 1) := by decide +kernel
theorem dX0_pass_49 : decode cX0_pass 49 = .ok (.iload 6, 2) := by decide +kernel
theorem dX0_pass_51 : decode cX0_pass 51 = .ok (.iload_n 2, 1) := by decide +kernel
theorem dX0_pass_52 : decode cX0_pass 52 = .ok (.iload 5, 2) := by decide +kernel
theorem dX0_pass_54 : decode cX0_pass 54 = .ok (.invokestatic 37, 3) := by decide +kernel
theorem dX0_pass_57 : decode cX0_pass 57 = .ok (.ifCond .eq 19, 3) := by decide +kernel
theorem dX0_pass_60 : decode cX0_pass 60 = .ok (.aload_n 0, 1) := by decide +kernel
theorem dX0_pass_61 : decode cX0_pass 61 = .ok (.aload_n 1, 1) := by decide +kernel
theorem dX0_pass_62 : decode cX0_pass 62 = .ok (.iload 6, 2) := by decide +kernel
theorem dX0_pass_64 : decode cX0_pass 64 = .ok (.invokevirtual 43, 3) := by decide +kernel
theorem dX0_pass_67 : decode cX0_pass 67 = .ok (.aload_n 1, 1) := by decide +kernel
theorem dX0_pass_68 : decode cX0_pass 68 = .ok (.iload 6, 2) := by decide +kernel
theorem dX0_pass_70 : decode cX0_pass 70 = .ok (.invokevirtual 47, 3) := by decide +kernel
theorem dX0_pass_73 : decode cX0_pass 73 = .ok (.invokevirtual 50, 3) := by decide +kernel
theorem dX0_pass_76 : decode cX0_pass 76 = .ok (.aload_n 0, 1) := by decide +kernel
theorem dX0_pass_77 : decode cX0_pass 77 = .ok (.getfield 7, 3) := by decide +kernel
theorem dX0_pass_80 : decode cX0_pass 80 = .ok (.aload_n 0, 1) := by decide +kernel
theorem dX0_pass_81 : decode cX0_pass 81 = .ok (.getfield 13, 3) := by decide +kernel
theorem dX0_pass_84 : decode cX0_pass 84 = .ok (.if_icmp .ne 16, 3) := by decide +kernel
theorem dX0_pass_87 : decode cX0_pass 87 = .ok (.aload_n 0, 1) := by decide +kernel
theorem dX0_pass_88 : decode cX0_pass 88 = .ok (.getfield 22, 3) := by decide +kernel
theorem dX0_pass_91 : decode cX0_pass 91 = .ok (.ifCond .ne 9, 3) := by decide +kernel
theorem dX0_pass_94 : decode cX0_pass 94 = .ok (.aload_n 0, 1) := by decide +kernel
theorem dX0_pass_95 : decode cX0_pass 95 = .ok (.iload 4, 2) := by decide +kernel
theorem dX0_pass_97 : decode cX0_pass 97 = .ok (.putfield 22, 3) := by decide +kernel
theorem dX0_pass_100 : decode cX0_pass 100 = .ok (.iinc 4 1, 3) := by decide +kernel
theorem dX0_pass_103 : decode cX0_pass 103 = .ok (.goto (-100), 3) := by decide +kernel
theorem dX0_pass_106 : decode cX0_pass 106 = .ok (.return_, 1) := by decide +kernel
abbrev rm_X0_pass : Room := { frames := 1, cells := 0, slots := 0, locals := 23 }
def f_X0_pass_100 (h : Mem) (v0 : Nat) (v1 : Nat) (v2 : Int32) (v3 : Int32) (v4 : Int32) : Option ((Int32 × Mem) ⊕ Mem) :=
  some (.inl ((v4 + 1), h))
set_option maxRecDepth 100000 in
set_option maxHeartbeats 4000000 in
theorem w_X0_pass_100 {G : GE} {X : CX} {l : Launch} (hX : Ok G X cX0_pass RX0) (hN : xn X = 7) {P0 : Mem → Prop} (hr : Rt G X l yX0_pass none rm_X0_pass (pmV P0))  (v0 : Nat) (v1 : Nat) (v2 : Int32) (v3 : Int32) {P : ((Int32 × Mem) ⊕ Mem) → Prop} (hc : ∀ s, P (.inl s) → AW G X 3 [(0, vR v0), (1, vR v1), (2, vI v2), (3, vI v3), (4, vI s.1)] [] s.2 0 0) (he0 : ∀ e, P (.inr e) → AW G X 106 [] [] e 0 0) (h : Mem) (v4 : Int32) (hy : OK (f_X0_pass_100 h v0 v1 v2 v3 v4) P) : AW G X 100 [(0, vR v0), (1, vR v1), (2, vI v2), (3, vI v3), (4, vI v4)] [] h 0 0 := by
  unfold f_X0_pass_100 at hy
  refine aw_iinc (pc := 100) hX 1 (by decide) 4 rfl [(4, vI (v4 + 1)), (0, vR v0), (1, vR v1), (2, vI v2), (3, vI v3)] rfl (lt_n hN (by decide)) dX0_pass_100 ?_
  refine aw_goto (pc := 103) hX 3 (by decide) dX0_pass_103 ?_
  refine AW.sub [1, 2, 3, 4, 0] rfl ?_
  exact hc ((v4 + 1), h) hy.s
def f_X0_pass_76 (h : Mem) (v0 : Nat) (v1 : Nat) (v2 : Int32) (v3 : Int32) (v4 : Int32) : Option ((Int32 × Mem) ⊕ Mem) :=
  (gI h v0 2 0).bind fun x13 => (gI h v0 1 0).bind fun x14 => (if x13 = x14 then (gI h v0 4 0).bind fun x15 => (if x15 = 0 then (pI h v0 4 0 v4).bind fun h16 => f_X0_pass_100 h16 v0 v1 v2 v3 v4 else f_X0_pass_100 h v0 v1 v2 v3 v4) else f_X0_pass_100 h v0 v1 v2 v3 v4)
set_option maxRecDepth 100000 in
set_option maxHeartbeats 4000000 in
theorem w_X0_pass_76 {G : GE} {X : CX} {l : Launch} (hX : Ok G X cX0_pass RX0) (hN : xn X = 7) {P0 : Mem → Prop} (hr : Rt G X l yX0_pass none rm_X0_pass (pmV P0))  (v0 : Nat) (v1 : Nat) (v2 : Int32) (v3 : Int32) {P : ((Int32 × Mem) ⊕ Mem) → Prop} (hc : ∀ s, P (.inl s) → AW G X 3 [(0, vR v0), (1, vR v1), (2, vI v2), (3, vI v3), (4, vI s.1)] [] s.2 0 0) (he0 : ∀ e, P (.inr e) → AW G X 106 [] [] e 0 0) (h : Mem) (v4 : Int32) (hy : OK (f_X0_pass_76 h v0 v1 v2 v3 v4) P) : AW G X 76 [(0, vR v0), (1, vR v1), (2, vI v2), (3, vI v3), (4, vI v4)] [] h 0 0 := by
  unfold f_X0_pass_76 at hy
  refine aw_aloadn (pc := 76) hX 0 rfl dX0_pass_76 ?_
  refine aw_gI (pc := 77) hX hy fl_X0_7 (fun _ _ => rfl) dX0_pass_77 (fun x13 hy => ?_)
  refine aw_aloadn (pc := 80) hX 0 rfl dX0_pass_80 ?_
  refine aw_gI (pc := 81) hX hy fl_X0_13 (fun _ _ => rfl) dX0_pass_81 (fun x14 hy => ?_)
  refine aw_ic_ne (pc := 84) hX 100 (by decide) dX0_pass_84 (fun hc9 => ?_) (fun hc9 => ?_)
  · have hy := hy.f hc9
    exact w_X0_pass_100 hX hN hr _ _ _ _ hc he0 h v4 hy
  · have hy := hy.t hc9
    refine aw_aloadn (pc := 87) hX 0 rfl dX0_pass_87 ?_
    refine aw_gI (pc := 88) hX hy fl_X0_22 (fun _ _ => rfl) dX0_pass_88 (fun x15 hy => ?_)
    refine aw_if_ne (pc := 91) hX 100 (by decide) dX0_pass_91 (fun hc9 => ?_) (fun hc9 => ?_)
    · have hy := hy.f hc9
      exact w_X0_pass_100 hX hN hr _ _ _ _ hc he0 h v4 hy
    · have hy := hy.t hc9
      refine aw_aloadn (pc := 94) hX 0 rfl dX0_pass_94 ?_
      refine aw_iload (pc := 95) hX 4 rfl dX0_pass_95 ?_
      refine aw_pI (pc := 97) hX hy fl_X0_22 rfl (Or.inl rfl) dX0_pass_97 (fun h16 hy => ?_)
      exact w_X0_pass_100 hX hN hr _ _ _ _ hc he0 h16 v4 hy
def f_X0_pass_35 (h : Mem) (v0 : Nat) (v1 : Nat) (v2 : Int32) (v3 : Int32) (v4 : Int32) (s0 : Int32) : Option ((Int32 × Mem) ⊕ Mem) :=
  (f_X0_draw h v0).bind fun q9 => (gI q9.2 v1 3 4).bind fun x10 => (irm q9.1 x10).bind fun x11 => (f_X1_isOpen q9.2 v1 x11 v2 s0).bind fun x12 => (if x12 = 0 then f_X0_pass_76 q9.2 v0 v1 v2 v3 v4 else (f_X5_oneEnd q9.2 v1 x11).bind fun x17 => (f_X5_otherEnd q9.2 v1 x11).bind fun x18 => (f_X0_walk q9.2 v0 x17 x18).bind fun h19 => f_X0_pass_76 h19 v0 v1 v2 v3 v4)
set_option maxRecDepth 100000 in
set_option maxHeartbeats 4000000 in
theorem w_X0_pass_35 {G : GE} {X : CX} {l : Launch} (hX : Ok G X cX0_pass RX0) (hN : xn X = 7) {P0 : Mem → Prop} (hr : Rt G X l yX0_pass none rm_X0_pass (pmV P0))  (v0 : Nat) (v1 : Nat) (v2 : Int32) (v3 : Int32) {P : ((Int32 × Mem) ⊕ Mem) → Prop} (hc : ∀ s, P (.inl s) → AW G X 3 [(0, vR v0), (1, vR v1), (2, vI v2), (3, vI v3), (4, vI s.1)] [] s.2 0 0) (he0 : ∀ e, P (.inr e) → AW G X 106 [] [] e 0 0) (h : Mem) (v4 : Int32) (s0 : Int32) (hy : OK (f_X0_pass_35 h v0 v1 v2 v3 v4 s0) P) : AW G X 35 [(0, vR v0), (1, vR v1), (2, vI v2), (3, vI v3), (4, vI v4)] [vI s0] h 0 0 := by
  unfold f_X0_pass_35 at hy
  refine aw_istore (pc := 35) hX [(5, vI s0), (0, vR v0), (1, vR v1), (2, vI v2), (3, vI v3), (4, vI v4)] rfl (lt_n hN (by decide)) dX0_pass_35 ?_
  refine aw_aloadn (pc := 37) hX 1 rfl dX0_pass_37 ?_
  refine aw_callV (pc := 38) (st := []) (a := v0) hX [] (con_X0_draw _ G _ v0 hy.bd) mc_X0_draw ml_X0_30 im_X0_draw se_X0_draw (by decide) hy.bd.kd rfl (rm_of hr (by decide)) (Nat.le_of_ble_eq_true rfl) rfl dX0_pass_38 (kmI rfl rfl (fun q9 hy => ?_))
  refine aw_aloadn (pc := 41) hX 2 rfl dX0_pass_41 ?_
  refine aw_gI (pc := 42) hX hy fl_X0_25 (fun _ _ => rfl) dX0_pass_42 (fun x10 hy => ?_)
  refine aw_irem (pc := 45) hX hy dX0_pass_45 (fun x11 hy => ?_)
  refine aw_istore (pc := 46) hX [(6, vI x11), (5, vI s0), (0, vR v0), (1, vR v1), (2, vI v2), (3, vI v3), (4, vI v4)] rfl (lt_n hN (by decide)) dX0_pass_46 ?_
  refine aw_aloadn (pc := 48) hX 3 rfl dX0_pass_48 ?_
  refine aw_iload (pc := 49) hX 0 rfl dX0_pass_49 ?_
  refine aw_iloadn (pc := 51) hX 4 rfl dX0_pass_51 ?_
  refine aw_iload (pc := 52) hX 1 rfl dX0_pass_52 ?_
  refine aw_callS (pc := 54) (st := []) hX [vR v1, vI x11, vI v2, vI s0] (con_X1_isOpen _ G _ v1 x11 v2 s0 hy.bd) mc_X1_isOpen ml_X0_37 st_X1_isOpen rfl (rm_of hr (by decide)) (Nat.le_of_ble_eq_true rfl) rfl dX0_pass_54 (kpI rfl rfl (fun x12 hy => ?_))
  refine aw_if_eq (pc := 57) hX 76 (by decide) dX0_pass_57 (fun hc9 => ?_) (fun hc9 => ?_)
  · have hy := hy.t hc9
    refine AW.sub [2, 3, 4, 5, 6] rfl ?_
    exact w_X0_pass_76 hX hN hr _ _ _ _ hc he0 q9.2 v4 hy
  · have hy := hy.f hc9
    refine aw_aloadn (pc := 60) hX 2 rfl dX0_pass_60 ?_
    refine aw_aloadn (pc := 61) hX 3 rfl dX0_pass_61 ?_
    refine aw_iload (pc := 62) hX 0 rfl dX0_pass_62 ?_
    refine aw_callV (pc := 64) (st := [vR v0]) (a := v1) hX [vI x11] (con_X5_oneEnd _ G _ v1 x11 hy.bd) mc_X5_oneEnd ml_X0_43 im_X5_oneEnd se_X5_oneEnd (by decide) hy.bd.kd rfl (rm_of hr (by decide)) (Nat.le_of_ble_eq_true rfl) rfl dX0_pass_64 (kpI rfl rfl (fun x17 hy => ?_))
    refine aw_aloadn (pc := 67) hX 3 rfl dX0_pass_67 ?_
    refine aw_iload (pc := 68) hX 0 rfl dX0_pass_68 ?_
    refine aw_callV (pc := 70) (st := [vI x17, vR v0]) (a := v1) hX [vI x11] (con_X5_otherEnd _ G _ v1 x11 hy.bd) mc_X5_otherEnd ml_X0_47 im_X5_otherEnd se_X5_otherEnd (by decide) hy.bd.kd rfl (rm_of hr (by decide)) (Nat.le_of_ble_eq_true rfl) rfl dX0_pass_70 (kpI rfl rfl (fun x18 hy => ?_))
    refine aw_callV (pc := 73) (st := []) (a := v0) hX [vI x17, vI x18] (con_X0_walk _ G _ v0 x17 x18 hy.bd) mc_X0_walk ml_X0_50 im_X0_walk se_X0_walk (by decide) hy.bd.kd rfl (rm_of hr (by decide)) (Nat.le_of_ble_eq_true rfl) rfl dX0_pass_73 (kmV rfl rfl (fun h19 hy => ?_))
    refine AW.sub [2, 3, 4, 5, 6] rfl ?_
    exact w_X0_pass_76 hX hN hr _ _ _ _ hc he0 h19 v4 hy
def b_X0_pass_3 (h : Mem) (v0 : Nat) (v1 : Nat) (v2 : Int32) (v3 : Int32) (v4 : Int32) : Option ((Int32 × Mem) ⊕ Mem) :=
  (if v3 < v4 then some (.inr h) else (gI h v1 3 4).bind fun x1 => (if x1 ≤ 0 then some (.inr h) else (f_X0_draw h v0).bind fun q4 => (irm q4.1 100).bind fun x5 => (gI q4.2 v1 0 4).bind fun x6 => (if x6 ≤ x5 then f_X0_pass_35 q4.2 v0 v1 v2 v3 v4 0 else f_X0_pass_35 q4.2 v0 v1 v2 v3 v4 1)))
set_option maxRecDepth 100000 in
set_option maxHeartbeats 4000000 in
theorem wb_X0_pass_3 {G : GE} {X : CX} {l : Launch} (hX : Ok G X cX0_pass RX0) (hN : xn X = 7) {P0 : Mem → Prop} (hr : Rt G X l yX0_pass none rm_X0_pass (pmV P0))  (v0 : Nat) (v1 : Nat) (v2 : Int32) (v3 : Int32) {P : ((Int32 × Mem) ⊕ Mem) → Prop} (hc : ∀ s, P (.inl s) → AW G X 3 [(0, vR v0), (1, vR v1), (2, vI v2), (3, vI v3), (4, vI s.1)] [] s.2 0 0) (he0 : ∀ e, P (.inr e) → AW G X 106 [] [] e 0 0) (h : Mem) (v4 : Int32) (hy : OK (b_X0_pass_3 h v0 v1 v2 v3 v4) P) : AW G X 3 [(0, vR v0), (1, vR v1), (2, vI v2), (3, vI v3), (4, vI v4)] [] h 0 0 := by
  unfold b_X0_pass_3 at hy
  refine aw_iload (pc := 3) hX 4 rfl dX0_pass_3 ?_
  refine aw_iloadn (pc := 5) hX 3 rfl dX0_pass_5 ?_
  refine aw_ic_gt (pc := 6) hX 106 (by decide) dX0_pass_6 (fun hc9 => ?_) (fun hc9 => ?_)
  · have hy := hy.t hc9
    refine AW.sub [] rfl ?_
    exact he0 h hy.s
  · have hy := hy.f hc9
    refine aw_aloadn (pc := 9) hX 1 rfl dX0_pass_9 ?_
    refine aw_gI (pc := 10) hX hy fl_X0_25 (fun _ _ => rfl) dX0_pass_10 (fun x1 hy => ?_)
    refine aw_if_le (pc := 13) hX 106 (by decide) dX0_pass_13 (fun hc9 => ?_) (fun hc9 => ?_)
    · have hy := hy.t hc9
      refine AW.sub [] rfl ?_
      exact he0 h hy.s
    · have hy := hy.f hc9
      refine aw_aloadn (pc := 16) hX 0 rfl dX0_pass_16 ?_
      refine aw_callV (pc := 17) (st := []) (a := v0) hX [] (con_X0_draw _ G _ v0 hy.bd) mc_X0_draw ml_X0_30 im_X0_draw se_X0_draw (by decide) hy.bd.kd rfl (rm_of hr (by decide)) (Nat.le_of_ble_eq_true rfl) rfl dX0_pass_17 (kmI rfl rfl (fun q4 hy => ?_))
      refine aw_bipush (pc := 20) hX 100 (by decide) dX0_pass_20 ?_
      refine aw_irem (pc := 22) hX hy dX0_pass_22 (fun x5 hy => ?_)
      refine aw_aloadn (pc := 23) hX 1 rfl dX0_pass_23 ?_
      refine aw_gI (pc := 24) hX hy fl_X0_34 (fun _ _ => rfl) dX0_pass_24 (fun x6 hy => ?_)
      refine aw_ic_ge (pc := 27) hX 34 (by decide) dX0_pass_27 (fun hc9 => ?_) (fun hc9 => ?_)
      · have hy := hy.t hc9
        refine aw_iconst (pc := 34) hX 0 (by decide) dX0_pass_34 ?_
        exact w_X0_pass_35 hX hN hr _ _ _ _ hc he0 q4.2 v4 0 hy
      · have hy := hy.f hc9
        refine aw_iconst (pc := 30) hX 1 (by decide) dX0_pass_30 ?_
        refine aw_goto (pc := 31) hX 35 (by decide) dX0_pass_31 ?_
        exact w_X0_pass_35 hX hN hr _ _ _ _ hc he0 q4.2 v4 1 hy
theorem wl_X0_pass_3 {G : GE} {X : CX} {l : Launch} (hX : Ok G X cX0_pass RX0) (hN : xn X = 7) {P0 : Mem → Prop} (hr : Rt G X l yX0_pass none rm_X0_pass (pmV P0)) (v0 : Nat) (v1 : Nat) (v2 : Int32) (v3 : Int32) {P : (Mem) → Prop} (he0 : ∀ e, P e → AW G X 106 [] [] e 0 0) : ∀ (n : Nat) (s : Int32 × Mem), OK (iter (fun (s : Int32 × Mem) => b_X0_pass_3 s.2 v0 v1 v2 v3 s.1) n s) P → AW G X 3 [(0, vR v0), (1, vR v1), (2, vI v2), (3, vI v3), (4, vI s.1)] [] s.2 0 0 := by
  intro n
  induction n with
  | zero => exact fun s hy => hy.it0.elim
  | succ n ih =>
    intro s hy
    exact wb_X0_pass_3 hX hN hr v0 v1 v2 v3 (fun s hs => ih s hs) (fun e hs => he0 e hs) s.2 s.1 hy.it
def f_X0_pass (h : Mem) (v0 : Nat) (v1 : Nat) (v2 : Int32) (v3 : Int32) : Option Mem :=
  (ck h v0 0).bind fun _ => (iter (fun (s : Int32 × Mem) => b_X0_pass_3 s.2 v0 v1 v2 v3 s.1) FU (1, h)).bind (fun q20 => some q20)
set_option maxRecDepth 100000 in
set_option maxHeartbeats 4000000 in
theorem w_X0_pass {G : GE} {X : CX} {l : Launch} (hX : Ok G X cX0_pass RX0) (hN : xn X = 7) {P : Mem → Prop} (hr : Rt G X l yX0_pass none rm_X0_pass (pmV P)) (h : Mem) (v0 : Nat) (v1 : Nat) (v2 : Int32) (v3 : Int32) (hy : OK (f_X0_pass h v0 v1 v2 v3) P) : AW G X 0 [(0, vR v0), (1, vR v1), (2, vI v2), (3, vI v3)] [] h 0 0 := by
  unfold f_X0_pass at hy
  have hkd := hy.kd
  have hy := hy.kb
  refine aw_iconst (pc := 0) hX 1 (by decide) dX0_pass_0 ?_
  refine aw_istore (pc := 1) hX [(4, vI 1), (0, vR v0), (1, vR v1), (2, vI v2), (3, vI v3)] rfl (lt_n hN (by decide)) dX0_pass_1 ?_
  refine AW.sub [1, 2, 3, 4, 0] rfl ?_
  refine wl_X0_pass_3 hX hN hr v0 v1 v2 v3 ?_ FU (1, h) hy.bd
  · intro q20 hy
    exact aw_vret (pc := 106) hX hr (by decide) (by decide) dX0_pass_106 ⟨rfl, hy.s⟩
theorem con_X0_pass (l : Launch) (G : GE) (h : Mem) (v0 : Nat) (v1 : Nat) (v2 : Int32) (v3 : Int32) {P : Mem → Prop} (hy : OK (f_X0_pass h v0 v1 v2 v3) P) : Con l G yX0_pass cX0_pass 7 none rm_X0_pass [vR v0, vR v1, vI v2, vI v3] h (pmV P) := Con.of (by decide) (Nat.le_of_ble_eq_true rfl) (fun X hX hr hN => w_X0_pass hX hN hr h v0 v1 v2 v3 hy)
/-! X1_voice -/
theorem dX1_voice_0 : decode cX1_voice 0 = .ok (.iconst 1, 1) := by decide +kernel
theorem dX1_voice_1 : decode cX1_voice 1 = .ok (.iload_n 1, 1) := by decide +kernel
theorem dX1_voice_2 : decode cX1_voice 2 = .ok (.ifCond .eq 10, 3) := by decide +kernel
theorem dX1_voice_5 : decode cX1_voice 5 = .ok (.bipush 6, 2) := by decide +kernel
theorem dX1_voice_7 : decode cX1_voice 7 = .ok (.iload_n 0, 1) := by decide +kernel
theorem dX1_voice_8 : decode cX1_voice 8 = .ok (.iadd, 1) := by decide +kernel
theorem dX1_voice_9 : decode cX1_voice 9 = .ok (.goto 4, 3) := by decide +kernel
theorem dX1_voice_12 : decode cX1_voice 12 = .ok (.iload_n 0, 1) := by decide +kernel
theorem dX1_voice_13 : decode cX1_voice 13 = .ok (.ishl, 1) := by decide +kernel
theorem dX1_voice_14 : decode cX1_voice 14 = .ok (.ireturn, 1) := by decide +kernel
abbrev rm_X1_voice : Room := { frames := 0, cells := 0, slots := 0, locals := 0 }
def f_X1_voice (h : Mem) (v0 : Int32) (v1 : Int32) : Option Int32 :=
  (if v1 = 0 then some ((1 : Int32) <<< (v0 &&& 31)) else some ((1 : Int32) <<< ((6 + v0) &&& 31)))
set_option maxRecDepth 100000 in
set_option maxHeartbeats 4000000 in
theorem w_X1_voice {G : GE} {X : CX} {l : Launch} (hX : Ok G X cX1_voice RX1) (hN : xn X = 2) (h : Mem) {P : Int32 → Prop} (hr : Rt G X l yX1_voice (some .int) rm_X1_voice (ppI h P)) (v0 : Int32) (v1 : Int32) (hy : OK (f_X1_voice h v0 v1) P) : AW G X 0 [(0, vI v0), (1, vI v1)] [] h 0 0 := by
  unfold f_X1_voice at hy
  refine aw_iconst (pc := 0) hX 1 (by decide) dX1_voice_0 ?_
  refine aw_iloadn (pc := 1) hX 1 rfl dX1_voice_1 ?_
  refine aw_if_eq (pc := 2) hX 12 (by decide) dX1_voice_2 (fun hc9 => ?_) (fun hc9 => ?_)
  · have hy := hy.t hc9
    refine aw_iloadn (pc := 12) hX 0 rfl dX1_voice_12 ?_
    refine aw_ishl (pc := 13) hX dX1_voice_13 ?_
    exact aw_iret (pc := 14) hX hr (by decide) (by decide) dX1_voice_14 ⟨rfl, _, rfl, hy.s⟩
  · have hy := hy.f hc9
    refine aw_bipush (pc := 5) hX 6 (by decide) dX1_voice_5 ?_
    refine aw_iloadn (pc := 7) hX 0 rfl dX1_voice_7 ?_
    refine aw_iadd (pc := 8) hX dX1_voice_8 ?_
    refine aw_goto (pc := 9) hX 13 (by decide) dX1_voice_9 ?_
    refine aw_ishl (pc := 13) hX dX1_voice_13 ?_
    exact aw_iret (pc := 14) hX hr (by decide) (by decide) dX1_voice_14 ⟨rfl, _, rfl, hy.s⟩
theorem con_X1_voice (l : Launch) (G : GE) (h : Mem) (v0 : Int32) (v1 : Int32) {P : Int32 → Prop} (hy : OK (f_X1_voice h v0 v1) P) : Con l G yX1_voice cX1_voice 2 (some .int) rm_X1_voice [vI v0, vI v1] h (ppI h P) := Con.of (by decide) (Nat.le_of_ble_eq_true rfl) (fun X hX hr hN => w_X1_voice hX hN h hr v0 v1 hy)
/-! X5_note -/
theorem dX5_note_0 : decode cX5_note 0 = .ok (.aload_n 0, 1) := by decide +kernel
theorem dX5_note_1 : decode cX5_note 1 = .ok (.getfield 15, 3) := by decide +kernel
theorem dX5_note_4 : decode cX5_note 4 = .ok (.iload_n 1, 1) := by decide +kernel
theorem dX5_note_5 : decode cX5_note 5 = .ok (.bipush 8, 2) := by decide +kernel
theorem dX5_note_7 : decode cX5_note 7 = .ok (.imul, 1) := by decide +kernel
theorem dX5_note_8 : decode cX5_note 8 = .ok (.iload_n 2, 1) := by decide +kernel
theorem dX5_note_9 : decode cX5_note 9 = .ok (.iadd, 1) := by decide +kernel
theorem dX5_note_10 : decode cX5_note 10 = .ok (.iaload, 1) := by decide +kernel
theorem dX5_note_11 : decode cX5_note 11 = .ok (.ireturn, 1) := by decide +kernel
abbrev rm_X5_note : Room := { frames := 0, cells := 0, slots := 0, locals := 0 }
def f_X5_note (h : Mem) (v0 : Nat) (v1 : Int32) (v2 : Int32) : Option Int32 :=
  (ck h v0 4).bind fun _ => (gR h v0 10 4).bind fun r1 => (aI h r1 ((v1 * 8) + v2)).bind fun x2 => some x2
set_option maxRecDepth 100000 in
set_option maxHeartbeats 4000000 in
theorem w_X5_note {G : GE} {X : CX} {l : Launch} (hX : Ok G X cX5_note RX5) (hN : xn X = 3) (h : Mem) {P : Int32 → Prop} (hr : Rt G X l yX5_note (some .int) rm_X5_note (ppI h P)) (v0 : Nat) (v1 : Int32) (v2 : Int32) (hy : OK (f_X5_note h v0 v1 v2) P) : AW G X 0 [(0, vR v0), (1, vI v1), (2, vI v2)] [] h 0 0 := by
  unfold f_X5_note at hy
  have hkd := hy.kd
  have hy := hy.kb
  refine aw_aloadn (pc := 0) hX 0 rfl dX5_note_0 ?_
  refine aw_gR (pc := 1) hX hy fl_X5_15 (fun _ _ => rfl) dX5_note_1 (fun r1 hy => ?_)
  refine aw_iloadn (pc := 4) hX 1 rfl dX5_note_4 ?_
  refine aw_bipush (pc := 5) hX 8 (by decide) dX5_note_5 ?_
  refine aw_imul (pc := 7) hX dX5_note_7 ?_
  refine aw_iloadn (pc := 8) hX 2 rfl dX5_note_8 ?_
  refine aw_iadd (pc := 9) hX dX5_note_9 ?_
  refine aw_aI (pc := 10) hX hy dX5_note_10 (fun x2 hy => ?_)
  exact aw_iret (pc := 11) hX hr (by decide) (by decide) dX5_note_11 ⟨rfl, _, rfl, hy.s⟩
theorem con_X5_note (l : Launch) (G : GE) (h : Mem) (v0 : Nat) (v1 : Int32) (v2 : Int32) {P : Int32 → Prop} (hy : OK (f_X5_note h v0 v1 v2) P) : Con l G yX5_note cX5_note 3 (some .int) rm_X5_note [vR v0, vI v1, vI v2] h (ppI h P) := Con.of (by decide) (Nat.le_of_ble_eq_true rfl) (fun X hX hr hN => w_X5_note hX hN h hr v0 v1 v2 hy)
/-! X1_noteSung -/
theorem dX1_noteSung_0 : decode cX1_noteSung 0 = .ok (.aload_n 0, 1) := by decide +kernel
theorem dX1_noteSung_1 : decode cX1_noteSung 1 = .ok (.iload_n 1, 1) := by decide +kernel
theorem dX1_noteSung_2 : decode cX1_noteSung 2 = .ok (.iload_n 2, 1) := by decide +kernel
theorem dX1_noteSung_3 : decode cX1_noteSung 3 = .ok (.invokevirtual 9, 3) := by decide +kernel
theorem dX1_noteSung_6 : decode cX1_noteSung 6 = .ok (.istore 5, 2) := by decide +kernel
theorem dX1_noteSung_8 : decode cX1_noteSung 8 = .ok (.iload_n 2, 1) := by decide +kernel
theorem dX1_noteSung_9 : decode cX1_noteSung 9 = .ok (.aload_n 0, 1) := by decide +kernel
theorem dX1_noteSung_10 : decode cX1_noteSung 10 = .ok (.getfield 13, 3) := by decide +kernel
theorem dX1_noteSung_13 : decode cX1_noteSung 13 = .ok (.iload_n 1, 1) := by decide +kernel
theorem dX1_noteSung_14 : decode cX1_noteSung 14 = .ok (.iaload, 1) := by decide +kernel
theorem dX1_noteSung_15 : decode cX1_noteSung 15 = .ok (.iconst 1, 1) := by decide +kernel
theorem dX1_noteSung_16 : decode cX1_noteSung 16 = .ok (.isub, 1) := by decide +kernel
theorem dX1_noteSung_17 : decode cX1_noteSung 17 = .ok (.if_icmp .eq 6, 3) := by decide +kernel
theorem dX1_noteSung_20 : decode cX1_noteSung 20 = .ok (.iload 5, 2) := by decide +kernel
theorem dX1_noteSung_22 : decode cX1_noteSung 22 = .ok (.ireturn, 1) := by decide +kernel
theorem dX1_noteSung_23 : decode cX1_noteSung 23 = .ok (.iload_n 3, 1) := by decide +kernel
theorem dX1_noteSung_24 : decode cX1_noteSung 24 = .ok (.ifCond .eq 20, 3) := by decide +kernel
theorem dX1_noteSung_27 : decode cX1_noteSung 27 = .ok (.iload 5, 2) := by decide +kernel
theorem dX1_noteSung_29 : decode cX1_noteSung 29 = .ok (.iload 5, 2) := by decide +kernel
theorem dX1_noteSung_31 : decode cX1_noteSung 31 = .ok (.bipush 6, 2) := by decide +kernel
theorem dX1_noteSung_33 : decode cX1_noteSung 33 = .ok (.if_icmp .ne 7, 3) := by decide +kernel
theorem dX1_noteSung_36 : decode cX1_noteSung 36 = .ok (.iconst (-1), 1) := by decide +kernel
theorem dX1_noteSung_37 : decode cX1_noteSung 37 = .ok (.goto 4, 3) := by decide +kernel
theorem dX1_noteSung_40 : decode cX1_noteSung 40 = .ok (.iconst 1, 1) := by decide +kernel
theorem dX1_noteSung_41 : decode cX1_noteSung 41 = .ok (.iadd, 1) := by decide +kernel
theorem dX1_noteSung_42 : decode cX1_noteSung 42 = .ok (.istore 5, 2) := by decide +kernel
theorem dX1_noteSung_44 : decode cX1_noteSung 44 = .ok (.iload 4, 2) := by decide +kernel
theorem dX1_noteSung_46 : decode cX1_noteSung 46 = .ok (.ifCond .eq 15, 3) := by decide +kernel
theorem dX1_noteSung_49 : decode cX1_noteSung 49 = .ok (.iload 5, 2) := by decide +kernel
theorem dX1_noteSung_51 : decode cX1_noteSung 51 = .ok (.ifCond .eq 10, 3) := by decide +kernel
theorem dX1_noteSung_54 : decode cX1_noteSung 54 = .ok (.iload 5, 2) := by decide +kernel
theorem dX1_noteSung_56 : decode cX1_noteSung 56 = .ok (.iconst 1, 1) := by decide +kernel
theorem dX1_noteSung_57 : decode cX1_noteSung 57 = .ok (.isub, 1) := by decide +kernel
theorem dX1_noteSung_58 : decode cX1_noteSung 58 = .ok (.goto 5, 3) := by decide +kernel
theorem dX1_noteSung_61 : decode cX1_noteSung 61 = .ok (.iload 5, 2) := by decide +kernel
theorem dX1_noteSung_63 : decode cX1_noteSung 63 = .ok (.ireturn, 1) := by decide +kernel
abbrev rm_X1_noteSung : Room := { frames := 1, cells := 0, slots := 0, locals := 22 }
def f_X1_noteSung_61 (h : Mem) (v5 : Int32) : Option Int32 :=
  some v5
set_option maxRecDepth 100000 in
set_option maxHeartbeats 4000000 in
theorem w_X1_noteSung_61 {G : GE} {X : CX} {l : Launch} (hX : Ok G X cX1_noteSung RX1) (hN : xn X = 6) (h : Mem) {P : Int32 → Prop} (hr : Rt G X l yX1_noteSung (some .int) rm_X1_noteSung (ppI h P)) (v5 : Int32) (hy : OK (f_X1_noteSung_61 h v5) P) : AW G X 61 [(5, vI v5)] [] h 0 0 := by
  unfold f_X1_noteSung_61 at hy
  refine aw_iload (pc := 61) hX 0 rfl dX1_noteSung_61 ?_
  exact aw_iret (pc := 63) hX hr (by decide) (by decide) dX1_noteSung_63 ⟨rfl, _, rfl, hy.s⟩
def f_X1_noteSung_44 (h : Mem) (v4 : Int32) (v5 : Int32) : Option Int32 :=
  (if v4 = 0 then f_X1_noteSung_61 h v5 else (if v5 = 0 then f_X1_noteSung_61 h v5 else some (v5 - 1)))
set_option maxRecDepth 100000 in
set_option maxHeartbeats 4000000 in
theorem w_X1_noteSung_44 {G : GE} {X : CX} {l : Launch} (hX : Ok G X cX1_noteSung RX1) (hN : xn X = 6) (h : Mem) {P : Int32 → Prop} (hr : Rt G X l yX1_noteSung (some .int) rm_X1_noteSung (ppI h P)) (v4 : Int32) (v5 : Int32) (hy : OK (f_X1_noteSung_44 h v4 v5) P) : AW G X 44 [(4, vI v4), (5, vI v5)] [] h 0 0 := by
  unfold f_X1_noteSung_44 at hy
  refine aw_iload (pc := 44) hX 0 rfl dX1_noteSung_44 ?_
  refine aw_if_eq (pc := 46) hX 61 (by decide) dX1_noteSung_46 (fun hc9 => ?_) (fun hc9 => ?_)
  · have hy := hy.t hc9
    refine AW.sub [1] rfl ?_
    exact w_X1_noteSung_61 hX hN _ hr v5 hy
  · have hy := hy.f hc9
    refine aw_iload (pc := 49) hX 1 rfl dX1_noteSung_49 ?_
    refine aw_if_eq (pc := 51) hX 61 (by decide) dX1_noteSung_51 (fun hc9 => ?_) (fun hc9 => ?_)
    · have hy := hy.t hc9
      refine AW.sub [1] rfl ?_
      exact w_X1_noteSung_61 hX hN _ hr v5 hy
    · have hy := hy.f hc9
      refine aw_iload (pc := 54) hX 1 rfl dX1_noteSung_54 ?_
      refine aw_iconst (pc := 56) hX 1 (by decide) dX1_noteSung_56 ?_
      refine aw_isub (pc := 57) hX dX1_noteSung_57 ?_
      refine aw_goto (pc := 58) hX 63 (by decide) dX1_noteSung_58 ?_
      exact aw_iret (pc := 63) hX hr (by decide) (by decide) dX1_noteSung_63 ⟨rfl, _, rfl, hy.s⟩
def f_X1_noteSung_41 (h : Mem) (v4 : Int32) (s0 : Int32) (s1 : Int32) : Option Int32 :=
  f_X1_noteSung_44 h v4 (s0 + s1)
set_option maxRecDepth 100000 in
set_option maxHeartbeats 4000000 in
theorem w_X1_noteSung_41 {G : GE} {X : CX} {l : Launch} (hX : Ok G X cX1_noteSung RX1) (hN : xn X = 6) (h : Mem) {P : Int32 → Prop} (hr : Rt G X l yX1_noteSung (some .int) rm_X1_noteSung (ppI h P)) (v4 : Int32) (s0 : Int32) (s1 : Int32) (hy : OK (f_X1_noteSung_41 h v4 s0 s1) P) : AW G X 41 [(4, vI v4)] [vI s1, vI s0] h 0 0 := by
  unfold f_X1_noteSung_41 at hy
  refine aw_iadd (pc := 41) hX dX1_noteSung_41 ?_
  refine aw_istore (pc := 42) hX [(5, vI (s0 + s1)), (4, vI v4)] rfl (lt_n hN (by decide)) dX1_noteSung_42 ?_
  refine AW.sub [1, 0] rfl ?_
  exact w_X1_noteSung_44 hX hN _ hr v4 (s0 + s1) hy
def f_X1_noteSung (h : Mem) (v0 : Nat) (v1 : Int32) (v2 : Int32) (v3 : Int32) (v4 : Int32) : Option Int32 :=
  (f_X5_note h v0 v1 v2).bind fun x1 => (gR h v0 9 4).bind fun r2 => (aI h r2 v1).bind fun x3 => (if v2 = (x3 - 1) then (if v3 = 0 then f_X1_noteSung_44 h v4 x1 else (if x1 = 6 then f_X1_noteSung_41 h v4 x1 (-1) else f_X1_noteSung_41 h v4 x1 1)) else some x1)
set_option maxRecDepth 100000 in
set_option maxHeartbeats 4000000 in
theorem w_X1_noteSung {G : GE} {X : CX} {l : Launch} (hX : Ok G X cX1_noteSung RX1) (hN : xn X = 6) (h : Mem) {P : Int32 → Prop} (hr : Rt G X l yX1_noteSung (some .int) rm_X1_noteSung (ppI h P)) (v0 : Nat) (v1 : Int32) (v2 : Int32) (v3 : Int32) (v4 : Int32) (hy : OK (f_X1_noteSung h v0 v1 v2 v3 v4) P) : AW G X 0 [(0, vR v0), (1, vI v1), (2, vI v2), (3, vI v3), (4, vI v4)] [] h 0 0 := by
  unfold f_X1_noteSung at hy
  refine aw_aloadn (pc := 0) hX 0 rfl dX1_noteSung_0 ?_
  refine aw_iloadn (pc := 1) hX 1 rfl dX1_noteSung_1 ?_
  refine aw_iloadn (pc := 2) hX 2 rfl dX1_noteSung_2 ?_
  refine aw_callV (pc := 3) (st := []) (a := v0) hX [vI v1, vI v2] (con_X5_note _ G _ v0 v1 v2 hy.bd) mc_X5_note ml_X1_9 im_X5_note se_X5_note (by decide) hy.bd.kd rfl (rm_of hr (by decide)) (Nat.le_of_ble_eq_true rfl) rfl dX1_noteSung_3 (kpI rfl rfl (fun x1 hy => ?_))
  refine aw_istore (pc := 6) hX [(5, vI x1), (0, vR v0), (1, vI v1), (2, vI v2), (3, vI v3), (4, vI v4)] rfl (lt_n hN (by decide)) dX1_noteSung_6 ?_
  refine aw_iloadn (pc := 8) hX 3 rfl dX1_noteSung_8 ?_
  refine aw_aloadn (pc := 9) hX 1 rfl dX1_noteSung_9 ?_
  refine aw_gR (pc := 10) hX hy fl_X1_13 (fun _ _ => rfl) dX1_noteSung_10 (fun r2 hy => ?_)
  refine aw_iloadn (pc := 13) hX 2 rfl dX1_noteSung_13 ?_
  refine aw_aI (pc := 14) hX hy dX1_noteSung_14 (fun x3 hy => ?_)
  refine aw_iconst (pc := 15) hX 1 (by decide) dX1_noteSung_15 ?_
  refine aw_isub (pc := 16) hX dX1_noteSung_16 ?_
  refine aw_ic_eq (pc := 17) hX 23 (by decide) dX1_noteSung_17 (fun hc9 => ?_) (fun hc9 => ?_)
  · have hy := hy.t hc9
    refine aw_iloadn (pc := 23) hX 4 rfl dX1_noteSung_23 ?_
    refine aw_if_eq (pc := 24) hX 44 (by decide) dX1_noteSung_24 (fun hc9 => ?_) (fun hc9 => ?_)
    · have hy := hy.t hc9
      refine AW.sub [5, 0] rfl ?_
      exact w_X1_noteSung_44 hX hN _ hr v4 x1 hy
    · have hy := hy.f hc9
      refine aw_iload (pc := 27) hX 0 rfl dX1_noteSung_27 ?_
      refine aw_iload (pc := 29) hX 0 rfl dX1_noteSung_29 ?_
      refine aw_bipush (pc := 31) hX 6 (by decide) dX1_noteSung_31 ?_
      refine aw_ic_ne (pc := 33) hX 40 (by decide) dX1_noteSung_33 (fun hc9 => ?_) (fun hc9 => ?_)
      · have hy := hy.f hc9
        refine aw_iconst (pc := 40) hX 1 (by decide) dX1_noteSung_40 ?_
        refine AW.sub [5] rfl ?_
        exact w_X1_noteSung_41 hX hN _ hr v4 x1 1 hy
      · have hy := hy.t hc9
        refine aw_iconst (pc := 36) hX (-1) (by decide) dX1_noteSung_36 ?_
        refine aw_goto (pc := 37) hX 41 (by decide) dX1_noteSung_37 ?_
        refine AW.sub [5] rfl ?_
        exact w_X1_noteSung_41 hX hN _ hr v4 x1 (-1) hy
  · have hy := hy.f hc9
    refine aw_iload (pc := 20) hX 0 rfl dX1_noteSung_20 ?_
    exact aw_iret (pc := 22) hX hr (by decide) (by decide) dX1_noteSung_22 ⟨rfl, _, rfl, hy.s⟩
theorem con_X1_noteSung (l : Launch) (G : GE) (h : Mem) (v0 : Nat) (v1 : Int32) (v2 : Int32) (v3 : Int32) (v4 : Int32) {P : Int32 → Prop} (hy : OK (f_X1_noteSung h v0 v1 v2 v3 v4) P) : Con l G yX1_noteSung cX1_noteSung 6 (some .int) rm_X1_noteSung [vR v0, vI v1, vI v2, vI v3, vI v4] h (ppI h P) := Con.of (by decide) (Nat.le_of_ble_eq_true rfl) (fun X hX hr hN => w_X1_noteSung hX hN h hr v0 v1 v2 v3 v4 hy)
/-! X5_hasGate -/
theorem dX5_hasGate_0 : decode cX5_hasGate 0 = .ok (.aload_n 0, 1) := by decide +kernel
theorem dX5_hasGate_1 : decode cX5_hasGate 1 = .ok (.getfield 24, 3) := by decide +kernel
theorem dX5_hasGate_4 : decode cX5_hasGate 4 = .ok (.iload_n 1, 1) := by decide +kernel
theorem dX5_hasGate_5 : decode cX5_hasGate 5 = .ok (.iaload, 1) := by decide +kernel
theorem dX5_hasGate_6 : decode cX5_hasGate 6 = .ok (.ifCond .lt 7, 3) := by decide +kernel
theorem dX5_hasGate_9 : decode cX5_hasGate 9 = .ok (.iconst 1, 1) := by decide +kernel
theorem dX5_hasGate_10 : decode cX5_hasGate 10 = .ok (.goto 4, 3) := by decide +kernel
theorem dX5_hasGate_13 : decode cX5_hasGate 13 = .ok (.iconst 0, 1) := by decide +kernel
theorem dX5_hasGate_14 : decode cX5_hasGate 14 = .ok (.ireturn, 1) := by decide +kernel
abbrev rm_X5_hasGate : Room := { frames := 0, cells := 0, slots := 0, locals := 0 }
def f_X5_hasGate (h : Mem) (v0 : Nat) (v1 : Int32) : Option Int32 :=
  (ck h v0 4).bind fun _ => (gR h v0 13 4).bind fun r1 => (aI h r1 v1).bind fun x2 => (if x2 < 0 then some 0 else some 1)
set_option maxRecDepth 100000 in
set_option maxHeartbeats 4000000 in
theorem w_X5_hasGate {G : GE} {X : CX} {l : Launch} (hX : Ok G X cX5_hasGate RX5) (hN : xn X = 2) (h : Mem) {P : Int32 → Prop} (hr : Rt G X l yX5_hasGate (some .boolean) rm_X5_hasGate (ppI h P)) (v0 : Nat) (v1 : Int32) (hy : OK (f_X5_hasGate h v0 v1) P) : AW G X 0 [(0, vR v0), (1, vI v1)] [] h 0 0 := by
  unfold f_X5_hasGate at hy
  have hkd := hy.kd
  have hy := hy.kb
  refine aw_aloadn (pc := 0) hX 0 rfl dX5_hasGate_0 ?_
  refine aw_gR (pc := 1) hX hy fl_X5_24 (fun _ _ => rfl) dX5_hasGate_1 (fun r1 hy => ?_)
  refine aw_iloadn (pc := 4) hX 1 rfl dX5_hasGate_4 ?_
  refine aw_aI (pc := 5) hX hy dX5_hasGate_5 (fun x2 hy => ?_)
  refine aw_if_lt (pc := 6) hX 13 (by decide) dX5_hasGate_6 (fun hc9 => ?_) (fun hc9 => ?_)
  · have hy := hy.t hc9
    refine aw_iconst (pc := 13) hX 0 (by decide) dX5_hasGate_13 ?_
    exact aw_zret (pc := 14) hX hr (by decide) (by decide) dX5_hasGate_14 (Or.inl rfl) ⟨rfl, _, rfl, hy.s⟩
  · have hy := hy.f hc9
    refine aw_iconst (pc := 9) hX 1 (by decide) dX5_hasGate_9 ?_
    refine aw_goto (pc := 10) hX 14 (by decide) dX5_hasGate_10 ?_
    exact aw_zret (pc := 14) hX hr (by decide) (by decide) dX5_hasGate_14 (Or.inr rfl) ⟨rfl, _, rfl, hy.s⟩
theorem con_X5_hasGate (l : Launch) (G : GE) (h : Mem) (v0 : Nat) (v1 : Int32) {P : Int32 → Prop} (hy : OK (f_X5_hasGate h v0 v1) P) : Con l G yX5_hasGate cX5_hasGate 2 (some .boolean) rm_X5_hasGate [vR v0, vI v1] h (ppI h P) := Con.of (by decide) (Nat.le_of_ble_eq_true rfl) (fun X hX hr hN => w_X5_hasGate hX hN h hr v0 v1 hy)
/-! X1_isLiftedBy -/
theorem dX1_isLiftedBy_0 : decode cX1_isLiftedBy 0 = .ok (.aload_n 0, 1) := by decide +kernel
theorem dX1_isLiftedBy_1 : decode cX1_isLiftedBy 1 = .ok (.getfield 49, 3) := by decide +kernel
theorem dX1_isLiftedBy_4 : decode cX1_isLiftedBy 4 = .ok (.iload_n 1, 1) := by decide +kernel
theorem dX1_isLiftedBy_5 : decode cX1_isLiftedBy 5 = .ok (.iaload, 1) := by decide +kernel
theorem dX1_isLiftedBy_6 : decode cX1_isLiftedBy 6 = .ok (.istore 5, 2) := by decide +kernel
theorem dX1_isLiftedBy_8 : decode cX1_isLiftedBy 8 = .ok (.iload 5, 2) := by decide +kernel
theorem dX1_isLiftedBy_10 : decode cX1_isLiftedBy 10 = .ok (.iconst 3, 1) := by decide +kernel
theorem dX1_isLiftedBy_11 : decode cX1_isLiftedBy 11 = .ok (.if_icmp .ne 5, 3) := by decide +kernel
theorem dX1_isLiftedBy_14 : decode cX1_isLiftedBy 14 = .ok (.iconst 1, 1) := by decide +kernel
theorem dX1_isLiftedBy_15 : decode cX1_isLiftedBy 15 = .ok (.ireturn, 1) := by decide +kernel
theorem dX1_isLiftedBy_16 : decode cX1_isLiftedBy 16 = .ok (.aload_n 0, 1) := by decide +kernel
theorem dX1_isLiftedBy_17 : decode cX1_isLiftedBy 17 = .ok (.getfield 52, 3) := by decide +kernel
theorem dX1_isLiftedBy_20 : decode cX1_isLiftedBy 20 = .ok (.iload_n 1, 1) := by decide +kernel
theorem dX1_isLiftedBy_21 : decode cX1_isLiftedBy 21 = .ok (.iaload, 1) := by decide +kernel
theorem dX1_isLiftedBy_22 : decode cX1_isLiftedBy 22 = .ok (.istore 6, 2) := by decide +kernel
theorem dX1_isLiftedBy_24 : decode cX1_isLiftedBy 24 = .ok (.aload_n 0, 1) := by decide +kernel
theorem dX1_isLiftedBy_25 : decode cX1_isLiftedBy 25 = .ok (.getfield 13, 3) := by decide +kernel
theorem dX1_isLiftedBy_28 : decode cX1_isLiftedBy 28 = .ok (.iload 6, 2) := by decide +kernel
theorem dX1_isLiftedBy_30 : decode cX1_isLiftedBy 30 = .ok (.iaload, 1) := by decide +kernel
theorem dX1_isLiftedBy_31 : decode cX1_isLiftedBy 31 = .ok (.aload_n 0, 1) := by decide +kernel
theorem dX1_isLiftedBy_32 : decode cX1_isLiftedBy 32 = .ok (.getfield 13, 3) := by decide +kernel
theorem dX1_isLiftedBy_35 : decode cX1_isLiftedBy 35 = .ok (.iload_n 2, 1) := by decide +kernel
theorem dX1_isLiftedBy_36 : decode cX1_isLiftedBy 36 = .ok (.iaload, 1) := by decide +kernel
theorem dX1_isLiftedBy_37 : decode cX1_isLiftedBy 37 = .ok (.if_icmp .eq 5, 3) := by decide +kernel
theorem dX1_isLiftedBy_40 : decode cX1_isLiftedBy 40 = .ok (.iconst 0, 1) := by decide +kernel
theorem dX1_isLiftedBy_41 : decode cX1_isLiftedBy 41 = .ok (.ireturn, 1) := by decide +kernel
theorem dX1_isLiftedBy_42 : decode cX1_isLiftedBy 42 = .ok (.iload 5, 2) := by decide +kernel
theorem dX1_isLiftedBy_44 : decode cX1_isLiftedBy 44 = .ok (.iconst 2, 1) := by decide +kernel
theorem dX1_isLiftedBy_45 : decode cX1_isLiftedBy 45 = .ok (.if_icmp .ne 5, 3) := by decide +kernel
theorem dX1_isLiftedBy_48 : decode cX1_isLiftedBy 48 = .ok (.iconst 1, 1) := by decide +kernel
theorem dX1_isLiftedBy_49 : decode cX1_isLiftedBy 49 = .ok (.ireturn, 1) := by decide +kernel
theorem dX1_isLiftedBy_50 : decode cX1_isLiftedBy 50 = .ok (.iconst 0, 1) := by decide +kernel
theorem dX1_isLiftedBy_51 : decode cX1_isLiftedBy 51 = .ok (.istore 7, 2) := by decide +kernel
theorem dX1_isLiftedBy_53 : decode cX1_isLiftedBy 53 = .ok (.iconst 0, 1) := by decide +kernel
theorem dX1_isLiftedBy_54 : decode cX1_isLiftedBy 54 = .ok (.istore 8, 2) := by decide +kernel
theorem dX1_isLiftedBy_56 : decode cX1_isLiftedBy 56 = .ok (.iload 8, 2) := by decide +kernel
theorem dX1_isLiftedBy_58 : decode cX1_isLiftedBy 58 = .ok (.aload_n 0, 1) := by decide +kernel
theorem dX1_isLiftedBy_59 : decode cX1_isLiftedBy 59 = .ok (.getfield 13, 3) := by decide +kernel
theorem dX1_isLiftedBy_62 : decode cX1_isLiftedBy 62 = .ok (.iload_n 2, 1) := by decide +kernel
theorem dX1_isLiftedBy_63 : decode cX1_isLiftedBy 63 = .ok (.iaload, 1) := by decide +kernel
theorem dX1_isLiftedBy_64 : decode cX1_isLiftedBy 64 = .ok (.if_icmp .ge 33, 3) := by decide +kernel
theorem dX1_isLiftedBy_67 : decode cX1_isLiftedBy 67 = .ok (.aload_n 0, 1) := by decide +kernel
theorem dX1_isLiftedBy_68 : decode cX1_isLiftedBy 68 = .ok (.iload 6, 2) := by decide +kernel
theorem dX1_isLiftedBy_70 : decode cX1_isLiftedBy 70 = .ok (.iload 8, 2) := by decide +kernel
theorem dX1_isLiftedBy_72 : decode cX1_isLiftedBy 72 = .ok (.invokevirtual 9, 3) := by decide +kernel
theorem dX1_isLiftedBy_75 : decode cX1_isLiftedBy 75 = .ok (.aload_n 0, 1) := by decide +kernel
theorem dX1_isLiftedBy_76 : decode cX1_isLiftedBy 76 = .ok (.iload_n 2, 1) := by decide +kernel
theorem dX1_isLiftedBy_77 : decode cX1_isLiftedBy 77 = .ok (.iload 8, 2) := by decide +kernel
theorem dX1_isLiftedBy_79 : decode cX1_isLiftedBy 79 = .ok (.iload_n 3, 1) := by decide +kernel
theorem dX1_isLiftedBy_80 : decode cX1_isLiftedBy 80 = .ok (.iload 4, 2) := by decide +kernel
theorem dX1_isLiftedBy_82 : decode cX1_isLiftedBy 82 = .ok (.invokestatic 55, 3) := by decide +kernel
theorem dX1_isLiftedBy_85 : decode cX1_isLiftedBy 85 = .ok (.if_icmp .eq 6, 3) := by decide +kernel
theorem dX1_isLiftedBy_88 : decode cX1_isLiftedBy 88 = .ok (.iinc 7 1, 3) := by decide +kernel
theorem dX1_isLiftedBy_91 : decode cX1_isLiftedBy 91 = .ok (.iinc 8 1, 3) := by decide +kernel
theorem dX1_isLiftedBy_94 : decode cX1_isLiftedBy 94 = .ok (.goto (-38), 3) := by decide +kernel
theorem dX1_isLiftedBy_97 : decode cX1_isLiftedBy 97 = .ok (.iload 7, 2) := by decide +kernel
theorem dX1_isLiftedBy_99 : decode cX1_isLiftedBy 99 = .ok (.iload 5, 2) := by decide +kernel
theorem dX1_isLiftedBy_101 : decode cX1_isLiftedBy 101 = .ok (.iconst 1, 1) := by decide +kernel
theorem dX1_isLiftedBy_102 : decode cX1_isLiftedBy 102 = .ok (.if_icmp .ne 7, 3) := by decide +kernel
theorem dX1_isLiftedBy_105 : decode cX1_isLiftedBy 105 = .ok (.iconst 1, 1) := by decide +kernel
theorem dX1_isLiftedBy_106 : decode cX1_isLiftedBy 106 = .ok (.goto 4, 3) := by decide +kernel
theorem dX1_isLiftedBy_109 : decode cX1_isLiftedBy 109 = .ok (.iconst 0, 1) := by decide +kernel
theorem dX1_isLiftedBy_110 : decode cX1_isLiftedBy 110 = .ok (.if_icmp .gt 7, 3) := by decide +kernel
theorem dX1_isLiftedBy_113 : decode cX1_isLiftedBy 113 = .ok (.iconst 1, 1) := by decide +kernel
theorem dX1_isLiftedBy_114 : decode cX1_isLiftedBy 114 = .ok (.goto 4, 3) := by decide +kernel
theorem dX1_isLiftedBy_117 : decode cX1_isLiftedBy 117 = .ok (.iconst 0, 1) := by decide +kernel
theorem dX1_isLiftedBy_118 : decode cX1_isLiftedBy 118 = .ok (.ireturn, 1) := by decide +kernel
abbrev rm_X1_isLiftedBy : Room := { frames := 2, cells := 0, slots := 0, locals := 47 }
def f_X1_isLiftedBy_91 (h : Mem) (v0 : Nat) (v2 : Int32) (v3 : Int32) (v4 : Int32) (v5 : Int32) (v6 : Int32) (v7 : Int32) (v8 : Int32) : Option ((Int32 × Int32) ⊕ Int32) :=
  some (.inl (v7, (v8 + 1)))
set_option maxRecDepth 100000 in
set_option maxHeartbeats 4000000 in
theorem w_X1_isLiftedBy_91 {G : GE} {X : CX} {l : Launch} (hX : Ok G X cX1_isLiftedBy RX1) (hN : xn X = 9) (h : Mem) {P0 : Int32 → Prop} (hr : Rt G X l yX1_isLiftedBy (some .boolean) rm_X1_isLiftedBy (ppI h P0))  (v0 : Nat) (v2 : Int32) (v3 : Int32) (v4 : Int32) (v5 : Int32) (v6 : Int32) {P : ((Int32 × Int32) ⊕ Int32) → Prop} (hc : ∀ s, P (.inl s) → AW G X 56 [(0, vR v0), (2, vI v2), (3, vI v3), (4, vI v4), (5, vI v5), (6, vI v6), (7, vI s.1), (8, vI s.2)] [] h 0 0) (he0 : ∀ e, P (.inr e) → AW G X 97 [(5, vI v5), (7, vI e)] [] h 0 0) (v7 : Int32) (v8 : Int32) (hy : OK (f_X1_isLiftedBy_91 h v0 v2 v3 v4 v5 v6 v7 v8) P) : AW G X 91 [(0, vR v0), (2, vI v2), (3, vI v3), (4, vI v4), (5, vI v5), (6, vI v6), (7, vI v7), (8, vI v8)] [] h 0 0 := by
  unfold f_X1_isLiftedBy_91 at hy
  refine aw_iinc (pc := 91) hX 1 (by decide) 7 rfl [(8, vI (v8 + 1)), (0, vR v0), (2, vI v2), (3, vI v3), (4, vI v4), (5, vI v5), (6, vI v6), (7, vI v7)] rfl (lt_n hN (by decide)) dX1_isLiftedBy_91 ?_
  refine aw_goto (pc := 94) hX 56 (by decide) dX1_isLiftedBy_94 ?_
  refine AW.sub [1, 2, 3, 4, 5, 6, 7, 0] rfl ?_
  exact hc (v7, (v8 + 1)) hy.s
def b_X1_isLiftedBy_56 (h : Mem) (v0 : Nat) (v2 : Int32) (v3 : Int32) (v4 : Int32) (v5 : Int32) (v6 : Int32) (v7 : Int32) (v8 : Int32) : Option ((Int32 × Int32) ⊕ Int32) :=
  (gR h v0 9 4).bind fun r9 => (aI h r9 v2).bind fun x10 => (if x10 ≤ v8 then some (.inr v7) else (f_X5_note h v0 v6 v8).bind fun x11 => (f_X1_noteSung h v0 v2 v8 v3 v4).bind fun x12 => (if x11 = x12 then f_X1_isLiftedBy_91 h v0 v2 v3 v4 v5 v6 v7 v8 else f_X1_isLiftedBy_91 h v0 v2 v3 v4 v5 v6 (v7 + 1) v8))
set_option maxRecDepth 100000 in
set_option maxHeartbeats 4000000 in
theorem wb_X1_isLiftedBy_56 {G : GE} {X : CX} {l : Launch} (hX : Ok G X cX1_isLiftedBy RX1) (hN : xn X = 9) (h : Mem) {P0 : Int32 → Prop} (hr : Rt G X l yX1_isLiftedBy (some .boolean) rm_X1_isLiftedBy (ppI h P0))  (v0 : Nat) (v2 : Int32) (v3 : Int32) (v4 : Int32) (v5 : Int32) (v6 : Int32) {P : ((Int32 × Int32) ⊕ Int32) → Prop} (hc : ∀ s, P (.inl s) → AW G X 56 [(0, vR v0), (2, vI v2), (3, vI v3), (4, vI v4), (5, vI v5), (6, vI v6), (7, vI s.1), (8, vI s.2)] [] h 0 0) (he0 : ∀ e, P (.inr e) → AW G X 97 [(5, vI v5), (7, vI e)] [] h 0 0) (v7 : Int32) (v8 : Int32) (hy : OK (b_X1_isLiftedBy_56 h v0 v2 v3 v4 v5 v6 v7 v8) P) : AW G X 56 [(0, vR v0), (2, vI v2), (3, vI v3), (4, vI v4), (5, vI v5), (6, vI v6), (7, vI v7), (8, vI v8)] [] h 0 0 := by
  unfold b_X1_isLiftedBy_56 at hy
  refine aw_iload (pc := 56) hX 7 rfl dX1_isLiftedBy_56 ?_
  refine aw_aloadn (pc := 58) hX 0 rfl dX1_isLiftedBy_58 ?_
  refine aw_gR (pc := 59) hX hy fl_X1_13 (fun _ _ => rfl) dX1_isLiftedBy_59 (fun r9 hy => ?_)
  refine aw_iloadn (pc := 62) hX 1 rfl dX1_isLiftedBy_62 ?_
  refine aw_aI (pc := 63) hX hy dX1_isLiftedBy_63 (fun x10 hy => ?_)
  refine aw_ic_ge (pc := 64) hX 97 (by decide) dX1_isLiftedBy_64 (fun hc9 => ?_) (fun hc9 => ?_)
  · have hy := hy.t hc9
    refine AW.sub [4, 6] rfl ?_
    exact he0 v7 hy.s
  · have hy := hy.f hc9
    refine aw_aloadn (pc := 67) hX 0 rfl dX1_isLiftedBy_67 ?_
    refine aw_iload (pc := 68) hX 5 rfl dX1_isLiftedBy_68 ?_
    refine aw_iload (pc := 70) hX 7 rfl dX1_isLiftedBy_70 ?_
    refine aw_callV (pc := 72) (st := []) (a := v0) hX [vI v6, vI v8] (con_X5_note _ G _ v0 v6 v8 hy.bd) mc_X5_note ml_X1_9 im_X5_note se_X5_note (by decide) hy.bd.kd rfl (rm_of hr (by decide)) (Nat.le_of_ble_eq_true rfl) rfl dX1_isLiftedBy_72 (kpI rfl rfl (fun x11 hy => ?_))
    refine aw_aloadn (pc := 75) hX 0 rfl dX1_isLiftedBy_75 ?_
    refine aw_iloadn (pc := 76) hX 1 rfl dX1_isLiftedBy_76 ?_
    refine aw_iload (pc := 77) hX 7 rfl dX1_isLiftedBy_77 ?_
    refine aw_iloadn (pc := 79) hX 2 rfl dX1_isLiftedBy_79 ?_
    refine aw_iload (pc := 80) hX 3 rfl dX1_isLiftedBy_80 ?_
    refine aw_callS (pc := 82) (st := [vI x11]) hX [vR v0, vI v2, vI v8, vI v3, vI v4] (con_X1_noteSung _ G _ v0 v2 v8 v3 v4 hy.bd) mc_X1_noteSung ml_X1_55 st_X1_noteSung rfl (rm_of hr (by decide)) (Nat.le_of_ble_eq_true rfl) rfl dX1_isLiftedBy_82 (kpI rfl rfl (fun x12 hy => ?_))
    refine aw_ic_eq (pc := 85) hX 91 (by decide) dX1_isLiftedBy_85 (fun hc9 => ?_) (fun hc9 => ?_)
    · have hy := hy.t hc9
      exact w_X1_isLiftedBy_91 hX hN _ hr _ _ _ _ _ _ hc he0 v7 v8 hy
    · have hy := hy.f hc9
      refine aw_iinc (pc := 88) hX 1 (by decide) 6 rfl [(7, vI (v7 + 1)), (0, vR v0), (2, vI v2), (3, vI v3), (4, vI v4), (5, vI v5), (6, vI v6), (8, vI v8)] rfl (lt_n hN (by decide)) dX1_isLiftedBy_88 ?_
      refine AW.sub [1, 2, 3, 4, 5, 6, 0, 7] rfl ?_
      exact w_X1_isLiftedBy_91 hX hN _ hr _ _ _ _ _ _ hc he0 (v7 + 1) v8 hy
theorem wl_X1_isLiftedBy_56 {G : GE} {X : CX} {l : Launch} (hX : Ok G X cX1_isLiftedBy RX1) (hN : xn X = 9) (h : Mem) {P0 : Int32 → Prop} (hr : Rt G X l yX1_isLiftedBy (some .boolean) rm_X1_isLiftedBy (ppI h P0)) (v0 : Nat) (v2 : Int32) (v3 : Int32) (v4 : Int32) (v5 : Int32) (v6 : Int32) {P : (Int32) → Prop} (he0 : ∀ e, P e → AW G X 97 [(5, vI v5), (7, vI e)] [] h 0 0) : ∀ (n : Nat) (s : Int32 × Int32), OK (iter (fun (s : Int32 × Int32) => b_X1_isLiftedBy_56 h v0 v2 v3 v4 v5 v6 s.1 s.2) n s) P → AW G X 56 [(0, vR v0), (2, vI v2), (3, vI v3), (4, vI v4), (5, vI v5), (6, vI v6), (7, vI s.1), (8, vI s.2)] [] h 0 0 := by
  intro n
  induction n with
  | zero => exact fun s hy => hy.it0.elim
  | succ n ih =>
    intro s hy
    exact wb_X1_isLiftedBy_56 hX hN h hr v0 v2 v3 v4 v5 v6 (fun s hs => ih s hs) (fun e hs => he0 e hs) s.1 s.2 hy.it
def f_X1_isLiftedBy_110 (h : Mem) (s0 : Int32) (s1 : Int32) : Option Int32 :=
  (if s1 < s0 then some 0 else some 1)
set_option maxRecDepth 100000 in
set_option maxHeartbeats 4000000 in
theorem w_X1_isLiftedBy_110 {G : GE} {X : CX} {l : Launch} (hX : Ok G X cX1_isLiftedBy RX1) (hN : xn X = 9) (h : Mem) {P : Int32 → Prop} (hr : Rt G X l yX1_isLiftedBy (some .boolean) rm_X1_isLiftedBy (ppI h P)) (s0 : Int32) (s1 : Int32) (hy : OK (f_X1_isLiftedBy_110 h s0 s1) P) : AW G X 110 [] [vI s1, vI s0] h 0 0 := by
  unfold f_X1_isLiftedBy_110 at hy
  refine aw_ic_gt (pc := 110) hX 117 (by decide) dX1_isLiftedBy_110 (fun hc9 => ?_) (fun hc9 => ?_)
  · have hy := hy.t hc9
    refine aw_iconst (pc := 117) hX 0 (by decide) dX1_isLiftedBy_117 ?_
    exact aw_zret (pc := 118) hX hr (by decide) (by decide) dX1_isLiftedBy_118 (Or.inl rfl) ⟨rfl, _, rfl, hy.s⟩
  · have hy := hy.f hc9
    refine aw_iconst (pc := 113) hX 1 (by decide) dX1_isLiftedBy_113 ?_
    refine aw_goto (pc := 114) hX 118 (by decide) dX1_isLiftedBy_114 ?_
    exact aw_zret (pc := 118) hX hr (by decide) (by decide) dX1_isLiftedBy_118 (Or.inr rfl) ⟨rfl, _, rfl, hy.s⟩
def f_X1_isLiftedBy (h : Mem) (v0 : Nat) (v1 : Int32) (v2 : Int32) (v3 : Int32) (v4 : Int32) : Option Int32 :=
  (gR h v0 13 4).bind fun r1 => (aI h r1 v1).bind fun x2 => (if x2 = 3 then some 1 else (gR h v0 14 4).bind fun r3 => (aI h r3 v1).bind fun x4 => (gR h v0 9 4).bind fun r5 => (aI h r5 x4).bind fun x6 => (gR h v0 9 4).bind fun r7 => (aI h r7 v2).bind fun x8 => (if x6 = x8 then (if x2 = 2 then some 1 else (iter (fun (s : Int32 × Int32) => b_X1_isLiftedBy_56 h v0 v2 v3 v4 x2 x4 s.1 s.2) FU (0, 0)).bind (fun q13 => (if x2 = 1 then f_X1_isLiftedBy_110 h q13 1 else f_X1_isLiftedBy_110 h q13 0))) else some 0))
set_option maxRecDepth 100000 in
set_option maxHeartbeats 4000000 in
theorem w_X1_isLiftedBy {G : GE} {X : CX} {l : Launch} (hX : Ok G X cX1_isLiftedBy RX1) (hN : xn X = 9) (h : Mem) {P : Int32 → Prop} (hr : Rt G X l yX1_isLiftedBy (some .boolean) rm_X1_isLiftedBy (ppI h P)) (v0 : Nat) (v1 : Int32) (v2 : Int32) (v3 : Int32) (v4 : Int32) (hy : OK (f_X1_isLiftedBy h v0 v1 v2 v3 v4) P) : AW G X 0 [(0, vR v0), (1, vI v1), (2, vI v2), (3, vI v3), (4, vI v4)] [] h 0 0 := by
  unfold f_X1_isLiftedBy at hy
  refine aw_aloadn (pc := 0) hX 0 rfl dX1_isLiftedBy_0 ?_
  refine aw_gR (pc := 1) hX hy fl_X1_49 (fun _ _ => rfl) dX1_isLiftedBy_1 (fun r1 hy => ?_)
  refine aw_iloadn (pc := 4) hX 1 rfl dX1_isLiftedBy_4 ?_
  refine aw_aI (pc := 5) hX hy dX1_isLiftedBy_5 (fun x2 hy => ?_)
  refine aw_istore (pc := 6) hX [(5, vI x2), (0, vR v0), (1, vI v1), (2, vI v2), (3, vI v3), (4, vI v4)] rfl (lt_n hN (by decide)) dX1_isLiftedBy_6 ?_
  refine aw_iload (pc := 8) hX 0 rfl dX1_isLiftedBy_8 ?_
  refine aw_iconst (pc := 10) hX 3 (by decide) dX1_isLiftedBy_10 ?_
  refine aw_ic_ne (pc := 11) hX 16 (by decide) dX1_isLiftedBy_11 (fun hc9 => ?_) (fun hc9 => ?_)
  · have hy := hy.f hc9
    refine aw_aloadn (pc := 16) hX 1 rfl dX1_isLiftedBy_16 ?_
    refine aw_gR (pc := 17) hX hy fl_X1_52 (fun _ _ => rfl) dX1_isLiftedBy_17 (fun r3 hy => ?_)
    refine aw_iloadn (pc := 20) hX 2 rfl dX1_isLiftedBy_20 ?_
    refine aw_aI (pc := 21) hX hy dX1_isLiftedBy_21 (fun x4 hy => ?_)
    refine aw_istore (pc := 22) hX [(6, vI x4), (5, vI x2), (0, vR v0), (1, vI v1), (2, vI v2), (3, vI v3), (4, vI v4)] rfl (lt_n hN (by decide)) dX1_isLiftedBy_22 ?_
    refine aw_aloadn (pc := 24) hX 2 rfl dX1_isLiftedBy_24 ?_
    refine aw_gR (pc := 25) hX hy fl_X1_13 (fun _ _ => rfl) dX1_isLiftedBy_25 (fun r5 hy => ?_)
    refine aw_iload (pc := 28) hX 0 rfl dX1_isLiftedBy_28 ?_
    refine aw_aI (pc := 30) hX hy dX1_isLiftedBy_30 (fun x6 hy => ?_)
    refine aw_aloadn (pc := 31) hX 2 rfl dX1_isLiftedBy_31 ?_
    refine aw_gR (pc := 32) hX hy fl_X1_13 (fun _ _ => rfl) dX1_isLiftedBy_32 (fun r7 hy => ?_)
    refine aw_iloadn (pc := 35) hX 4 rfl dX1_isLiftedBy_35 ?_
    refine aw_aI (pc := 36) hX hy dX1_isLiftedBy_36 (fun x8 hy => ?_)
    refine aw_ic_eq (pc := 37) hX 42 (by decide) dX1_isLiftedBy_37 (fun hc9 => ?_) (fun hc9 => ?_)
    · have hy := hy.t hc9
      refine aw_iload (pc := 42) hX 1 rfl dX1_isLiftedBy_42 ?_
      refine aw_iconst (pc := 44) hX 2 (by decide) dX1_isLiftedBy_44 ?_
      refine aw_ic_ne (pc := 45) hX 50 (by decide) dX1_isLiftedBy_45 (fun hc9 => ?_) (fun hc9 => ?_)
      · have hy := hy.f hc9
        refine aw_iconst (pc := 50) hX 0 (by decide) dX1_isLiftedBy_50 ?_
        refine aw_istore (pc := 51) hX [(7, vI 0), (6, vI x4), (5, vI x2), (0, vR v0), (1, vI v1), (2, vI v2), (3, vI v3), (4, vI v4)] rfl (lt_n hN (by decide)) dX1_isLiftedBy_51 ?_
        refine aw_iconst (pc := 53) hX 0 (by decide) dX1_isLiftedBy_53 ?_
        refine aw_istore (pc := 54) hX [(8, vI 0), (7, vI 0), (6, vI x4), (5, vI x2), (0, vR v0), (1, vI v1), (2, vI v2), (3, vI v3), (4, vI v4)] rfl (lt_n hN (by decide)) dX1_isLiftedBy_54 ?_
        refine AW.sub [4, 6, 7, 8, 3, 2, 1, 0] rfl ?_
        refine wl_X1_isLiftedBy_56 hX hN _ hr v0 v2 v3 v4 x2 x4 ?_ FU (0, 0) hy.bd
        · intro q13 hy
          refine aw_iload (pc := 97) hX 1 rfl dX1_isLiftedBy_97 ?_
          refine aw_iload (pc := 99) hX 0 rfl dX1_isLiftedBy_99 ?_
          refine aw_iconst (pc := 101) hX 1 (by decide) dX1_isLiftedBy_101 ?_
          refine aw_ic_ne (pc := 102) hX 109 (by decide) dX1_isLiftedBy_102 (fun hc9 => ?_) (fun hc9 => ?_)
          · have hy := hy.f hc9
            refine aw_iconst (pc := 109) hX 0 (by decide) dX1_isLiftedBy_109 ?_
            refine AW.sub [] rfl ?_
            exact w_X1_isLiftedBy_110 hX hN _ hr q13 0 hy
          · have hy := hy.t hc9
            refine aw_iconst (pc := 105) hX 1 (by decide) dX1_isLiftedBy_105 ?_
            refine aw_goto (pc := 106) hX 110 (by decide) dX1_isLiftedBy_106 ?_
            refine AW.sub [] rfl ?_
            exact w_X1_isLiftedBy_110 hX hN _ hr q13 1 hy
      · have hy := hy.t hc9
        refine aw_iconst (pc := 48) hX 1 (by decide) dX1_isLiftedBy_48 ?_
        exact aw_zret (pc := 49) hX hr (by decide) (by decide) dX1_isLiftedBy_49 (Or.inr rfl) ⟨rfl, _, rfl, hy.s⟩
    · have hy := hy.f hc9
      refine aw_iconst (pc := 40) hX 0 (by decide) dX1_isLiftedBy_40 ?_
      exact aw_zret (pc := 41) hX hr (by decide) (by decide) dX1_isLiftedBy_41 (Or.inl rfl) ⟨rfl, _, rfl, hy.s⟩
  · have hy := hy.t hc9
    refine aw_iconst (pc := 14) hX 1 (by decide) dX1_isLiftedBy_14 ?_
    exact aw_zret (pc := 15) hX hr (by decide) (by decide) dX1_isLiftedBy_15 (Or.inr rfl) ⟨rfl, _, rfl, hy.s⟩
theorem con_X1_isLiftedBy (l : Launch) (G : GE) (h : Mem) (v0 : Nat) (v1 : Int32) (v2 : Int32) (v3 : Int32) (v4 : Int32) {P : Int32 → Prop} (hy : OK (f_X1_isLiftedBy h v0 v1 v2 v3 v4) P) : Con l G yX1_isLiftedBy cX1_isLiftedBy 9 (some .boolean) rm_X1_isLiftedBy [vR v0, vI v1, vI v2, vI v3, vI v4] h (ppI h P) := Con.of (by decide) (Nat.le_of_ble_eq_true rfl) (fun X hX hr hN => w_X1_isLiftedBy hX hN h hr v0 v1 v2 v3 v4 hy)
/-! X1_liftersOf -/
theorem dX1_liftersOf_0 : decode cX1_liftersOf 0 = .ok (.aload_n 0, 1) := by decide +kernel
theorem dX1_liftersOf_1 : decode cX1_liftersOf 1 = .ok (.iload_n 1, 1) := by decide +kernel
theorem dX1_liftersOf_2 : decode cX1_liftersOf 2 = .ok (.invokevirtual 30, 3) := by decide +kernel
theorem dX1_liftersOf_5 : decode cX1_liftersOf 5 = .ok (.ifCond .ne 5, 3) := by decide +kernel
theorem dX1_liftersOf_8 : decode cX1_liftersOf 8 = .ok (.iconst (-1), 1) := by decide +kernel
theorem dX1_liftersOf_9 : decode cX1_liftersOf 9 = .ok (.ireturn, 1) := by decide +kernel
theorem dX1_liftersOf_10 : decode cX1_liftersOf 10 = .ok (.iconst 0, 1) := by decide +kernel
theorem dX1_liftersOf_11 : decode cX1_liftersOf 11 = .ok (.istore_n 3, 1) := by decide +kernel
theorem dX1_liftersOf_12 : decode cX1_liftersOf 12 = .ok (.iconst 0, 1) := by decide +kernel
theorem dX1_liftersOf_13 : decode cX1_liftersOf 13 = .ok (.istore 4, 2) := by decide +kernel
theorem dX1_liftersOf_15 : decode cX1_liftersOf 15 = .ok (.iload 4, 2) := by decide +kernel
theorem dX1_liftersOf_17 : decode cX1_liftersOf 17 = .ok (.aload_n 0, 1) := by decide +kernel
theorem dX1_liftersOf_18 : decode cX1_liftersOf 18 = .ok (.getfield 38, 3) := by decide +kernel
theorem dX1_liftersOf_21 : decode cX1_liftersOf 21 = .ok (.if_icmp .ge 51, 3) := by decide +kernel
theorem dX1_liftersOf_24 : decode cX1_liftersOf 24 = .ok (.aload_n 0, 1) := by decide +kernel
theorem dX1_liftersOf_25 : decode cX1_liftersOf 25 = .ok (.iload_n 1, 1) := by decide +kernel
theorem dX1_liftersOf_26 : decode cX1_liftersOf 26 = .ok (.iload 4, 2) := by decide +kernel
theorem dX1_liftersOf_28 : decode cX1_liftersOf 28 = .ok (.iconst 0, 1) := by decide +kernel
theorem dX1_liftersOf_29 : decode cX1_liftersOf 29 = .ok (.iload_n 2, 1) := by decide +kernel
theorem dX1_liftersOf_30 : decode cX1_liftersOf 30 = .ok (.invokestatic 41, 3) := by decide +kernel
theorem dX1_liftersOf_33 : decode cX1_liftersOf 33 = .ok (.ifCond .eq 12, 3) := by decide +kernel
theorem dX1_liftersOf_36 : decode cX1_liftersOf 36 = .ok (.iload_n 3, 1) := by decide +kernel
theorem dX1_liftersOf_37 : decode cX1_liftersOf 37 = .ok (.iload 4, 2) := by decide +kernel
theorem dX1_liftersOf_39 : decode cX1_liftersOf 39 = .ok (.iconst 0, 1) := by decide +kernel
theorem dX1_liftersOf_40 : decode cX1_liftersOf 40 = .ok (.invokestatic 45, 3) := by decide +kernel
theorem dX1_liftersOf_43 : decode cX1_liftersOf 43 = .ok (.ior, 1) := by decide +kernel
theorem dX1_liftersOf_44 : decode cX1_liftersOf 44 = .ok (.istore_n 3, 1) := by decide +kernel
theorem dX1_liftersOf_45 : decode cX1_liftersOf 45 = .ok (.aload_n 0, 1) := by decide +kernel
theorem dX1_liftersOf_46 : decode cX1_liftersOf 46 = .ok (.iload_n 1, 1) := by decide +kernel
theorem dX1_liftersOf_47 : decode cX1_liftersOf 47 = .ok (.iload 4, 2) := by decide +kernel
theorem dX1_liftersOf_49 : decode cX1_liftersOf 49 = .ok (.iconst 1, 1) := by decide +kernel
theorem dX1_liftersOf_50 : decode cX1_liftersOf 50 = .ok (.iload_n 2, 1) := by decide +kernel
theorem dX1_liftersOf_51 : decode cX1_liftersOf 51 = .ok (.invokestatic 41, 3) := by decide +kernel
theorem dX1_liftersOf_54 : decode cX1_liftersOf 54 = .ok (.ifCond .eq 12, 3) := by decide +kernel
theorem dX1_liftersOf_57 : decode cX1_liftersOf 57 = .ok (.iload_n 3, 1) := by decide +kernel
theorem dX1_liftersOf_58 : decode cX1_liftersOf 58 = .ok (.iload 4, 2) := by decide +kernel
theorem dX1_liftersOf_60 : decode cX1_liftersOf 60 = .ok (.iconst 1, 1) := by decide +kernel
theorem dX1_liftersOf_61 : decode cX1_liftersOf 61 = .ok (.invokestatic 45, 3) := by decide +kernel
theorem dX1_liftersOf_64 : decode cX1_liftersOf 64 = .ok (.ior, 1) := by decide +kernel
theorem dX1_liftersOf_65 : decode cX1_liftersOf 65 = .ok (.istore_n 3, 1) := by decide +kernel
theorem dX1_liftersOf_66 : decode cX1_liftersOf 66 = .ok (.iinc 4 1, 3) := by decide +kernel
theorem dX1_liftersOf_69 : decode cX1_liftersOf 69 = .ok (.goto (-54), 3) := by decide +kernel
theorem dX1_liftersOf_72 : decode cX1_liftersOf 72 = .ok (.iload_n 3, 1) := by decide +kernel
theorem dX1_liftersOf_73 : decode cX1_liftersOf 73 = .ok (.ireturn, 1) := by decide +kernel
abbrev rm_X1_liftersOf : Room := { frames := 3, cells := 0, slots := 0, locals := 75 }
def f_X1_liftersOf_66 (h : Mem) (v0 : Nat) (v1 : Int32) (v2 : Int32) (v3 : Int32) (v4 : Int32) : Option ((Int32 × Int32) ⊕ Int32) :=
  some (.inl (v3, (v4 + 1)))
set_option maxRecDepth 100000 in
set_option maxHeartbeats 4000000 in
theorem w_X1_liftersOf_66 {G : GE} {X : CX} {l : Launch} (hX : Ok G X cX1_liftersOf RX1) (hN : xn X = 5) (h : Mem) {P0 : Int32 → Prop} (hr : Rt G X l yX1_liftersOf (some .int) rm_X1_liftersOf (ppI h P0))  (v0 : Nat) (v1 : Int32) (v2 : Int32) {P : ((Int32 × Int32) ⊕ Int32) → Prop} (hc : ∀ s, P (.inl s) → AW G X 15 [(0, vR v0), (1, vI v1), (2, vI v2), (3, vI s.1), (4, vI s.2)] [] h 0 0) (he0 : ∀ e, P (.inr e) → AW G X 72 [(3, vI e)] [] h 0 0) (v3 : Int32) (v4 : Int32) (hy : OK (f_X1_liftersOf_66 h v0 v1 v2 v3 v4) P) : AW G X 66 [(0, vR v0), (1, vI v1), (2, vI v2), (3, vI v3), (4, vI v4)] [] h 0 0 := by
  unfold f_X1_liftersOf_66 at hy
  refine aw_iinc (pc := 66) hX 1 (by decide) 4 rfl [(4, vI (v4 + 1)), (0, vR v0), (1, vI v1), (2, vI v2), (3, vI v3)] rfl (lt_n hN (by decide)) dX1_liftersOf_66 ?_
  refine aw_goto (pc := 69) hX 15 (by decide) dX1_liftersOf_69 ?_
  refine AW.sub [1, 2, 3, 4, 0] rfl ?_
  exact hc (v3, (v4 + 1)) hy.s
def f_X1_liftersOf_45 (h : Mem) (v0 : Nat) (v1 : Int32) (v2 : Int32) (v3 : Int32) (v4 : Int32) : Option ((Int32 × Int32) ⊕ Int32) :=
  (f_X1_isLiftedBy h v0 v1 v4 1 v2).bind fun x4 => (if x4 = 0 then f_X1_liftersOf_66 h v0 v1 v2 v3 v4 else (f_X1_voice h v4 1).bind fun x5 => f_X1_liftersOf_66 h v0 v1 v2 (v3 ||| x5) v4)
set_option maxRecDepth 100000 in
set_option maxHeartbeats 4000000 in
theorem w_X1_liftersOf_45 {G : GE} {X : CX} {l : Launch} (hX : Ok G X cX1_liftersOf RX1) (hN : xn X = 5) (h : Mem) {P0 : Int32 → Prop} (hr : Rt G X l yX1_liftersOf (some .int) rm_X1_liftersOf (ppI h P0))  (v0 : Nat) (v1 : Int32) (v2 : Int32) {P : ((Int32 × Int32) ⊕ Int32) → Prop} (hc : ∀ s, P (.inl s) → AW G X 15 [(0, vR v0), (1, vI v1), (2, vI v2), (3, vI s.1), (4, vI s.2)] [] h 0 0) (he0 : ∀ e, P (.inr e) → AW G X 72 [(3, vI e)] [] h 0 0) (v3 : Int32) (v4 : Int32) (hy : OK (f_X1_liftersOf_45 h v0 v1 v2 v3 v4) P) : AW G X 45 [(0, vR v0), (1, vI v1), (2, vI v2), (3, vI v3), (4, vI v4)] [] h 0 0 := by
  unfold f_X1_liftersOf_45 at hy
  refine aw_aloadn (pc := 45) hX 0 rfl dX1_liftersOf_45 ?_
  refine aw_iloadn (pc := 46) hX 1 rfl dX1_liftersOf_46 ?_
  refine aw_iload (pc := 47) hX 4 rfl dX1_liftersOf_47 ?_
  refine aw_iconst (pc := 49) hX 1 (by decide) dX1_liftersOf_49 ?_
  refine aw_iloadn (pc := 50) hX 2 rfl dX1_liftersOf_50 ?_
  refine aw_callS (pc := 51) (st := []) hX [vR v0, vI v1, vI v4, vI 1, vI v2] (con_X1_isLiftedBy _ G _ v0 v1 v4 1 v2 hy.bd) mc_X1_isLiftedBy ml_X1_41 st_X1_isLiftedBy rfl (rm_of hr (by decide)) (Nat.le_of_ble_eq_true rfl) rfl dX1_liftersOf_51 (kpI rfl rfl (fun x4 hy => ?_))
  refine aw_if_eq (pc := 54) hX 66 (by decide) dX1_liftersOf_54 (fun hc9 => ?_) (fun hc9 => ?_)
  · have hy := hy.t hc9
    exact w_X1_liftersOf_66 hX hN _ hr _ _ _ hc he0 v3 v4 hy
  · have hy := hy.f hc9
    refine aw_iloadn (pc := 57) hX 3 rfl dX1_liftersOf_57 ?_
    refine aw_iload (pc := 58) hX 4 rfl dX1_liftersOf_58 ?_
    refine aw_iconst (pc := 60) hX 1 (by decide) dX1_liftersOf_60 ?_
    refine aw_callS (pc := 61) (st := [vI v3]) hX [vI v4, vI 1] (con_X1_voice _ G _ v4 1 hy.bd) mc_X1_voice ml_X1_45 st_X1_voice rfl (rm_of hr (by decide)) (Nat.le_of_ble_eq_true rfl) rfl dX1_liftersOf_61 (kpI rfl rfl (fun x5 hy => ?_))
    refine aw_ior (pc := 64) hX dX1_liftersOf_64 ?_
    refine aw_istoren (pc := 65) hX [(3, vI (v3 ||| x5)), (0, vR v0), (1, vI v1), (2, vI v2), (4, vI v4)] rfl (lt_n hN (by decide)) dX1_liftersOf_65 ?_
    refine AW.sub [1, 2, 3, 0, 4] rfl ?_
    exact w_X1_liftersOf_66 hX hN _ hr _ _ _ hc he0 (v3 ||| x5) v4 hy
def b_X1_liftersOf_15 (h : Mem) (v0 : Nat) (v1 : Int32) (v2 : Int32) (v3 : Int32) (v4 : Int32) : Option ((Int32 × Int32) ⊕ Int32) :=
  (gI h v0 1 4).bind fun x2 => (if x2 ≤ v4 then some (.inr v3) else (f_X1_isLiftedBy h v0 v1 v4 0 v2).bind fun x3 => (if x3 = 0 then f_X1_liftersOf_45 h v0 v1 v2 v3 v4 else (f_X1_voice h v4 0).bind fun x6 => f_X1_liftersOf_45 h v0 v1 v2 (v3 ||| x6) v4))
set_option maxRecDepth 100000 in
set_option maxHeartbeats 4000000 in
theorem wb_X1_liftersOf_15 {G : GE} {X : CX} {l : Launch} (hX : Ok G X cX1_liftersOf RX1) (hN : xn X = 5) (h : Mem) {P0 : Int32 → Prop} (hr : Rt G X l yX1_liftersOf (some .int) rm_X1_liftersOf (ppI h P0))  (v0 : Nat) (v1 : Int32) (v2 : Int32) {P : ((Int32 × Int32) ⊕ Int32) → Prop} (hc : ∀ s, P (.inl s) → AW G X 15 [(0, vR v0), (1, vI v1), (2, vI v2), (3, vI s.1), (4, vI s.2)] [] h 0 0) (he0 : ∀ e, P (.inr e) → AW G X 72 [(3, vI e)] [] h 0 0) (v3 : Int32) (v4 : Int32) (hy : OK (b_X1_liftersOf_15 h v0 v1 v2 v3 v4) P) : AW G X 15 [(0, vR v0), (1, vI v1), (2, vI v2), (3, vI v3), (4, vI v4)] [] h 0 0 := by
  unfold b_X1_liftersOf_15 at hy
  refine aw_iload (pc := 15) hX 4 rfl dX1_liftersOf_15 ?_
  refine aw_aloadn (pc := 17) hX 0 rfl dX1_liftersOf_17 ?_
  refine aw_gI (pc := 18) hX hy fl_X1_38 (fun _ _ => rfl) dX1_liftersOf_18 (fun x2 hy => ?_)
  refine aw_ic_ge (pc := 21) hX 72 (by decide) dX1_liftersOf_21 (fun hc9 => ?_) (fun hc9 => ?_)
  · have hy := hy.t hc9
    refine AW.sub [3] rfl ?_
    exact he0 v3 hy.s
  · have hy := hy.f hc9
    refine aw_aloadn (pc := 24) hX 0 rfl dX1_liftersOf_24 ?_
    refine aw_iloadn (pc := 25) hX 1 rfl dX1_liftersOf_25 ?_
    refine aw_iload (pc := 26) hX 4 rfl dX1_liftersOf_26 ?_
    refine aw_iconst (pc := 28) hX 0 (by decide) dX1_liftersOf_28 ?_
    refine aw_iloadn (pc := 29) hX 2 rfl dX1_liftersOf_29 ?_
    refine aw_callS (pc := 30) (st := []) hX [vR v0, vI v1, vI v4, vI 0, vI v2] (con_X1_isLiftedBy _ G _ v0 v1 v4 0 v2 hy.bd) mc_X1_isLiftedBy ml_X1_41 st_X1_isLiftedBy rfl (rm_of hr (by decide)) (Nat.le_of_ble_eq_true rfl) rfl dX1_liftersOf_30 (kpI rfl rfl (fun x3 hy => ?_))
    refine aw_if_eq (pc := 33) hX 45 (by decide) dX1_liftersOf_33 (fun hc9 => ?_) (fun hc9 => ?_)
    · have hy := hy.t hc9
      exact w_X1_liftersOf_45 hX hN _ hr _ _ _ hc he0 v3 v4 hy
    · have hy := hy.f hc9
      refine aw_iloadn (pc := 36) hX 3 rfl dX1_liftersOf_36 ?_
      refine aw_iload (pc := 37) hX 4 rfl dX1_liftersOf_37 ?_
      refine aw_iconst (pc := 39) hX 0 (by decide) dX1_liftersOf_39 ?_
      refine aw_callS (pc := 40) (st := [vI v3]) hX [vI v4, vI 0] (con_X1_voice _ G _ v4 0 hy.bd) mc_X1_voice ml_X1_45 st_X1_voice rfl (rm_of hr (by decide)) (Nat.le_of_ble_eq_true rfl) rfl dX1_liftersOf_40 (kpI rfl rfl (fun x6 hy => ?_))
      refine aw_ior (pc := 43) hX dX1_liftersOf_43 ?_
      refine aw_istoren (pc := 44) hX [(3, vI (v3 ||| x6)), (0, vR v0), (1, vI v1), (2, vI v2), (4, vI v4)] rfl (lt_n hN (by decide)) dX1_liftersOf_44 ?_
      refine AW.sub [1, 2, 3, 0, 4] rfl ?_
      exact w_X1_liftersOf_45 hX hN _ hr _ _ _ hc he0 (v3 ||| x6) v4 hy
theorem wl_X1_liftersOf_15 {G : GE} {X : CX} {l : Launch} (hX : Ok G X cX1_liftersOf RX1) (hN : xn X = 5) (h : Mem) {P0 : Int32 → Prop} (hr : Rt G X l yX1_liftersOf (some .int) rm_X1_liftersOf (ppI h P0)) (v0 : Nat) (v1 : Int32) (v2 : Int32) {P : (Int32) → Prop} (he0 : ∀ e, P e → AW G X 72 [(3, vI e)] [] h 0 0) : ∀ (n : Nat) (s : Int32 × Int32), OK (iter (fun (s : Int32 × Int32) => b_X1_liftersOf_15 h v0 v1 v2 s.1 s.2) n s) P → AW G X 15 [(0, vR v0), (1, vI v1), (2, vI v2), (3, vI s.1), (4, vI s.2)] [] h 0 0 := by
  intro n
  induction n with
  | zero => exact fun s hy => hy.it0.elim
  | succ n ih =>
    intro s hy
    exact wb_X1_liftersOf_15 hX hN h hr v0 v1 v2 (fun s hs => ih s hs) (fun e hs => he0 e hs) s.1 s.2 hy.it
def f_X1_liftersOf (h : Mem) (v0 : Nat) (v1 : Int32) (v2 : Int32) : Option Int32 :=
  (f_X5_hasGate h v0 v1).bind fun x1 => (if x1 = 0 then some (-1) else (iter (fun (s : Int32 × Int32) => b_X1_liftersOf_15 h v0 v1 v2 s.1 s.2) FU (0, 0)).bind (fun q7 => some q7))
set_option maxRecDepth 100000 in
set_option maxHeartbeats 4000000 in
theorem w_X1_liftersOf {G : GE} {X : CX} {l : Launch} (hX : Ok G X cX1_liftersOf RX1) (hN : xn X = 5) (h : Mem) {P : Int32 → Prop} (hr : Rt G X l yX1_liftersOf (some .int) rm_X1_liftersOf (ppI h P)) (v0 : Nat) (v1 : Int32) (v2 : Int32) (hy : OK (f_X1_liftersOf h v0 v1 v2) P) : AW G X 0 [(0, vR v0), (1, vI v1), (2, vI v2)] [] h 0 0 := by
  unfold f_X1_liftersOf at hy
  refine aw_aloadn (pc := 0) hX 0 rfl dX1_liftersOf_0 ?_
  refine aw_iloadn (pc := 1) hX 1 rfl dX1_liftersOf_1 ?_
  refine aw_callV (pc := 2) (st := []) (a := v0) hX [vI v1] (con_X5_hasGate _ G _ v0 v1 hy.bd) mc_X5_hasGate ml_X1_30 im_X5_hasGate se_X5_hasGate (by decide) hy.bd.kd rfl (rm_of hr (by decide)) (Nat.le_of_ble_eq_true rfl) rfl dX1_liftersOf_2 (kpI rfl rfl (fun x1 hy => ?_))
  refine aw_if_ne (pc := 5) hX 10 (by decide) dX1_liftersOf_5 (fun hc9 => ?_) (fun hc9 => ?_)
  · have hy := hy.f hc9
    refine aw_iconst (pc := 10) hX 0 (by decide) dX1_liftersOf_10 ?_
    refine aw_istoren (pc := 11) hX [(3, vI 0), (0, vR v0), (1, vI v1), (2, vI v2)] rfl (lt_n hN (by decide)) dX1_liftersOf_11 ?_
    refine aw_iconst (pc := 12) hX 0 (by decide) dX1_liftersOf_12 ?_
    refine aw_istore (pc := 13) hX [(4, vI 0), (3, vI 0), (0, vR v0), (1, vI v1), (2, vI v2)] rfl (lt_n hN (by decide)) dX1_liftersOf_13 ?_
    refine AW.sub [2, 3, 4, 1, 0] rfl ?_
    refine wl_X1_liftersOf_15 hX hN _ hr v0 v1 v2 ?_ FU (0, 0) hy.bd
    · intro q7 hy
      refine aw_iloadn (pc := 72) hX 0 rfl dX1_liftersOf_72 ?_
      exact aw_iret (pc := 73) hX hr (by decide) (by decide) dX1_liftersOf_73 ⟨rfl, _, rfl, hy.s⟩
  · have hy := hy.t hc9
    refine aw_iconst (pc := 8) hX (-1) (by decide) dX1_liftersOf_8 ?_
    exact aw_iret (pc := 9) hX hr (by decide) (by decide) dX1_liftersOf_9 ⟨rfl, _, rfl, hy.s⟩
theorem con_X1_liftersOf (l : Launch) (G : GE) (h : Mem) (v0 : Nat) (v1 : Int32) (v2 : Int32) {P : Int32 → Prop} (hy : OK (f_X1_liftersOf h v0 v1 v2) P) : Con l G yX1_liftersOf cX1_liftersOf 5 (some .int) rm_X1_liftersOf [vR v0, vI v1, vI v2] h (ppI h P) := Con.of (by decide) (Nat.le_of_ble_eq_true rfl) (fun X hX hr hN => w_X1_liftersOf hX hN h hr v0 v1 v2 hy)
/-! X1_settle -/
theorem dX1_settle_0 : decode cX1_settle 0 = .ok (.iconst 0, 1) := by decide +kernel
theorem dX1_settle_1 : decode cX1_settle 1 = .ok (.istore_n 1, 1) := by decide +kernel
theorem dX1_settle_2 : decode cX1_settle 2 = .ok (.iload_n 1, 1) := by decide +kernel
theorem dX1_settle_3 : decode cX1_settle 3 = .ok (.aload_n 0, 1) := by decide +kernel
theorem dX1_settle_4 : decode cX1_settle 4 = .ok (.getfield 19, 3) := by decide +kernel
theorem dX1_settle_7 : decode cX1_settle 7 = .ok (.if_icmp .ge 36, 3) := by decide +kernel
theorem dX1_settle_10 : decode cX1_settle 10 = .ok (.aload_n 0, 1) := by decide +kernel
theorem dX1_settle_11 : decode cX1_settle 11 = .ok (.getfield 23, 3) := by decide +kernel
theorem dX1_settle_14 : decode cX1_settle 14 = .ok (.iload_n 1, 1) := by decide +kernel
theorem dX1_settle_15 : decode cX1_settle 15 = .ok (.aload_n 0, 1) := by decide +kernel
theorem dX1_settle_16 : decode cX1_settle 16 = .ok (.iload_n 1, 1) := by decide +kernel
theorem dX1_settle_17 : decode cX1_settle 17 = .ok (.iconst 0, 1) := by decide +kernel
theorem dX1_settle_18 : decode cX1_settle 18 = .ok (.invokestatic 26, 3) := by decide +kernel
theorem dX1_settle_21 : decode cX1_settle 21 = .ok (.iastore, 1) := by decide +kernel
theorem dX1_settle_22 : decode cX1_settle 22 = .ok (.aload_n 0, 1) := by decide +kernel
theorem dX1_settle_23 : decode cX1_settle 23 = .ok (.getfield 23, 3) := by decide +kernel
theorem dX1_settle_26 : decode cX1_settle 26 = .ok (.bipush 10, 2) := by decide +kernel
theorem dX1_settle_28 : decode cX1_settle 28 = .ok (.iload_n 1, 1) := by decide +kernel
theorem dX1_settle_29 : decode cX1_settle 29 = .ok (.iadd, 1) := by decide +kernel
theorem dX1_settle_30 : decode cX1_settle 30 = .ok (.aload_n 0, 1) := by decide +kernel
theorem dX1_settle_31 : decode cX1_settle 31 = .ok (.iload_n 1, 1) := by decide +kernel
theorem dX1_settle_32 : decode cX1_settle 32 = .ok (.iconst 1, 1) := by decide +kernel
theorem dX1_settle_33 : decode cX1_settle 33 = .ok (.invokestatic 26, 3) := by decide +kernel
theorem dX1_settle_36 : decode cX1_settle 36 = .ok (.iastore, 1) := by decide +kernel
theorem dX1_settle_37 : decode cX1_settle 37 = .ok (.iinc 1 1, 3) := by decide +kernel
theorem dX1_settle_40 : decode cX1_settle 40 = .ok (.goto (-38), 3) := by decide +kernel
theorem dX1_settle_43 : decode cX1_settle 43 = .ok (.return_, 1) := by decide +kernel
abbrev rm_X1_settle : Room := { frames := 4, cells := 0, slots := 0, locals := 99 }
def b_X1_settle_2 (h : Mem) (v0 : Nat) (v1 : Int32) : Option ((Int32 × Mem) ⊕ Mem) :=
  (gI h v0 3 4).bind fun x1 => (if x1 ≤ v1 then some (.inr h) else (gR h v0 18 4).bind fun r2 => (f_X1_liftersOf h v0 v1 0).bind fun x3 => (sI h r2 v1 x3).bind fun h4 => (gR h4 v0 18 4).bind fun r5 => (f_X1_liftersOf h4 v0 v1 1).bind fun x6 => (sI h4 r5 (10 + v1) x6).bind fun h7 => some (.inl ((v1 + 1), h7)))
set_option maxRecDepth 100000 in
set_option maxHeartbeats 4000000 in
theorem wb_X1_settle_2 {G : GE} {X : CX} {l : Launch} (hX : Ok G X cX1_settle RX1) (hN : xn X = 2) {P0 : Mem → Prop} (hr : Rt G X l yX1_settle none rm_X1_settle (pmV P0))  (v0 : Nat) {P : ((Int32 × Mem) ⊕ Mem) → Prop} (hc : ∀ s, P (.inl s) → AW G X 2 [(0, vR v0), (1, vI s.1)] [] s.2 0 0) (he0 : ∀ e, P (.inr e) → AW G X 43 [] [] e 0 0) (h : Mem) (v1 : Int32) (hy : OK (b_X1_settle_2 h v0 v1) P) : AW G X 2 [(0, vR v0), (1, vI v1)] [] h 0 0 := by
  unfold b_X1_settle_2 at hy
  refine aw_iloadn (pc := 2) hX 1 rfl dX1_settle_2 ?_
  refine aw_aloadn (pc := 3) hX 0 rfl dX1_settle_3 ?_
  refine aw_gI (pc := 4) hX hy fl_X1_19 (fun _ _ => rfl) dX1_settle_4 (fun x1 hy => ?_)
  refine aw_ic_ge (pc := 7) hX 43 (by decide) dX1_settle_7 (fun hc9 => ?_) (fun hc9 => ?_)
  · have hy := hy.t hc9
    refine AW.sub [] rfl ?_
    exact he0 h hy.s
  · have hy := hy.f hc9
    refine aw_aloadn (pc := 10) hX 0 rfl dX1_settle_10 ?_
    refine aw_gR (pc := 11) hX hy fl_X1_23 (fun _ _ => rfl) dX1_settle_11 (fun r2 hy => ?_)
    refine aw_iloadn (pc := 14) hX 1 rfl dX1_settle_14 ?_
    refine aw_aloadn (pc := 15) hX 0 rfl dX1_settle_15 ?_
    refine aw_iloadn (pc := 16) hX 1 rfl dX1_settle_16 ?_
    refine aw_iconst (pc := 17) hX 0 (by decide) dX1_settle_17 ?_
    refine aw_callS (pc := 18) (st := [vI v1, vR r2]) hX [vR v0, vI v1, vI 0] (con_X1_liftersOf _ G _ v0 v1 0 hy.bd) mc_X1_liftersOf ml_X1_26 st_X1_liftersOf rfl (rm_of hr (by decide)) (Nat.le_of_ble_eq_true rfl) rfl dX1_settle_18 (kpI rfl rfl (fun x3 hy => ?_))
    refine aw_sI (pc := 21) hX hy dX1_settle_21 (fun h4 hy => ?_)
    refine aw_aloadn (pc := 22) hX 0 rfl dX1_settle_22 ?_
    refine aw_gR (pc := 23) hX hy fl_X1_23 (fun _ _ => rfl) dX1_settle_23 (fun r5 hy => ?_)
    refine aw_bipush (pc := 26) hX 10 (by decide) dX1_settle_26 ?_
    refine aw_iloadn (pc := 28) hX 1 rfl dX1_settle_28 ?_
    refine aw_iadd (pc := 29) hX dX1_settle_29 ?_
    refine aw_aloadn (pc := 30) hX 0 rfl dX1_settle_30 ?_
    refine aw_iloadn (pc := 31) hX 1 rfl dX1_settle_31 ?_
    refine aw_iconst (pc := 32) hX 1 (by decide) dX1_settle_32 ?_
    refine aw_callS (pc := 33) (st := [vI (10 + v1), vR r5]) hX [vR v0, vI v1, vI 1] (con_X1_liftersOf _ G _ v0 v1 1 hy.bd) mc_X1_liftersOf ml_X1_26 st_X1_liftersOf rfl (rm_of hr (by decide)) (Nat.le_of_ble_eq_true rfl) rfl dX1_settle_33 (kpI rfl rfl (fun x6 hy => ?_))
    refine aw_sI (pc := 36) hX hy dX1_settle_36 (fun h7 hy => ?_)
    refine aw_iinc (pc := 37) hX 1 (by decide) 1 rfl [(1, vI (v1 + 1)), (0, vR v0)] rfl (lt_n hN (by decide)) dX1_settle_37 ?_
    refine aw_goto (pc := 40) hX 2 (by decide) dX1_settle_40 ?_
    refine AW.sub [1, 0] rfl ?_
    exact hc ((v1 + 1), h7) hy.s
theorem wl_X1_settle_2 {G : GE} {X : CX} {l : Launch} (hX : Ok G X cX1_settle RX1) (hN : xn X = 2) {P0 : Mem → Prop} (hr : Rt G X l yX1_settle none rm_X1_settle (pmV P0)) (v0 : Nat) {P : (Mem) → Prop} (he0 : ∀ e, P e → AW G X 43 [] [] e 0 0) : ∀ (n : Nat) (s : Int32 × Mem), OK (iter (fun (s : Int32 × Mem) => b_X1_settle_2 s.2 v0 s.1) n s) P → AW G X 2 [(0, vR v0), (1, vI s.1)] [] s.2 0 0 := by
  intro n
  induction n with
  | zero => exact fun s hy => hy.it0.elim
  | succ n ih =>
    intro s hy
    exact wb_X1_settle_2 hX hN hr v0 (fun s hs => ih s hs) (fun e hs => he0 e hs) s.2 s.1 hy.it
def f_X1_settle (h : Mem) (v0 : Nat) : Option Mem :=
  (iter (fun (s : Int32 × Mem) => b_X1_settle_2 s.2 v0 s.1) FU (0, h)).bind (fun q8 => some q8)
set_option maxRecDepth 100000 in
set_option maxHeartbeats 4000000 in
theorem w_X1_settle {G : GE} {X : CX} {l : Launch} (hX : Ok G X cX1_settle RX1) (hN : xn X = 2) {P : Mem → Prop} (hr : Rt G X l yX1_settle none rm_X1_settle (pmV P)) (h : Mem) (v0 : Nat) (hy : OK (f_X1_settle h v0) P) : AW G X 0 [(0, vR v0)] [] h 0 0 := by
  unfold f_X1_settle at hy
  refine aw_iconst (pc := 0) hX 0 (by decide) dX1_settle_0 ?_
  refine aw_istoren (pc := 1) hX [(1, vI 0), (0, vR v0)] rfl (lt_n hN (by decide)) dX1_settle_1 ?_
  refine AW.sub [1, 0] rfl ?_
  refine wl_X1_settle_2 hX hN hr v0 ?_ FU (0, h) hy.bd
  · intro q8 hy
    exact aw_vret (pc := 43) hX hr (by decide) (by decide) dX1_settle_43 ⟨rfl, hy.s⟩
theorem con_X1_settle (l : Launch) (G : GE) (h : Mem) (v0 : Nat) {P : Mem → Prop} (hy : OK (f_X1_settle h v0) P) : Con l G yX1_settle cX1_settle 2 none rm_X1_settle [vR v0] h (pmV P) := Con.of (by decide) (Nat.le_of_ble_eq_true rfl) (fun X hX hr hN => w_X1_settle hX hN hr h v0 hy)
/-! X1_gatesOpenTo -/
theorem dX1_gatesOpenTo_0 : decode cX1_gatesOpenTo 0 = .ok (.iconst 0, 1) := by decide +kernel
theorem dX1_gatesOpenTo_1 : decode cX1_gatesOpenTo 1 = .ok (.istore_n 3, 1) := by decide +kernel
theorem dX1_gatesOpenTo_2 : decode cX1_gatesOpenTo 2 = .ok (.iconst 0, 1) := by decide +kernel
theorem dX1_gatesOpenTo_3 : decode cX1_gatesOpenTo 3 = .ok (.istore 4, 2) := by decide +kernel
theorem dX1_gatesOpenTo_5 : decode cX1_gatesOpenTo 5 = .ok (.iload 4, 2) := by decide +kernel
theorem dX1_gatesOpenTo_7 : decode cX1_gatesOpenTo 7 = .ok (.aload_n 0, 1) := by decide +kernel
theorem dX1_gatesOpenTo_8 : decode cX1_gatesOpenTo 8 = .ok (.getfield 19, 3) := by decide +kernel
theorem dX1_gatesOpenTo_11 : decode cX1_gatesOpenTo 11 = .ok (.if_icmp .ge 32, 3) := by decide +kernel
theorem dX1_gatesOpenTo_14 : decode cX1_gatesOpenTo 14 = .ok (.aload_n 0, 1) := by decide +kernel
theorem dX1_gatesOpenTo_15 : decode cX1_gatesOpenTo 15 = .ok (.iload 4, 2) := by decide +kernel
theorem dX1_gatesOpenTo_17 : decode cX1_gatesOpenTo 17 = .ok (.invokevirtual 30, 3) := by decide +kernel
theorem dX1_gatesOpenTo_20 : decode cX1_gatesOpenTo 20 = .ok (.ifCond .eq 17, 3) := by decide +kernel
theorem dX1_gatesOpenTo_23 : decode cX1_gatesOpenTo 23 = .ok (.aload_n 0, 1) := by decide +kernel
theorem dX1_gatesOpenTo_24 : decode cX1_gatesOpenTo 24 = .ok (.iload 4, 2) := by decide +kernel
theorem dX1_gatesOpenTo_26 : decode cX1_gatesOpenTo 26 = .ok (.iload_n 1, 1) := by decide +kernel
theorem dX1_gatesOpenTo_27 : decode cX1_gatesOpenTo 27 = .ok (.iload_n 2, 1) := by decide +kernel
theorem dX1_gatesOpenTo_28 : decode cX1_gatesOpenTo 28 = .ok (.invokestatic 34, 3) := by decide +kernel
theorem dX1_gatesOpenTo_31 : decode cX1_gatesOpenTo 31 = .ok (.ifCond .eq 6, 3) := by decide +kernel
theorem dX1_gatesOpenTo_34 : decode cX1_gatesOpenTo 34 = .ok (.iinc 3 1, 3) := by decide +kernel
theorem dX1_gatesOpenTo_37 : decode cX1_gatesOpenTo 37 = .ok (.iinc 4 1, 3) := by decide +kernel
theorem dX1_gatesOpenTo_40 : decode cX1_gatesOpenTo 40 = .ok (.goto (-35), 3) := by decide +kernel
theorem dX1_gatesOpenTo_43 : decode cX1_gatesOpenTo 43 = .ok (.iload_n 3, 1) := by decide +kernel
theorem dX1_gatesOpenTo_44 : decode cX1_gatesOpenTo 44 = .ok (.ireturn, 1) := by decide +kernel
abbrev rm_X1_gatesOpenTo : Room := { frames := 1, cells := 0, slots := 0, locals := 23 }
def f_X1_gatesOpenTo_37 (h : Mem) (v0 : Nat) (v1 : Int32) (v2 : Int32) (v3 : Int32) (v4 : Int32) : Option ((Int32 × Int32) ⊕ Int32) :=
  some (.inl (v3, (v4 + 1)))
set_option maxRecDepth 100000 in
set_option maxHeartbeats 4000000 in
theorem w_X1_gatesOpenTo_37 {G : GE} {X : CX} {l : Launch} (hX : Ok G X cX1_gatesOpenTo RX1) (hN : xn X = 5) (h : Mem) {P0 : Int32 → Prop} (hr : Rt G X l yX1_gatesOpenTo (some .int) rm_X1_gatesOpenTo (ppI h P0))  (v0 : Nat) (v1 : Int32) (v2 : Int32) {P : ((Int32 × Int32) ⊕ Int32) → Prop} (hc : ∀ s, P (.inl s) → AW G X 5 [(0, vR v0), (1, vI v1), (2, vI v2), (3, vI s.1), (4, vI s.2)] [] h 0 0) (he0 : ∀ e, P (.inr e) → AW G X 43 [(3, vI e)] [] h 0 0) (v3 : Int32) (v4 : Int32) (hy : OK (f_X1_gatesOpenTo_37 h v0 v1 v2 v3 v4) P) : AW G X 37 [(0, vR v0), (1, vI v1), (2, vI v2), (3, vI v3), (4, vI v4)] [] h 0 0 := by
  unfold f_X1_gatesOpenTo_37 at hy
  refine aw_iinc (pc := 37) hX 1 (by decide) 4 rfl [(4, vI (v4 + 1)), (0, vR v0), (1, vI v1), (2, vI v2), (3, vI v3)] rfl (lt_n hN (by decide)) dX1_gatesOpenTo_37 ?_
  refine aw_goto (pc := 40) hX 5 (by decide) dX1_gatesOpenTo_40 ?_
  refine AW.sub [1, 2, 3, 4, 0] rfl ?_
  exact hc (v3, (v4 + 1)) hy.s
def b_X1_gatesOpenTo_5 (h : Mem) (v0 : Nat) (v1 : Int32) (v2 : Int32) (v3 : Int32) (v4 : Int32) : Option ((Int32 × Int32) ⊕ Int32) :=
  (gI h v0 3 4).bind fun x1 => (if x1 ≤ v4 then some (.inr v3) else (f_X5_hasGate h v0 v4).bind fun x2 => (if x2 = 0 then f_X1_gatesOpenTo_37 h v0 v1 v2 v3 v4 else (f_X1_isOpen h v0 v4 v1 v2).bind fun x3 => (if x3 = 0 then f_X1_gatesOpenTo_37 h v0 v1 v2 v3 v4 else f_X1_gatesOpenTo_37 h v0 v1 v2 (v3 + 1) v4)))
set_option maxRecDepth 100000 in
set_option maxHeartbeats 4000000 in
theorem wb_X1_gatesOpenTo_5 {G : GE} {X : CX} {l : Launch} (hX : Ok G X cX1_gatesOpenTo RX1) (hN : xn X = 5) (h : Mem) {P0 : Int32 → Prop} (hr : Rt G X l yX1_gatesOpenTo (some .int) rm_X1_gatesOpenTo (ppI h P0))  (v0 : Nat) (v1 : Int32) (v2 : Int32) {P : ((Int32 × Int32) ⊕ Int32) → Prop} (hc : ∀ s, P (.inl s) → AW G X 5 [(0, vR v0), (1, vI v1), (2, vI v2), (3, vI s.1), (4, vI s.2)] [] h 0 0) (he0 : ∀ e, P (.inr e) → AW G X 43 [(3, vI e)] [] h 0 0) (v3 : Int32) (v4 : Int32) (hy : OK (b_X1_gatesOpenTo_5 h v0 v1 v2 v3 v4) P) : AW G X 5 [(0, vR v0), (1, vI v1), (2, vI v2), (3, vI v3), (4, vI v4)] [] h 0 0 := by
  unfold b_X1_gatesOpenTo_5 at hy
  refine aw_iload (pc := 5) hX 4 rfl dX1_gatesOpenTo_5 ?_
  refine aw_aloadn (pc := 7) hX 0 rfl dX1_gatesOpenTo_7 ?_
  refine aw_gI (pc := 8) hX hy fl_X1_19 (fun _ _ => rfl) dX1_gatesOpenTo_8 (fun x1 hy => ?_)
  refine aw_ic_ge (pc := 11) hX 43 (by decide) dX1_gatesOpenTo_11 (fun hc9 => ?_) (fun hc9 => ?_)
  · have hy := hy.t hc9
    refine AW.sub [3] rfl ?_
    exact he0 v3 hy.s
  · have hy := hy.f hc9
    refine aw_aloadn (pc := 14) hX 0 rfl dX1_gatesOpenTo_14 ?_
    refine aw_iload (pc := 15) hX 4 rfl dX1_gatesOpenTo_15 ?_
    refine aw_callV (pc := 17) (st := []) (a := v0) hX [vI v4] (con_X5_hasGate _ G _ v0 v4 hy.bd) mc_X5_hasGate ml_X1_30 im_X5_hasGate se_X5_hasGate (by decide) hy.bd.kd rfl (rm_of hr (by decide)) (Nat.le_of_ble_eq_true rfl) rfl dX1_gatesOpenTo_17 (kpI rfl rfl (fun x2 hy => ?_))
    refine aw_if_eq (pc := 20) hX 37 (by decide) dX1_gatesOpenTo_20 (fun hc9 => ?_) (fun hc9 => ?_)
    · have hy := hy.t hc9
      exact w_X1_gatesOpenTo_37 hX hN _ hr _ _ _ hc he0 v3 v4 hy
    · have hy := hy.f hc9
      refine aw_aloadn (pc := 23) hX 0 rfl dX1_gatesOpenTo_23 ?_
      refine aw_iload (pc := 24) hX 4 rfl dX1_gatesOpenTo_24 ?_
      refine aw_iloadn (pc := 26) hX 1 rfl dX1_gatesOpenTo_26 ?_
      refine aw_iloadn (pc := 27) hX 2 rfl dX1_gatesOpenTo_27 ?_
      refine aw_callS (pc := 28) (st := []) hX [vR v0, vI v4, vI v1, vI v2] (con_X1_isOpen _ G _ v0 v4 v1 v2 hy.bd) mc_X1_isOpen ml_X1_34 st_X1_isOpen rfl (rm_of hr (by decide)) (Nat.le_of_ble_eq_true rfl) rfl dX1_gatesOpenTo_28 (kpI rfl rfl (fun x3 hy => ?_))
      refine aw_if_eq (pc := 31) hX 37 (by decide) dX1_gatesOpenTo_31 (fun hc9 => ?_) (fun hc9 => ?_)
      · have hy := hy.t hc9
        exact w_X1_gatesOpenTo_37 hX hN _ hr _ _ _ hc he0 v3 v4 hy
      · have hy := hy.f hc9
        refine aw_iinc (pc := 34) hX 1 (by decide) 3 rfl [(3, vI (v3 + 1)), (0, vR v0), (1, vI v1), (2, vI v2), (4, vI v4)] rfl (lt_n hN (by decide)) dX1_gatesOpenTo_34 ?_
        refine AW.sub [1, 2, 3, 0, 4] rfl ?_
        exact w_X1_gatesOpenTo_37 hX hN _ hr _ _ _ hc he0 (v3 + 1) v4 hy
theorem wl_X1_gatesOpenTo_5 {G : GE} {X : CX} {l : Launch} (hX : Ok G X cX1_gatesOpenTo RX1) (hN : xn X = 5) (h : Mem) {P0 : Int32 → Prop} (hr : Rt G X l yX1_gatesOpenTo (some .int) rm_X1_gatesOpenTo (ppI h P0)) (v0 : Nat) (v1 : Int32) (v2 : Int32) {P : (Int32) → Prop} (he0 : ∀ e, P e → AW G X 43 [(3, vI e)] [] h 0 0) : ∀ (n : Nat) (s : Int32 × Int32), OK (iter (fun (s : Int32 × Int32) => b_X1_gatesOpenTo_5 h v0 v1 v2 s.1 s.2) n s) P → AW G X 5 [(0, vR v0), (1, vI v1), (2, vI v2), (3, vI s.1), (4, vI s.2)] [] h 0 0 := by
  intro n
  induction n with
  | zero => exact fun s hy => hy.it0.elim
  | succ n ih =>
    intro s hy
    exact wb_X1_gatesOpenTo_5 hX hN h hr v0 v1 v2 (fun s hs => ih s hs) (fun e hs => he0 e hs) s.1 s.2 hy.it
def f_X1_gatesOpenTo (h : Mem) (v0 : Nat) (v1 : Int32) (v2 : Int32) : Option Int32 :=
  (iter (fun (s : Int32 × Int32) => b_X1_gatesOpenTo_5 h v0 v1 v2 s.1 s.2) FU (0, 0)).bind (fun q4 => some q4)
set_option maxRecDepth 100000 in
set_option maxHeartbeats 4000000 in
theorem w_X1_gatesOpenTo {G : GE} {X : CX} {l : Launch} (hX : Ok G X cX1_gatesOpenTo RX1) (hN : xn X = 5) (h : Mem) {P : Int32 → Prop} (hr : Rt G X l yX1_gatesOpenTo (some .int) rm_X1_gatesOpenTo (ppI h P)) (v0 : Nat) (v1 : Int32) (v2 : Int32) (hy : OK (f_X1_gatesOpenTo h v0 v1 v2) P) : AW G X 0 [(0, vR v0), (1, vI v1), (2, vI v2)] [] h 0 0 := by
  unfold f_X1_gatesOpenTo at hy
  refine aw_iconst (pc := 0) hX 0 (by decide) dX1_gatesOpenTo_0 ?_
  refine aw_istoren (pc := 1) hX [(3, vI 0), (0, vR v0), (1, vI v1), (2, vI v2)] rfl (lt_n hN (by decide)) dX1_gatesOpenTo_1 ?_
  refine aw_iconst (pc := 2) hX 0 (by decide) dX1_gatesOpenTo_2 ?_
  refine aw_istore (pc := 3) hX [(4, vI 0), (3, vI 0), (0, vR v0), (1, vI v1), (2, vI v2)] rfl (lt_n hN (by decide)) dX1_gatesOpenTo_3 ?_
  refine AW.sub [2, 3, 4, 1, 0] rfl ?_
  refine wl_X1_gatesOpenTo_5 hX hN _ hr v0 v1 v2 ?_ FU (0, 0) hy.bd
  · intro q4 hy
    refine aw_iloadn (pc := 43) hX 0 rfl dX1_gatesOpenTo_43 ?_
    exact aw_iret (pc := 44) hX hr (by decide) (by decide) dX1_gatesOpenTo_44 ⟨rfl, _, rfl, hy.s⟩
theorem con_X1_gatesOpenTo (l : Launch) (G : GE) (h : Mem) (v0 : Nat) (v1 : Int32) (v2 : Int32) {P : Int32 → Prop} (hy : OK (f_X1_gatesOpenTo h v0 v1 v2) P) : Con l G yX1_gatesOpenTo cX1_gatesOpenTo 5 (some .int) rm_X1_gatesOpenTo [vR v0, vI v1, vI v2] h (ppI h P) := Con.of (by decide) (Nat.le_of_ble_eq_true rfl) (fun X hX hr hN => w_X1_gatesOpenTo hX hN h hr v0 v1 v2 hy)
/-! X2_init -/
theorem dX2_init_0 : decode cX2_init 0 = .ok (.aload_n 0, 1) := by decide +kernel
theorem dX2_init_1 : decode cX2_init 1 = .ok (.invokespecial 7, 3) := by decide +kernel
theorem dX2_init_4 : decode cX2_init 4 = .ok (.aload_n 0, 1) := by decide +kernel
theorem dX2_init_5 : decode cX2_init 5 = .ok (.bipush 21, 2) := by decide +kernel
theorem dX2_init_7 : decode cX2_init 7 = .ok (.newarray .int, 2) := by decide +kernel
theorem dX2_init_9 : decode cX2_init 9 = .ok (.putfield 13, 3) := by decide +kernel
theorem dX2_init_12 : decode cX2_init 12 = .ok (.aload_n 0, 1) := by decide +kernel
theorem dX2_init_13 : decode cX2_init 13 = .ok (.sipush 336, 3) := by decide +kernel
theorem dX2_init_16 : decode cX2_init 16 = .ok (.newarray .int, 2) := by decide +kernel
theorem dX2_init_18 : decode cX2_init 18 = .ok (.putfield 17, 3) := by decide +kernel
theorem dX2_init_21 : decode cX2_init 21 = .ok (.aload_n 0, 1) := by decide +kernel
theorem dX2_init_22 : decode cX2_init 22 = .ok (.bipush 63, 2) := by decide +kernel
theorem dX2_init_24 : decode cX2_init 24 = .ok (.newarray .int, 2) := by decide +kernel
theorem dX2_init_26 : decode cX2_init 26 = .ok (.putfield 20, 3) := by decide +kernel
theorem dX2_init_29 : decode cX2_init 29 = .ok (.return_, 1) := by decide +kernel
abbrev rm_X2_init : Room := { frames := 1, cells := 3, slots := 420, locals := 20 }
def f_X2_init (h : Mem) (v0 : Nat) : Option Mem :=
  (ck h v0 1).bind fun _ => (pR (mNew h 100 21) v0 0 1 (mN h)).bind fun h1 => (pR (mNew h1 100 336) v0 1 1 (mN h1)).bind fun h2 => (pR (mNew h2 100 63) v0 2 1 (mN h2)).bind fun h3 => some h3
set_option maxRecDepth 100000 in
set_option maxHeartbeats 4000000 in
theorem w_X2_init {G : GE} {X : CX} {l : Launch} (hX : Ok G X cX2_init RX2) (hN : xn X = 1) {P : Mem → Prop} (hr : Rt G X l yX2_init none rm_X2_init (pmV P)) (h : Mem) (v0 : Nat) (hy : OK (f_X2_init h v0) P) : AW G X 0 [(0, vR v0)] [] h 0 0 := by
  unfold f_X2_init at hy
  have hkd := hy.kd
  have hy := hy.kb
  refine aw_aloadn (pc := 0) hX 0 rfl dX2_init_0 ?_
  refine aw_objInit0 (pc := 1) hX hkd oi_X2_7 oi_i oi_c (by decide) (Nat.le_of_ble_eq_true rfl) (le_f hr (by decide)) (le_l hr (by decide)) dX2_init_1 ?_
  refine aw_aloadn (pc := 4) hX 0 rfl dX2_init_4 ?_
  refine aw_bipush (pc := 5) hX 21 (by decide) dX2_init_5 ?_
  refine aw_newi (pc := 7) hX 21 21 (by decide) (by decide) (by decide) ar_int (le_c hr (by decide)) (le_s hr (by decide)) dX2_init_7 ?_
  refine AW.eqa (ce' := 1) (sl' := 21) rfl rfl ?_
  refine aw_pR (pc := 9) hX hy fl_X2_13 rfl (Or.inr ⟨rfl, hr.2.2.2.1, rfl, fw_X2_13⟩) dX2_init_9 (fun h1 hy => ?_)
  refine aw_aloadn (pc := 12) hX 0 rfl dX2_init_12 ?_
  refine aw_sipush (pc := 13) hX 336 (by decide) dX2_init_13 ?_
  refine aw_newi (pc := 16) hX 336 336 (by decide) (by decide) (by decide) ar_int (le_c hr (by decide)) (le_s hr (by decide)) dX2_init_16 ?_
  refine AW.eqa (ce' := 2) (sl' := 357) rfl rfl ?_
  refine aw_pR (pc := 18) hX hy fl_X2_17 rfl (Or.inr ⟨rfl, hr.2.2.2.1, rfl, fw_X2_17⟩) dX2_init_18 (fun h2 hy => ?_)
  refine aw_aloadn (pc := 21) hX 0 rfl dX2_init_21 ?_
  refine aw_bipush (pc := 22) hX 63 (by decide) dX2_init_22 ?_
  refine aw_newi (pc := 24) hX 63 63 (by decide) (by decide) (by decide) ar_int (le_c hr (by decide)) (le_s hr (by decide)) dX2_init_24 ?_
  refine AW.eqa (ce' := 3) (sl' := 420) rfl rfl ?_
  refine aw_pR (pc := 26) hX hy fl_X2_20 rfl (Or.inr ⟨rfl, hr.2.2.2.1, rfl, fw_X2_20⟩) dX2_init_26 (fun h3 hy => ?_)
  exact aw_vret (pc := 29) hX hr (by decide) (by decide) dX2_init_29 ⟨rfl, hy.s⟩
theorem con_X2_init (l : Launch) (G : GE) (h : Mem) (v0 : Nat) {P : Mem → Prop} (hy : OK (f_X2_init h v0) P) : Con l G yX2_init cX2_init 1 none rm_X2_init [vR v0] h (pmV P) := Con.of (by decide) (Nat.le_of_ble_eq_true rfl) (fun X hX hr hN => w_X2_init hX hN hr h v0 hy)
/-! X2_begin -/
theorem dX2_begin_0 : decode cX2_begin 0 = .ok (.aload_n 1, 1) := by decide +kernel
theorem dX2_begin_1 : decode cX2_begin 1 = .ok (.iconst 0, 1) := by decide +kernel
theorem dX2_begin_2 : decode cX2_begin 2 = .ok (.aload_n 0, 1) := by decide +kernel
theorem dX2_begin_3 : decode cX2_begin 3 = .ok (.getfield 13, 3) := by decide +kernel
theorem dX2_begin_6 : decode cX2_begin 6 = .ok (.iconst 0, 1) := by decide +kernel
theorem dX2_begin_7 : decode cX2_begin 7 = .ok (.bipush 21, 2) := by decide +kernel
theorem dX2_begin_9 : decode cX2_begin 9 = .ok (.invokestatic 23, 3) := by decide +kernel
theorem dX2_begin_12 : decode cX2_begin 12 = .ok (.aload_n 0, 1) := by decide +kernel
theorem dX2_begin_13 : decode cX2_begin 13 = .ok (.iconst 0, 1) := by decide +kernel
theorem dX2_begin_14 : decode cX2_begin 14 = .ok (.putfield 29, 3) := by decide +kernel
theorem dX2_begin_17 : decode cX2_begin 17 = .ok (.aload_n 0, 1) := by decide +kernel
theorem dX2_begin_18 : decode cX2_begin 18 = .ok (.iconst 0, 1) := by decide +kernel
theorem dX2_begin_19 : decode cX2_begin 19 = .ok (.putfield 33, 3) := by decide +kernel
theorem dX2_begin_22 : decode cX2_begin 22 = .ok (.return_, 1) := by decide +kernel
abbrev rm_X2_begin : Room := { frames := 1, cells := 0, slots := 0, locals := 60 }
def f_X2_begin (h : Mem) (v0 : Nat) (v1 : Nat) : Option Mem :=
  (ck h v0 1).bind fun _ => (gR h v0 0 1).bind fun r1 => (cpI h v1 0 r1 0 21).bind fun h2 => (pI h2 v0 4 1 0).bind fun h3 => (pI h3 v0 5 1 0).bind fun h4 => some h4
set_option maxRecDepth 100000 in
set_option maxHeartbeats 4000000 in
theorem w_X2_begin {G : GE} {X : CX} {l : Launch} (hX : Ok G X cX2_begin RX2) (hN : xn X = 2) {P : Mem → Prop} (hr : Rt G X l yX2_begin none rm_X2_begin (pmV P)) (h : Mem) (v0 : Nat) (v1 : Nat) (hy : OK (f_X2_begin h v0 v1) P) : AW G X 0 [(0, vR v0), (1, vR v1)] [] h 0 0 := by
  unfold f_X2_begin at hy
  have hkd := hy.kd
  have hy := hy.kb
  refine aw_aloadn (pc := 0) hX 1 rfl dX2_begin_0 ?_
  refine aw_iconst (pc := 1) hX 0 (by decide) dX2_begin_1 ?_
  refine aw_aloadn (pc := 2) hX 0 rfl dX2_begin_2 ?_
  refine aw_gR (pc := 3) hX hy fl_X2_13 (fun _ _ => rfl) dX2_begin_3 (fun r1 hy => ?_)
  refine aw_iconst (pc := 6) hX 0 (by decide) dX2_begin_6 ?_
  refine aw_bipush (pc := 7) hX 21 (by decide) dX2_begin_7 ?_
  refine aw_copy (pc := 9) hX hy ac_X2_23 (Nat.le_of_ble_eq_true rfl) (le_f hr (by decide)) (le_l hr (by decide)) dX2_begin_9 (fun h2 hy => ?_)
  refine aw_aloadn (pc := 12) hX 0 rfl dX2_begin_12 ?_
  refine aw_iconst (pc := 13) hX 0 (by decide) dX2_begin_13 ?_
  refine aw_pI (pc := 14) hX hy fl_X2_29 rfl (Or.inl rfl) dX2_begin_14 (fun h3 hy => ?_)
  refine aw_aloadn (pc := 17) hX 0 rfl dX2_begin_17 ?_
  refine aw_iconst (pc := 18) hX 0 (by decide) dX2_begin_18 ?_
  refine aw_pI (pc := 19) hX hy fl_X2_33 rfl (Or.inl rfl) dX2_begin_19 (fun h4 hy => ?_)
  exact aw_vret (pc := 22) hX hr (by decide) (by decide) dX2_begin_22 ⟨rfl, hy.s⟩
theorem con_X2_begin (l : Launch) (G : GE) (h : Mem) (v0 : Nat) (v1 : Nat) {P : Mem → Prop} (hy : OK (f_X2_begin h v0 v1) P) : Con l G yX2_begin cX2_begin 2 none rm_X2_begin [vR v0, vR v1] h (pmV P) := Con.of (by decide) (Nat.le_of_ble_eq_true rfl) (fun X hX hr hN => w_X2_begin hX hN hr h v0 v1 hy)
/-! X2_of -/
theorem dX2_of_0 : decode cX2_of 0 = .ok (.aload_n 0, 1) := by decide +kernel
theorem dX2_of_1 : decode cX2_of 1 = .ok (.getfield 13, 3) := by decide +kernel
theorem dX2_of_4 : decode cX2_of 4 = .ok (.iload_n 1, 1) := by decide +kernel
theorem dX2_of_5 : decode cX2_of 5 = .ok (.iconst 5, 1) := by decide +kernel
theorem dX2_of_6 : decode cX2_of 6 = .ok (.imul, 1) := by decide +kernel
theorem dX2_of_7 : decode cX2_of 7 = .ok (.iload_n 2, 1) := by decide +kernel
theorem dX2_of_8 : decode cX2_of 8 = .ok (.iadd, 1) := by decide +kernel
theorem dX2_of_9 : decode cX2_of 9 = .ok (.iaload, 1) := by decide +kernel
theorem dX2_of_10 : decode cX2_of 10 = .ok (.ireturn, 1) := by decide +kernel
abbrev rm_X2_of : Room := { frames := 0, cells := 0, slots := 0, locals := 0 }
def f_X2_of (h : Mem) (v0 : Nat) (v1 : Int32) (v2 : Int32) : Option Int32 :=
  (ck h v0 1).bind fun _ => (gR h v0 0 1).bind fun r1 => (aI h r1 ((v1 * 5) + v2)).bind fun x2 => some x2
set_option maxRecDepth 100000 in
set_option maxHeartbeats 4000000 in
theorem w_X2_of {G : GE} {X : CX} {l : Launch} (hX : Ok G X cX2_of RX2) (hN : xn X = 3) (h : Mem) {P : Int32 → Prop} (hr : Rt G X l yX2_of (some .int) rm_X2_of (ppI h P)) (v0 : Nat) (v1 : Int32) (v2 : Int32) (hy : OK (f_X2_of h v0 v1 v2) P) : AW G X 0 [(0, vR v0), (1, vI v1), (2, vI v2)] [] h 0 0 := by
  unfold f_X2_of at hy
  have hkd := hy.kd
  have hy := hy.kb
  refine aw_aloadn (pc := 0) hX 0 rfl dX2_of_0 ?_
  refine aw_gR (pc := 1) hX hy fl_X2_13 (fun _ _ => rfl) dX2_of_1 (fun r1 hy => ?_)
  refine aw_iloadn (pc := 4) hX 1 rfl dX2_of_4 ?_
  refine aw_iconst (pc := 5) hX 5 (by decide) dX2_of_5 ?_
  refine aw_imul (pc := 6) hX dX2_of_6 ?_
  refine aw_iloadn (pc := 7) hX 2 rfl dX2_of_7 ?_
  refine aw_iadd (pc := 8) hX dX2_of_8 ?_
  refine aw_aI (pc := 9) hX hy dX2_of_9 (fun x2 hy => ?_)
  exact aw_iret (pc := 10) hX hr (by decide) (by decide) dX2_of_10 ⟨rfl, _, rfl, hy.s⟩
theorem con_X2_of (l : Launch) (G : GE) (h : Mem) (v0 : Nat) (v1 : Int32) (v2 : Int32) {P : Int32 → Prop} (hy : OK (f_X2_of h v0 v1 v2) P) : Con l G yX2_of cX2_of 3 (some .int) rm_X2_of [vR v0, vI v1, vI v2] h (ppI h P) := Con.of (by decide) (Nat.le_of_ble_eq_true rfl) (fun X hX hr hN => w_X2_of hX hN h hr v0 v1 v2 hy)
/-! X2_set -/
theorem dX2_set_0 : decode cX2_set 0 = .ok (.aload_n 0, 1) := by decide +kernel
theorem dX2_set_1 : decode cX2_set 1 = .ok (.getfield 13, 3) := by decide +kernel
theorem dX2_set_4 : decode cX2_set 4 = .ok (.iload_n 1, 1) := by decide +kernel
theorem dX2_set_5 : decode cX2_set 5 = .ok (.iconst 5, 1) := by decide +kernel
theorem dX2_set_6 : decode cX2_set 6 = .ok (.imul, 1) := by decide +kernel
theorem dX2_set_7 : decode cX2_set 7 = .ok (.iload_n 2, 1) := by decide +kernel
theorem dX2_set_8 : decode cX2_set 8 = .ok (.iadd, 1) := by decide +kernel
theorem dX2_set_9 : decode cX2_set 9 = .ok (.iload_n 3, 1) := by decide +kernel
theorem dX2_set_10 : decode cX2_set 10 = .ok (.iastore, 1) := by decide +kernel
theorem dX2_set_11 : decode cX2_set 11 = .ok (.return_, 1) := by decide +kernel
abbrev rm_X2_set : Room := { frames := 0, cells := 0, slots := 0, locals := 0 }
def f_X2_set (h : Mem) (v0 : Nat) (v1 : Int32) (v2 : Int32) (v3 : Int32) : Option Mem :=
  (ck h v0 1).bind fun _ => (gR h v0 0 1).bind fun r1 => (sI h r1 ((v1 * 5) + v2) v3).bind fun h2 => some h2
set_option maxRecDepth 100000 in
set_option maxHeartbeats 4000000 in
theorem w_X2_set {G : GE} {X : CX} {l : Launch} (hX : Ok G X cX2_set RX2) (hN : xn X = 4) {P : Mem → Prop} (hr : Rt G X l yX2_set none rm_X2_set (pmV P)) (h : Mem) (v0 : Nat) (v1 : Int32) (v2 : Int32) (v3 : Int32) (hy : OK (f_X2_set h v0 v1 v2 v3) P) : AW G X 0 [(0, vR v0), (1, vI v1), (2, vI v2), (3, vI v3)] [] h 0 0 := by
  unfold f_X2_set at hy
  have hkd := hy.kd
  have hy := hy.kb
  refine aw_aloadn (pc := 0) hX 0 rfl dX2_set_0 ?_
  refine aw_gR (pc := 1) hX hy fl_X2_13 (fun _ _ => rfl) dX2_set_1 (fun r1 hy => ?_)
  refine aw_iloadn (pc := 4) hX 1 rfl dX2_set_4 ?_
  refine aw_iconst (pc := 5) hX 5 (by decide) dX2_set_5 ?_
  refine aw_imul (pc := 6) hX dX2_set_6 ?_
  refine aw_iloadn (pc := 7) hX 2 rfl dX2_set_7 ?_
  refine aw_iadd (pc := 8) hX dX2_set_8 ?_
  refine aw_iloadn (pc := 9) hX 3 rfl dX2_set_9 ?_
  refine aw_sI (pc := 10) hX hy dX2_set_10 (fun h2 hy => ?_)
  exact aw_vret (pc := 11) hX hr (by decide) (by decide) dX2_set_11 ⟨rfl, hy.s⟩
theorem con_X2_set (l : Launch) (G : GE) (h : Mem) (v0 : Nat) (v1 : Int32) (v2 : Int32) (v3 : Int32) {P : Mem → Prop} (hy : OK (f_X2_set h v0 v1 v2 v3) P) : Con l G yX2_set cX2_set 4 none rm_X2_set [vR v0, vI v1, vI v2, vI v3] h (pmV P) := Con.of (by decide) (Nat.le_of_ble_eq_true rfl) (fun X hX hr hN => w_X2_set hX hN hr h v0 v1 v2 v3 hy)
/-! X2_rains -/
theorem dX2_rains_0 : decode cX2_rains 0 = .ok (.aload_n 0, 1) := by decide +kernel
theorem dX2_rains_1 : decode cX2_rains 1 = .ok (.getfield 13, 3) := by decide +kernel
theorem dX2_rains_4 : decode cX2_rains 4 = .ok (.bipush 20, 2) := by decide +kernel
theorem dX2_rains_6 : decode cX2_rains 6 = .ok (.iaload, 1) := by decide +kernel
theorem dX2_rains_7 : decode cX2_rains 7 = .ok (.iconst 1, 1) := by decide +kernel
theorem dX2_rains_8 : decode cX2_rains 8 = .ok (.if_icmp .ne 7, 3) := by decide +kernel
theorem dX2_rains_11 : decode cX2_rains 11 = .ok (.iconst 1, 1) := by decide +kernel
theorem dX2_rains_12 : decode cX2_rains 12 = .ok (.goto 4, 3) := by decide +kernel
theorem dX2_rains_15 : decode cX2_rains 15 = .ok (.iconst 0, 1) := by decide +kernel
theorem dX2_rains_16 : decode cX2_rains 16 = .ok (.ireturn, 1) := by decide +kernel
abbrev rm_X2_rains : Room := { frames := 0, cells := 0, slots := 0, locals := 0 }
def f_X2_rains (h : Mem) (v0 : Nat) : Option Int32 :=
  (ck h v0 1).bind fun _ => (gR h v0 0 1).bind fun r1 => (aI h r1 20).bind fun x2 => (if x2 = 1 then some 1 else some 0)
set_option maxRecDepth 100000 in
set_option maxHeartbeats 4000000 in
theorem w_X2_rains {G : GE} {X : CX} {l : Launch} (hX : Ok G X cX2_rains RX2) (hN : xn X = 1) (h : Mem) {P : Int32 → Prop} (hr : Rt G X l yX2_rains (some .boolean) rm_X2_rains (ppI h P)) (v0 : Nat) (hy : OK (f_X2_rains h v0) P) : AW G X 0 [(0, vR v0)] [] h 0 0 := by
  unfold f_X2_rains at hy
  have hkd := hy.kd
  have hy := hy.kb
  refine aw_aloadn (pc := 0) hX 0 rfl dX2_rains_0 ?_
  refine aw_gR (pc := 1) hX hy fl_X2_13 (fun _ _ => rfl) dX2_rains_1 (fun r1 hy => ?_)
  refine aw_bipush (pc := 4) hX 20 (by decide) dX2_rains_4 ?_
  refine aw_aI (pc := 6) hX hy dX2_rains_6 (fun x2 hy => ?_)
  refine aw_iconst (pc := 7) hX 1 (by decide) dX2_rains_7 ?_
  refine aw_ic_ne (pc := 8) hX 15 (by decide) dX2_rains_8 (fun hc9 => ?_) (fun hc9 => ?_)
  · have hy := hy.f hc9
    refine aw_iconst (pc := 15) hX 0 (by decide) dX2_rains_15 ?_
    exact aw_zret (pc := 16) hX hr (by decide) (by decide) dX2_rains_16 (Or.inl rfl) ⟨rfl, _, rfl, hy.s⟩
  · have hy := hy.t hc9
    refine aw_iconst (pc := 11) hX 1 (by decide) dX2_rains_11 ?_
    refine aw_goto (pc := 12) hX 16 (by decide) dX2_rains_12 ?_
    exact aw_zret (pc := 16) hX hr (by decide) (by decide) dX2_rains_16 (Or.inr rfl) ⟨rfl, _, rfl, hy.s⟩
theorem con_X2_rains (l : Launch) (G : GE) (h : Mem) (v0 : Nat) {P : Int32 → Prop} (hy : OK (f_X2_rains h v0) P) : Con l G yX2_rains cX2_rains 1 (some .boolean) rm_X2_rains [vR v0] h (ppI h P) := Con.of (by decide) (Nat.le_of_ble_eq_true rfl) (fun X hX hr hN => w_X2_rains hX hN h hr v0 hy)
/-! X2_setRain -/
theorem dX2_setRain_0 : decode cX2_setRain 0 = .ok (.aload_n 0, 1) := by decide +kernel
theorem dX2_setRain_1 : decode cX2_setRain 1 = .ok (.getfield 13, 3) := by decide +kernel
theorem dX2_setRain_4 : decode cX2_setRain 4 = .ok (.bipush 20, 2) := by decide +kernel
theorem dX2_setRain_6 : decode cX2_setRain 6 = .ok (.iload_n 1, 1) := by decide +kernel
theorem dX2_setRain_7 : decode cX2_setRain 7 = .ok (.ifCond .eq 7, 3) := by decide +kernel
theorem dX2_setRain_10 : decode cX2_setRain 10 = .ok (.iconst 1, 1) := by decide +kernel
theorem dX2_setRain_11 : decode cX2_setRain 11 = .ok (.goto 4, 3) := by decide +kernel
theorem dX2_setRain_14 : decode cX2_setRain 14 = .ok (.iconst 0, 1) := by decide +kernel
theorem dX2_setRain_15 : decode cX2_setRain 15 = .ok (.iastore, 1) := by decide +kernel
theorem dX2_setRain_16 : decode cX2_setRain 16 = .ok (.return_, 1) := by decide +kernel
abbrev rm_X2_setRain : Room := { frames := 0, cells := 0, slots := 0, locals := 0 }
def f_X2_setRain (h : Mem) (v0 : Nat) (v1 : Int32) : Option Mem :=
  (ck h v0 1).bind fun _ => (gR h v0 0 1).bind fun r1 => (if v1 = 0 then (sI h r1 20 0).bind fun h2 => some h2 else (sI h r1 20 1).bind fun h3 => some h3)
set_option maxRecDepth 100000 in
set_option maxHeartbeats 4000000 in
theorem w_X2_setRain {G : GE} {X : CX} {l : Launch} (hX : Ok G X cX2_setRain RX2) (hN : xn X = 2) {P : Mem → Prop} (hr : Rt G X l yX2_setRain none rm_X2_setRain (pmV P)) (h : Mem) (v0 : Nat) (v1 : Int32) (hy : OK (f_X2_setRain h v0 v1) P) : AW G X 0 [(0, vR v0), (1, vI v1)] [] h 0 0 := by
  unfold f_X2_setRain at hy
  have hkd := hy.kd
  have hy := hy.kb
  refine aw_aloadn (pc := 0) hX 0 rfl dX2_setRain_0 ?_
  refine aw_gR (pc := 1) hX hy fl_X2_13 (fun _ _ => rfl) dX2_setRain_1 (fun r1 hy => ?_)
  refine aw_bipush (pc := 4) hX 20 (by decide) dX2_setRain_4 ?_
  refine aw_iloadn (pc := 6) hX 1 rfl dX2_setRain_6 ?_
  refine aw_if_eq (pc := 7) hX 14 (by decide) dX2_setRain_7 (fun hc9 => ?_) (fun hc9 => ?_)
  · have hy := hy.t hc9
    refine aw_iconst (pc := 14) hX 0 (by decide) dX2_setRain_14 ?_
    refine aw_sI (pc := 15) hX hy dX2_setRain_15 (fun h2 hy => ?_)
    exact aw_vret (pc := 16) hX hr (by decide) (by decide) dX2_setRain_16 ⟨rfl, hy.s⟩
  · have hy := hy.f hc9
    refine aw_iconst (pc := 10) hX 1 (by decide) dX2_setRain_10 ?_
    refine aw_goto (pc := 11) hX 15 (by decide) dX2_setRain_11 ?_
    refine aw_sI (pc := 15) hX hy dX2_setRain_15 (fun h3 hy => ?_)
    exact aw_vret (pc := 16) hX hr (by decide) (by decide) dX2_setRain_16 ⟨rfl, hy.s⟩
theorem con_X2_setRain (l : Launch) (G : GE) (h : Mem) (v0 : Nat) (v1 : Int32) {P : Mem → Prop} (hy : OK (f_X2_setRain h v0 v1) P) : Con l G yX2_setRain cX2_setRain 2 none rm_X2_setRain [vR v0, vI v1] h (pmV P) := Con.of (by decide) (Nat.le_of_ble_eq_true rfl) (fun X hX hr hN => w_X2_setRain hX hN hr h v0 v1 hy)
/-! X2_voices -/
theorem dX2_voices_0 : decode cX2_voices 0 = .ok (.aload_n 0, 1) := by decide +kernel
theorem dX2_voices_1 : decode cX2_voices 1 = .ok (.iload_n 1, 1) := by decide +kernel
theorem dX2_voices_2 : decode cX2_voices 2 = .ok (.iconst 2, 1) := by decide +kernel
theorem dX2_voices_3 : decode cX2_voices 3 = .ok (.invokevirtual 36, 3) := by decide +kernel
theorem dX2_voices_6 : decode cX2_voices 6 = .ok (.aload_n 0, 1) := by decide +kernel
theorem dX2_voices_7 : decode cX2_voices 7 = .ok (.iload_n 1, 1) := by decide +kernel
theorem dX2_voices_8 : decode cX2_voices 8 = .ok (.iconst 3, 1) := by decide +kernel
theorem dX2_voices_9 : decode cX2_voices 9 = .ok (.invokevirtual 36, 3) := by decide +kernel
theorem dX2_voices_12 : decode cX2_voices 12 = .ok (.bipush 6, 2) := by decide +kernel
theorem dX2_voices_14 : decode cX2_voices 14 = .ok (.ishl, 1) := by decide +kernel
theorem dX2_voices_15 : decode cX2_voices 15 = .ok (.ior, 1) := by decide +kernel
theorem dX2_voices_16 : decode cX2_voices 16 = .ok (.sipush 4096, 3) := by decide +kernel
theorem dX2_voices_19 : decode cX2_voices 19 = .ok (.ior, 1) := by decide +kernel
theorem dX2_voices_20 : decode cX2_voices 20 = .ok (.ireturn, 1) := by decide +kernel
abbrev rm_X2_voices : Room := { frames := 1, cells := 0, slots := 0, locals := 22 }
def f_X2_voices (h : Mem) (v0 : Nat) (v1 : Int32) : Option Int32 :=
  (ck h v0 1).bind fun _ => (f_X2_of h v0 v1 2).bind fun x1 => (f_X2_of h v0 v1 3).bind fun x2 => some ((x1 ||| ((x2 : Int32) <<< (6 &&& 31))) ||| 4096)
set_option maxRecDepth 100000 in
set_option maxHeartbeats 4000000 in
theorem w_X2_voices {G : GE} {X : CX} {l : Launch} (hX : Ok G X cX2_voices RX2) (hN : xn X = 2) (h : Mem) {P : Int32 → Prop} (hr : Rt G X l yX2_voices (some .int) rm_X2_voices (ppI h P)) (v0 : Nat) (v1 : Int32) (hy : OK (f_X2_voices h v0 v1) P) : AW G X 0 [(0, vR v0), (1, vI v1)] [] h 0 0 := by
  unfold f_X2_voices at hy
  have hkd := hy.kd
  have hy := hy.kb
  refine aw_aloadn (pc := 0) hX 0 rfl dX2_voices_0 ?_
  refine aw_iloadn (pc := 1) hX 1 rfl dX2_voices_1 ?_
  refine aw_iconst (pc := 2) hX 2 (by decide) dX2_voices_2 ?_
  refine aw_callV (pc := 3) (st := []) (a := v0) hX [vI v1, vI 2] (con_X2_of _ G _ v0 v1 2 hy.bd) mc_X2_of ml_X2_36 im_X2_of se_X2_of (by decide) hy.bd.kd rfl (rm_of hr (by decide)) (Nat.le_of_ble_eq_true rfl) rfl dX2_voices_3 (kpI rfl rfl (fun x1 hy => ?_))
  refine aw_aloadn (pc := 6) hX 0 rfl dX2_voices_6 ?_
  refine aw_iloadn (pc := 7) hX 1 rfl dX2_voices_7 ?_
  refine aw_iconst (pc := 8) hX 3 (by decide) dX2_voices_8 ?_
  refine aw_callV (pc := 9) (st := [vI x1]) (a := v0) hX [vI v1, vI 3] (con_X2_of _ G _ v0 v1 3 hy.bd) mc_X2_of ml_X2_36 im_X2_of se_X2_of (by decide) hy.bd.kd rfl (rm_of hr (by decide)) (Nat.le_of_ble_eq_true rfl) rfl dX2_voices_9 (kpI rfl rfl (fun x2 hy => ?_))
  refine aw_bipush (pc := 12) hX 6 (by decide) dX2_voices_12 ?_
  refine aw_ishl (pc := 14) hX dX2_voices_14 ?_
  refine aw_ior (pc := 15) hX dX2_voices_15 ?_
  refine aw_sipush (pc := 16) hX 4096 (by decide) dX2_voices_16 ?_
  refine aw_ior (pc := 19) hX dX2_voices_19 ?_
  exact aw_iret (pc := 20) hX hr (by decide) (by decide) dX2_voices_20 ⟨rfl, _, rfl, hy.s⟩
theorem con_X2_voices (l : Launch) (G : GE) (h : Mem) (v0 : Nat) (v1 : Int32) {P : Int32 → Prop} (hy : OK (f_X2_voices h v0 v1) P) : Con l G yX2_voices cX2_voices 2 (some .int) rm_X2_voices [vR v0, vI v1] h (ppI h P) := Con.of (by decide) (Nat.le_of_ble_eq_true rfl) (fun X hX hr hN => w_X2_voices hX hN h hr v0 v1 hy)
/-! X2_keep -/
theorem dX2_keep_0 : decode cX2_keep 0 = .ok (.aload_n 0, 1) := by decide +kernel
theorem dX2_keep_1 : decode cX2_keep 1 = .ok (.getfield 13, 3) := by decide +kernel
theorem dX2_keep_4 : decode cX2_keep 4 = .ok (.iconst 0, 1) := by decide +kernel
theorem dX2_keep_5 : decode cX2_keep 5 = .ok (.aload_n 0, 1) := by decide +kernel
theorem dX2_keep_6 : decode cX2_keep 6 = .ok (.getfield 17, 3) := by decide +kernel
theorem dX2_keep_9 : decode cX2_keep 9 = .ok (.aload_n 0, 1) := by decide +kernel
theorem dX2_keep_10 : decode cX2_keep 10 = .ok (.getfield 42, 3) := by decide +kernel
theorem dX2_keep_13 : decode cX2_keep 13 = .ok (.bipush 21, 2) := by decide +kernel
theorem dX2_keep_15 : decode cX2_keep 15 = .ok (.imul, 1) := by decide +kernel
theorem dX2_keep_16 : decode cX2_keep 16 = .ok (.bipush 21, 2) := by decide +kernel
theorem dX2_keep_18 : decode cX2_keep 18 = .ok (.invokestatic 23, 3) := by decide +kernel
theorem dX2_keep_21 : decode cX2_keep 21 = .ok (.aload_n 0, 1) := by decide +kernel
theorem dX2_keep_22 : decode cX2_keep 22 = .ok (.aload_n 0, 1) := by decide +kernel
theorem dX2_keep_23 : decode cX2_keep 23 = .ok (.getfield 42, 3) := by decide +kernel
theorem dX2_keep_26 : decode cX2_keep 26 = .ok (.iconst 1, 1) := by decide +kernel
theorem dX2_keep_27 : decode cX2_keep 27 = .ok (.iadd, 1) := by decide +kernel
theorem dX2_keep_28 : decode cX2_keep 28 = .ok (.bipush 16, 2) := by decide +kernel
theorem dX2_keep_30 : decode cX2_keep 30 = .ok (.irem, 1) := by decide +kernel
theorem dX2_keep_31 : decode cX2_keep 31 = .ok (.putfield 42, 3) := by decide +kernel
theorem dX2_keep_34 : decode cX2_keep 34 = .ok (.aload_n 0, 1) := by decide +kernel
theorem dX2_keep_35 : decode cX2_keep 35 = .ok (.aload_n 0, 1) := by decide +kernel
theorem dX2_keep_36 : decode cX2_keep 36 = .ok (.getfield 29, 3) := by decide +kernel
theorem dX2_keep_39 : decode cX2_keep 39 = .ok (.iconst 1, 1) := by decide +kernel
theorem dX2_keep_40 : decode cX2_keep 40 = .ok (.iadd, 1) := by decide +kernel
theorem dX2_keep_41 : decode cX2_keep 41 = .ok (.bipush 16, 2) := by decide +kernel
theorem dX2_keep_43 : decode cX2_keep 43 = .ok (.invokestatic 45, 3) := by decide +kernel
theorem dX2_keep_46 : decode cX2_keep 46 = .ok (.putfield 29, 3) := by decide +kernel
theorem dX2_keep_49 : decode cX2_keep 49 = .ok (.return_, 1) := by decide +kernel
abbrev rm_X2_keep : Room := { frames := 1, cells := 0, slots := 0, locals := 60 }
def f_X2_keep (h : Mem) (v0 : Nat) : Option Mem :=
  (ck h v0 1).bind fun _ => (gR h v0 0 1).bind fun r1 => (gR h v0 1 1).bind fun r2 => (gI h v0 3 1).bind fun x3 => (cpI h r1 0 r2 (x3 * 21) 21).bind fun h4 => (gI h4 v0 3 1).bind fun x5 => (irm (x5 + 1) 16).bind fun x6 => (pI h4 v0 3 1 x6).bind fun h7 => (gI h7 v0 4 1).bind fun x8 => (pI h7 v0 4 1 (mMin (x8 + 1) 16)).bind fun h9 => some h9
set_option maxRecDepth 100000 in
set_option maxHeartbeats 4000000 in
theorem w_X2_keep {G : GE} {X : CX} {l : Launch} (hX : Ok G X cX2_keep RX2) (hN : xn X = 1) {P : Mem → Prop} (hr : Rt G X l yX2_keep none rm_X2_keep (pmV P)) (h : Mem) (v0 : Nat) (hy : OK (f_X2_keep h v0) P) : AW G X 0 [(0, vR v0)] [] h 0 0 := by
  unfold f_X2_keep at hy
  have hkd := hy.kd
  have hy := hy.kb
  refine aw_aloadn (pc := 0) hX 0 rfl dX2_keep_0 ?_
  refine aw_gR (pc := 1) hX hy fl_X2_13 (fun _ _ => rfl) dX2_keep_1 (fun r1 hy => ?_)
  refine aw_iconst (pc := 4) hX 0 (by decide) dX2_keep_4 ?_
  refine aw_aloadn (pc := 5) hX 0 rfl dX2_keep_5 ?_
  refine aw_gR (pc := 6) hX hy fl_X2_17 (fun _ _ => rfl) dX2_keep_6 (fun r2 hy => ?_)
  refine aw_aloadn (pc := 9) hX 0 rfl dX2_keep_9 ?_
  refine aw_gI (pc := 10) hX hy fl_X2_42 (fun _ _ => rfl) dX2_keep_10 (fun x3 hy => ?_)
  refine aw_bipush (pc := 13) hX 21 (by decide) dX2_keep_13 ?_
  refine aw_imul (pc := 15) hX dX2_keep_15 ?_
  refine aw_bipush (pc := 16) hX 21 (by decide) dX2_keep_16 ?_
  refine aw_copy (pc := 18) hX hy ac_X2_23 (Nat.le_of_ble_eq_true rfl) (le_f hr (by decide)) (le_l hr (by decide)) dX2_keep_18 (fun h4 hy => ?_)
  refine aw_aloadn (pc := 21) hX 0 rfl dX2_keep_21 ?_
  refine aw_aloadn (pc := 22) hX 0 rfl dX2_keep_22 ?_
  refine aw_gI (pc := 23) hX hy fl_X2_42 (fun _ _ => rfl) dX2_keep_23 (fun x5 hy => ?_)
  refine aw_iconst (pc := 26) hX 1 (by decide) dX2_keep_26 ?_
  refine aw_iadd (pc := 27) hX dX2_keep_27 ?_
  refine aw_bipush (pc := 28) hX 16 (by decide) dX2_keep_28 ?_
  refine aw_irem (pc := 30) hX hy dX2_keep_30 (fun x6 hy => ?_)
  refine aw_pI (pc := 31) hX hy fl_X2_42 rfl (Or.inl rfl) dX2_keep_31 (fun h7 hy => ?_)
  refine aw_aloadn (pc := 34) hX 0 rfl dX2_keep_34 ?_
  refine aw_aloadn (pc := 35) hX 0 rfl dX2_keep_35 ?_
  refine aw_gI (pc := 36) hX hy fl_X2_29 (fun _ _ => rfl) dX2_keep_36 (fun x8 hy => ?_)
  refine aw_iconst (pc := 39) hX 1 (by decide) dX2_keep_39 ?_
  refine aw_iadd (pc := 40) hX dX2_keep_40 ?_
  refine aw_bipush (pc := 41) hX 16 (by decide) dX2_keep_41 ?_
  refine aw_mmin (pc := 43) hX ml_X2_45 (Nat.le_of_ble_eq_true rfl) (le_f hr (by decide)) (le_l hr (by decide)) (le_c hr (by decide)) (le_s hr (by decide)) dX2_keep_43 ?_
  refine aw_pI (pc := 46) hX hy fl_X2_29 rfl (Or.inl rfl) dX2_keep_46 (fun h9 hy => ?_)
  exact aw_vret (pc := 49) hX hr (by decide) (by decide) dX2_keep_49 ⟨rfl, hy.s⟩
theorem con_X2_keep (l : Launch) (G : GE) (h : Mem) (v0 : Nat) {P : Mem → Prop} (hy : OK (f_X2_keep h v0) P) : Con l G yX2_keep cX2_keep 1 none rm_X2_keep [vR v0] h (pmV P) := Con.of (by decide) (Nat.le_of_ble_eq_true rfl) (fun X hX hr hN => w_X2_keep hX hN hr h v0 hy)
/-! X2_takeBack -/
theorem dX2_takeBack_0 : decode cX2_takeBack 0 = .ok (.aload_n 0, 1) := by decide +kernel
theorem dX2_takeBack_1 : decode cX2_takeBack 1 = .ok (.getfield 29, 3) := by decide +kernel
theorem dX2_takeBack_4 : decode cX2_takeBack 4 = .ok (.ifCond .ne 5, 3) := by decide +kernel
theorem dX2_takeBack_7 : decode cX2_takeBack 7 = .ok (.iconst 0, 1) := by decide +kernel
theorem dX2_takeBack_8 : decode cX2_takeBack 8 = .ok (.ireturn, 1) := by decide +kernel
theorem dX2_takeBack_9 : decode cX2_takeBack 9 = .ok (.aload_n 0, 1) := by decide +kernel
theorem dX2_takeBack_10 : decode cX2_takeBack 10 = .ok (.dup, 1) := by decide +kernel
theorem dX2_takeBack_11 : decode cX2_takeBack 11 = .ok (.getfield 29, 3) := by decide +kernel
theorem dX2_takeBack_14 : decode cX2_takeBack 14 = .ok (.iconst 1, 1) := by decide +kernel
theorem dX2_takeBack_15 : decode cX2_takeBack 15 = .ok (.isub, 1) := by decide +kernel
theorem dX2_takeBack_16 : decode cX2_takeBack 16 = .ok (.putfield 29, 3) := by decide +kernel
theorem dX2_takeBack_19 : decode cX2_takeBack 19 = .ok (.aload_n 0, 1) := by decide +kernel
theorem dX2_takeBack_20 : decode cX2_takeBack 20 = .ok (.aload_n 0, 1) := by decide +kernel
theorem dX2_takeBack_21 : decode cX2_takeBack 21 = .ok (.getfield 42, 3) := by decide +kernel
theorem dX2_takeBack_24 : decode cX2_takeBack 24 = .ok (.bipush 16, 2) := by decide +kernel
theorem dX2_takeBack_26 : decode cX2_takeBack 26 = .ok (.iadd, 1) := by decide +kernel
theorem dX2_takeBack_27 : decode cX2_takeBack 27 = .ok (.iconst 1, 1) := by decide +kernel
theorem dX2_takeBack_28 : decode cX2_takeBack 28 = .ok (.isub, 1) := by decide +kernel
theorem dX2_takeBack_29 : decode cX2_takeBack 29 = .ok (.bipush 16, 2) := by decide +kernel
theorem dX2_takeBack_31 : decode cX2_takeBack 31 = .ok (.irem, 1) := by decide +kernel
theorem dX2_takeBack_32 : decode cX2_takeBack 32 = .ok (.putfield 42, 3) := by decide +kernel
theorem dX2_takeBack_35 : decode cX2_takeBack 35 = .ok (.aload_n 0, 1) := by decide +kernel
theorem dX2_takeBack_36 : decode cX2_takeBack 36 = .ok (.getfield 17, 3) := by decide +kernel
theorem dX2_takeBack_39 : decode cX2_takeBack 39 = .ok (.aload_n 0, 1) := by decide +kernel
theorem dX2_takeBack_40 : decode cX2_takeBack 40 = .ok (.getfield 42, 3) := by decide +kernel
theorem dX2_takeBack_43 : decode cX2_takeBack 43 = .ok (.bipush 21, 2) := by decide +kernel
theorem dX2_takeBack_45 : decode cX2_takeBack 45 = .ok (.imul, 1) := by decide +kernel
theorem dX2_takeBack_46 : decode cX2_takeBack 46 = .ok (.aload_n 0, 1) := by decide +kernel
theorem dX2_takeBack_47 : decode cX2_takeBack 47 = .ok (.getfield 13, 3) := by decide +kernel
theorem dX2_takeBack_50 : decode cX2_takeBack 50 = .ok (.iconst 0, 1) := by decide +kernel
theorem dX2_takeBack_51 : decode cX2_takeBack 51 = .ok (.bipush 21, 2) := by decide +kernel
theorem dX2_takeBack_53 : decode cX2_takeBack 53 = .ok (.invokestatic 23, 3) := by decide +kernel
theorem dX2_takeBack_56 : decode cX2_takeBack 56 = .ok (.iconst 1, 1) := by decide +kernel
theorem dX2_takeBack_57 : decode cX2_takeBack 57 = .ok (.ireturn, 1) := by decide +kernel
abbrev rm_X2_takeBack : Room := { frames := 1, cells := 0, slots := 0, locals := 60 }
def f_X2_takeBack (h : Mem) (v0 : Nat) : Option (Int32 × Mem) :=
  (ck h v0 1).bind fun _ => (gI h v0 4 1).bind fun x1 => (if x1 = 0 then some (0, h) else (gI h v0 4 1).bind fun x2 => (pI h v0 4 1 (x2 - 1)).bind fun h3 => (gI h3 v0 3 1).bind fun x4 => (irm ((x4 + 16) - 1) 16).bind fun x5 => (pI h3 v0 3 1 x5).bind fun h6 => (gR h6 v0 1 1).bind fun r7 => (gI h6 v0 3 1).bind fun x8 => (gR h6 v0 0 1).bind fun r9 => (cpI h6 r7 (x8 * 21) r9 0 21).bind fun h10 => some (1, h10))
set_option maxRecDepth 100000 in
set_option maxHeartbeats 4000000 in
theorem w_X2_takeBack {G : GE} {X : CX} {l : Launch} (hX : Ok G X cX2_takeBack RX2) (hN : xn X = 1) {P : (Int32 × Mem) → Prop} (hr : Rt G X l yX2_takeBack (some .boolean) rm_X2_takeBack (pmI P)) (h : Mem) (v0 : Nat) (hy : OK (f_X2_takeBack h v0) P) : AW G X 0 [(0, vR v0)] [] h 0 0 := by
  unfold f_X2_takeBack at hy
  have hkd := hy.kd
  have hy := hy.kb
  refine aw_aloadn (pc := 0) hX 0 rfl dX2_takeBack_0 ?_
  refine aw_gI (pc := 1) hX hy fl_X2_29 (fun _ _ => rfl) dX2_takeBack_1 (fun x1 hy => ?_)
  refine aw_if_ne (pc := 4) hX 9 (by decide) dX2_takeBack_4 (fun hc9 => ?_) (fun hc9 => ?_)
  · have hy := hy.f hc9
    refine aw_aloadn (pc := 9) hX 0 rfl dX2_takeBack_9 ?_
    refine aw_dup (pc := 10) hX rfl dX2_takeBack_10 ?_
    refine aw_gI (pc := 11) hX hy fl_X2_29 (fun _ _ => rfl) dX2_takeBack_11 (fun x2 hy => ?_)
    refine aw_iconst (pc := 14) hX 1 (by decide) dX2_takeBack_14 ?_
    refine aw_isub (pc := 15) hX dX2_takeBack_15 ?_
    refine aw_pI (pc := 16) hX hy fl_X2_29 rfl (Or.inl rfl) dX2_takeBack_16 (fun h3 hy => ?_)
    refine aw_aloadn (pc := 19) hX 0 rfl dX2_takeBack_19 ?_
    refine aw_aloadn (pc := 20) hX 0 rfl dX2_takeBack_20 ?_
    refine aw_gI (pc := 21) hX hy fl_X2_42 (fun _ _ => rfl) dX2_takeBack_21 (fun x4 hy => ?_)
    refine aw_bipush (pc := 24) hX 16 (by decide) dX2_takeBack_24 ?_
    refine aw_iadd (pc := 26) hX dX2_takeBack_26 ?_
    refine aw_iconst (pc := 27) hX 1 (by decide) dX2_takeBack_27 ?_
    refine aw_isub (pc := 28) hX dX2_takeBack_28 ?_
    refine aw_bipush (pc := 29) hX 16 (by decide) dX2_takeBack_29 ?_
    refine aw_irem (pc := 31) hX hy dX2_takeBack_31 (fun x5 hy => ?_)
    refine aw_pI (pc := 32) hX hy fl_X2_42 rfl (Or.inl rfl) dX2_takeBack_32 (fun h6 hy => ?_)
    refine aw_aloadn (pc := 35) hX 0 rfl dX2_takeBack_35 ?_
    refine aw_gR (pc := 36) hX hy fl_X2_17 (fun _ _ => rfl) dX2_takeBack_36 (fun r7 hy => ?_)
    refine aw_aloadn (pc := 39) hX 0 rfl dX2_takeBack_39 ?_
    refine aw_gI (pc := 40) hX hy fl_X2_42 (fun _ _ => rfl) dX2_takeBack_40 (fun x8 hy => ?_)
    refine aw_bipush (pc := 43) hX 21 (by decide) dX2_takeBack_43 ?_
    refine aw_imul (pc := 45) hX dX2_takeBack_45 ?_
    refine aw_aloadn (pc := 46) hX 0 rfl dX2_takeBack_46 ?_
    refine aw_gR (pc := 47) hX hy fl_X2_13 (fun _ _ => rfl) dX2_takeBack_47 (fun r9 hy => ?_)
    refine aw_iconst (pc := 50) hX 0 (by decide) dX2_takeBack_50 ?_
    refine aw_bipush (pc := 51) hX 21 (by decide) dX2_takeBack_51 ?_
    refine aw_copy (pc := 53) hX hy ac_X2_23 (Nat.le_of_ble_eq_true rfl) (le_f hr (by decide)) (le_l hr (by decide)) dX2_takeBack_53 (fun h10 hy => ?_)
    refine aw_iconst (pc := 56) hX 1 (by decide) dX2_takeBack_56 ?_
    exact aw_zret (pc := 57) hX hr (by decide) (by decide) dX2_takeBack_57 (Or.inr rfl) ⟨_, rfl, hy.s⟩
  · have hy := hy.t hc9
    refine aw_iconst (pc := 7) hX 0 (by decide) dX2_takeBack_7 ?_
    exact aw_zret (pc := 8) hX hr (by decide) (by decide) dX2_takeBack_8 (Or.inl rfl) ⟨_, rfl, hy.s⟩
theorem con_X2_takeBack (l : Launch) (G : GE) (h : Mem) (v0 : Nat) {P : (Int32 × Mem) → Prop} (hy : OK (f_X2_takeBack h v0) P) : Con l G yX2_takeBack cX2_takeBack 1 (some .boolean) rm_X2_takeBack [vR v0] h (pmI P) := Con.of (by decide) (Nat.le_of_ble_eq_true rfl) (fun X hX hr hN => w_X2_takeBack hX hN hr h v0 hy)
/-! X2_addMark -/
theorem dX2_addMark_0 : decode cX2_addMark 0 = .ok (.aload_n 0, 1) := by decide +kernel
theorem dX2_addMark_1 : decode cX2_addMark 1 = .ok (.getfield 33, 3) := by decide +kernel
theorem dX2_addMark_4 : decode cX2_addMark 4 = .ok (.iconst 3, 1) := by decide +kernel
theorem dX2_addMark_5 : decode cX2_addMark 5 = .ok (.if_icmp .lt 5, 3) := by decide +kernel
theorem dX2_addMark_8 : decode cX2_addMark 8 = .ok (.iconst (-1), 1) := by decide +kernel
theorem dX2_addMark_9 : decode cX2_addMark 9 = .ok (.ireturn, 1) := by decide +kernel
theorem dX2_addMark_10 : decode cX2_addMark 10 = .ok (.aload_n 0, 1) := by decide +kernel
theorem dX2_addMark_11 : decode cX2_addMark 11 = .ok (.getfield 13, 3) := by decide +kernel
theorem dX2_addMark_14 : decode cX2_addMark 14 = .ok (.iconst 0, 1) := by decide +kernel
theorem dX2_addMark_15 : decode cX2_addMark 15 = .ok (.aload_n 0, 1) := by decide +kernel
theorem dX2_addMark_16 : decode cX2_addMark 16 = .ok (.getfield 20, 3) := by decide +kernel
theorem dX2_addMark_19 : decode cX2_addMark 19 = .ok (.aload_n 0, 1) := by decide +kernel
theorem dX2_addMark_20 : decode cX2_addMark 20 = .ok (.getfield 33, 3) := by decide +kernel
theorem dX2_addMark_23 : decode cX2_addMark 23 = .ok (.bipush 21, 2) := by decide +kernel
theorem dX2_addMark_25 : decode cX2_addMark 25 = .ok (.imul, 1) := by decide +kernel
theorem dX2_addMark_26 : decode cX2_addMark 26 = .ok (.bipush 21, 2) := by decide +kernel
theorem dX2_addMark_28 : decode cX2_addMark 28 = .ok (.invokestatic 23, 3) := by decide +kernel
theorem dX2_addMark_31 : decode cX2_addMark 31 = .ok (.aload_n 0, 1) := by decide +kernel
theorem dX2_addMark_32 : decode cX2_addMark 32 = .ok (.dup, 1) := by decide +kernel
theorem dX2_addMark_33 : decode cX2_addMark 33 = .ok (.getfield 33, 3) := by decide +kernel
theorem dX2_addMark_36 : decode cX2_addMark 36 = .ok (.iconst 1, 1) := by decide +kernel
theorem dX2_addMark_37 : decode cX2_addMark 37 = .ok (.iadd, 1) := by decide +kernel
theorem dX2_addMark_38 : decode cX2_addMark 38 = .ok (.putfield 33, 3) := by decide +kernel
theorem dX2_addMark_41 : decode cX2_addMark 41 = .ok (.aload_n 0, 1) := by decide +kernel
theorem dX2_addMark_42 : decode cX2_addMark 42 = .ok (.getfield 33, 3) := by decide +kernel
theorem dX2_addMark_45 : decode cX2_addMark 45 = .ok (.iconst 1, 1) := by decide +kernel
theorem dX2_addMark_46 : decode cX2_addMark 46 = .ok (.isub, 1) := by decide +kernel
theorem dX2_addMark_47 : decode cX2_addMark 47 = .ok (.ireturn, 1) := by decide +kernel
abbrev rm_X2_addMark : Room := { frames := 1, cells := 0, slots := 0, locals := 60 }
def f_X2_addMark (h : Mem) (v0 : Nat) : Option (Int32 × Mem) :=
  (ck h v0 1).bind fun _ => (gI h v0 5 1).bind fun x1 => (if x1 < 3 then (gR h v0 0 1).bind fun r2 => (gR h v0 2 1).bind fun r3 => (gI h v0 5 1).bind fun x4 => (cpI h r2 0 r3 (x4 * 21) 21).bind fun h5 => (gI h5 v0 5 1).bind fun x6 => (pI h5 v0 5 1 (x6 + 1)).bind fun h7 => (gI h7 v0 5 1).bind fun x8 => some ((x8 - 1), h7) else some ((-1), h))
set_option maxRecDepth 100000 in
set_option maxHeartbeats 4000000 in
theorem w_X2_addMark {G : GE} {X : CX} {l : Launch} (hX : Ok G X cX2_addMark RX2) (hN : xn X = 1) {P : (Int32 × Mem) → Prop} (hr : Rt G X l yX2_addMark (some .int) rm_X2_addMark (pmI P)) (h : Mem) (v0 : Nat) (hy : OK (f_X2_addMark h v0) P) : AW G X 0 [(0, vR v0)] [] h 0 0 := by
  unfold f_X2_addMark at hy
  have hkd := hy.kd
  have hy := hy.kb
  refine aw_aloadn (pc := 0) hX 0 rfl dX2_addMark_0 ?_
  refine aw_gI (pc := 1) hX hy fl_X2_33 (fun _ _ => rfl) dX2_addMark_1 (fun x1 hy => ?_)
  refine aw_iconst (pc := 4) hX 3 (by decide) dX2_addMark_4 ?_
  refine aw_ic_lt (pc := 5) hX 10 (by decide) dX2_addMark_5 (fun hc9 => ?_) (fun hc9 => ?_)
  · have hy := hy.t hc9
    refine aw_aloadn (pc := 10) hX 0 rfl dX2_addMark_10 ?_
    refine aw_gR (pc := 11) hX hy fl_X2_13 (fun _ _ => rfl) dX2_addMark_11 (fun r2 hy => ?_)
    refine aw_iconst (pc := 14) hX 0 (by decide) dX2_addMark_14 ?_
    refine aw_aloadn (pc := 15) hX 0 rfl dX2_addMark_15 ?_
    refine aw_gR (pc := 16) hX hy fl_X2_20 (fun _ _ => rfl) dX2_addMark_16 (fun r3 hy => ?_)
    refine aw_aloadn (pc := 19) hX 0 rfl dX2_addMark_19 ?_
    refine aw_gI (pc := 20) hX hy fl_X2_33 (fun _ _ => rfl) dX2_addMark_20 (fun x4 hy => ?_)
    refine aw_bipush (pc := 23) hX 21 (by decide) dX2_addMark_23 ?_
    refine aw_imul (pc := 25) hX dX2_addMark_25 ?_
    refine aw_bipush (pc := 26) hX 21 (by decide) dX2_addMark_26 ?_
    refine aw_copy (pc := 28) hX hy ac_X2_23 (Nat.le_of_ble_eq_true rfl) (le_f hr (by decide)) (le_l hr (by decide)) dX2_addMark_28 (fun h5 hy => ?_)
    refine aw_aloadn (pc := 31) hX 0 rfl dX2_addMark_31 ?_
    refine aw_dup (pc := 32) hX rfl dX2_addMark_32 ?_
    refine aw_gI (pc := 33) hX hy fl_X2_33 (fun _ _ => rfl) dX2_addMark_33 (fun x6 hy => ?_)
    refine aw_iconst (pc := 36) hX 1 (by decide) dX2_addMark_36 ?_
    refine aw_iadd (pc := 37) hX dX2_addMark_37 ?_
    refine aw_pI (pc := 38) hX hy fl_X2_33 rfl (Or.inl rfl) dX2_addMark_38 (fun h7 hy => ?_)
    refine aw_aloadn (pc := 41) hX 0 rfl dX2_addMark_41 ?_
    refine aw_gI (pc := 42) hX hy fl_X2_33 (fun _ _ => rfl) dX2_addMark_42 (fun x8 hy => ?_)
    refine aw_iconst (pc := 45) hX 1 (by decide) dX2_addMark_45 ?_
    refine aw_isub (pc := 46) hX dX2_addMark_46 ?_
    exact aw_iret (pc := 47) hX hr (by decide) (by decide) dX2_addMark_47 ⟨_, rfl, hy.s⟩
  · have hy := hy.f hc9
    refine aw_iconst (pc := 8) hX (-1) (by decide) dX2_addMark_8 ?_
    exact aw_iret (pc := 9) hX hr (by decide) (by decide) dX2_addMark_9 ⟨_, rfl, hy.s⟩
theorem con_X2_addMark (l : Launch) (G : GE) (h : Mem) (v0 : Nat) {P : (Int32 × Mem) → Prop} (hy : OK (f_X2_addMark h v0) P) : Con l G yX2_addMark cX2_addMark 1 (some .int) rm_X2_addMark [vR v0] h (pmI P) := Con.of (by decide) (Nat.le_of_ble_eq_true rfl) (fun X hX hr hN => w_X2_addMark hX hN hr h v0 hy)
/-! X2_returnTo -/
theorem dX2_returnTo_0 : decode cX2_returnTo 0 = .ok (.iload_n 1, 1) := by decide +kernel
theorem dX2_returnTo_1 : decode cX2_returnTo 1 = .ok (.ifCond .lt 11, 3) := by decide +kernel
theorem dX2_returnTo_4 : decode cX2_returnTo 4 = .ok (.iload_n 1, 1) := by decide +kernel
theorem dX2_returnTo_5 : decode cX2_returnTo 5 = .ok (.aload_n 0, 1) := by decide +kernel
theorem dX2_returnTo_6 : decode cX2_returnTo 6 = .ok (.getfield 33, 3) := by decide +kernel
theorem dX2_returnTo_9 : decode cX2_returnTo 9 = .ok (.if_icmp .lt 5, 3) := by decide +kernel
theorem dX2_returnTo_12 : decode cX2_returnTo 12 = .ok (.iconst 0, 1) := by decide +kernel
theorem dX2_returnTo_13 : decode cX2_returnTo 13 = .ok (.ireturn, 1) := by decide +kernel
theorem dX2_returnTo_14 : decode cX2_returnTo 14 = .ok (.aload_n 0, 1) := by decide +kernel
theorem dX2_returnTo_15 : decode cX2_returnTo 15 = .ok (.getfield 20, 3) := by decide +kernel
theorem dX2_returnTo_18 : decode cX2_returnTo 18 = .ok (.iload_n 1, 1) := by decide +kernel
theorem dX2_returnTo_19 : decode cX2_returnTo 19 = .ok (.bipush 21, 2) := by decide +kernel
theorem dX2_returnTo_21 : decode cX2_returnTo 21 = .ok (.imul, 1) := by decide +kernel
theorem dX2_returnTo_22 : decode cX2_returnTo 22 = .ok (.aload_n 0, 1) := by decide +kernel
theorem dX2_returnTo_23 : decode cX2_returnTo 23 = .ok (.getfield 13, 3) := by decide +kernel
theorem dX2_returnTo_26 : decode cX2_returnTo 26 = .ok (.iconst 0, 1) := by decide +kernel
theorem dX2_returnTo_27 : decode cX2_returnTo 27 = .ok (.bipush 21, 2) := by decide +kernel
theorem dX2_returnTo_29 : decode cX2_returnTo 29 = .ok (.invokestatic 23, 3) := by decide +kernel
theorem dX2_returnTo_32 : decode cX2_returnTo 32 = .ok (.aload_n 0, 1) := by decide +kernel
theorem dX2_returnTo_33 : decode cX2_returnTo 33 = .ok (.iconst 0, 1) := by decide +kernel
theorem dX2_returnTo_34 : decode cX2_returnTo 34 = .ok (.putfield 29, 3) := by decide +kernel
theorem dX2_returnTo_37 : decode cX2_returnTo 37 = .ok (.iconst 1, 1) := by decide +kernel
theorem dX2_returnTo_38 : decode cX2_returnTo 38 = .ok (.ireturn, 1) := by decide +kernel
abbrev rm_X2_returnTo : Room := { frames := 1, cells := 0, slots := 0, locals := 60 }
def f_X2_returnTo (h : Mem) (v0 : Nat) (v1 : Int32) : Option (Int32 × Mem) :=
  (ck h v0 1).bind fun _ => (if v1 < 0 then some (0, h) else (gI h v0 5 1).bind fun x1 => (if v1 < x1 then (gR h v0 2 1).bind fun r2 => (gR h v0 0 1).bind fun r3 => (cpI h r2 (v1 * 21) r3 0 21).bind fun h4 => (pI h4 v0 4 1 0).bind fun h5 => some (1, h5) else some (0, h)))
set_option maxRecDepth 100000 in
set_option maxHeartbeats 4000000 in
theorem w_X2_returnTo {G : GE} {X : CX} {l : Launch} (hX : Ok G X cX2_returnTo RX2) (hN : xn X = 2) {P : (Int32 × Mem) → Prop} (hr : Rt G X l yX2_returnTo (some .boolean) rm_X2_returnTo (pmI P)) (h : Mem) (v0 : Nat) (v1 : Int32) (hy : OK (f_X2_returnTo h v0 v1) P) : AW G X 0 [(0, vR v0), (1, vI v1)] [] h 0 0 := by
  unfold f_X2_returnTo at hy
  have hkd := hy.kd
  have hy := hy.kb
  refine aw_iloadn (pc := 0) hX 1 rfl dX2_returnTo_0 ?_
  refine aw_if_lt (pc := 1) hX 12 (by decide) dX2_returnTo_1 (fun hc9 => ?_) (fun hc9 => ?_)
  · have hy := hy.t hc9
    refine aw_iconst (pc := 12) hX 0 (by decide) dX2_returnTo_12 ?_
    exact aw_zret (pc := 13) hX hr (by decide) (by decide) dX2_returnTo_13 (Or.inl rfl) ⟨_, rfl, hy.s⟩
  · have hy := hy.f hc9
    refine aw_iloadn (pc := 4) hX 1 rfl dX2_returnTo_4 ?_
    refine aw_aloadn (pc := 5) hX 0 rfl dX2_returnTo_5 ?_
    refine aw_gI (pc := 6) hX hy fl_X2_33 (fun _ _ => rfl) dX2_returnTo_6 (fun x1 hy => ?_)
    refine aw_ic_lt (pc := 9) hX 14 (by decide) dX2_returnTo_9 (fun hc9 => ?_) (fun hc9 => ?_)
    · have hy := hy.t hc9
      refine aw_aloadn (pc := 14) hX 0 rfl dX2_returnTo_14 ?_
      refine aw_gR (pc := 15) hX hy fl_X2_20 (fun _ _ => rfl) dX2_returnTo_15 (fun r2 hy => ?_)
      refine aw_iloadn (pc := 18) hX 1 rfl dX2_returnTo_18 ?_
      refine aw_bipush (pc := 19) hX 21 (by decide) dX2_returnTo_19 ?_
      refine aw_imul (pc := 21) hX dX2_returnTo_21 ?_
      refine aw_aloadn (pc := 22) hX 0 rfl dX2_returnTo_22 ?_
      refine aw_gR (pc := 23) hX hy fl_X2_13 (fun _ _ => rfl) dX2_returnTo_23 (fun r3 hy => ?_)
      refine aw_iconst (pc := 26) hX 0 (by decide) dX2_returnTo_26 ?_
      refine aw_bipush (pc := 27) hX 21 (by decide) dX2_returnTo_27 ?_
      refine aw_copy (pc := 29) hX hy ac_X2_23 (Nat.le_of_ble_eq_true rfl) (le_f hr (by decide)) (le_l hr (by decide)) dX2_returnTo_29 (fun h4 hy => ?_)
      refine aw_aloadn (pc := 32) hX 0 rfl dX2_returnTo_32 ?_
      refine aw_iconst (pc := 33) hX 0 (by decide) dX2_returnTo_33 ?_
      refine aw_pI (pc := 34) hX hy fl_X2_29 rfl (Or.inl rfl) dX2_returnTo_34 (fun h5 hy => ?_)
      refine aw_iconst (pc := 37) hX 1 (by decide) dX2_returnTo_37 ?_
      exact aw_zret (pc := 38) hX hr (by decide) (by decide) dX2_returnTo_38 (Or.inr rfl) ⟨_, rfl, hy.s⟩
    · have hy := hy.f hc9
      refine aw_iconst (pc := 12) hX 0 (by decide) dX2_returnTo_12 ?_
      exact aw_zret (pc := 13) hX hr (by decide) (by decide) dX2_returnTo_13 (Or.inl rfl) ⟨_, rfl, hy.s⟩
theorem con_X2_returnTo (l : Launch) (G : GE) (h : Mem) (v0 : Nat) (v1 : Int32) {P : (Int32 × Mem) → Prop} (hy : OK (f_X2_returnTo h v0 v1) P) : Con l G yX2_returnTo cX2_returnTo 2 (some .boolean) rm_X2_returnTo [vR v0, vI v1] h (pmI P) := Con.of (by decide) (Nat.le_of_ble_eq_true rfl) (fun X hX hr hN => w_X2_returnTo hX hN hr h v0 v1 hy)
/-! X3_init -/
theorem dX3_init_0 : decode cX3_init 0 = .ok (.aload_n 0, 1) := by decide +kernel
theorem dX3_init_1 : decode cX3_init 1 = .ok (.invokespecial 3, 3) := by decide +kernel
theorem dX3_init_4 : decode cX3_init 4 = .ok (.aload_n 0, 1) := by decide +kernel
theorem dX3_init_5 : decode cX3_init 5 = .ok (.bipush 64, 2) := by decide +kernel
theorem dX3_init_7 : decode cX3_init 7 = .ok (.newarray .int, 2) := by decide +kernel
theorem dX3_init_9 : decode cX3_init 9 = .ok (.putfield 11, 3) := by decide +kernel
theorem dX3_init_12 : decode cX3_init 12 = .ok (.aload_n 0, 1) := by decide +kernel
theorem dX3_init_13 : decode cX3_init 13 = .ok (.bipush 6, 2) := by decide +kernel
theorem dX3_init_15 : decode cX3_init 15 = .ok (.newarray .int, 2) := by decide +kernel
theorem dX3_init_17 : decode cX3_init 17 = .ok (.putfield 17, 3) := by decide +kernel
theorem dX3_init_20 : decode cX3_init 20 = .ok (.aload_n 0, 1) := by decide +kernel
theorem dX3_init_21 : decode cX3_init 21 = .ok (.bipush 6, 2) := by decide +kernel
theorem dX3_init_23 : decode cX3_init 23 = .ok (.newarray .int, 2) := by decide +kernel
theorem dX3_init_25 : decode cX3_init 25 = .ok (.putfield 20, 3) := by decide +kernel
theorem dX3_init_28 : decode cX3_init 28 = .ok (.return_, 1) := by decide +kernel
abbrev rm_X3_init : Room := { frames := 1, cells := 3, slots := 76, locals := 20 }
def f_X3_init (h : Mem) (v0 : Nat) : Option Mem :=
  (ck h v0 2).bind fun _ => (pR (mNew h 100 64) v0 0 2 (mN h)).bind fun h1 => (pR (mNew h1 100 6) v0 1 2 (mN h1)).bind fun h2 => (pR (mNew h2 100 6) v0 2 2 (mN h2)).bind fun h3 => some h3
set_option maxRecDepth 100000 in
set_option maxHeartbeats 4000000 in
theorem w_X3_init {G : GE} {X : CX} {l : Launch} (hX : Ok G X cX3_init RX3) (hN : xn X = 1) {P : Mem → Prop} (hr : Rt G X l yX3_init none rm_X3_init (pmV P)) (h : Mem) (v0 : Nat) (hy : OK (f_X3_init h v0) P) : AW G X 0 [(0, vR v0)] [] h 0 0 := by
  unfold f_X3_init at hy
  have hkd := hy.kd
  have hy := hy.kb
  refine aw_aloadn (pc := 0) hX 0 rfl dX3_init_0 ?_
  refine aw_objInit0 (pc := 1) hX hkd oi_X3_3 oi_i oi_c (by decide) (Nat.le_of_ble_eq_true rfl) (le_f hr (by decide)) (le_l hr (by decide)) dX3_init_1 ?_
  refine aw_aloadn (pc := 4) hX 0 rfl dX3_init_4 ?_
  refine aw_bipush (pc := 5) hX 64 (by decide) dX3_init_5 ?_
  refine aw_newi (pc := 7) hX 64 64 (by decide) (by decide) (by decide) ar_int (le_c hr (by decide)) (le_s hr (by decide)) dX3_init_7 ?_
  refine AW.eqa (ce' := 1) (sl' := 64) rfl rfl ?_
  refine aw_pR (pc := 9) hX hy fl_X3_11 rfl (Or.inr ⟨rfl, hr.2.2.2.1, rfl, fw_X3_11⟩) dX3_init_9 (fun h1 hy => ?_)
  refine aw_aloadn (pc := 12) hX 0 rfl dX3_init_12 ?_
  refine aw_bipush (pc := 13) hX 6 (by decide) dX3_init_13 ?_
  refine aw_newi (pc := 15) hX 6 6 (by decide) (by decide) (by decide) ar_int (le_c hr (by decide)) (le_s hr (by decide)) dX3_init_15 ?_
  refine AW.eqa (ce' := 2) (sl' := 70) rfl rfl ?_
  refine aw_pR (pc := 17) hX hy fl_X3_17 rfl (Or.inr ⟨rfl, hr.2.2.2.1, rfl, fw_X3_17⟩) dX3_init_17 (fun h2 hy => ?_)
  refine aw_aloadn (pc := 20) hX 0 rfl dX3_init_20 ?_
  refine aw_bipush (pc := 21) hX 6 (by decide) dX3_init_21 ?_
  refine aw_newi (pc := 23) hX 6 6 (by decide) (by decide) (by decide) ar_int (le_c hr (by decide)) (le_s hr (by decide)) dX3_init_23 ?_
  refine AW.eqa (ce' := 3) (sl' := 76) rfl rfl ?_
  refine aw_pR (pc := 25) hX hy fl_X3_20 rfl (Or.inr ⟨rfl, hr.2.2.2.1, rfl, fw_X3_20⟩) dX3_init_25 (fun h3 hy => ?_)
  exact aw_vret (pc := 28) hX hr (by decide) (by decide) dX3_init_28 ⟨rfl, hy.s⟩
theorem con_X3_init (l : Launch) (G : GE) (h : Mem) (v0 : Nat) {P : Mem → Prop} (hy : OK (f_X3_init h v0) P) : Con l G yX3_init cX3_init 1 none rm_X3_init [vR v0] h (pmV P) := Con.of (by decide) (Nat.le_of_ble_eq_true rfl) (fun X hX hr hN => w_X3_init hX hN hr h v0 hy)
/-! X3_alikeNotes -/
theorem dX3_alikeNotes_0 : decode cX3_alikeNotes 0 = .ok (.iconst 0, 1) := by decide +kernel
theorem dX3_alikeNotes_1 : decode cX3_alikeNotes 1 = .ok (.istore_n 3, 1) := by decide +kernel
theorem dX3_alikeNotes_2 : decode cX3_alikeNotes 2 = .ok (.iconst 0, 1) := by decide +kernel
theorem dX3_alikeNotes_3 : decode cX3_alikeNotes 3 = .ok (.istore 4, 2) := by decide +kernel
theorem dX3_alikeNotes_5 : decode cX3_alikeNotes 5 = .ok (.iload 4, 2) := by decide +kernel
theorem dX3_alikeNotes_7 : decode cX3_alikeNotes 7 = .ok (.aload_n 0, 1) := by decide +kernel
theorem dX3_alikeNotes_8 : decode cX3_alikeNotes 8 = .ok (.getfield 23, 3) := by decide +kernel
theorem dX3_alikeNotes_11 : decode cX3_alikeNotes 11 = .ok (.iload_n 1, 1) := by decide +kernel
theorem dX3_alikeNotes_12 : decode cX3_alikeNotes 12 = .ok (.iaload, 1) := by decide +kernel
theorem dX3_alikeNotes_13 : decode cX3_alikeNotes 13 = .ok (.if_icmp .ge 29, 3) := by decide +kernel
theorem dX3_alikeNotes_16 : decode cX3_alikeNotes 16 = .ok (.aload_n 0, 1) := by decide +kernel
theorem dX3_alikeNotes_17 : decode cX3_alikeNotes 17 = .ok (.iload_n 1, 1) := by decide +kernel
theorem dX3_alikeNotes_18 : decode cX3_alikeNotes 18 = .ok (.iload 4, 2) := by decide +kernel
theorem dX3_alikeNotes_20 : decode cX3_alikeNotes 20 = .ok (.invokevirtual 34, 3) := by decide +kernel
theorem dX3_alikeNotes_23 : decode cX3_alikeNotes 23 = .ok (.aload_n 0, 1) := by decide +kernel
theorem dX3_alikeNotes_24 : decode cX3_alikeNotes 24 = .ok (.iload_n 2, 1) := by decide +kernel
theorem dX3_alikeNotes_25 : decode cX3_alikeNotes 25 = .ok (.iload 4, 2) := by decide +kernel
theorem dX3_alikeNotes_27 : decode cX3_alikeNotes 27 = .ok (.invokevirtual 34, 3) := by decide +kernel
theorem dX3_alikeNotes_30 : decode cX3_alikeNotes 30 = .ok (.if_icmp .ne 6, 3) := by decide +kernel
theorem dX3_alikeNotes_33 : decode cX3_alikeNotes 33 = .ok (.iinc 3 1, 3) := by decide +kernel
theorem dX3_alikeNotes_36 : decode cX3_alikeNotes 36 = .ok (.iinc 4 1, 3) := by decide +kernel
theorem dX3_alikeNotes_39 : decode cX3_alikeNotes 39 = .ok (.goto (-34), 3) := by decide +kernel
theorem dX3_alikeNotes_42 : decode cX3_alikeNotes 42 = .ok (.iload_n 3, 1) := by decide +kernel
theorem dX3_alikeNotes_43 : decode cX3_alikeNotes 43 = .ok (.ireturn, 1) := by decide +kernel
abbrev rm_X3_alikeNotes : Room := { frames := 1, cells := 0, slots := 0, locals := 22 }
def f_X3_alikeNotes_36 (h : Mem) (v0 : Nat) (v1 : Int32) (v2 : Int32) (v3 : Int32) (v4 : Int32) : Option ((Int32 × Int32) ⊕ Int32) :=
  some (.inl (v3, (v4 + 1)))
set_option maxRecDepth 100000 in
set_option maxHeartbeats 4000000 in
theorem w_X3_alikeNotes_36 {G : GE} {X : CX} {l : Launch} (hX : Ok G X cX3_alikeNotes RX3) (hN : xn X = 5) (h : Mem) {P0 : Int32 → Prop} (hr : Rt G X l yX3_alikeNotes (some .int) rm_X3_alikeNotes (ppI h P0))  (v0 : Nat) (v1 : Int32) (v2 : Int32) {P : ((Int32 × Int32) ⊕ Int32) → Prop} (hc : ∀ s, P (.inl s) → AW G X 5 [(0, vR v0), (1, vI v1), (2, vI v2), (3, vI s.1), (4, vI s.2)] [] h 0 0) (he0 : ∀ e, P (.inr e) → AW G X 42 [(3, vI e)] [] h 0 0) (v3 : Int32) (v4 : Int32) (hy : OK (f_X3_alikeNotes_36 h v0 v1 v2 v3 v4) P) : AW G X 36 [(0, vR v0), (1, vI v1), (2, vI v2), (3, vI v3), (4, vI v4)] [] h 0 0 := by
  unfold f_X3_alikeNotes_36 at hy
  refine aw_iinc (pc := 36) hX 1 (by decide) 4 rfl [(4, vI (v4 + 1)), (0, vR v0), (1, vI v1), (2, vI v2), (3, vI v3)] rfl (lt_n hN (by decide)) dX3_alikeNotes_36 ?_
  refine aw_goto (pc := 39) hX 5 (by decide) dX3_alikeNotes_39 ?_
  refine AW.sub [1, 2, 3, 4, 0] rfl ?_
  exact hc (v3, (v4 + 1)) hy.s
def b_X3_alikeNotes_5 (h : Mem) (v0 : Nat) (v1 : Int32) (v2 : Int32) (v3 : Int32) (v4 : Int32) : Option ((Int32 × Int32) ⊕ Int32) :=
  (gR h v0 9 4).bind fun r1 => (aI h r1 v1).bind fun x2 => (if x2 ≤ v4 then some (.inr v3) else (f_X5_note h v0 v1 v4).bind fun x3 => (f_X5_note h v0 v2 v4).bind fun x4 => (if x3 = x4 then f_X3_alikeNotes_36 h v0 v1 v2 (v3 + 1) v4 else f_X3_alikeNotes_36 h v0 v1 v2 v3 v4))
set_option maxRecDepth 100000 in
set_option maxHeartbeats 4000000 in
theorem wb_X3_alikeNotes_5 {G : GE} {X : CX} {l : Launch} (hX : Ok G X cX3_alikeNotes RX3) (hN : xn X = 5) (h : Mem) {P0 : Int32 → Prop} (hr : Rt G X l yX3_alikeNotes (some .int) rm_X3_alikeNotes (ppI h P0))  (v0 : Nat) (v1 : Int32) (v2 : Int32) {P : ((Int32 × Int32) ⊕ Int32) → Prop} (hc : ∀ s, P (.inl s) → AW G X 5 [(0, vR v0), (1, vI v1), (2, vI v2), (3, vI s.1), (4, vI s.2)] [] h 0 0) (he0 : ∀ e, P (.inr e) → AW G X 42 [(3, vI e)] [] h 0 0) (v3 : Int32) (v4 : Int32) (hy : OK (b_X3_alikeNotes_5 h v0 v1 v2 v3 v4) P) : AW G X 5 [(0, vR v0), (1, vI v1), (2, vI v2), (3, vI v3), (4, vI v4)] [] h 0 0 := by
  unfold b_X3_alikeNotes_5 at hy
  refine aw_iload (pc := 5) hX 4 rfl dX3_alikeNotes_5 ?_
  refine aw_aloadn (pc := 7) hX 0 rfl dX3_alikeNotes_7 ?_
  refine aw_gR (pc := 8) hX hy fl_X3_23 (fun _ _ => rfl) dX3_alikeNotes_8 (fun r1 hy => ?_)
  refine aw_iloadn (pc := 11) hX 1 rfl dX3_alikeNotes_11 ?_
  refine aw_aI (pc := 12) hX hy dX3_alikeNotes_12 (fun x2 hy => ?_)
  refine aw_ic_ge (pc := 13) hX 42 (by decide) dX3_alikeNotes_13 (fun hc9 => ?_) (fun hc9 => ?_)
  · have hy := hy.t hc9
    refine AW.sub [3] rfl ?_
    exact he0 v3 hy.s
  · have hy := hy.f hc9
    refine aw_aloadn (pc := 16) hX 0 rfl dX3_alikeNotes_16 ?_
    refine aw_iloadn (pc := 17) hX 1 rfl dX3_alikeNotes_17 ?_
    refine aw_iload (pc := 18) hX 4 rfl dX3_alikeNotes_18 ?_
    refine aw_callV (pc := 20) (st := []) (a := v0) hX [vI v1, vI v4] (con_X5_note _ G _ v0 v1 v4 hy.bd) mc_X5_note ml_X3_34 im_X5_note se_X5_note (by decide) hy.bd.kd rfl (rm_of hr (by decide)) (Nat.le_of_ble_eq_true rfl) rfl dX3_alikeNotes_20 (kpI rfl rfl (fun x3 hy => ?_))
    refine aw_aloadn (pc := 23) hX 0 rfl dX3_alikeNotes_23 ?_
    refine aw_iloadn (pc := 24) hX 2 rfl dX3_alikeNotes_24 ?_
    refine aw_iload (pc := 25) hX 4 rfl dX3_alikeNotes_25 ?_
    refine aw_callV (pc := 27) (st := [vI x3]) (a := v0) hX [vI v2, vI v4] (con_X5_note _ G _ v0 v2 v4 hy.bd) mc_X5_note ml_X3_34 im_X5_note se_X5_note (by decide) hy.bd.kd rfl (rm_of hr (by decide)) (Nat.le_of_ble_eq_true rfl) rfl dX3_alikeNotes_27 (kpI rfl rfl (fun x4 hy => ?_))
    refine aw_ic_ne (pc := 30) hX 36 (by decide) dX3_alikeNotes_30 (fun hc9 => ?_) (fun hc9 => ?_)
    · have hy := hy.f hc9
      exact w_X3_alikeNotes_36 hX hN _ hr _ _ _ hc he0 v3 v4 hy
    · have hy := hy.t hc9
      refine aw_iinc (pc := 33) hX 1 (by decide) 3 rfl [(3, vI (v3 + 1)), (0, vR v0), (1, vI v1), (2, vI v2), (4, vI v4)] rfl (lt_n hN (by decide)) dX3_alikeNotes_33 ?_
      refine AW.sub [1, 2, 3, 0, 4] rfl ?_
      exact w_X3_alikeNotes_36 hX hN _ hr _ _ _ hc he0 (v3 + 1) v4 hy
theorem wl_X3_alikeNotes_5 {G : GE} {X : CX} {l : Launch} (hX : Ok G X cX3_alikeNotes RX3) (hN : xn X = 5) (h : Mem) {P0 : Int32 → Prop} (hr : Rt G X l yX3_alikeNotes (some .int) rm_X3_alikeNotes (ppI h P0)) (v0 : Nat) (v1 : Int32) (v2 : Int32) {P : (Int32) → Prop} (he0 : ∀ e, P e → AW G X 42 [(3, vI e)] [] h 0 0) : ∀ (n : Nat) (s : Int32 × Int32), OK (iter (fun (s : Int32 × Int32) => b_X3_alikeNotes_5 h v0 v1 v2 s.1 s.2) n s) P → AW G X 5 [(0, vR v0), (1, vI v1), (2, vI v2), (3, vI s.1), (4, vI s.2)] [] h 0 0 := by
  intro n
  induction n with
  | zero => exact fun s hy => hy.it0.elim
  | succ n ih =>
    intro s hy
    exact wb_X3_alikeNotes_5 hX hN h hr v0 v1 v2 (fun s hs => ih s hs) (fun e hs => he0 e hs) s.1 s.2 hy.it
def f_X3_alikeNotes (h : Mem) (v0 : Nat) (v1 : Int32) (v2 : Int32) : Option Int32 :=
  (iter (fun (s : Int32 × Int32) => b_X3_alikeNotes_5 h v0 v1 v2 s.1 s.2) FU (0, 0)).bind (fun q5 => some q5)
set_option maxRecDepth 100000 in
set_option maxHeartbeats 4000000 in
theorem w_X3_alikeNotes {G : GE} {X : CX} {l : Launch} (hX : Ok G X cX3_alikeNotes RX3) (hN : xn X = 5) (h : Mem) {P : Int32 → Prop} (hr : Rt G X l yX3_alikeNotes (some .int) rm_X3_alikeNotes (ppI h P)) (v0 : Nat) (v1 : Int32) (v2 : Int32) (hy : OK (f_X3_alikeNotes h v0 v1 v2) P) : AW G X 0 [(0, vR v0), (1, vI v1), (2, vI v2)] [] h 0 0 := by
  unfold f_X3_alikeNotes at hy
  refine aw_iconst (pc := 0) hX 0 (by decide) dX3_alikeNotes_0 ?_
  refine aw_istoren (pc := 1) hX [(3, vI 0), (0, vR v0), (1, vI v1), (2, vI v2)] rfl (lt_n hN (by decide)) dX3_alikeNotes_1 ?_
  refine aw_iconst (pc := 2) hX 0 (by decide) dX3_alikeNotes_2 ?_
  refine aw_istore (pc := 3) hX [(4, vI 0), (3, vI 0), (0, vR v0), (1, vI v1), (2, vI v2)] rfl (lt_n hN (by decide)) dX3_alikeNotes_3 ?_
  refine AW.sub [2, 3, 4, 1, 0] rfl ?_
  refine wl_X3_alikeNotes_5 hX hN _ hr v0 v1 v2 ?_ FU (0, 0) hy.bd
  · intro q5 hy
    refine aw_iloadn (pc := 42) hX 0 rfl dX3_alikeNotes_42 ?_
    exact aw_iret (pc := 43) hX hr (by decide) (by decide) dX3_alikeNotes_43 ⟨rfl, _, rfl, hy.s⟩
theorem con_X3_alikeNotes (l : Launch) (G : GE) (h : Mem) (v0 : Nat) (v1 : Int32) (v2 : Int32) {P : Int32 → Prop} (hy : OK (f_X3_alikeNotes h v0 v1 v2) P) : Con l G yX3_alikeNotes cX3_alikeNotes 5 (some .int) rm_X3_alikeNotes [vR v0, vI v1, vI v2] h (ppI h P) := Con.of (by decide) (Nat.le_of_ble_eq_true rfl) (fun X hX hr hN => w_X3_alikeNotes hX hN h hr v0 v1 v2 hy)
/-! X3_goTogether -/
theorem dX3_goTogether_0 : decode cX3_goTogether 0 = .ok (.aload_n 0, 1) := by decide +kernel
theorem dX3_goTogether_1 : decode cX3_goTogether 1 = .ok (.getfield 23, 3) := by decide +kernel
theorem dX3_goTogether_4 : decode cX3_goTogether 4 = .ok (.iload_n 1, 1) := by decide +kernel
theorem dX3_goTogether_5 : decode cX3_goTogether 5 = .ok (.iaload, 1) := by decide +kernel
theorem dX3_goTogether_6 : decode cX3_goTogether 6 = .ok (.aload_n 0, 1) := by decide +kernel
theorem dX3_goTogether_7 : decode cX3_goTogether 7 = .ok (.getfield 23, 3) := by decide +kernel
theorem dX3_goTogether_10 : decode cX3_goTogether 10 = .ok (.iload_n 2, 1) := by decide +kernel
theorem dX3_goTogether_11 : decode cX3_goTogether 11 = .ok (.iaload, 1) := by decide +kernel
theorem dX3_goTogether_12 : decode cX3_goTogether 12 = .ok (.if_icmp .ne 16, 3) := by decide +kernel
theorem dX3_goTogether_15 : decode cX3_goTogether 15 = .ok (.aload_n 0, 1) := by decide +kernel
theorem dX3_goTogether_16 : decode cX3_goTogether 16 = .ok (.iload_n 1, 1) := by decide +kernel
theorem dX3_goTogether_17 : decode cX3_goTogether 17 = .ok (.iload_n 2, 1) := by decide +kernel
theorem dX3_goTogether_18 : decode cX3_goTogether 18 = .ok (.invokestatic 26, 3) := by decide +kernel
theorem dX3_goTogether_21 : decode cX3_goTogether 21 = .ok (.ifCond .ne 7, 3) := by decide +kernel
theorem dX3_goTogether_24 : decode cX3_goTogether 24 = .ok (.iconst 1, 1) := by decide +kernel
theorem dX3_goTogether_25 : decode cX3_goTogether 25 = .ok (.goto 4, 3) := by decide +kernel
theorem dX3_goTogether_28 : decode cX3_goTogether 28 = .ok (.iconst 0, 1) := by decide +kernel
theorem dX3_goTogether_29 : decode cX3_goTogether 29 = .ok (.ireturn, 1) := by decide +kernel
abbrev rm_X3_goTogether : Room := { frames := 2, cells := 0, slots := 0, locals := 46 }
def f_X3_goTogether_28 (h : Mem) : Option Int32 :=
  some 0
set_option maxRecDepth 100000 in
set_option maxHeartbeats 4000000 in
theorem w_X3_goTogether_28 {G : GE} {X : CX} {l : Launch} (hX : Ok G X cX3_goTogether RX3) (hN : xn X = 3) (h : Mem) {P : Int32 → Prop} (hr : Rt G X l yX3_goTogether (some .boolean) rm_X3_goTogether (ppI h P)) (hy : OK (f_X3_goTogether_28 h) P) : AW G X 28 [] [] h 0 0 := by
  unfold f_X3_goTogether_28 at hy
  refine aw_iconst (pc := 28) hX 0 (by decide) dX3_goTogether_28 ?_
  exact aw_zret (pc := 29) hX hr (by decide) (by decide) dX3_goTogether_29 (Or.inl rfl) ⟨rfl, _, rfl, hy.s⟩
def f_X3_goTogether (h : Mem) (v0 : Nat) (v1 : Int32) (v2 : Int32) : Option Int32 :=
  (gR h v0 9 4).bind fun r1 => (aI h r1 v1).bind fun x2 => (gR h v0 9 4).bind fun r3 => (aI h r3 v2).bind fun x4 => (if x2 = x4 then (f_X3_alikeNotes h v0 v1 v2).bind fun x5 => (if x5 = 0 then some 1 else f_X3_goTogether_28 h) else f_X3_goTogether_28 h)
set_option maxRecDepth 100000 in
set_option maxHeartbeats 4000000 in
theorem w_X3_goTogether {G : GE} {X : CX} {l : Launch} (hX : Ok G X cX3_goTogether RX3) (hN : xn X = 3) (h : Mem) {P : Int32 → Prop} (hr : Rt G X l yX3_goTogether (some .boolean) rm_X3_goTogether (ppI h P)) (v0 : Nat) (v1 : Int32) (v2 : Int32) (hy : OK (f_X3_goTogether h v0 v1 v2) P) : AW G X 0 [(0, vR v0), (1, vI v1), (2, vI v2)] [] h 0 0 := by
  unfold f_X3_goTogether at hy
  refine aw_aloadn (pc := 0) hX 0 rfl dX3_goTogether_0 ?_
  refine aw_gR (pc := 1) hX hy fl_X3_23 (fun _ _ => rfl) dX3_goTogether_1 (fun r1 hy => ?_)
  refine aw_iloadn (pc := 4) hX 1 rfl dX3_goTogether_4 ?_
  refine aw_aI (pc := 5) hX hy dX3_goTogether_5 (fun x2 hy => ?_)
  refine aw_aloadn (pc := 6) hX 0 rfl dX3_goTogether_6 ?_
  refine aw_gR (pc := 7) hX hy fl_X3_23 (fun _ _ => rfl) dX3_goTogether_7 (fun r3 hy => ?_)
  refine aw_iloadn (pc := 10) hX 2 rfl dX3_goTogether_10 ?_
  refine aw_aI (pc := 11) hX hy dX3_goTogether_11 (fun x4 hy => ?_)
  refine aw_ic_ne (pc := 12) hX 28 (by decide) dX3_goTogether_12 (fun hc9 => ?_) (fun hc9 => ?_)
  · have hy := hy.f hc9
    refine AW.sub [] rfl ?_
    exact w_X3_goTogether_28 hX hN _ hr hy
  · have hy := hy.t hc9
    refine aw_aloadn (pc := 15) hX 0 rfl dX3_goTogether_15 ?_
    refine aw_iloadn (pc := 16) hX 1 rfl dX3_goTogether_16 ?_
    refine aw_iloadn (pc := 17) hX 2 rfl dX3_goTogether_17 ?_
    refine aw_callS (pc := 18) (st := []) hX [vR v0, vI v1, vI v2] (con_X3_alikeNotes _ G _ v0 v1 v2 hy.bd) mc_X3_alikeNotes ml_X3_26 st_X3_alikeNotes rfl (rm_of hr (by decide)) (Nat.le_of_ble_eq_true rfl) rfl dX3_goTogether_18 (kpI rfl rfl (fun x5 hy => ?_))
    refine aw_if_ne (pc := 21) hX 28 (by decide) dX3_goTogether_21 (fun hc9 => ?_) (fun hc9 => ?_)
    · have hy := hy.f hc9
      refine AW.sub [] rfl ?_
      exact w_X3_goTogether_28 hX hN _ hr hy
    · have hy := hy.t hc9
      refine aw_iconst (pc := 24) hX 1 (by decide) dX3_goTogether_24 ?_
      refine aw_goto (pc := 25) hX 29 (by decide) dX3_goTogether_25 ?_
      exact aw_zret (pc := 29) hX hr (by decide) (by decide) dX3_goTogether_29 (Or.inr rfl) ⟨rfl, _, rfl, hy.s⟩
theorem con_X3_goTogether (l : Launch) (G : GE) (h : Mem) (v0 : Nat) (v1 : Int32) (v2 : Int32) {P : Int32 → Prop} (hy : OK (f_X3_goTogether h v0 v1 v2) P) : Con l G yX3_goTogether cX3_goTogether 3 (some .boolean) rm_X3_goTogether [vR v0, vI v1, vI v2] h (ppI h P) := Con.of (by decide) (Nat.le_of_ble_eq_true rfl) (fun X hX hr hN => w_X3_goTogether hX hN h hr v0 v1 v2 hy)
/-! X3_mostAlike -/
theorem dX3_mostAlike_0 : decode cX3_mostAlike 0 = .ok (.bipush (-2), 2) := by decide +kernel
theorem dX3_mostAlike_2 : decode cX3_mostAlike 2 = .ok (.istore_n 1, 1) := by decide +kernel
theorem dX3_mostAlike_3 : decode cX3_mostAlike 3 = .ok (.iconst (-1), 1) := by decide +kernel
theorem dX3_mostAlike_4 : decode cX3_mostAlike 4 = .ok (.istore_n 2, 1) := by decide +kernel
theorem dX3_mostAlike_5 : decode cX3_mostAlike 5 = .ok (.iconst 0, 1) := by decide +kernel
theorem dX3_mostAlike_6 : decode cX3_mostAlike 6 = .ok (.istore_n 3, 1) := by decide +kernel
theorem dX3_mostAlike_7 : decode cX3_mostAlike 7 = .ok (.iload_n 3, 1) := by decide +kernel
theorem dX3_mostAlike_8 : decode cX3_mostAlike 8 = .ok (.aload_n 0, 1) := by decide +kernel
theorem dX3_mostAlike_9 : decode cX3_mostAlike 9 = .ok (.getfield 30, 3) := by decide +kernel
theorem dX3_mostAlike_12 : decode cX3_mostAlike 12 = .ok (.if_icmp .ge 72, 3) := by decide +kernel
theorem dX3_mostAlike_15 : decode cX3_mostAlike 15 = .ok (.iload_n 3, 1) := by decide +kernel
theorem dX3_mostAlike_16 : decode cX3_mostAlike 16 = .ok (.iconst 1, 1) := by decide +kernel
theorem dX3_mostAlike_17 : decode cX3_mostAlike 17 = .ok (.iadd, 1) := by decide +kernel
theorem dX3_mostAlike_18 : decode cX3_mostAlike 18 = .ok (.istore 4, 2) := by decide +kernel
theorem dX3_mostAlike_20 : decode cX3_mostAlike 20 = .ok (.iload 4, 2) := by decide +kernel
theorem dX3_mostAlike_22 : decode cX3_mostAlike 22 = .ok (.aload_n 0, 1) := by decide +kernel
theorem dX3_mostAlike_23 : decode cX3_mostAlike 23 = .ok (.getfield 30, 3) := by decide +kernel
theorem dX3_mostAlike_26 : decode cX3_mostAlike 26 = .ok (.if_icmp .ge 52, 3) := by decide +kernel
theorem dX3_mostAlike_29 : decode cX3_mostAlike 29 = .ok (.aload_n 0, 1) := by decide +kernel
theorem dX3_mostAlike_30 : decode cX3_mostAlike 30 = .ok (.getfield 23, 3) := by decide +kernel
theorem dX3_mostAlike_33 : decode cX3_mostAlike 33 = .ok (.iload_n 3, 1) := by decide +kernel
theorem dX3_mostAlike_34 : decode cX3_mostAlike 34 = .ok (.iaload, 1) := by decide +kernel
theorem dX3_mostAlike_35 : decode cX3_mostAlike 35 = .ok (.aload_n 0, 1) := by decide +kernel
theorem dX3_mostAlike_36 : decode cX3_mostAlike 36 = .ok (.getfield 23, 3) := by decide +kernel
theorem dX3_mostAlike_39 : decode cX3_mostAlike 39 = .ok (.iload 4, 2) := by decide +kernel
theorem dX3_mostAlike_41 : decode cX3_mostAlike 41 = .ok (.iaload, 1) := by decide +kernel
theorem dX3_mostAlike_42 : decode cX3_mostAlike 42 = .ok (.if_icmp .ne 30, 3) := by decide +kernel
theorem dX3_mostAlike_45 : decode cX3_mostAlike 45 = .ok (.aload_n 0, 1) := by decide +kernel
theorem dX3_mostAlike_46 : decode cX3_mostAlike 46 = .ok (.iload_n 3, 1) := by decide +kernel
theorem dX3_mostAlike_47 : decode cX3_mostAlike 47 = .ok (.iload 4, 2) := by decide +kernel
theorem dX3_mostAlike_49 : decode cX3_mostAlike 49 = .ok (.invokestatic 26, 3) := by decide +kernel
theorem dX3_mostAlike_52 : decode cX3_mostAlike 52 = .ok (.iload_n 2, 1) := by decide +kernel
theorem dX3_mostAlike_53 : decode cX3_mostAlike 53 = .ok (.if_icmp .le 19, 3) := by decide +kernel
theorem dX3_mostAlike_56 : decode cX3_mostAlike 56 = .ok (.aload_n 0, 1) := by decide +kernel
theorem dX3_mostAlike_57 : decode cX3_mostAlike 57 = .ok (.iload_n 3, 1) := by decide +kernel
theorem dX3_mostAlike_58 : decode cX3_mostAlike 58 = .ok (.iload 4, 2) := by decide +kernel
theorem dX3_mostAlike_60 : decode cX3_mostAlike 60 = .ok (.invokestatic 26, 3) := by decide +kernel
theorem dX3_mostAlike_63 : decode cX3_mostAlike 63 = .ok (.istore_n 2, 1) := by decide +kernel
theorem dX3_mostAlike_64 : decode cX3_mostAlike 64 = .ok (.bipush 10, 2) := by decide +kernel
theorem dX3_mostAlike_66 : decode cX3_mostAlike 66 = .ok (.iload_n 3, 1) := by decide +kernel
theorem dX3_mostAlike_67 : decode cX3_mostAlike 67 = .ok (.imul, 1) := by decide +kernel
theorem dX3_mostAlike_68 : decode cX3_mostAlike 68 = .ok (.iload 4, 2) := by decide +kernel
theorem dX3_mostAlike_70 : decode cX3_mostAlike 70 = .ok (.iadd, 1) := by decide +kernel
theorem dX3_mostAlike_71 : decode cX3_mostAlike 71 = .ok (.istore_n 1, 1) := by decide +kernel
theorem dX3_mostAlike_72 : decode cX3_mostAlike 72 = .ok (.iinc 4 1, 3) := by decide +kernel
theorem dX3_mostAlike_75 : decode cX3_mostAlike 75 = .ok (.goto (-55), 3) := by decide +kernel
theorem dX3_mostAlike_78 : decode cX3_mostAlike 78 = .ok (.iinc 3 1, 3) := by decide +kernel
theorem dX3_mostAlike_81 : decode cX3_mostAlike 81 = .ok (.goto (-74), 3) := by decide +kernel
theorem dX3_mostAlike_84 : decode cX3_mostAlike 84 = .ok (.iload_n 1, 1) := by decide +kernel
theorem dX3_mostAlike_85 : decode cX3_mostAlike 85 = .ok (.ireturn, 1) := by decide +kernel
abbrev rm_X3_mostAlike : Room := { frames := 2, cells := 0, slots := 0, locals := 46 }
def f_X3_mostAlike_72 (h : Mem) (v0 : Nat) (v1 : Int32) (v2 : Int32) (v3 : Int32) (v4 : Int32) : Option ((Int32 × Int32 × Int32) ⊕ ((Int32 × Int32))) :=
  some (.inl (v1, v2, (v4 + 1)))
set_option maxRecDepth 100000 in
set_option maxHeartbeats 4000000 in
theorem w_X3_mostAlike_72 {G : GE} {X : CX} {l : Launch} (hX : Ok G X cX3_mostAlike RX3) (hN : xn X = 5) (h : Mem) {P0 : Int32 → Prop} (hr : Rt G X l yX3_mostAlike (some .int) rm_X3_mostAlike (ppI h P0))  (v0 : Nat) (v3 : Int32) {P : ((Int32 × Int32 × Int32) ⊕ ((Int32 × Int32))) → Prop} (hc : ∀ s, P (.inl s) → AW G X 20 [(0, vR v0), (1, vI s.1), (2, vI s.2.1), (3, vI v3), (4, vI s.2.2)] [] h 0 0) (he0 : ∀ e, P (.inr e) → AW G X 78 [(0, vR v0), (1, vI e.1), (2, vI e.2), (3, vI v3)] [] h 0 0) (v1 : Int32) (v2 : Int32) (v4 : Int32) (hy : OK (f_X3_mostAlike_72 h v0 v1 v2 v3 v4) P) : AW G X 72 [(0, vR v0), (1, vI v1), (2, vI v2), (3, vI v3), (4, vI v4)] [] h 0 0 := by
  unfold f_X3_mostAlike_72 at hy
  refine aw_iinc (pc := 72) hX 1 (by decide) 4 rfl [(4, vI (v4 + 1)), (0, vR v0), (1, vI v1), (2, vI v2), (3, vI v3)] rfl (lt_n hN (by decide)) dX3_mostAlike_72 ?_
  refine aw_goto (pc := 75) hX 20 (by decide) dX3_mostAlike_75 ?_
  refine AW.sub [1, 2, 3, 4, 0] rfl ?_
  exact hc (v1, v2, (v4 + 1)) hy.s
def b_X3_mostAlike_20 (h : Mem) (v0 : Nat) (v3 : Int32) (v1 : Int32) (v2 : Int32) (v4 : Int32) : Option ((Int32 × Int32 × Int32) ⊕ ((Int32 × Int32))) :=
  (gI h v0 1 4).bind fun x2 => (if x2 ≤ v4 then some (.inr (v1, v2)) else (gR h v0 9 4).bind fun r3 => (aI h r3 v3).bind fun x4 => (gR h v0 9 4).bind fun r5 => (aI h r5 v4).bind fun x6 => (if x4 = x6 then (f_X3_alikeNotes h v0 v3 v4).bind fun x7 => (if x7 ≤ v2 then f_X3_mostAlike_72 h v0 v1 v2 v3 v4 else (f_X3_alikeNotes h v0 v3 v4).bind fun x8 => f_X3_mostAlike_72 h v0 ((10 * v3) + v4) x8 v3 v4) else f_X3_mostAlike_72 h v0 v1 v2 v3 v4))
set_option maxRecDepth 100000 in
set_option maxHeartbeats 4000000 in
theorem wb_X3_mostAlike_20 {G : GE} {X : CX} {l : Launch} (hX : Ok G X cX3_mostAlike RX3) (hN : xn X = 5) (h : Mem) {P0 : Int32 → Prop} (hr : Rt G X l yX3_mostAlike (some .int) rm_X3_mostAlike (ppI h P0))  (v0 : Nat) (v3 : Int32) {P : ((Int32 × Int32 × Int32) ⊕ ((Int32 × Int32))) → Prop} (hc : ∀ s, P (.inl s) → AW G X 20 [(0, vR v0), (1, vI s.1), (2, vI s.2.1), (3, vI v3), (4, vI s.2.2)] [] h 0 0) (he0 : ∀ e, P (.inr e) → AW G X 78 [(0, vR v0), (1, vI e.1), (2, vI e.2), (3, vI v3)] [] h 0 0) (v1 : Int32) (v2 : Int32) (v4 : Int32) (hy : OK (b_X3_mostAlike_20 h v0 v3 v1 v2 v4) P) : AW G X 20 [(0, vR v0), (1, vI v1), (2, vI v2), (3, vI v3), (4, vI v4)] [] h 0 0 := by
  unfold b_X3_mostAlike_20 at hy
  refine aw_iload (pc := 20) hX 4 rfl dX3_mostAlike_20 ?_
  refine aw_aloadn (pc := 22) hX 0 rfl dX3_mostAlike_22 ?_
  refine aw_gI (pc := 23) hX hy fl_X3_30 (fun _ _ => rfl) dX3_mostAlike_23 (fun x2 hy => ?_)
  refine aw_ic_ge (pc := 26) hX 78 (by decide) dX3_mostAlike_26 (fun hc9 => ?_) (fun hc9 => ?_)
  · have hy := hy.t hc9
    refine AW.sub [0, 1, 2, 3] rfl ?_
    exact he0 (v1, v2) hy.s
  · have hy := hy.f hc9
    refine aw_aloadn (pc := 29) hX 0 rfl dX3_mostAlike_29 ?_
    refine aw_gR (pc := 30) hX hy fl_X3_23 (fun _ _ => rfl) dX3_mostAlike_30 (fun r3 hy => ?_)
    refine aw_iloadn (pc := 33) hX 3 rfl dX3_mostAlike_33 ?_
    refine aw_aI (pc := 34) hX hy dX3_mostAlike_34 (fun x4 hy => ?_)
    refine aw_aloadn (pc := 35) hX 0 rfl dX3_mostAlike_35 ?_
    refine aw_gR (pc := 36) hX hy fl_X3_23 (fun _ _ => rfl) dX3_mostAlike_36 (fun r5 hy => ?_)
    refine aw_iload (pc := 39) hX 4 rfl dX3_mostAlike_39 ?_
    refine aw_aI (pc := 41) hX hy dX3_mostAlike_41 (fun x6 hy => ?_)
    refine aw_ic_ne (pc := 42) hX 72 (by decide) dX3_mostAlike_42 (fun hc9 => ?_) (fun hc9 => ?_)
    · have hy := hy.f hc9
      exact w_X3_mostAlike_72 hX hN _ hr _ _ hc he0 v1 v2 v4 hy
    · have hy := hy.t hc9
      refine aw_aloadn (pc := 45) hX 0 rfl dX3_mostAlike_45 ?_
      refine aw_iloadn (pc := 46) hX 3 rfl dX3_mostAlike_46 ?_
      refine aw_iload (pc := 47) hX 4 rfl dX3_mostAlike_47 ?_
      refine aw_callS (pc := 49) (st := []) hX [vR v0, vI v3, vI v4] (con_X3_alikeNotes _ G _ v0 v3 v4 hy.bd) mc_X3_alikeNotes ml_X3_26 st_X3_alikeNotes rfl (rm_of hr (by decide)) (Nat.le_of_ble_eq_true rfl) rfl dX3_mostAlike_49 (kpI rfl rfl (fun x7 hy => ?_))
      refine aw_iloadn (pc := 52) hX 2 rfl dX3_mostAlike_52 ?_
      refine aw_ic_le (pc := 53) hX 72 (by decide) dX3_mostAlike_53 (fun hc9 => ?_) (fun hc9 => ?_)
      · have hy := hy.t hc9
        exact w_X3_mostAlike_72 hX hN _ hr _ _ hc he0 v1 v2 v4 hy
      · have hy := hy.f hc9
        refine aw_aloadn (pc := 56) hX 0 rfl dX3_mostAlike_56 ?_
        refine aw_iloadn (pc := 57) hX 3 rfl dX3_mostAlike_57 ?_
        refine aw_iload (pc := 58) hX 4 rfl dX3_mostAlike_58 ?_
        refine aw_callS (pc := 60) (st := []) hX [vR v0, vI v3, vI v4] (con_X3_alikeNotes _ G _ v0 v3 v4 hy.bd) mc_X3_alikeNotes ml_X3_26 st_X3_alikeNotes rfl (rm_of hr (by decide)) (Nat.le_of_ble_eq_true rfl) rfl dX3_mostAlike_60 (kpI rfl rfl (fun x8 hy => ?_))
        refine aw_istoren (pc := 63) hX [(2, vI x8), (0, vR v0), (1, vI v1), (3, vI v3), (4, vI v4)] rfl (lt_n hN (by decide)) dX3_mostAlike_63 ?_
        refine aw_bipush (pc := 64) hX 10 (by decide) dX3_mostAlike_64 ?_
        refine aw_iloadn (pc := 66) hX 3 rfl dX3_mostAlike_66 ?_
        refine aw_imul (pc := 67) hX dX3_mostAlike_67 ?_
        refine aw_iload (pc := 68) hX 4 rfl dX3_mostAlike_68 ?_
        refine aw_iadd (pc := 70) hX dX3_mostAlike_70 ?_
        refine aw_istoren (pc := 71) hX [(1, vI ((10 * v3) + v4)), (2, vI x8), (0, vR v0), (3, vI v3), (4, vI v4)] rfl (lt_n hN (by decide)) dX3_mostAlike_71 ?_
        refine AW.sub [2, 0, 1, 3, 4] rfl ?_
        exact w_X3_mostAlike_72 hX hN _ hr _ _ hc he0 ((10 * v3) + v4) x8 v4 hy
theorem wl_X3_mostAlike_20 {G : GE} {X : CX} {l : Launch} (hX : Ok G X cX3_mostAlike RX3) (hN : xn X = 5) (h : Mem) {P0 : Int32 → Prop} (hr : Rt G X l yX3_mostAlike (some .int) rm_X3_mostAlike (ppI h P0)) (v0 : Nat) (v3 : Int32) {P : ((Int32 × Int32)) → Prop} (he0 : ∀ e, P e → AW G X 78 [(0, vR v0), (1, vI e.1), (2, vI e.2), (3, vI v3)] [] h 0 0) : ∀ (n : Nat) (s : Int32 × Int32 × Int32), OK (iter (fun (s : Int32 × Int32 × Int32) => b_X3_mostAlike_20 h v0 v3 s.1 s.2.1 s.2.2) n s) P → AW G X 20 [(0, vR v0), (1, vI s.1), (2, vI s.2.1), (3, vI v3), (4, vI s.2.2)] [] h 0 0 := by
  intro n
  induction n with
  | zero => exact fun s hy => hy.it0.elim
  | succ n ih =>
    intro s hy
    exact wb_X3_mostAlike_20 hX hN h hr v0 v3 (fun s hs => ih s hs) (fun e hs => he0 e hs) s.1 s.2.1 s.2.2 hy.it
def b_X3_mostAlike_7 (h : Mem) (v0 : Nat) (v1 : Int32) (v2 : Int32) (v3 : Int32) : Option ((Int32 × Int32 × Int32) ⊕ Int32) :=
  (gI h v0 1 4).bind fun x1 => (if x1 ≤ v3 then some (.inr v1) else (iter (fun (s : Int32 × Int32 × Int32) => b_X3_mostAlike_20 h v0 v3 s.1 s.2.1 s.2.2) FU (v1, v2, (v3 + 1))).bind (fun q9 => some (.inl (q9.1, q9.2, (v3 + 1)))))
set_option maxRecDepth 100000 in
set_option maxHeartbeats 4000000 in
theorem wb_X3_mostAlike_7 {G : GE} {X : CX} {l : Launch} (hX : Ok G X cX3_mostAlike RX3) (hN : xn X = 5) (h : Mem) {P0 : Int32 → Prop} (hr : Rt G X l yX3_mostAlike (some .int) rm_X3_mostAlike (ppI h P0))  (v0 : Nat) {P : ((Int32 × Int32 × Int32) ⊕ Int32) → Prop} (hc : ∀ s, P (.inl s) → AW G X 7 [(0, vR v0), (1, vI s.1), (2, vI s.2.1), (3, vI s.2.2)] [] h 0 0) (he0 : ∀ e, P (.inr e) → AW G X 84 [(1, vI e)] [] h 0 0) (v1 : Int32) (v2 : Int32) (v3 : Int32) (hy : OK (b_X3_mostAlike_7 h v0 v1 v2 v3) P) : AW G X 7 [(0, vR v0), (1, vI v1), (2, vI v2), (3, vI v3)] [] h 0 0 := by
  unfold b_X3_mostAlike_7 at hy
  refine aw_iloadn (pc := 7) hX 3 rfl dX3_mostAlike_7 ?_
  refine aw_aloadn (pc := 8) hX 0 rfl dX3_mostAlike_8 ?_
  refine aw_gI (pc := 9) hX hy fl_X3_30 (fun _ _ => rfl) dX3_mostAlike_9 (fun x1 hy => ?_)
  refine aw_ic_ge (pc := 12) hX 84 (by decide) dX3_mostAlike_12 (fun hc9 => ?_) (fun hc9 => ?_)
  · have hy := hy.t hc9
    refine AW.sub [1] rfl ?_
    exact he0 v1 hy.s
  · have hy := hy.f hc9
    refine aw_iloadn (pc := 15) hX 3 rfl dX3_mostAlike_15 ?_
    refine aw_iconst (pc := 16) hX 1 (by decide) dX3_mostAlike_16 ?_
    refine aw_iadd (pc := 17) hX dX3_mostAlike_17 ?_
    refine aw_istore (pc := 18) hX [(4, vI (v3 + 1)), (0, vR v0), (1, vI v1), (2, vI v2), (3, vI v3)] rfl (lt_n hN (by decide)) dX3_mostAlike_18 ?_
    refine AW.sub [1, 2, 3, 4, 0] rfl ?_
    refine wl_X3_mostAlike_20 hX hN _ hr v0 v3 ?_ FU (v1, v2, (v3 + 1)) hy.bd
    · intro q9 hy
      refine aw_iinc (pc := 78) hX 1 (by decide) 3 rfl [(3, vI (v3 + 1)), (0, vR v0), (1, vI q9.1), (2, vI q9.2)] rfl (lt_n hN (by decide)) dX3_mostAlike_78 ?_
      refine aw_goto (pc := 81) hX 7 (by decide) dX3_mostAlike_81 ?_
      refine AW.sub [1, 2, 3, 0] rfl ?_
      exact hc (q9.1, q9.2, (v3 + 1)) hy.s
theorem wl_X3_mostAlike_7 {G : GE} {X : CX} {l : Launch} (hX : Ok G X cX3_mostAlike RX3) (hN : xn X = 5) (h : Mem) {P0 : Int32 → Prop} (hr : Rt G X l yX3_mostAlike (some .int) rm_X3_mostAlike (ppI h P0)) (v0 : Nat) {P : (Int32) → Prop} (he0 : ∀ e, P e → AW G X 84 [(1, vI e)] [] h 0 0) : ∀ (n : Nat) (s : Int32 × Int32 × Int32), OK (iter (fun (s : Int32 × Int32 × Int32) => b_X3_mostAlike_7 h v0 s.1 s.2.1 s.2.2) n s) P → AW G X 7 [(0, vR v0), (1, vI s.1), (2, vI s.2.1), (3, vI s.2.2)] [] h 0 0 := by
  intro n
  induction n with
  | zero => exact fun s hy => hy.it0.elim
  | succ n ih =>
    intro s hy
    exact wb_X3_mostAlike_7 hX hN h hr v0 (fun s hs => ih s hs) (fun e hs => he0 e hs) s.1 s.2.1 s.2.2 hy.it
def f_X3_mostAlike (h : Mem) (v0 : Nat) : Option Int32 :=
  (iter (fun (s : Int32 × Int32 × Int32) => b_X3_mostAlike_7 h v0 s.1 s.2.1 s.2.2) FU ((-2), (-1), 0)).bind (fun q10 => some q10)
set_option maxRecDepth 100000 in
set_option maxHeartbeats 4000000 in
theorem w_X3_mostAlike {G : GE} {X : CX} {l : Launch} (hX : Ok G X cX3_mostAlike RX3) (hN : xn X = 5) (h : Mem) {P : Int32 → Prop} (hr : Rt G X l yX3_mostAlike (some .int) rm_X3_mostAlike (ppI h P)) (v0 : Nat) (hy : OK (f_X3_mostAlike h v0) P) : AW G X 0 [(0, vR v0)] [] h 0 0 := by
  unfold f_X3_mostAlike at hy
  refine aw_bipush (pc := 0) hX (-2) (by decide) dX3_mostAlike_0 ?_
  refine aw_istoren (pc := 2) hX [(1, vI (-2)), (0, vR v0)] rfl (lt_n hN (by decide)) dX3_mostAlike_2 ?_
  refine aw_iconst (pc := 3) hX (-1) (by decide) dX3_mostAlike_3 ?_
  refine aw_istoren (pc := 4) hX [(2, vI (-1)), (1, vI (-2)), (0, vR v0)] rfl (lt_n hN (by decide)) dX3_mostAlike_4 ?_
  refine aw_iconst (pc := 5) hX 0 (by decide) dX3_mostAlike_5 ?_
  refine aw_istoren (pc := 6) hX [(3, vI 0), (2, vI (-1)), (1, vI (-2)), (0, vR v0)] rfl (lt_n hN (by decide)) dX3_mostAlike_6 ?_
  refine AW.sub [3, 2, 1, 0] rfl ?_
  refine wl_X3_mostAlike_7 hX hN _ hr v0 ?_ FU ((-2), (-1), 0) hy.bd
  · intro q10 hy
    refine aw_iloadn (pc := 84) hX 0 rfl dX3_mostAlike_84 ?_
    exact aw_iret (pc := 85) hX hr (by decide) (by decide) dX3_mostAlike_85 ⟨rfl, _, rfl, hy.s⟩
theorem con_X3_mostAlike (l : Launch) (G : GE) (h : Mem) (v0 : Nat) {P : Int32 → Prop} (hy : OK (f_X3_mostAlike h v0) P) : Con l G yX3_mostAlike cX3_mostAlike 5 (some .int) rm_X3_mostAlike [vR v0] h (ppI h P) := Con.of (by decide) (Nat.le_of_ble_eq_true rfl) (fun X hX hr hN => w_X3_mostAlike hX hN h hr v0 hy)
/-! J6_numberOfTrailingZeros_0f7a4 -/
theorem dJ6_numberOfTrailingZeros_0f7a4_0 : decode cJ6_numberOfTrailingZeros_0f7a4 0 = .ok (.iload_n 0, 1) := by decide +kernel
theorem dJ6_numberOfTrailingZeros_0f7a4_1 : decode cJ6_numberOfTrailingZeros_0f7a4 1 = .ok (.iconst (-1), 1) := by decide +kernel
theorem dJ6_numberOfTrailingZeros_0f7a4_2 : decode cJ6_numberOfTrailingZeros_0f7a4 2 = .ok (.ixor, 1) := by decide +kernel
theorem dJ6_numberOfTrailingZeros_0f7a4_3 : decode cJ6_numberOfTrailingZeros_0f7a4 3 = .ok (.iload_n 0, 1) := by decide +kernel
theorem dJ6_numberOfTrailingZeros_0f7a4_4 : decode cJ6_numberOfTrailingZeros_0f7a4 4 = .ok (.iconst 1, 1) := by decide +kernel
theorem dJ6_numberOfTrailingZeros_0f7a4_5 : decode cJ6_numberOfTrailingZeros_0f7a4 5 = .ok (.isub, 1) := by decide +kernel
theorem dJ6_numberOfTrailingZeros_0f7a4_6 : decode cJ6_numberOfTrailingZeros_0f7a4 6 = .ok (.iand, 1) := by decide +kernel
theorem dJ6_numberOfTrailingZeros_0f7a4_7 : decode cJ6_numberOfTrailingZeros_0f7a4 7 = .ok (.istore_n 0, 1) := by decide +kernel
theorem dJ6_numberOfTrailingZeros_0f7a4_8 : decode cJ6_numberOfTrailingZeros_0f7a4 8 = .ok (.iload_n 0, 1) := by decide +kernel
theorem dJ6_numberOfTrailingZeros_0f7a4_9 : decode cJ6_numberOfTrailingZeros_0f7a4 9 = .ok (.ifCond .gt 8, 3) := by decide +kernel
theorem dJ6_numberOfTrailingZeros_0f7a4_12 : decode cJ6_numberOfTrailingZeros_0f7a4 12 = .ok (.iload_n 0, 1) := by decide +kernel
theorem dJ6_numberOfTrailingZeros_0f7a4_13 : decode cJ6_numberOfTrailingZeros_0f7a4 13 = .ok (.bipush 32, 2) := by decide +kernel
theorem dJ6_numberOfTrailingZeros_0f7a4_15 : decode cJ6_numberOfTrailingZeros_0f7a4 15 = .ok (.iand, 1) := by decide +kernel
theorem dJ6_numberOfTrailingZeros_0f7a4_16 : decode cJ6_numberOfTrailingZeros_0f7a4 16 = .ok (.ireturn, 1) := by decide +kernel
theorem dJ6_numberOfTrailingZeros_0f7a4_17 : decode cJ6_numberOfTrailingZeros_0f7a4 17 = .ok (.iconst 1, 1) := by decide +kernel
theorem dJ6_numberOfTrailingZeros_0f7a4_18 : decode cJ6_numberOfTrailingZeros_0f7a4 18 = .ok (.istore_n 1, 1) := by decide +kernel
theorem dJ6_numberOfTrailingZeros_0f7a4_19 : decode cJ6_numberOfTrailingZeros_0f7a4 19 = .ok (.iload_n 0, 1) := by decide +kernel
theorem dJ6_numberOfTrailingZeros_0f7a4_20 : decode cJ6_numberOfTrailingZeros_0f7a4 20 = .ok (.ldc_w 264, 3) := by decide +kernel
theorem dJ6_numberOfTrailingZeros_0f7a4_23 : decode cJ6_numberOfTrailingZeros_0f7a4 23 = .ok (.if_icmp .le 11, 3) := by decide +kernel
theorem dJ6_numberOfTrailingZeros_0f7a4_26 : decode cJ6_numberOfTrailingZeros_0f7a4 26 = .ok (.iinc 1 16, 3) := by decide +kernel
theorem dJ6_numberOfTrailingZeros_0f7a4_29 : decode cJ6_numberOfTrailingZeros_0f7a4 29 = .ok (.iload_n 0, 1) := by decide +kernel
theorem dJ6_numberOfTrailingZeros_0f7a4_30 : decode cJ6_numberOfTrailingZeros_0f7a4 30 = .ok (.bipush 16, 2) := by decide +kernel
theorem dJ6_numberOfTrailingZeros_0f7a4_32 : decode cJ6_numberOfTrailingZeros_0f7a4 32 = .ok (.iushr, 1) := by decide +kernel
theorem dJ6_numberOfTrailingZeros_0f7a4_33 : decode cJ6_numberOfTrailingZeros_0f7a4 33 = .ok (.istore_n 0, 1) := by decide +kernel
theorem dJ6_numberOfTrailingZeros_0f7a4_34 : decode cJ6_numberOfTrailingZeros_0f7a4 34 = .ok (.iload_n 0, 1) := by decide +kernel
theorem dJ6_numberOfTrailingZeros_0f7a4_35 : decode cJ6_numberOfTrailingZeros_0f7a4 35 = .ok (.sipush 256, 3) := by decide +kernel
theorem dJ6_numberOfTrailingZeros_0f7a4_38 : decode cJ6_numberOfTrailingZeros_0f7a4 38 = .ok (.if_icmp .le 11, 3) := by decide +kernel
theorem dJ6_numberOfTrailingZeros_0f7a4_41 : decode cJ6_numberOfTrailingZeros_0f7a4 41 = .ok (.iinc 1 8, 3) := by decide +kernel
theorem dJ6_numberOfTrailingZeros_0f7a4_44 : decode cJ6_numberOfTrailingZeros_0f7a4 44 = .ok (.iload_n 0, 1) := by decide +kernel
theorem dJ6_numberOfTrailingZeros_0f7a4_45 : decode cJ6_numberOfTrailingZeros_0f7a4 45 = .ok (.bipush 8, 2) := by decide +kernel
theorem dJ6_numberOfTrailingZeros_0f7a4_47 : decode cJ6_numberOfTrailingZeros_0f7a4 47 = .ok (.iushr, 1) := by decide +kernel
theorem dJ6_numberOfTrailingZeros_0f7a4_48 : decode cJ6_numberOfTrailingZeros_0f7a4 48 = .ok (.istore_n 0, 1) := by decide +kernel
theorem dJ6_numberOfTrailingZeros_0f7a4_49 : decode cJ6_numberOfTrailingZeros_0f7a4 49 = .ok (.iload_n 0, 1) := by decide +kernel
theorem dJ6_numberOfTrailingZeros_0f7a4_50 : decode cJ6_numberOfTrailingZeros_0f7a4 50 = .ok (.bipush 16, 2) := by decide +kernel
theorem dJ6_numberOfTrailingZeros_0f7a4_52 : decode cJ6_numberOfTrailingZeros_0f7a4 52 = .ok (.if_icmp .le 10, 3) := by decide +kernel
theorem dJ6_numberOfTrailingZeros_0f7a4_55 : decode cJ6_numberOfTrailingZeros_0f7a4 55 = .ok (.iinc 1 4, 3) := by decide +kernel
theorem dJ6_numberOfTrailingZeros_0f7a4_58 : decode cJ6_numberOfTrailingZeros_0f7a4 58 = .ok (.iload_n 0, 1) := by decide +kernel
theorem dJ6_numberOfTrailingZeros_0f7a4_59 : decode cJ6_numberOfTrailingZeros_0f7a4 59 = .ok (.iconst 4, 1) := by decide +kernel
theorem dJ6_numberOfTrailingZeros_0f7a4_60 : decode cJ6_numberOfTrailingZeros_0f7a4 60 = .ok (.iushr, 1) := by decide +kernel
theorem dJ6_numberOfTrailingZeros_0f7a4_61 : decode cJ6_numberOfTrailingZeros_0f7a4 61 = .ok (.istore_n 0, 1) := by decide +kernel
theorem dJ6_numberOfTrailingZeros_0f7a4_62 : decode cJ6_numberOfTrailingZeros_0f7a4 62 = .ok (.iload_n 0, 1) := by decide +kernel
theorem dJ6_numberOfTrailingZeros_0f7a4_63 : decode cJ6_numberOfTrailingZeros_0f7a4 63 = .ok (.iconst 4, 1) := by decide +kernel
theorem dJ6_numberOfTrailingZeros_0f7a4_64 : decode cJ6_numberOfTrailingZeros_0f7a4 64 = .ok (.if_icmp .le 10, 3) := by decide +kernel
theorem dJ6_numberOfTrailingZeros_0f7a4_67 : decode cJ6_numberOfTrailingZeros_0f7a4 67 = .ok (.iinc 1 2, 3) := by decide +kernel
theorem dJ6_numberOfTrailingZeros_0f7a4_70 : decode cJ6_numberOfTrailingZeros_0f7a4 70 = .ok (.iload_n 0, 1) := by decide +kernel
theorem dJ6_numberOfTrailingZeros_0f7a4_71 : decode cJ6_numberOfTrailingZeros_0f7a4 71 = .ok (.iconst 2, 1) := by decide +kernel
theorem dJ6_numberOfTrailingZeros_0f7a4_72 : decode cJ6_numberOfTrailingZeros_0f7a4 72 = .ok (.iushr, 1) := by decide +kernel
theorem dJ6_numberOfTrailingZeros_0f7a4_73 : decode cJ6_numberOfTrailingZeros_0f7a4 73 = .ok (.istore_n 0, 1) := by decide +kernel
theorem dJ6_numberOfTrailingZeros_0f7a4_74 : decode cJ6_numberOfTrailingZeros_0f7a4 74 = .ok (.iload_n 1, 1) := by decide +kernel
theorem dJ6_numberOfTrailingZeros_0f7a4_75 : decode cJ6_numberOfTrailingZeros_0f7a4 75 = .ok (.iload_n 0, 1) := by decide +kernel
theorem dJ6_numberOfTrailingZeros_0f7a4_76 : decode cJ6_numberOfTrailingZeros_0f7a4 76 = .ok (.iconst 1, 1) := by decide +kernel
theorem dJ6_numberOfTrailingZeros_0f7a4_77 : decode cJ6_numberOfTrailingZeros_0f7a4 77 = .ok (.iushr, 1) := by decide +kernel
theorem dJ6_numberOfTrailingZeros_0f7a4_78 : decode cJ6_numberOfTrailingZeros_0f7a4 78 = .ok (.iadd, 1) := by decide +kernel
theorem dJ6_numberOfTrailingZeros_0f7a4_79 : decode cJ6_numberOfTrailingZeros_0f7a4 79 = .ok (.ireturn, 1) := by decide +kernel
abbrev rm_J6_numberOfTrailingZeros_0f7a4 : Room := { frames := 0, cells := 0, slots := 0, locals := 0 }
def f_J6_numberOfTrailingZeros_0f7a4_74 (h : Mem) (v0 : Int32) (v1 : Int32) : Option Int32 :=
  some (v1 + (((v0 : Int32).toUInt32 >>> ((1 : Int32).toUInt32 &&& Int32.toUInt32 31)).toInt32))
set_option maxRecDepth 100000 in
set_option maxHeartbeats 4000000 in
theorem w_J6_numberOfTrailingZeros_0f7a4_74 {G : GE} {X : CX} {l : Launch} (hX : Ok G X cJ6_numberOfTrailingZeros_0f7a4 RJ6) (hN : xn X = 2) (h : Mem) {P : Int32 → Prop} (hr : Rt G X l yJ6_numberOfTrailingZeros_0f7a4 (some .int) rm_J6_numberOfTrailingZeros_0f7a4 (ppI h P)) (v0 : Int32) (v1 : Int32) (hy : OK (f_J6_numberOfTrailingZeros_0f7a4_74 h v0 v1) P) : AW G X 74 [(0, vI v0), (1, vI v1)] [] h 0 0 := by
  unfold f_J6_numberOfTrailingZeros_0f7a4_74 at hy
  refine aw_iloadn (pc := 74) hX 1 rfl dJ6_numberOfTrailingZeros_0f7a4_74 ?_
  refine aw_iloadn (pc := 75) hX 0 rfl dJ6_numberOfTrailingZeros_0f7a4_75 ?_
  refine aw_iconst (pc := 76) hX 1 (by decide) dJ6_numberOfTrailingZeros_0f7a4_76 ?_
  refine aw_iushr (pc := 77) hX dJ6_numberOfTrailingZeros_0f7a4_77 ?_
  refine aw_iadd (pc := 78) hX dJ6_numberOfTrailingZeros_0f7a4_78 ?_
  exact aw_iret (pc := 79) hX hr (by decide) (by decide) dJ6_numberOfTrailingZeros_0f7a4_79 ⟨rfl, _, rfl, hy.s⟩
def f_J6_numberOfTrailingZeros_0f7a4_62 (h : Mem) (v0 : Int32) (v1 : Int32) : Option Int32 :=
  (if v0 ≤ 4 then f_J6_numberOfTrailingZeros_0f7a4_74 h v0 v1 else f_J6_numberOfTrailingZeros_0f7a4_74 h (((v0 : Int32).toUInt32 >>> ((2 : Int32).toUInt32 &&& Int32.toUInt32 31)).toInt32) (v1 + 2))
set_option maxRecDepth 100000 in
set_option maxHeartbeats 4000000 in
theorem w_J6_numberOfTrailingZeros_0f7a4_62 {G : GE} {X : CX} {l : Launch} (hX : Ok G X cJ6_numberOfTrailingZeros_0f7a4 RJ6) (hN : xn X = 2) (h : Mem) {P : Int32 → Prop} (hr : Rt G X l yJ6_numberOfTrailingZeros_0f7a4 (some .int) rm_J6_numberOfTrailingZeros_0f7a4 (ppI h P)) (v0 : Int32) (v1 : Int32) (hy : OK (f_J6_numberOfTrailingZeros_0f7a4_62 h v0 v1) P) : AW G X 62 [(0, vI v0), (1, vI v1)] [] h 0 0 := by
  unfold f_J6_numberOfTrailingZeros_0f7a4_62 at hy
  refine aw_iloadn (pc := 62) hX 0 rfl dJ6_numberOfTrailingZeros_0f7a4_62 ?_
  refine aw_iconst (pc := 63) hX 4 (by decide) dJ6_numberOfTrailingZeros_0f7a4_63 ?_
  refine aw_ic_le (pc := 64) hX 74 (by decide) dJ6_numberOfTrailingZeros_0f7a4_64 (fun hc9 => ?_) (fun hc9 => ?_)
  · have hy := hy.t hc9
    exact w_J6_numberOfTrailingZeros_0f7a4_74 hX hN _ hr v0 v1 hy
  · have hy := hy.f hc9
    refine aw_iinc (pc := 67) hX 2 (by decide) 1 rfl [(1, vI (v1 + 2)), (0, vI v0)] rfl (lt_n hN (by decide)) dJ6_numberOfTrailingZeros_0f7a4_67 ?_
    refine aw_iloadn (pc := 70) hX 1 rfl dJ6_numberOfTrailingZeros_0f7a4_70 ?_
    refine aw_iconst (pc := 71) hX 2 (by decide) dJ6_numberOfTrailingZeros_0f7a4_71 ?_
    refine aw_iushr (pc := 72) hX dJ6_numberOfTrailingZeros_0f7a4_72 ?_
    refine aw_istoren (pc := 73) hX [(0, vI (((v0 : Int32).toUInt32 >>> ((2 : Int32).toUInt32 &&& Int32.toUInt32 31)).toInt32)), (1, vI (v1 + 2))] rfl (lt_n hN (by decide)) dJ6_numberOfTrailingZeros_0f7a4_73 ?_
    exact w_J6_numberOfTrailingZeros_0f7a4_74 hX hN _ hr (((v0 : Int32).toUInt32 >>> ((2 : Int32).toUInt32 &&& Int32.toUInt32 31)).toInt32) (v1 + 2) hy
def f_J6_numberOfTrailingZeros_0f7a4_49 (h : Mem) (v0 : Int32) (v1 : Int32) : Option Int32 :=
  (if v0 ≤ 16 then f_J6_numberOfTrailingZeros_0f7a4_62 h v0 v1 else f_J6_numberOfTrailingZeros_0f7a4_62 h (((v0 : Int32).toUInt32 >>> ((4 : Int32).toUInt32 &&& Int32.toUInt32 31)).toInt32) (v1 + 4))
set_option maxRecDepth 100000 in
set_option maxHeartbeats 4000000 in
theorem w_J6_numberOfTrailingZeros_0f7a4_49 {G : GE} {X : CX} {l : Launch} (hX : Ok G X cJ6_numberOfTrailingZeros_0f7a4 RJ6) (hN : xn X = 2) (h : Mem) {P : Int32 → Prop} (hr : Rt G X l yJ6_numberOfTrailingZeros_0f7a4 (some .int) rm_J6_numberOfTrailingZeros_0f7a4 (ppI h P)) (v0 : Int32) (v1 : Int32) (hy : OK (f_J6_numberOfTrailingZeros_0f7a4_49 h v0 v1) P) : AW G X 49 [(0, vI v0), (1, vI v1)] [] h 0 0 := by
  unfold f_J6_numberOfTrailingZeros_0f7a4_49 at hy
  refine aw_iloadn (pc := 49) hX 0 rfl dJ6_numberOfTrailingZeros_0f7a4_49 ?_
  refine aw_bipush (pc := 50) hX 16 (by decide) dJ6_numberOfTrailingZeros_0f7a4_50 ?_
  refine aw_ic_le (pc := 52) hX 62 (by decide) dJ6_numberOfTrailingZeros_0f7a4_52 (fun hc9 => ?_) (fun hc9 => ?_)
  · have hy := hy.t hc9
    exact w_J6_numberOfTrailingZeros_0f7a4_62 hX hN _ hr v0 v1 hy
  · have hy := hy.f hc9
    refine aw_iinc (pc := 55) hX 4 (by decide) 1 rfl [(1, vI (v1 + 4)), (0, vI v0)] rfl (lt_n hN (by decide)) dJ6_numberOfTrailingZeros_0f7a4_55 ?_
    refine aw_iloadn (pc := 58) hX 1 rfl dJ6_numberOfTrailingZeros_0f7a4_58 ?_
    refine aw_iconst (pc := 59) hX 4 (by decide) dJ6_numberOfTrailingZeros_0f7a4_59 ?_
    refine aw_iushr (pc := 60) hX dJ6_numberOfTrailingZeros_0f7a4_60 ?_
    refine aw_istoren (pc := 61) hX [(0, vI (((v0 : Int32).toUInt32 >>> ((4 : Int32).toUInt32 &&& Int32.toUInt32 31)).toInt32)), (1, vI (v1 + 4))] rfl (lt_n hN (by decide)) dJ6_numberOfTrailingZeros_0f7a4_61 ?_
    exact w_J6_numberOfTrailingZeros_0f7a4_62 hX hN _ hr (((v0 : Int32).toUInt32 >>> ((4 : Int32).toUInt32 &&& Int32.toUInt32 31)).toInt32) (v1 + 4) hy
def f_J6_numberOfTrailingZeros_0f7a4_34 (h : Mem) (v0 : Int32) (v1 : Int32) : Option Int32 :=
  (if v0 ≤ 256 then f_J6_numberOfTrailingZeros_0f7a4_49 h v0 v1 else f_J6_numberOfTrailingZeros_0f7a4_49 h (((v0 : Int32).toUInt32 >>> ((8 : Int32).toUInt32 &&& Int32.toUInt32 31)).toInt32) (v1 + 8))
set_option maxRecDepth 100000 in
set_option maxHeartbeats 4000000 in
theorem w_J6_numberOfTrailingZeros_0f7a4_34 {G : GE} {X : CX} {l : Launch} (hX : Ok G X cJ6_numberOfTrailingZeros_0f7a4 RJ6) (hN : xn X = 2) (h : Mem) {P : Int32 → Prop} (hr : Rt G X l yJ6_numberOfTrailingZeros_0f7a4 (some .int) rm_J6_numberOfTrailingZeros_0f7a4 (ppI h P)) (v0 : Int32) (v1 : Int32) (hy : OK (f_J6_numberOfTrailingZeros_0f7a4_34 h v0 v1) P) : AW G X 34 [(0, vI v0), (1, vI v1)] [] h 0 0 := by
  unfold f_J6_numberOfTrailingZeros_0f7a4_34 at hy
  refine aw_iloadn (pc := 34) hX 0 rfl dJ6_numberOfTrailingZeros_0f7a4_34 ?_
  refine aw_sipush (pc := 35) hX 256 (by decide) dJ6_numberOfTrailingZeros_0f7a4_35 ?_
  refine aw_ic_le (pc := 38) hX 49 (by decide) dJ6_numberOfTrailingZeros_0f7a4_38 (fun hc9 => ?_) (fun hc9 => ?_)
  · have hy := hy.t hc9
    exact w_J6_numberOfTrailingZeros_0f7a4_49 hX hN _ hr v0 v1 hy
  · have hy := hy.f hc9
    refine aw_iinc (pc := 41) hX 8 (by decide) 1 rfl [(1, vI (v1 + 8)), (0, vI v0)] rfl (lt_n hN (by decide)) dJ6_numberOfTrailingZeros_0f7a4_41 ?_
    refine aw_iloadn (pc := 44) hX 1 rfl dJ6_numberOfTrailingZeros_0f7a4_44 ?_
    refine aw_bipush (pc := 45) hX 8 (by decide) dJ6_numberOfTrailingZeros_0f7a4_45 ?_
    refine aw_iushr (pc := 47) hX dJ6_numberOfTrailingZeros_0f7a4_47 ?_
    refine aw_istoren (pc := 48) hX [(0, vI (((v0 : Int32).toUInt32 >>> ((8 : Int32).toUInt32 &&& Int32.toUInt32 31)).toInt32)), (1, vI (v1 + 8))] rfl (lt_n hN (by decide)) dJ6_numberOfTrailingZeros_0f7a4_48 ?_
    exact w_J6_numberOfTrailingZeros_0f7a4_49 hX hN _ hr (((v0 : Int32).toUInt32 >>> ((8 : Int32).toUInt32 &&& Int32.toUInt32 31)).toInt32) (v1 + 8) hy
def f_J6_numberOfTrailingZeros_0f7a4 (h : Mem) (v0 : Int32) : Option Int32 :=
  (if 0 < ((v0 ^^^ (-1)) &&& (v0 - 1)) then (if ((v0 ^^^ (-1)) &&& (v0 - 1)) ≤ 65536 then f_J6_numberOfTrailingZeros_0f7a4_34 h ((v0 ^^^ (-1)) &&& (v0 - 1)) 1 else f_J6_numberOfTrailingZeros_0f7a4_34 h (((((v0 ^^^ (-1)) &&& (v0 - 1)) : Int32).toUInt32 >>> ((16 : Int32).toUInt32 &&& Int32.toUInt32 31)).toInt32) (1 + 16)) else some (((v0 ^^^ (-1)) &&& (v0 - 1)) &&& 32))
set_option maxRecDepth 100000 in
set_option maxHeartbeats 4000000 in
theorem w_J6_numberOfTrailingZeros_0f7a4 {G : GE} {X : CX} {l : Launch} (hX : Ok G X cJ6_numberOfTrailingZeros_0f7a4 RJ6) (hN : xn X = 2) (h : Mem) {P : Int32 → Prop} (hr : Rt G X l yJ6_numberOfTrailingZeros_0f7a4 (some .int) rm_J6_numberOfTrailingZeros_0f7a4 (ppI h P)) (v0 : Int32) (hy : OK (f_J6_numberOfTrailingZeros_0f7a4 h v0) P) : AW G X 0 [(0, vI v0)] [] h 0 0 := by
  unfold f_J6_numberOfTrailingZeros_0f7a4 at hy
  refine aw_iloadn (pc := 0) hX 0 rfl dJ6_numberOfTrailingZeros_0f7a4_0 ?_
  refine aw_iconst (pc := 1) hX (-1) (by decide) dJ6_numberOfTrailingZeros_0f7a4_1 ?_
  refine aw_ixor (pc := 2) hX dJ6_numberOfTrailingZeros_0f7a4_2 ?_
  refine aw_iloadn (pc := 3) hX 0 rfl dJ6_numberOfTrailingZeros_0f7a4_3 ?_
  refine aw_iconst (pc := 4) hX 1 (by decide) dJ6_numberOfTrailingZeros_0f7a4_4 ?_
  refine aw_isub (pc := 5) hX dJ6_numberOfTrailingZeros_0f7a4_5 ?_
  refine aw_iand (pc := 6) hX dJ6_numberOfTrailingZeros_0f7a4_6 ?_
  refine aw_istoren (pc := 7) hX [(0, vI ((v0 ^^^ (-1)) &&& (v0 - 1)))] rfl (lt_n hN (by decide)) dJ6_numberOfTrailingZeros_0f7a4_7 ?_
  refine aw_iloadn (pc := 8) hX 0 rfl dJ6_numberOfTrailingZeros_0f7a4_8 ?_
  refine aw_if_gt (pc := 9) hX 17 (by decide) dJ6_numberOfTrailingZeros_0f7a4_9 (fun hc9 => ?_) (fun hc9 => ?_)
  · have hy := hy.t hc9
    refine aw_iconst (pc := 17) hX 1 (by decide) dJ6_numberOfTrailingZeros_0f7a4_17 ?_
    refine aw_istoren (pc := 18) hX [(1, vI 1), (0, vI ((v0 ^^^ (-1)) &&& (v0 - 1)))] rfl (lt_n hN (by decide)) dJ6_numberOfTrailingZeros_0f7a4_18 ?_
    refine aw_iloadn (pc := 19) hX 1 rfl dJ6_numberOfTrailingZeros_0f7a4_19 ?_
    refine aw_ldcw (pc := 20) hX kc_J6_264 dJ6_numberOfTrailingZeros_0f7a4_20 ?_
    refine aw_ic_le (pc := 23) hX 34 (by decide) dJ6_numberOfTrailingZeros_0f7a4_23 (fun hc9 => ?_) (fun hc9 => ?_)
    · have hy := hy.t hc9
      refine AW.sub [1, 0] rfl ?_
      exact w_J6_numberOfTrailingZeros_0f7a4_34 hX hN _ hr ((v0 ^^^ (-1)) &&& (v0 - 1)) 1 hy
    · have hy := hy.f hc9
      refine aw_iinc (pc := 26) hX 16 (by decide) 0 rfl [(1, vI (1 + 16)), (0, vI ((v0 ^^^ (-1)) &&& (v0 - 1)))] rfl (lt_n hN (by decide)) dJ6_numberOfTrailingZeros_0f7a4_26 ?_
      refine aw_iloadn (pc := 29) hX 1 rfl dJ6_numberOfTrailingZeros_0f7a4_29 ?_
      refine aw_bipush (pc := 30) hX 16 (by decide) dJ6_numberOfTrailingZeros_0f7a4_30 ?_
      refine aw_iushr (pc := 32) hX dJ6_numberOfTrailingZeros_0f7a4_32 ?_
      refine aw_istoren (pc := 33) hX [(0, vI (((((v0 ^^^ (-1)) &&& (v0 - 1)) : Int32).toUInt32 >>> ((16 : Int32).toUInt32 &&& Int32.toUInt32 31)).toInt32)), (1, vI (1 + 16))] rfl (lt_n hN (by decide)) dJ6_numberOfTrailingZeros_0f7a4_33 ?_
      exact w_J6_numberOfTrailingZeros_0f7a4_34 hX hN _ hr (((((v0 ^^^ (-1)) &&& (v0 - 1)) : Int32).toUInt32 >>> ((16 : Int32).toUInt32 &&& Int32.toUInt32 31)).toInt32) (1 + 16) hy
  · have hy := hy.f hc9
    refine aw_iloadn (pc := 12) hX 0 rfl dJ6_numberOfTrailingZeros_0f7a4_12 ?_
    refine aw_bipush (pc := 13) hX 32 (by decide) dJ6_numberOfTrailingZeros_0f7a4_13 ?_
    refine aw_iand (pc := 15) hX dJ6_numberOfTrailingZeros_0f7a4_15 ?_
    exact aw_iret (pc := 16) hX hr (by decide) (by decide) dJ6_numberOfTrailingZeros_0f7a4_16 ⟨rfl, _, rfl, hy.s⟩
theorem con_J6_numberOfTrailingZeros_0f7a4 (l : Launch) (G : GE) (h : Mem) (v0 : Int32) {P : Int32 → Prop} (hy : OK (f_J6_numberOfTrailingZeros_0f7a4 h v0) P) : Con l G yJ6_numberOfTrailingZeros_0f7a4 cJ6_numberOfTrailingZeros_0f7a4 2 (some .int) rm_J6_numberOfTrailingZeros_0f7a4 [vI v0] h (ppI h P) := Con.of (by decide) (Nat.le_of_ble_eq_true rfl) (fun X hX hr hN => w_J6_numberOfTrailingZeros_0f7a4 hX hN h hr v0 hy)
/-! X3_mostOf -/
theorem dX3_mostOf_0 : decode cX3_mostOf 0 = .ok (.iload_n 2, 1) := by decide +kernel
theorem dX3_mostOf_1 : decode cX3_mostOf 1 = .ok (.invokestatic 50, 3) := by decide +kernel
theorem dX3_mostOf_4 : decode cX3_mostOf 4 = .ok (.istore_n 3, 1) := by decide +kernel
theorem dX3_mostOf_5 : decode cX3_mostOf 5 = .ok (.iload_n 2, 1) := by decide +kernel
theorem dX3_mostOf_6 : decode cX3_mostOf 6 = .ok (.iload_n 2, 1) := by decide +kernel
theorem dX3_mostOf_7 : decode cX3_mostOf 7 = .ok (.iconst 1, 1) := by decide +kernel
theorem dX3_mostOf_8 : decode cX3_mostOf 8 = .ok (.isub, 1) := by decide +kernel
theorem dX3_mostOf_9 : decode cX3_mostOf 9 = .ok (.iand, 1) := by decide +kernel
theorem dX3_mostOf_10 : decode cX3_mostOf 10 = .ok (.istore 4, 2) := by decide +kernel
theorem dX3_mostOf_12 : decode cX3_mostOf 12 = .ok (.aload_n 0, 1) := by decide +kernel
theorem dX3_mostOf_13 : decode cX3_mostOf 13 = .ok (.getfield 11, 3) := by decide +kernel
theorem dX3_mostOf_16 : decode cX3_mostOf 16 = .ok (.iload 4, 2) := by decide +kernel
theorem dX3_mostOf_18 : decode cX3_mostOf 18 = .ok (.iaload, 1) := by decide +kernel
theorem dX3_mostOf_19 : decode cX3_mostOf 19 = .ok (.istore 5, 2) := by decide +kernel
theorem dX3_mostOf_21 : decode cX3_mostOf 21 = .ok (.iload_n 3, 1) := by decide +kernel
theorem dX3_mostOf_22 : decode cX3_mostOf 22 = .ok (.iconst 1, 1) := by decide +kernel
theorem dX3_mostOf_23 : decode cX3_mostOf 23 = .ok (.iadd, 1) := by decide +kernel
theorem dX3_mostOf_24 : decode cX3_mostOf 24 = .ok (.istore 6, 2) := by decide +kernel
theorem dX3_mostOf_26 : decode cX3_mostOf 26 = .ok (.iload 6, 2) := by decide +kernel
theorem dX3_mostOf_28 : decode cX3_mostOf 28 = .ok (.aload_n 1, 1) := by decide +kernel
theorem dX3_mostOf_29 : decode cX3_mostOf 29 = .ok (.getfield 30, 3) := by decide +kernel
theorem dX3_mostOf_32 : decode cX3_mostOf 32 = .ok (.if_icmp .ge 47, 3) := by decide +kernel
theorem dX3_mostOf_35 : decode cX3_mostOf 35 = .ok (.iload 4, 2) := by decide +kernel
theorem dX3_mostOf_37 : decode cX3_mostOf 37 = .ok (.aload_n 0, 1) := by decide +kernel
theorem dX3_mostOf_38 : decode cX3_mostOf 38 = .ok (.getfield 17, 3) := by decide +kernel
theorem dX3_mostOf_41 : decode cX3_mostOf 41 = .ok (.iload_n 3, 1) := by decide +kernel
theorem dX3_mostOf_42 : decode cX3_mostOf 42 = .ok (.iaload, 1) := by decide +kernel
theorem dX3_mostOf_43 : decode cX3_mostOf 43 = .ok (.iand, 1) := by decide +kernel
theorem dX3_mostOf_44 : decode cX3_mostOf 44 = .ok (.iconst 1, 1) := by decide +kernel
theorem dX3_mostOf_45 : decode cX3_mostOf 45 = .ok (.iload 6, 2) := by decide +kernel
theorem dX3_mostOf_47 : decode cX3_mostOf 47 = .ok (.ishl, 1) := by decide +kernel
theorem dX3_mostOf_48 : decode cX3_mostOf 48 = .ok (.iand, 1) := by decide +kernel
theorem dX3_mostOf_49 : decode cX3_mostOf 49 = .ok (.ifCond .eq 24, 3) := by decide +kernel
theorem dX3_mostOf_52 : decode cX3_mostOf 52 = .ok (.iload 5, 2) := by decide +kernel
theorem dX3_mostOf_54 : decode cX3_mostOf 54 = .ok (.iconst 1, 1) := by decide +kernel
theorem dX3_mostOf_55 : decode cX3_mostOf 55 = .ok (.aload_n 0, 1) := by decide +kernel
theorem dX3_mostOf_56 : decode cX3_mostOf 56 = .ok (.getfield 11, 3) := by decide +kernel
theorem dX3_mostOf_59 : decode cX3_mostOf 59 = .ok (.iload 4, 2) := by decide +kernel
theorem dX3_mostOf_61 : decode cX3_mostOf 61 = .ok (.iconst 1, 1) := by decide +kernel
theorem dX3_mostOf_62 : decode cX3_mostOf 62 = .ok (.iload 6, 2) := by decide +kernel
theorem dX3_mostOf_64 : decode cX3_mostOf 64 = .ok (.ishl, 1) := by decide +kernel
theorem dX3_mostOf_65 : decode cX3_mostOf 65 = .ok (.ixor, 1) := by decide +kernel
theorem dX3_mostOf_66 : decode cX3_mostOf 66 = .ok (.iaload, 1) := by decide +kernel
theorem dX3_mostOf_67 : decode cX3_mostOf 67 = .ok (.iadd, 1) := by decide +kernel
theorem dX3_mostOf_68 : decode cX3_mostOf 68 = .ok (.invokestatic 56, 3) := by decide +kernel
theorem dX3_mostOf_71 : decode cX3_mostOf 71 = .ok (.istore 5, 2) := by decide +kernel
theorem dX3_mostOf_73 : decode cX3_mostOf 73 = .ok (.iinc 6 1, 3) := by decide +kernel
theorem dX3_mostOf_76 : decode cX3_mostOf 76 = .ok (.goto (-50), 3) := by decide +kernel
theorem dX3_mostOf_79 : decode cX3_mostOf 79 = .ok (.iload 5, 2) := by decide +kernel
theorem dX3_mostOf_81 : decode cX3_mostOf 81 = .ok (.ireturn, 1) := by decide +kernel
abbrev rm_X3_mostOf : Room := { frames := 1, cells := 0, slots := 0, locals := 21 }
def f_X3_mostOf_73 (h : Mem) (v0 : Nat) (v1 : Nat) (v3 : Int32) (v4 : Int32) (v5 : Int32) (v6 : Int32) : Option ((Int32 × Int32) ⊕ Int32) :=
  some (.inl (v5, (v6 + 1)))
set_option maxRecDepth 100000 in
set_option maxHeartbeats 4000000 in
theorem w_X3_mostOf_73 {G : GE} {X : CX} {l : Launch} (hX : Ok G X cX3_mostOf RX3) (hN : xn X = 7) (h : Mem) {P0 : Int32 → Prop} (hr : Rt G X l yX3_mostOf (some .int) rm_X3_mostOf (ppI h P0))  (v0 : Nat) (v1 : Nat) (v3 : Int32) (v4 : Int32) {P : ((Int32 × Int32) ⊕ Int32) → Prop} (hc : ∀ s, P (.inl s) → AW G X 26 [(0, vR v0), (1, vR v1), (3, vI v3), (4, vI v4), (5, vI s.1), (6, vI s.2)] [] h 0 0) (he0 : ∀ e, P (.inr e) → AW G X 79 [(5, vI e)] [] h 0 0) (v5 : Int32) (v6 : Int32) (hy : OK (f_X3_mostOf_73 h v0 v1 v3 v4 v5 v6) P) : AW G X 73 [(0, vR v0), (1, vR v1), (3, vI v3), (4, vI v4), (5, vI v5), (6, vI v6)] [] h 0 0 := by
  unfold f_X3_mostOf_73 at hy
  refine aw_iinc (pc := 73) hX 1 (by decide) 5 rfl [(6, vI (v6 + 1)), (0, vR v0), (1, vR v1), (3, vI v3), (4, vI v4), (5, vI v5)] rfl (lt_n hN (by decide)) dX3_mostOf_73 ?_
  refine aw_goto (pc := 76) hX 26 (by decide) dX3_mostOf_76 ?_
  refine AW.sub [1, 2, 3, 4, 5, 0] rfl ?_
  exact hc (v5, (v6 + 1)) hy.s
def b_X3_mostOf_26 (h : Mem) (v0 : Nat) (v1 : Nat) (v3 : Int32) (v4 : Int32) (v5 : Int32) (v6 : Int32) : Option ((Int32 × Int32) ⊕ Int32) :=
  (gI h v1 1 4).bind fun x4 => (if x4 ≤ v6 then some (.inr v5) else (gR h v0 1 2).bind fun r5 => (aI h r5 v3).bind fun x6 => (if ((v4 &&& x6) &&& ((1 : Int32) <<< (v6 &&& 31))) = 0 then f_X3_mostOf_73 h v0 v1 v3 v4 v5 v6 else (gR h v0 0 2).bind fun r7 => (aI h r7 (v4 ^^^ ((1 : Int32) <<< (v6 &&& 31)))).bind fun x8 => f_X3_mostOf_73 h v0 v1 v3 v4 (mMax v5 (1 + x8)) v6))
set_option maxRecDepth 100000 in
set_option maxHeartbeats 4000000 in
theorem wb_X3_mostOf_26 {G : GE} {X : CX} {l : Launch} (hX : Ok G X cX3_mostOf RX3) (hN : xn X = 7) (h : Mem) {P0 : Int32 → Prop} (hr : Rt G X l yX3_mostOf (some .int) rm_X3_mostOf (ppI h P0))  (v0 : Nat) (v1 : Nat) (v3 : Int32) (v4 : Int32) {P : ((Int32 × Int32) ⊕ Int32) → Prop} (hc : ∀ s, P (.inl s) → AW G X 26 [(0, vR v0), (1, vR v1), (3, vI v3), (4, vI v4), (5, vI s.1), (6, vI s.2)] [] h 0 0) (he0 : ∀ e, P (.inr e) → AW G X 79 [(5, vI e)] [] h 0 0) (v5 : Int32) (v6 : Int32) (hy : OK (b_X3_mostOf_26 h v0 v1 v3 v4 v5 v6) P) : AW G X 26 [(0, vR v0), (1, vR v1), (3, vI v3), (4, vI v4), (5, vI v5), (6, vI v6)] [] h 0 0 := by
  unfold b_X3_mostOf_26 at hy
  refine aw_iload (pc := 26) hX 5 rfl dX3_mostOf_26 ?_
  refine aw_aloadn (pc := 28) hX 1 rfl dX3_mostOf_28 ?_
  refine aw_gI (pc := 29) hX hy fl_X3_30 (fun _ _ => rfl) dX3_mostOf_29 (fun x4 hy => ?_)
  refine aw_ic_ge (pc := 32) hX 79 (by decide) dX3_mostOf_32 (fun hc9 => ?_) (fun hc9 => ?_)
  · have hy := hy.t hc9
    refine AW.sub [4] rfl ?_
    exact he0 v5 hy.s
  · have hy := hy.f hc9
    refine aw_iload (pc := 35) hX 3 rfl dX3_mostOf_35 ?_
    refine aw_aloadn (pc := 37) hX 0 rfl dX3_mostOf_37 ?_
    refine aw_gR (pc := 38) hX hy fl_X3_17 (fun _ _ => rfl) dX3_mostOf_38 (fun r5 hy => ?_)
    refine aw_iloadn (pc := 41) hX 2 rfl dX3_mostOf_41 ?_
    refine aw_aI (pc := 42) hX hy dX3_mostOf_42 (fun x6 hy => ?_)
    refine aw_iand (pc := 43) hX dX3_mostOf_43 ?_
    refine aw_iconst (pc := 44) hX 1 (by decide) dX3_mostOf_44 ?_
    refine aw_iload (pc := 45) hX 5 rfl dX3_mostOf_45 ?_
    refine aw_ishl (pc := 47) hX dX3_mostOf_47 ?_
    refine aw_iand (pc := 48) hX dX3_mostOf_48 ?_
    refine aw_if_eq (pc := 49) hX 73 (by decide) dX3_mostOf_49 (fun hc9 => ?_) (fun hc9 => ?_)
    · have hy := hy.t hc9
      exact w_X3_mostOf_73 hX hN _ hr _ _ _ _ hc he0 v5 v6 hy
    · have hy := hy.f hc9
      refine aw_iload (pc := 52) hX 4 rfl dX3_mostOf_52 ?_
      refine aw_iconst (pc := 54) hX 1 (by decide) dX3_mostOf_54 ?_
      refine aw_aloadn (pc := 55) hX 0 rfl dX3_mostOf_55 ?_
      refine aw_gR (pc := 56) hX hy fl_X3_11 (fun _ _ => rfl) dX3_mostOf_56 (fun r7 hy => ?_)
      refine aw_iload (pc := 59) hX 3 rfl dX3_mostOf_59 ?_
      refine aw_iconst (pc := 61) hX 1 (by decide) dX3_mostOf_61 ?_
      refine aw_iload (pc := 62) hX 5 rfl dX3_mostOf_62 ?_
      refine aw_ishl (pc := 64) hX dX3_mostOf_64 ?_
      refine aw_ixor (pc := 65) hX dX3_mostOf_65 ?_
      refine aw_aI (pc := 66) hX hy dX3_mostOf_66 (fun x8 hy => ?_)
      refine aw_iadd (pc := 67) hX dX3_mostOf_67 ?_
      refine aw_mmax (pc := 68) hX ml_X3_56 (Nat.le_of_ble_eq_true rfl) (le_f hr (by decide)) (le_l hr (by decide)) (le_c hr (by decide)) (le_s hr (by decide)) dX3_mostOf_68 ?_
      refine aw_istore (pc := 71) hX [(5, vI (mMax v5 (1 + x8))), (0, vR v0), (1, vR v1), (3, vI v3), (4, vI v4), (6, vI v6)] rfl (lt_n hN (by decide)) dX3_mostOf_71 ?_
      refine AW.sub [1, 2, 3, 4, 0, 5] rfl ?_
      exact w_X3_mostOf_73 hX hN _ hr _ _ _ _ hc he0 (mMax v5 (1 + x8)) v6 hy
theorem wl_X3_mostOf_26 {G : GE} {X : CX} {l : Launch} (hX : Ok G X cX3_mostOf RX3) (hN : xn X = 7) (h : Mem) {P0 : Int32 → Prop} (hr : Rt G X l yX3_mostOf (some .int) rm_X3_mostOf (ppI h P0)) (v0 : Nat) (v1 : Nat) (v3 : Int32) (v4 : Int32) {P : (Int32) → Prop} (he0 : ∀ e, P e → AW G X 79 [(5, vI e)] [] h 0 0) : ∀ (n : Nat) (s : Int32 × Int32), OK (iter (fun (s : Int32 × Int32) => b_X3_mostOf_26 h v0 v1 v3 v4 s.1 s.2) n s) P → AW G X 26 [(0, vR v0), (1, vR v1), (3, vI v3), (4, vI v4), (5, vI s.1), (6, vI s.2)] [] h 0 0 := by
  intro n
  induction n with
  | zero => exact fun s hy => hy.it0.elim
  | succ n ih =>
    intro s hy
    exact wb_X3_mostOf_26 hX hN h hr v0 v1 v3 v4 (fun s hs => ih s hs) (fun e hs => he0 e hs) s.1 s.2 hy.it
def f_X3_mostOf (h : Mem) (v0 : Nat) (v1 : Nat) (v2 : Int32) : Option Int32 :=
  (ck h v0 2).bind fun _ => (f_J6_numberOfTrailingZeros_0f7a4 h v2).bind fun x1 => (gR h v0 0 2).bind fun r2 => (aI h r2 (v2 &&& (v2 - 1))).bind fun x3 => (iter (fun (s : Int32 × Int32) => b_X3_mostOf_26 h v0 v1 x1 (v2 &&& (v2 - 1)) s.1 s.2) FU (x3, (x1 + 1))).bind (fun q9 => some q9)
set_option maxRecDepth 100000 in
set_option maxHeartbeats 4000000 in
theorem w_X3_mostOf {G : GE} {X : CX} {l : Launch} (hX : Ok G X cX3_mostOf RX3) (hN : xn X = 7) (h : Mem) {P : Int32 → Prop} (hr : Rt G X l yX3_mostOf (some .int) rm_X3_mostOf (ppI h P)) (v0 : Nat) (v1 : Nat) (v2 : Int32) (hy : OK (f_X3_mostOf h v0 v1 v2) P) : AW G X 0 [(0, vR v0), (1, vR v1), (2, vI v2)] [] h 0 0 := by
  unfold f_X3_mostOf at hy
  have hkd := hy.kd
  have hy := hy.kb
  refine aw_iloadn (pc := 0) hX 2 rfl dX3_mostOf_0 ?_
  refine aw_callS (pc := 1) (st := []) hX [vI v2] (con_J6_numberOfTrailingZeros_0f7a4 _ G _ v2 hy.bd) mc_J6_numberOfTrailingZeros_0f7a4 ml_X3_50 st_J6_numberOfTrailingZeros_0f7a4 rfl (rm_of hr (by decide)) (Nat.le_of_ble_eq_true rfl) rfl dX3_mostOf_1 (kpI rfl rfl (fun x1 hy => ?_))
  refine aw_istoren (pc := 4) hX [(3, vI x1), (0, vR v0), (1, vR v1), (2, vI v2)] rfl (lt_n hN (by decide)) dX3_mostOf_4 ?_
  refine aw_iloadn (pc := 5) hX 3 rfl dX3_mostOf_5 ?_
  refine aw_iloadn (pc := 6) hX 3 rfl dX3_mostOf_6 ?_
  refine aw_iconst (pc := 7) hX 1 (by decide) dX3_mostOf_7 ?_
  refine aw_isub (pc := 8) hX dX3_mostOf_8 ?_
  refine aw_iand (pc := 9) hX dX3_mostOf_9 ?_
  refine aw_istore (pc := 10) hX [(4, vI (v2 &&& (v2 - 1))), (3, vI x1), (0, vR v0), (1, vR v1), (2, vI v2)] rfl (lt_n hN (by decide)) dX3_mostOf_10 ?_
  refine aw_aloadn (pc := 12) hX 2 rfl dX3_mostOf_12 ?_
  refine aw_gR (pc := 13) hX hy fl_X3_11 (fun _ _ => rfl) dX3_mostOf_13 (fun r2 hy => ?_)
  refine aw_iload (pc := 16) hX 0 rfl dX3_mostOf_16 ?_
  refine aw_aI (pc := 18) hX hy dX3_mostOf_18 (fun x3 hy => ?_)
  refine aw_istore (pc := 19) hX [(5, vI x3), (4, vI (v2 &&& (v2 - 1))), (3, vI x1), (0, vR v0), (1, vR v1), (2, vI v2)] rfl (lt_n hN (by decide)) dX3_mostOf_19 ?_
  refine aw_iloadn (pc := 21) hX 2 rfl dX3_mostOf_21 ?_
  refine aw_iconst (pc := 22) hX 1 (by decide) dX3_mostOf_22 ?_
  refine aw_iadd (pc := 23) hX dX3_mostOf_23 ?_
  refine aw_istore (pc := 24) hX [(6, vI (x1 + 1)), (5, vI x3), (4, vI (v2 &&& (v2 - 1))), (3, vI x1), (0, vR v0), (1, vR v1), (2, vI v2)] rfl (lt_n hN (by decide)) dX3_mostOf_24 ?_
  refine AW.sub [4, 5, 3, 2, 1, 0] rfl ?_
  refine wl_X3_mostOf_26 hX hN _ hr v0 v1 x1 (v2 &&& (v2 - 1)) ?_ FU (x3, (x1 + 1)) hy.bd
  · intro q9 hy
    refine aw_iload (pc := 79) hX 0 rfl dX3_mostOf_79 ?_
    exact aw_iret (pc := 81) hX hr (by decide) (by decide) dX3_mostOf_81 ⟨rfl, _, rfl, hy.s⟩
theorem con_X3_mostOf (l : Launch) (G : GE) (h : Mem) (v0 : Nat) (v1 : Nat) (v2 : Int32) {P : Int32 → Prop} (hy : OK (f_X3_mostOf h v0 v1 v2) P) : Con l G yX3_mostOf cX3_mostOf 7 (some .int) rm_X3_mostOf [vR v0, vR v1, vI v2] h (ppI h P) := Con.of (by decide) (Nat.le_of_ble_eq_true rfl) (fun X hX hr hN => w_X3_mostOf hX hN h hr v0 v1 v2 hy)
/-! J7_fill_53178 -/
theorem dJ7_fill_53178_0 : decode cJ7_fill_53178 0 = .ok (.iconst 0, 1) := by decide +kernel
theorem dJ7_fill_53178_1 : decode cJ7_fill_53178 1 = .ok (.istore_n 2, 1) := by decide +kernel
theorem dJ7_fill_53178_2 : decode cJ7_fill_53178 2 = .ok (.aload_n 0, 1) := by decide +kernel
theorem dJ7_fill_53178_3 : decode cJ7_fill_53178 3 = .ok (.arraylength, 1) := by decide +kernel
theorem dJ7_fill_53178_4 : decode cJ7_fill_53178 4 = .ok (.istore_n 3, 1) := by decide +kernel
theorem dJ7_fill_53178_5 : decode cJ7_fill_53178 5 = .ok (.iload_n 2, 1) := by decide +kernel
theorem dJ7_fill_53178_6 : decode cJ7_fill_53178 6 = .ok (.iload_n 3, 1) := by decide +kernel
theorem dJ7_fill_53178_7 : decode cJ7_fill_53178 7 = .ok (.if_icmp .ge 13, 3) := by decide +kernel
theorem dJ7_fill_53178_10 : decode cJ7_fill_53178 10 = .ok (.aload_n 0, 1) := by decide +kernel
theorem dJ7_fill_53178_11 : decode cJ7_fill_53178 11 = .ok (.iload_n 2, 1) := by decide +kernel
theorem dJ7_fill_53178_12 : decode cJ7_fill_53178 12 = .ok (.iload_n 1, 1) := by decide +kernel
theorem dJ7_fill_53178_13 : decode cJ7_fill_53178 13 = .ok (.iastore, 1) := by decide +kernel
theorem dJ7_fill_53178_14 : decode cJ7_fill_53178 14 = .ok (.iinc 2 1, 3) := by decide +kernel
theorem dJ7_fill_53178_17 : decode cJ7_fill_53178 17 = .ok (.goto (-12), 3) := by decide +kernel
theorem dJ7_fill_53178_20 : decode cJ7_fill_53178 20 = .ok (.return_, 1) := by decide +kernel
abbrev rm_J7_fill_53178 : Room := { frames := 0, cells := 0, slots := 0, locals := 0 }
def b_J7_fill_53178_5 (h : Mem) (v0 : Nat) (v1 : Int32) (v3 : Int32) (v2 : Int32) : Option ((Int32 × Mem) ⊕ Mem) :=
  (if v3 ≤ v2 then some (.inr h) else (sI h v0 v2 v1).bind fun h2 => some (.inl ((v2 + 1), h2)))
set_option maxRecDepth 100000 in
set_option maxHeartbeats 4000000 in
theorem wb_J7_fill_53178_5 {G : GE} {X : CX} {l : Launch} (hX : Ok G X cJ7_fill_53178 RJ7) (hN : xn X = 4) {P0 : Mem → Prop} (hr : Rt G X l yJ7_fill_53178 none rm_J7_fill_53178 (pmV P0))  (v0 : Nat) (v1 : Int32) (v3 : Int32) {P : ((Int32 × Mem) ⊕ Mem) → Prop} (hc : ∀ s, P (.inl s) → AW G X 5 [(0, vR v0), (1, vI v1), (2, vI s.1), (3, vI v3)] [] s.2 0 0) (he0 : ∀ e, P (.inr e) → AW G X 20 [] [] e 0 0) (h : Mem) (v2 : Int32) (hy : OK (b_J7_fill_53178_5 h v0 v1 v3 v2) P) : AW G X 5 [(0, vR v0), (1, vI v1), (2, vI v2), (3, vI v3)] [] h 0 0 := by
  unfold b_J7_fill_53178_5 at hy
  refine aw_iloadn (pc := 5) hX 2 rfl dJ7_fill_53178_5 ?_
  refine aw_iloadn (pc := 6) hX 3 rfl dJ7_fill_53178_6 ?_
  refine aw_ic_ge (pc := 7) hX 20 (by decide) dJ7_fill_53178_7 (fun hc9 => ?_) (fun hc9 => ?_)
  · have hy := hy.t hc9
    refine AW.sub [] rfl ?_
    exact he0 h hy.s
  · have hy := hy.f hc9
    refine aw_aloadn (pc := 10) hX 0 rfl dJ7_fill_53178_10 ?_
    refine aw_iloadn (pc := 11) hX 2 rfl dJ7_fill_53178_11 ?_
    refine aw_iloadn (pc := 12) hX 1 rfl dJ7_fill_53178_12 ?_
    refine aw_sI (pc := 13) hX hy dJ7_fill_53178_13 (fun h2 hy => ?_)
    refine aw_iinc (pc := 14) hX 1 (by decide) 2 rfl [(2, vI (v2 + 1)), (0, vR v0), (1, vI v1), (3, vI v3)] rfl (lt_n hN (by decide)) dJ7_fill_53178_14 ?_
    refine aw_goto (pc := 17) hX 5 (by decide) dJ7_fill_53178_17 ?_
    refine AW.sub [1, 2, 0, 3] rfl ?_
    exact hc ((v2 + 1), h2) hy.s
theorem wl_J7_fill_53178_5 {G : GE} {X : CX} {l : Launch} (hX : Ok G X cJ7_fill_53178 RJ7) (hN : xn X = 4) {P0 : Mem → Prop} (hr : Rt G X l yJ7_fill_53178 none rm_J7_fill_53178 (pmV P0)) (v0 : Nat) (v1 : Int32) (v3 : Int32) {P : (Mem) → Prop} (he0 : ∀ e, P e → AW G X 20 [] [] e 0 0) : ∀ (n : Nat) (s : Int32 × Mem), OK (iter (fun (s : Int32 × Mem) => b_J7_fill_53178_5 s.2 v0 v1 v3 s.1) n s) P → AW G X 5 [(0, vR v0), (1, vI v1), (2, vI s.1), (3, vI v3)] [] s.2 0 0 := by
  intro n
  induction n with
  | zero => exact fun s hy => hy.it0.elim
  | succ n ih =>
    intro s hy
    exact wb_J7_fill_53178_5 hX hN hr v0 v1 v3 (fun s hs => ih s hs) (fun e hs => he0 e hs) s.2 s.1 hy.it
def f_J7_fill_53178 (h : Mem) (v0 : Nat) (v1 : Int32) : Option Mem :=
  (aLen h v0).bind fun x1 => (iter (fun (s : Int32 × Mem) => b_J7_fill_53178_5 s.2 v0 v1 x1 s.1) FU (0, h)).bind (fun q3 => some q3)
set_option maxRecDepth 100000 in
set_option maxHeartbeats 4000000 in
theorem w_J7_fill_53178 {G : GE} {X : CX} {l : Launch} (hX : Ok G X cJ7_fill_53178 RJ7) (hN : xn X = 4) {P : Mem → Prop} (hr : Rt G X l yJ7_fill_53178 none rm_J7_fill_53178 (pmV P)) (h : Mem) (v0 : Nat) (v1 : Int32) (hy : OK (f_J7_fill_53178 h v0 v1) P) : AW G X 0 [(0, vR v0), (1, vI v1)] [] h 0 0 := by
  unfold f_J7_fill_53178 at hy
  refine aw_iconst (pc := 0) hX 0 (by decide) dJ7_fill_53178_0 ?_
  refine aw_istoren (pc := 1) hX [(2, vI 0), (0, vR v0), (1, vI v1)] rfl (lt_n hN (by decide)) dJ7_fill_53178_1 ?_
  refine aw_aloadn (pc := 2) hX 1 rfl dJ7_fill_53178_2 ?_
  refine aw_aLen (pc := 3) hX hy dJ7_fill_53178_3 (fun x1 hy => ?_)
  refine aw_istoren (pc := 4) hX [(3, vI x1), (2, vI 0), (0, vR v0), (1, vI v1)] rfl (lt_n hN (by decide)) dJ7_fill_53178_4 ?_
  refine AW.sub [2, 3, 1, 0] rfl ?_
  refine wl_J7_fill_53178_5 hX hN hr v0 v1 x1 ?_ FU (0, h) hy.bd
  · intro q3 hy
    exact aw_vret (pc := 20) hX hr (by decide) (by decide) dJ7_fill_53178_20 ⟨rfl, hy.s⟩
theorem con_J7_fill_53178 (l : Launch) (G : GE) (h : Mem) (v0 : Nat) (v1 : Int32) {P : Mem → Prop} (hy : OK (f_J7_fill_53178 h v0 v1) P) : Con l G yJ7_fill_53178 cJ7_fill_53178 4 none rm_J7_fill_53178 [vR v0, vI v1] h (pmV P) := Con.of (by decide) (Nat.le_of_ble_eq_true rfl) (fun X hX hr hN => w_J7_fill_53178 hX hN hr h v0 v1 hy)
/-! X3_firstMate -/
theorem dX3_firstMate_0 : decode cX3_firstMate 0 = .ok (.iload_n 3, 1) := by decide +kernel
theorem dX3_firstMate_1 : decode cX3_firstMate 1 = .ok (.iconst 1, 1) := by decide +kernel
theorem dX3_firstMate_2 : decode cX3_firstMate 2 = .ok (.iload_n 2, 1) := by decide +kernel
theorem dX3_firstMate_3 : decode cX3_firstMate 3 = .ok (.ishl, 1) := by decide +kernel
theorem dX3_firstMate_4 : decode cX3_firstMate 4 = .ok (.ixor, 1) := by decide +kernel
theorem dX3_firstMate_5 : decode cX3_firstMate 5 = .ok (.istore 4, 2) := by decide +kernel
theorem dX3_firstMate_7 : decode cX3_firstMate 7 = .ok (.iload_n 2, 1) := by decide +kernel
theorem dX3_firstMate_8 : decode cX3_firstMate 8 = .ok (.iconst 1, 1) := by decide +kernel
theorem dX3_firstMate_9 : decode cX3_firstMate 9 = .ok (.iadd, 1) := by decide +kernel
theorem dX3_firstMate_10 : decode cX3_firstMate 10 = .ok (.istore 5, 2) := by decide +kernel
theorem dX3_firstMate_12 : decode cX3_firstMate 12 = .ok (.iload 5, 2) := by decide +kernel
theorem dX3_firstMate_14 : decode cX3_firstMate 14 = .ok (.aload_n 1, 1) := by decide +kernel
theorem dX3_firstMate_15 : decode cX3_firstMate 15 = .ok (.getfield 30, 3) := by decide +kernel
theorem dX3_firstMate_18 : decode cX3_firstMate 18 = .ok (.if_icmp .ge 52, 3) := by decide +kernel
theorem dX3_firstMate_21 : decode cX3_firstMate 21 = .ok (.iload 4, 2) := by decide +kernel
theorem dX3_firstMate_23 : decode cX3_firstMate 23 = .ok (.aload_n 0, 1) := by decide +kernel
theorem dX3_firstMate_24 : decode cX3_firstMate 24 = .ok (.getfield 17, 3) := by decide +kernel
theorem dX3_firstMate_27 : decode cX3_firstMate 27 = .ok (.iload_n 2, 1) := by decide +kernel
theorem dX3_firstMate_28 : decode cX3_firstMate 28 = .ok (.iaload, 1) := by decide +kernel
theorem dX3_firstMate_29 : decode cX3_firstMate 29 = .ok (.iand, 1) := by decide +kernel
theorem dX3_firstMate_30 : decode cX3_firstMate 30 = .ok (.iconst 1, 1) := by decide +kernel
theorem dX3_firstMate_31 : decode cX3_firstMate 31 = .ok (.iload 5, 2) := by decide +kernel
theorem dX3_firstMate_33 : decode cX3_firstMate 33 = .ok (.ishl, 1) := by decide +kernel
theorem dX3_firstMate_34 : decode cX3_firstMate 34 = .ok (.iand, 1) := by decide +kernel
theorem dX3_firstMate_35 : decode cX3_firstMate 35 = .ok (.ifCond .eq 29, 3) := by decide +kernel
theorem dX3_firstMate_38 : decode cX3_firstMate 38 = .ok (.iconst 1, 1) := by decide +kernel
theorem dX3_firstMate_39 : decode cX3_firstMate 39 = .ok (.aload_n 0, 1) := by decide +kernel
theorem dX3_firstMate_40 : decode cX3_firstMate 40 = .ok (.getfield 11, 3) := by decide +kernel
theorem dX3_firstMate_43 : decode cX3_firstMate 43 = .ok (.iload 4, 2) := by decide +kernel
theorem dX3_firstMate_45 : decode cX3_firstMate 45 = .ok (.iconst 1, 1) := by decide +kernel
theorem dX3_firstMate_46 : decode cX3_firstMate 46 = .ok (.iload 5, 2) := by decide +kernel
theorem dX3_firstMate_48 : decode cX3_firstMate 48 = .ok (.ishl, 1) := by decide +kernel
theorem dX3_firstMate_49 : decode cX3_firstMate 49 = .ok (.ixor, 1) := by decide +kernel
theorem dX3_firstMate_50 : decode cX3_firstMate 50 = .ok (.iaload, 1) := by decide +kernel
theorem dX3_firstMate_51 : decode cX3_firstMate 51 = .ok (.iadd, 1) := by decide +kernel
theorem dX3_firstMate_52 : decode cX3_firstMate 52 = .ok (.aload_n 0, 1) := by decide +kernel
theorem dX3_firstMate_53 : decode cX3_firstMate 53 = .ok (.getfield 11, 3) := by decide +kernel
theorem dX3_firstMate_56 : decode cX3_firstMate 56 = .ok (.iload_n 3, 1) := by decide +kernel
theorem dX3_firstMate_57 : decode cX3_firstMate 57 = .ok (.iaload, 1) := by decide +kernel
theorem dX3_firstMate_58 : decode cX3_firstMate 58 = .ok (.if_icmp .ne 6, 3) := by decide +kernel
theorem dX3_firstMate_61 : decode cX3_firstMate 61 = .ok (.iload 5, 2) := by decide +kernel
theorem dX3_firstMate_63 : decode cX3_firstMate 63 = .ok (.ireturn, 1) := by decide +kernel
theorem dX3_firstMate_64 : decode cX3_firstMate 64 = .ok (.iinc 5 1, 3) := by decide +kernel
theorem dX3_firstMate_67 : decode cX3_firstMate 67 = .ok (.goto (-55), 3) := by decide +kernel
theorem dX3_firstMate_70 : decode cX3_firstMate 70 = .ok (.iconst (-1), 1) := by decide +kernel
theorem dX3_firstMate_71 : decode cX3_firstMate 71 = .ok (.ireturn, 1) := by decide +kernel
abbrev rm_X3_firstMate : Room := { frames := 0, cells := 0, slots := 0, locals := 0 }
def f_X3_firstMate_64 (h : Mem) (v0 : Nat) (v1 : Nat) (v2 : Int32) (v3 : Int32) (v4 : Int32) (v5 : Int32) : Option (Int32 ⊕ (Int32 ⊕ Unit)) :=
  some (.inl (v5 + 1))
set_option maxRecDepth 100000 in
set_option maxHeartbeats 4000000 in
theorem w_X3_firstMate_64 {G : GE} {X : CX} {l : Launch} (hX : Ok G X cX3_firstMate RX3) (hN : xn X = 6) (h : Mem) {P0 : Int32 → Prop} (hr : Rt G X l yX3_firstMate (some .int) rm_X3_firstMate (ppI h P0))  (v0 : Nat) (v1 : Nat) (v2 : Int32) (v3 : Int32) (v4 : Int32) {P : (Int32 ⊕ (Int32 ⊕ Unit)) → Prop} (hc : ∀ s, P (.inl s) → AW G X 12 [(0, vR v0), (1, vR v1), (2, vI v2), (3, vI v3), (4, vI v4), (5, vI s)] [] h 0 0) (he0 : ∀ e, P (.inr (.inl e)) → AW G X 61 [(5, vI e)] [] h 0 0) (he1 : ∀ e, P (.inr (.inr e)) → AW G X 70 [] [] h 0 0) (v5 : Int32) (hy : OK (f_X3_firstMate_64 h v0 v1 v2 v3 v4 v5) P) : AW G X 64 [(0, vR v0), (1, vR v1), (2, vI v2), (3, vI v3), (4, vI v4), (5, vI v5)] [] h 0 0 := by
  unfold f_X3_firstMate_64 at hy
  refine aw_iinc (pc := 64) hX 1 (by decide) 5 rfl [(5, vI (v5 + 1)), (0, vR v0), (1, vR v1), (2, vI v2), (3, vI v3), (4, vI v4)] rfl (lt_n hN (by decide)) dX3_firstMate_64 ?_
  refine aw_goto (pc := 67) hX 12 (by decide) dX3_firstMate_67 ?_
  refine AW.sub [1, 2, 3, 4, 5, 0] rfl ?_
  exact hc (v5 + 1) hy.s
def b_X3_firstMate_12 (h : Mem) (v0 : Nat) (v1 : Nat) (v2 : Int32) (v3 : Int32) (v4 : Int32) (v5 : Int32) : Option (Int32 ⊕ (Int32 ⊕ Unit)) :=
  (gI h v1 1 4).bind fun x1 => (if x1 ≤ v5 then some (.inr (.inr ())) else (gR h v0 1 2).bind fun r2 => (aI h r2 v2).bind fun x3 => (if ((v4 &&& x3) &&& ((1 : Int32) <<< (v5 &&& 31))) = 0 then f_X3_firstMate_64 h v0 v1 v2 v3 v4 v5 else (gR h v0 0 2).bind fun r4 => (aI h r4 (v4 ^^^ ((1 : Int32) <<< (v5 &&& 31)))).bind fun x5 => (gR h v0 0 2).bind fun r6 => (aI h r6 v3).bind fun x7 => (if (1 + x5) = x7 then some (.inr (.inl v5)) else f_X3_firstMate_64 h v0 v1 v2 v3 v4 v5)))
set_option maxRecDepth 100000 in
set_option maxHeartbeats 4000000 in
theorem wb_X3_firstMate_12 {G : GE} {X : CX} {l : Launch} (hX : Ok G X cX3_firstMate RX3) (hN : xn X = 6) (h : Mem) {P0 : Int32 → Prop} (hr : Rt G X l yX3_firstMate (some .int) rm_X3_firstMate (ppI h P0))  (v0 : Nat) (v1 : Nat) (v2 : Int32) (v3 : Int32) (v4 : Int32) {P : (Int32 ⊕ (Int32 ⊕ Unit)) → Prop} (hc : ∀ s, P (.inl s) → AW G X 12 [(0, vR v0), (1, vR v1), (2, vI v2), (3, vI v3), (4, vI v4), (5, vI s)] [] h 0 0) (he0 : ∀ e, P (.inr (.inl e)) → AW G X 61 [(5, vI e)] [] h 0 0) (he1 : ∀ e, P (.inr (.inr e)) → AW G X 70 [] [] h 0 0) (v5 : Int32) (hy : OK (b_X3_firstMate_12 h v0 v1 v2 v3 v4 v5) P) : AW G X 12 [(0, vR v0), (1, vR v1), (2, vI v2), (3, vI v3), (4, vI v4), (5, vI v5)] [] h 0 0 := by
  unfold b_X3_firstMate_12 at hy
  refine aw_iload (pc := 12) hX 5 rfl dX3_firstMate_12 ?_
  refine aw_aloadn (pc := 14) hX 1 rfl dX3_firstMate_14 ?_
  refine aw_gI (pc := 15) hX hy fl_X3_30 (fun _ _ => rfl) dX3_firstMate_15 (fun x1 hy => ?_)
  refine aw_ic_ge (pc := 18) hX 70 (by decide) dX3_firstMate_18 (fun hc9 => ?_) (fun hc9 => ?_)
  · have hy := hy.t hc9
    refine AW.sub [] rfl ?_
    exact he1 () hy.s
  · have hy := hy.f hc9
    refine aw_iload (pc := 21) hX 4 rfl dX3_firstMate_21 ?_
    refine aw_aloadn (pc := 23) hX 0 rfl dX3_firstMate_23 ?_
    refine aw_gR (pc := 24) hX hy fl_X3_17 (fun _ _ => rfl) dX3_firstMate_24 (fun r2 hy => ?_)
    refine aw_iloadn (pc := 27) hX 2 rfl dX3_firstMate_27 ?_
    refine aw_aI (pc := 28) hX hy dX3_firstMate_28 (fun x3 hy => ?_)
    refine aw_iand (pc := 29) hX dX3_firstMate_29 ?_
    refine aw_iconst (pc := 30) hX 1 (by decide) dX3_firstMate_30 ?_
    refine aw_iload (pc := 31) hX 5 rfl dX3_firstMate_31 ?_
    refine aw_ishl (pc := 33) hX dX3_firstMate_33 ?_
    refine aw_iand (pc := 34) hX dX3_firstMate_34 ?_
    refine aw_if_eq (pc := 35) hX 64 (by decide) dX3_firstMate_35 (fun hc9 => ?_) (fun hc9 => ?_)
    · have hy := hy.t hc9
      exact w_X3_firstMate_64 hX hN _ hr _ _ _ _ _ hc he0 he1 v5 hy
    · have hy := hy.f hc9
      refine aw_iconst (pc := 38) hX 1 (by decide) dX3_firstMate_38 ?_
      refine aw_aloadn (pc := 39) hX 0 rfl dX3_firstMate_39 ?_
      refine aw_gR (pc := 40) hX hy fl_X3_11 (fun _ _ => rfl) dX3_firstMate_40 (fun r4 hy => ?_)
      refine aw_iload (pc := 43) hX 4 rfl dX3_firstMate_43 ?_
      refine aw_iconst (pc := 45) hX 1 (by decide) dX3_firstMate_45 ?_
      refine aw_iload (pc := 46) hX 5 rfl dX3_firstMate_46 ?_
      refine aw_ishl (pc := 48) hX dX3_firstMate_48 ?_
      refine aw_ixor (pc := 49) hX dX3_firstMate_49 ?_
      refine aw_aI (pc := 50) hX hy dX3_firstMate_50 (fun x5 hy => ?_)
      refine aw_iadd (pc := 51) hX dX3_firstMate_51 ?_
      refine aw_aloadn (pc := 52) hX 0 rfl dX3_firstMate_52 ?_
      refine aw_gR (pc := 53) hX hy fl_X3_11 (fun _ _ => rfl) dX3_firstMate_53 (fun r6 hy => ?_)
      refine aw_iloadn (pc := 56) hX 3 rfl dX3_firstMate_56 ?_
      refine aw_aI (pc := 57) hX hy dX3_firstMate_57 (fun x7 hy => ?_)
      refine aw_ic_ne (pc := 58) hX 64 (by decide) dX3_firstMate_58 (fun hc9 => ?_) (fun hc9 => ?_)
      · have hy := hy.f hc9
        exact w_X3_firstMate_64 hX hN _ hr _ _ _ _ _ hc he0 he1 v5 hy
      · have hy := hy.t hc9
        refine AW.sub [5] rfl ?_
        exact he0 v5 hy.s
theorem wl_X3_firstMate_12 {G : GE} {X : CX} {l : Launch} (hX : Ok G X cX3_firstMate RX3) (hN : xn X = 6) (h : Mem) {P0 : Int32 → Prop} (hr : Rt G X l yX3_firstMate (some .int) rm_X3_firstMate (ppI h P0)) (v0 : Nat) (v1 : Nat) (v2 : Int32) (v3 : Int32) (v4 : Int32) {P : (Int32 ⊕ Unit) → Prop} (he0 : ∀ e, P (.inl e) → AW G X 61 [(5, vI e)] [] h 0 0) (he1 : ∀ e, P (.inr e) → AW G X 70 [] [] h 0 0) : ∀ (n : Nat) (s : Int32), OK (iter (fun (s : Int32) => b_X3_firstMate_12 h v0 v1 v2 v3 v4 s) n s) P → AW G X 12 [(0, vR v0), (1, vR v1), (2, vI v2), (3, vI v3), (4, vI v4), (5, vI s)] [] h 0 0 := by
  intro n
  induction n with
  | zero => exact fun s hy => hy.it0.elim
  | succ n ih =>
    intro s hy
    exact wb_X3_firstMate_12 hX hN h hr v0 v1 v2 v3 v4 (fun s hs => ih s hs) (fun e hs => he0 e hs) (fun e hs => he1 e hs) s hy.it
def f_X3_firstMate (h : Mem) (v0 : Nat) (v1 : Nat) (v2 : Int32) (v3 : Int32) : Option Int32 :=
  (ck h v0 2).bind fun _ => (iter (fun (s : Int32) => b_X3_firstMate_12 h v0 v1 v2 v3 (v3 ^^^ ((1 : Int32) <<< (v2 &&& 31))) s) FU (v2 + 1)).bind (Sum.elim (fun e9 => some e9) (fun e10 => some (-1)))
set_option maxRecDepth 100000 in
set_option maxHeartbeats 4000000 in
theorem w_X3_firstMate {G : GE} {X : CX} {l : Launch} (hX : Ok G X cX3_firstMate RX3) (hN : xn X = 6) (h : Mem) {P : Int32 → Prop} (hr : Rt G X l yX3_firstMate (some .int) rm_X3_firstMate (ppI h P)) (v0 : Nat) (v1 : Nat) (v2 : Int32) (v3 : Int32) (hy : OK (f_X3_firstMate h v0 v1 v2 v3) P) : AW G X 0 [(0, vR v0), (1, vR v1), (2, vI v2), (3, vI v3)] [] h 0 0 := by
  unfold f_X3_firstMate at hy
  have hkd := hy.kd
  have hy := hy.kb
  refine aw_iloadn (pc := 0) hX 3 rfl dX3_firstMate_0 ?_
  refine aw_iconst (pc := 1) hX 1 (by decide) dX3_firstMate_1 ?_
  refine aw_iloadn (pc := 2) hX 2 rfl dX3_firstMate_2 ?_
  refine aw_ishl (pc := 3) hX dX3_firstMate_3 ?_
  refine aw_ixor (pc := 4) hX dX3_firstMate_4 ?_
  refine aw_istore (pc := 5) hX [(4, vI (v3 ^^^ ((1 : Int32) <<< (v2 &&& 31)))), (0, vR v0), (1, vR v1), (2, vI v2), (3, vI v3)] rfl (lt_n hN (by decide)) dX3_firstMate_5 ?_
  refine aw_iloadn (pc := 7) hX 3 rfl dX3_firstMate_7 ?_
  refine aw_iconst (pc := 8) hX 1 (by decide) dX3_firstMate_8 ?_
  refine aw_iadd (pc := 9) hX dX3_firstMate_9 ?_
  refine aw_istore (pc := 10) hX [(5, vI (v2 + 1)), (4, vI (v3 ^^^ ((1 : Int32) <<< (v2 &&& 31)))), (0, vR v0), (1, vR v1), (2, vI v2), (3, vI v3)] rfl (lt_n hN (by decide)) dX3_firstMate_10 ?_
  refine AW.sub [2, 3, 4, 5, 1, 0] rfl ?_
  refine wl_X3_firstMate_12 hX hN _ hr v0 v1 v2 v3 (v3 ^^^ ((1 : Int32) <<< (v2 &&& 31))) ?_ ?_ FU (v2 + 1) hy.bd
  · intro e9 hy
    refine aw_iload (pc := 61) hX 0 rfl dX3_firstMate_61 ?_
    exact aw_iret (pc := 63) hX hr (by decide) (by decide) dX3_firstMate_63 ⟨rfl, _, rfl, hy.s⟩
  · intro e10 hy
    refine aw_iconst (pc := 70) hX (-1) (by decide) dX3_firstMate_70 ?_
    exact aw_iret (pc := 71) hX hr (by decide) (by decide) dX3_firstMate_71 ⟨rfl, _, rfl, hy.s⟩
theorem con_X3_firstMate (l : Launch) (G : GE) (h : Mem) (v0 : Nat) (v1 : Nat) (v2 : Int32) (v3 : Int32) {P : Int32 → Prop} (hy : OK (f_X3_firstMate h v0 v1 v2 v3) P) : Con l G yX3_firstMate cX3_firstMate 6 (some .int) rm_X3_firstMate [vR v0, vR v1, vI v2, vI v3] h (ppI h P) := Con.of (by decide) (Nat.le_of_ble_eq_true rfl) (fun X hX hr hN => w_X3_firstMate hX hN h hr v0 v1 v2 v3 hy)
/-! X3_takeFirst -/
theorem dX3_takeFirst_0 : decode cX3_takeFirst 0 = .ok (.aload_n 0, 1) := by decide +kernel
theorem dX3_takeFirst_1 : decode cX3_takeFirst 1 = .ok (.getfield 20, 3) := by decide +kernel
theorem dX3_takeFirst_4 : decode cX3_takeFirst 4 = .ok (.bipush (-2), 2) := by decide +kernel
theorem dX3_takeFirst_6 : decode cX3_takeFirst 6 = .ok (.invokestatic 61, 3) := by decide +kernel
theorem dX3_takeFirst_9 : decode cX3_takeFirst 9 = .ok (.iconst 1, 1) := by decide +kernel
theorem dX3_takeFirst_10 : decode cX3_takeFirst 10 = .ok (.aload_n 1, 1) := by decide +kernel
theorem dX3_takeFirst_11 : decode cX3_takeFirst 11 = .ok (.getfield 30, 3) := by decide +kernel
theorem dX3_takeFirst_14 : decode cX3_takeFirst 14 = .ok (.ishl, 1) := by decide +kernel
theorem dX3_takeFirst_15 : decode cX3_takeFirst 15 = .ok (.iconst 1, 1) := by decide +kernel
theorem dX3_takeFirst_16 : decode cX3_takeFirst 16 = .ok (.isub, 1) := by decide +kernel
theorem dX3_takeFirst_17 : decode cX3_takeFirst 17 = .ok (.istore_n 2, 1) := by decide +kernel
theorem dX3_takeFirst_18 : decode cX3_takeFirst 18 = .ok (.iconst 0, 1) := by decide +kernel
theorem dX3_takeFirst_19 : decode cX3_takeFirst 19 = .ok (.istore_n 3, 1) := by decide +kernel
theorem dX3_takeFirst_20 : decode cX3_takeFirst 20 = .ok (.iload_n 3, 1) := by decide +kernel
theorem dX3_takeFirst_21 : decode cX3_takeFirst 21 = .ok (.aload_n 1, 1) := by decide +kernel
theorem dX3_takeFirst_22 : decode cX3_takeFirst 22 = .ok (.getfield 30, 3) := by decide +kernel
theorem dX3_takeFirst_25 : decode cX3_takeFirst 25 = .ok (.if_icmp .ge 63, 3) := by decide +kernel
theorem dX3_takeFirst_28 : decode cX3_takeFirst 28 = .ok (.iload_n 2, 1) := by decide +kernel
theorem dX3_takeFirst_29 : decode cX3_takeFirst 29 = .ok (.iload_n 3, 1) := by decide +kernel
theorem dX3_takeFirst_30 : decode cX3_takeFirst 30 = .ok (.ishr, 1) := by decide +kernel
theorem dX3_takeFirst_31 : decode cX3_takeFirst 31 = .ok (.iconst 1, 1) := by decide +kernel
theorem dX3_takeFirst_32 : decode cX3_takeFirst 32 = .ok (.iand, 1) := by decide +kernel
theorem dX3_takeFirst_33 : decode cX3_takeFirst 33 = .ok (.ifCond .ne 6, 3) := by decide +kernel
theorem dX3_takeFirst_36 : decode cX3_takeFirst 36 = .ok (.goto 46, 3) := by decide +kernel
theorem dX3_takeFirst_39 : decode cX3_takeFirst 39 = .ok (.aload_n 0, 1) := by decide +kernel
theorem dX3_takeFirst_40 : decode cX3_takeFirst 40 = .ok (.aload_n 1, 1) := by decide +kernel
theorem dX3_takeFirst_41 : decode cX3_takeFirst 41 = .ok (.iload_n 3, 1) := by decide +kernel
theorem dX3_takeFirst_42 : decode cX3_takeFirst 42 = .ok (.iload_n 2, 1) := by decide +kernel
theorem dX3_takeFirst_43 : decode cX3_takeFirst 43 = .ok (.invokevirtual 67, 3) := by decide +kernel
theorem dX3_takeFirst_46 : decode cX3_takeFirst 46 = .ok (.istore 4, 2) := by decide +kernel
theorem dX3_takeFirst_48 : decode cX3_takeFirst 48 = .ok (.iload_n 2, 1) := by decide +kernel
theorem dX3_takeFirst_49 : decode cX3_takeFirst 49 = .ok (.iconst 1, 1) := by decide +kernel
theorem dX3_takeFirst_50 : decode cX3_takeFirst 50 = .ok (.iload_n 3, 1) := by decide +kernel
theorem dX3_takeFirst_51 : decode cX3_takeFirst 51 = .ok (.ishl, 1) := by decide +kernel
theorem dX3_takeFirst_52 : decode cX3_takeFirst 52 = .ok (.ixor, 1) := by decide +kernel
theorem dX3_takeFirst_53 : decode cX3_takeFirst 53 = .ok (.istore_n 2, 1) := by decide +kernel
theorem dX3_takeFirst_54 : decode cX3_takeFirst 54 = .ok (.iload 4, 2) := by decide +kernel
theorem dX3_takeFirst_56 : decode cX3_takeFirst 56 = .ok (.ifCond .lt 26, 3) := by decide +kernel
theorem dX3_takeFirst_59 : decode cX3_takeFirst 59 = .ok (.aload_n 0, 1) := by decide +kernel
theorem dX3_takeFirst_60 : decode cX3_takeFirst 60 = .ok (.getfield 20, 3) := by decide +kernel
theorem dX3_takeFirst_63 : decode cX3_takeFirst 63 = .ok (.iload_n 3, 1) := by decide +kernel
theorem dX3_takeFirst_64 : decode cX3_takeFirst 64 = .ok (.iload 4, 2) := by decide +kernel
theorem dX3_takeFirst_66 : decode cX3_takeFirst 66 = .ok (.iastore, 1) := by decide +kernel
theorem dX3_takeFirst_67 : decode cX3_takeFirst 67 = .ok (.aload_n 0, 1) := by decide +kernel
theorem dX3_takeFirst_68 : decode cX3_takeFirst 68 = .ok (.getfield 20, 3) := by decide +kernel
theorem dX3_takeFirst_71 : decode cX3_takeFirst 71 = .ok (.iload 4, 2) := by decide +kernel
theorem dX3_takeFirst_73 : decode cX3_takeFirst 73 = .ok (.iload_n 3, 1) := by decide +kernel
theorem dX3_takeFirst_74 : decode cX3_takeFirst 74 = .ok (.iastore, 1) := by decide +kernel
theorem dX3_takeFirst_75 : decode cX3_takeFirst 75 = .ok (.iload_n 2, 1) := by decide +kernel
theorem dX3_takeFirst_76 : decode cX3_takeFirst 76 = .ok (.iconst 1, 1) := by decide +kernel
theorem dX3_takeFirst_77 : decode cX3_takeFirst 77 = .ok (.iload 4, 2) := by decide +kernel
theorem dX3_takeFirst_79 : decode cX3_takeFirst 79 = .ok (.ishl, 1) := by decide +kernel
theorem dX3_takeFirst_80 : decode cX3_takeFirst 80 = .ok (.ixor, 1) := by decide +kernel
theorem dX3_takeFirst_81 : decode cX3_takeFirst 81 = .ok (.istore_n 2, 1) := by decide +kernel
theorem dX3_takeFirst_82 : decode cX3_takeFirst 82 = .ok (.iinc 3 1, 3) := by decide +kernel
theorem dX3_takeFirst_85 : decode cX3_takeFirst 85 = .ok (.goto (-65), 3) := by decide +kernel
theorem dX3_takeFirst_88 : decode cX3_takeFirst 88 = .ok (.return_, 1) := by decide +kernel
abbrev rm_X3_takeFirst : Room := { frames := 1, cells := 0, slots := 0, locals := 25 }
def f_X3_takeFirst_82 (h : Mem) (v0 : Nat) (v1 : Nat) (v2 : Int32) (v3 : Int32) : Option ((Int32 × Int32 × Mem) ⊕ Mem) :=
  some (.inl (v2, (v3 + 1), h))
set_option maxRecDepth 100000 in
set_option maxHeartbeats 4000000 in
theorem w_X3_takeFirst_82 {G : GE} {X : CX} {l : Launch} (hX : Ok G X cX3_takeFirst RX3) (hN : xn X = 5) {P0 : Mem → Prop} (hr : Rt G X l yX3_takeFirst none rm_X3_takeFirst (pmV P0))  (v0 : Nat) (v1 : Nat) {P : ((Int32 × Int32 × Mem) ⊕ Mem) → Prop} (hc : ∀ s, P (.inl s) → AW G X 20 [(0, vR v0), (1, vR v1), (2, vI s.1), (3, vI s.2.1)] [] s.2.2 0 0) (he0 : ∀ e, P (.inr e) → AW G X 88 [] [] e 0 0) (h : Mem) (v2 : Int32) (v3 : Int32) (hy : OK (f_X3_takeFirst_82 h v0 v1 v2 v3) P) : AW G X 82 [(0, vR v0), (1, vR v1), (2, vI v2), (3, vI v3)] [] h 0 0 := by
  unfold f_X3_takeFirst_82 at hy
  refine aw_iinc (pc := 82) hX 1 (by decide) 3 rfl [(3, vI (v3 + 1)), (0, vR v0), (1, vR v1), (2, vI v2)] rfl (lt_n hN (by decide)) dX3_takeFirst_82 ?_
  refine aw_goto (pc := 85) hX 20 (by decide) dX3_takeFirst_85 ?_
  refine AW.sub [1, 2, 3, 0] rfl ?_
  exact hc (v2, (v3 + 1), h) hy.s
def b_X3_takeFirst_20 (h : Mem) (v0 : Nat) (v1 : Nat) (v2 : Int32) (v3 : Int32) : Option ((Int32 × Int32 × Mem) ⊕ Mem) :=
  (gI h v1 1 4).bind fun x4 => (if x4 ≤ v3 then some (.inr h) else (if (((v2 : Int32) >>> (v3 &&& 31)) &&& 1) = 0 then f_X3_takeFirst_82 h v0 v1 v2 v3 else (f_X3_firstMate h v0 v1 v3 v2).bind fun x5 => (if x5 < 0 then f_X3_takeFirst_82 h v0 v1 (v2 ^^^ ((1 : Int32) <<< (v3 &&& 31))) v3 else (gR h v0 2 2).bind fun r6 => (sI h r6 v3 x5).bind fun h7 => (gR h7 v0 2 2).bind fun r8 => (sI h7 r8 x5 v3).bind fun h9 => f_X3_takeFirst_82 h9 v0 v1 ((v2 ^^^ ((1 : Int32) <<< (v3 &&& 31))) ^^^ ((1 : Int32) <<< (x5 &&& 31))) v3)))
set_option maxRecDepth 100000 in
set_option maxHeartbeats 4000000 in
theorem wb_X3_takeFirst_20 {G : GE} {X : CX} {l : Launch} (hX : Ok G X cX3_takeFirst RX3) (hN : xn X = 5) {P0 : Mem → Prop} (hr : Rt G X l yX3_takeFirst none rm_X3_takeFirst (pmV P0))  (v0 : Nat) (v1 : Nat) {P : ((Int32 × Int32 × Mem) ⊕ Mem) → Prop} (hc : ∀ s, P (.inl s) → AW G X 20 [(0, vR v0), (1, vR v1), (2, vI s.1), (3, vI s.2.1)] [] s.2.2 0 0) (he0 : ∀ e, P (.inr e) → AW G X 88 [] [] e 0 0) (h : Mem) (v2 : Int32) (v3 : Int32) (hy : OK (b_X3_takeFirst_20 h v0 v1 v2 v3) P) : AW G X 20 [(0, vR v0), (1, vR v1), (2, vI v2), (3, vI v3)] [] h 0 0 := by
  unfold b_X3_takeFirst_20 at hy
  refine aw_iloadn (pc := 20) hX 3 rfl dX3_takeFirst_20 ?_
  refine aw_aloadn (pc := 21) hX 1 rfl dX3_takeFirst_21 ?_
  refine aw_gI (pc := 22) hX hy fl_X3_30 (fun _ _ => rfl) dX3_takeFirst_22 (fun x4 hy => ?_)
  refine aw_ic_ge (pc := 25) hX 88 (by decide) dX3_takeFirst_25 (fun hc9 => ?_) (fun hc9 => ?_)
  · have hy := hy.t hc9
    refine AW.sub [] rfl ?_
    exact he0 h hy.s
  · have hy := hy.f hc9
    refine aw_iloadn (pc := 28) hX 2 rfl dX3_takeFirst_28 ?_
    refine aw_iloadn (pc := 29) hX 3 rfl dX3_takeFirst_29 ?_
    refine aw_ishr (pc := 30) hX dX3_takeFirst_30 ?_
    refine aw_iconst (pc := 31) hX 1 (by decide) dX3_takeFirst_31 ?_
    refine aw_iand (pc := 32) hX dX3_takeFirst_32 ?_
    refine aw_if_ne (pc := 33) hX 39 (by decide) dX3_takeFirst_33 (fun hc9 => ?_) (fun hc9 => ?_)
    · have hy := hy.f hc9
      refine aw_aloadn (pc := 39) hX 0 rfl dX3_takeFirst_39 ?_
      refine aw_aloadn (pc := 40) hX 1 rfl dX3_takeFirst_40 ?_
      refine aw_iloadn (pc := 41) hX 3 rfl dX3_takeFirst_41 ?_
      refine aw_iloadn (pc := 42) hX 2 rfl dX3_takeFirst_42 ?_
      refine aw_callV (pc := 43) (st := []) (a := v0) hX [vR v1, vI v3, vI v2] (con_X3_firstMate _ G _ v0 v1 v3 v2 hy.bd) mc_X3_firstMate ml_X3_67 im_X3_firstMate se_X3_firstMate (by decide) hy.bd.kd rfl (rm_of hr (by decide)) (Nat.le_of_ble_eq_true rfl) rfl dX3_takeFirst_43 (kpI rfl rfl (fun x5 hy => ?_))
      refine aw_istore (pc := 46) hX [(4, vI x5), (0, vR v0), (1, vR v1), (2, vI v2), (3, vI v3)] rfl (lt_n hN (by decide)) dX3_takeFirst_46 ?_
      refine aw_iloadn (pc := 48) hX 3 rfl dX3_takeFirst_48 ?_
      refine aw_iconst (pc := 49) hX 1 (by decide) dX3_takeFirst_49 ?_
      refine aw_iloadn (pc := 50) hX 4 rfl dX3_takeFirst_50 ?_
      refine aw_ishl (pc := 51) hX dX3_takeFirst_51 ?_
      refine aw_ixor (pc := 52) hX dX3_takeFirst_52 ?_
      refine aw_istoren (pc := 53) hX [(2, vI (v2 ^^^ ((1 : Int32) <<< (v3 &&& 31)))), (4, vI x5), (0, vR v0), (1, vR v1), (3, vI v3)] rfl (lt_n hN (by decide)) dX3_takeFirst_53 ?_
      refine aw_iload (pc := 54) hX 1 rfl dX3_takeFirst_54 ?_
      refine aw_if_lt (pc := 56) hX 82 (by decide) dX3_takeFirst_56 (fun hc9 => ?_) (fun hc9 => ?_)
      · have hy := hy.t hc9
        refine AW.sub [2, 3, 0, 4] rfl ?_
        exact w_X3_takeFirst_82 hX hN hr _ _ hc he0 h (v2 ^^^ ((1 : Int32) <<< (v3 &&& 31))) v3 hy
      · have hy := hy.f hc9
        refine aw_aloadn (pc := 59) hX 2 rfl dX3_takeFirst_59 ?_
        refine aw_gR (pc := 60) hX hy fl_X3_20 (fun _ _ => rfl) dX3_takeFirst_60 (fun r6 hy => ?_)
        refine aw_iloadn (pc := 63) hX 4 rfl dX3_takeFirst_63 ?_
        refine aw_iload (pc := 64) hX 1 rfl dX3_takeFirst_64 ?_
        refine aw_sI (pc := 66) hX hy dX3_takeFirst_66 (fun h7 hy => ?_)
        refine aw_aloadn (pc := 67) hX 2 rfl dX3_takeFirst_67 ?_
        refine aw_gR (pc := 68) hX hy fl_X3_20 (fun _ _ => rfl) dX3_takeFirst_68 (fun r8 hy => ?_)
        refine aw_iload (pc := 71) hX 1 rfl dX3_takeFirst_71 ?_
        refine aw_iloadn (pc := 73) hX 4 rfl dX3_takeFirst_73 ?_
        refine aw_sI (pc := 74) hX hy dX3_takeFirst_74 (fun h9 hy => ?_)
        refine aw_iloadn (pc := 75) hX 0 rfl dX3_takeFirst_75 ?_
        refine aw_iconst (pc := 76) hX 1 (by decide) dX3_takeFirst_76 ?_
        refine aw_iload (pc := 77) hX 1 rfl dX3_takeFirst_77 ?_
        refine aw_ishl (pc := 79) hX dX3_takeFirst_79 ?_
        refine aw_ixor (pc := 80) hX dX3_takeFirst_80 ?_
        refine aw_istoren (pc := 81) hX [(2, vI ((v2 ^^^ ((1 : Int32) <<< (v3 &&& 31))) ^^^ ((1 : Int32) <<< (x5 &&& 31)))), (4, vI x5), (0, vR v0), (1, vR v1), (3, vI v3)] rfl (lt_n hN (by decide)) dX3_takeFirst_81 ?_
        refine AW.sub [2, 3, 0, 4] rfl ?_
        exact w_X3_takeFirst_82 hX hN hr _ _ hc he0 h9 ((v2 ^^^ ((1 : Int32) <<< (v3 &&& 31))) ^^^ ((1 : Int32) <<< (x5 &&& 31))) v3 hy
    · have hy := hy.t hc9
      refine aw_goto (pc := 36) hX 82 (by decide) dX3_takeFirst_36 ?_
      exact w_X3_takeFirst_82 hX hN hr _ _ hc he0 h v2 v3 hy
theorem wl_X3_takeFirst_20 {G : GE} {X : CX} {l : Launch} (hX : Ok G X cX3_takeFirst RX3) (hN : xn X = 5) {P0 : Mem → Prop} (hr : Rt G X l yX3_takeFirst none rm_X3_takeFirst (pmV P0)) (v0 : Nat) (v1 : Nat) {P : (Mem) → Prop} (he0 : ∀ e, P e → AW G X 88 [] [] e 0 0) : ∀ (n : Nat) (s : Int32 × Int32 × Mem), OK (iter (fun (s : Int32 × Int32 × Mem) => b_X3_takeFirst_20 s.2.2 v0 v1 s.1 s.2.1) n s) P → AW G X 20 [(0, vR v0), (1, vR v1), (2, vI s.1), (3, vI s.2.1)] [] s.2.2 0 0 := by
  intro n
  induction n with
  | zero => exact fun s hy => hy.it0.elim
  | succ n ih =>
    intro s hy
    exact wb_X3_takeFirst_20 hX hN hr v0 v1 (fun s hs => ih s hs) (fun e hs => he0 e hs) s.2.2 s.1 s.2.1 hy.it
def f_X3_takeFirst (h : Mem) (v0 : Nat) (v1 : Nat) : Option Mem :=
  (ck h v0 2).bind fun _ => (gR h v0 2 2).bind fun r1 => (f_J7_fill_53178 h r1 (-2)).bind fun h2 => (gI h2 v1 1 4).bind fun x3 => (iter (fun (s : Int32 × Int32 × Mem) => b_X3_takeFirst_20 s.2.2 v0 v1 s.1 s.2.1) FU ((((1 : Int32) <<< (x3 &&& 31)) - 1), 0, h2)).bind (fun q10 => some q10)
set_option maxRecDepth 100000 in
set_option maxHeartbeats 4000000 in
theorem w_X3_takeFirst {G : GE} {X : CX} {l : Launch} (hX : Ok G X cX3_takeFirst RX3) (hN : xn X = 5) {P : Mem → Prop} (hr : Rt G X l yX3_takeFirst none rm_X3_takeFirst (pmV P)) (h : Mem) (v0 : Nat) (v1 : Nat) (hy : OK (f_X3_takeFirst h v0 v1) P) : AW G X 0 [(0, vR v0), (1, vR v1)] [] h 0 0 := by
  unfold f_X3_takeFirst at hy
  have hkd := hy.kd
  have hy := hy.kb
  refine aw_aloadn (pc := 0) hX 0 rfl dX3_takeFirst_0 ?_
  refine aw_gR (pc := 1) hX hy fl_X3_20 (fun _ _ => rfl) dX3_takeFirst_1 (fun r1 hy => ?_)
  refine aw_bipush (pc := 4) hX (-2) (by decide) dX3_takeFirst_4 ?_
  refine aw_callS (pc := 6) (st := []) hX [vR r1, vI (-2)] (con_J7_fill_53178 _ G _ r1 (-2) hy.bd) mc_J7_fill_53178 ml_X3_61 st_J7_fill_53178 rfl (rm_of hr (by decide)) (Nat.le_of_ble_eq_true rfl) rfl dX3_takeFirst_6 (kmV rfl rfl (fun h2 hy => ?_))
  refine aw_iconst (pc := 9) hX 1 (by decide) dX3_takeFirst_9 ?_
  refine aw_aloadn (pc := 10) hX 1 rfl dX3_takeFirst_10 ?_
  refine aw_gI (pc := 11) hX hy fl_X3_30 (fun _ _ => rfl) dX3_takeFirst_11 (fun x3 hy => ?_)
  refine aw_ishl (pc := 14) hX dX3_takeFirst_14 ?_
  refine aw_iconst (pc := 15) hX 1 (by decide) dX3_takeFirst_15 ?_
  refine aw_isub (pc := 16) hX dX3_takeFirst_16 ?_
  refine aw_istoren (pc := 17) hX [(2, vI (((1 : Int32) <<< (x3 &&& 31)) - 1)), (0, vR v0), (1, vR v1)] rfl (lt_n hN (by decide)) dX3_takeFirst_17 ?_
  refine aw_iconst (pc := 18) hX 0 (by decide) dX3_takeFirst_18 ?_
  refine aw_istoren (pc := 19) hX [(3, vI 0), (2, vI (((1 : Int32) <<< (x3 &&& 31)) - 1)), (0, vR v0), (1, vR v1)] rfl (lt_n hN (by decide)) dX3_takeFirst_19 ?_
  refine AW.sub [2, 3, 1, 0] rfl ?_
  refine wl_X3_takeFirst_20 hX hN hr v0 v1 ?_ FU ((((1 : Int32) <<< (x3 &&& 31)) - 1), 0, h2) hy.bd
  · intro q10 hy
    exact aw_vret (pc := 88) hX hr (by decide) (by decide) dX3_takeFirst_88 ⟨rfl, hy.s⟩
theorem con_X3_takeFirst (l : Launch) (G : GE) (h : Mem) (v0 : Nat) (v1 : Nat) {P : Mem → Prop} (hy : OK (f_X3_takeFirst h v0 v1) P) : Con l G yX3_takeFirst cX3_takeFirst 5 none rm_X3_takeFirst [vR v0, vR v1] h (pmV P) := Con.of (by decide) (Nat.le_of_ble_eq_true rfl) (fun X hX hr hN => w_X3_takeFirst hX hN hr h v0 v1 hy)
