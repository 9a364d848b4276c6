/-! X4_findName -/
theorem dX4_findName_0 : decode cX4_findName 0 = .ok (.aload_n 0, 1) := by decide +kernel
theorem dX4_findName_1 : decode cX4_findName 1 = .ok (.invokevirtual 238, 3) := by decide +kernel
theorem dX4_findName_4 : decode cX4_findName 4 = .ok (.ifCond .ne 11, 3) := by decide +kernel
theorem dX4_findName_7 : decode cX4_findName 7 = .ok (.aload_n 0, 1) := by decide +kernel
theorem dX4_findName_8 : decode cX4_findName 8 = .ok (.iconst 1, 1) := by decide +kernel
theorem dX4_findName_9 : decode cX4_findName 9 = .ok (.invokevirtual 105, 3) := by decide +kernel
theorem dX4_findName_12 : decode cX4_findName 12 = .ok (.pop, 1) := by decide +kernel
theorem dX4_findName_13 : decode cX4_findName 13 = .ok (.iconst (-1), 1) := by decide +kernel
theorem dX4_findName_14 : decode cX4_findName 14 = .ok (.ireturn, 1) := by decide +kernel
theorem dX4_findName_15 : decode cX4_findName 15 = .ok (.aload_n 0, 1) := by decide +kernel
theorem dX4_findName_16 : decode cX4_findName 16 = .ok (.aload_n 0, 1) := by decide +kernel
theorem dX4_findName_17 : decode cX4_findName 17 = .ok (.getfield 21, 3) := by decide +kernel
theorem dX4_findName_20 : decode cX4_findName 20 = .ok (.aload_n 0, 1) := by decide +kernel
theorem dX4_findName_21 : decode cX4_findName 21 = .ok (.getfield 121, 3) := by decide +kernel
theorem dX4_findName_24 : decode cX4_findName 24 = .ok (.invokevirtual 241, 3) := by decide +kernel
theorem dX4_findName_27 : decode cX4_findName 27 = .ok (.istore_n 2, 1) := by decide +kernel
theorem dX4_findName_28 : decode cX4_findName 28 = .ok (.iload_n 2, 1) := by decide +kernel
theorem dX4_findName_29 : decode cX4_findName 29 = .ok (.ifCond .lt 13, 3) := by decide +kernel
theorem dX4_findName_32 : decode cX4_findName 32 = .ok (.aload_n 0, 1) := by decide +kernel
theorem dX4_findName_33 : decode cX4_findName 33 = .ok (.getfield 24, 3) := by decide +kernel
theorem dX4_findName_36 : decode cX4_findName 36 = .ok (.iload_n 2, 1) := by decide +kernel
theorem dX4_findName_37 : decode cX4_findName 37 = .ok (.iaload, 1) := by decide +kernel
theorem dX4_findName_38 : decode cX4_findName 38 = .ok (.iload_n 1, 1) := by decide +kernel
theorem dX4_findName_39 : decode cX4_findName 39 = .ok (.if_icmp .eq 11, 3) := by decide +kernel
theorem dX4_findName_42 : decode cX4_findName 42 = .ok (.aload_n 0, 1) := by decide +kernel
theorem dX4_findName_43 : decode cX4_findName 43 = .ok (.iconst 2, 1) := by decide +kernel
theorem dX4_findName_44 : decode cX4_findName 44 = .ok (.invokevirtual 105, 3) := by decide +kernel
theorem dX4_findName_47 : decode cX4_findName 47 = .ok (.pop, 1) := by decide +kernel
theorem dX4_findName_48 : decode cX4_findName 48 = .ok (.iconst (-1), 1) := by decide +kernel
theorem dX4_findName_49 : decode cX4_findName 49 = .ok (.ireturn, 1) := by decide +kernel
theorem dX4_findName_50 : decode cX4_findName 50 = .ok (.aload_n 0, 1) := by decide +kernel
theorem dX4_findName_51 : decode cX4_findName 51 = .ok (.getfield 27, 3) := by decide +kernel
theorem dX4_findName_54 : decode cX4_findName 54 = .ok (.iload_n 2, 1) := by decide +kernel
theorem dX4_findName_55 : decode cX4_findName 55 = .ok (.iaload, 1) := by decide +kernel
theorem dX4_findName_56 : decode cX4_findName 56 = .ok (.ireturn, 1) := by decide +kernel
abbrev rm_X4_findName : Room := { frames := 1, cells := 0, slots := 0, locals := 23 }
def f_X4_findName_42 (h : Mem) (v0 : Nat) : Option (Int32 × Mem) :=
  (f_X4_fail h v0 2).bind fun q7 => some ((-1), q7.2)
set_option maxRecDepth 100000 in
set_option maxHeartbeats 4000000 in
theorem w_X4_findName_42 {G : GE} {X : CX} {l : Launch} (hX : Ok G X cX4_findName RX4) (hN : xn X = 3) {P : (Int32 × Mem) → Prop} (hr : Rt G X l yX4_findName (some .int) rm_X4_findName (pmI P)) (h : Mem) (v0 : Nat) (hy : OK (f_X4_findName_42 h v0) P) : AW G X 42 [(0, vR v0)] [] h 0 0 := by
  unfold f_X4_findName_42 at hy
  refine aw_aloadn (pc := 42) hX 0 rfl dX4_findName_42 ?_
  refine aw_iconst (pc := 43) hX 2 (by decide) dX4_findName_43 ?_
  refine aw_callV (pc := 44) (st := []) (a := v0) hX [vI 2] (con_X4_fail _ G _ v0 2 hy.bd) mc_X4_fail ml_X4_105 im_X4_fail se_X4_fail (by decide) hy.bd.kd rfl (rm_of hr (by decide)) (Nat.le_of_ble_eq_true rfl) rfl dX4_findName_44 (kmI rfl rfl (fun q7 hy => ?_))
  refine aw_pop (pc := 47) hX rfl dX4_findName_47 ?_
  refine aw_iconst (pc := 48) hX (-1) (by decide) dX4_findName_48 ?_
  exact aw_iret (pc := 49) hX hr (by decide) (by decide) dX4_findName_49 ⟨_, rfl, hy.s⟩
def f_X4_findName (h : Mem) (v0 : Nat) (v1 : Int32) : Option (Int32 × Mem) :=
  (ck h v0 3).bind fun _ => (f_X4_isName h v0).bind fun x1 => (if x1 = 0 then (f_X4_fail h v0 1).bind fun q14 => some ((-1), q14.2) else (gR h v0 2 3).bind fun r2 => (gI h v0 7 3).bind fun x3 => (f_X4_placeOfWord h v0 r2 x3).bind fun x4 => (if x4 < 0 then f_X4_findName_42 h v0 else (gR h v0 3 3).bind fun r8 => (aI h r8 x4).bind fun x9 => (if x9 = v1 then (gR h v0 4 3).bind fun r10 => (aI h r10 x4).bind fun x11 => some (x11, h) else f_X4_findName_42 h v0)))
set_option maxRecDepth 100000 in
set_option maxHeartbeats 4000000 in
theorem w_X4_findName {G : GE} {X : CX} {l : Launch} (hX : Ok G X cX4_findName RX4) (hN : xn X = 3) {P : (Int32 × Mem) → Prop} (hr : Rt G X l yX4_findName (some .int) rm_X4_findName (pmI P)) (h : Mem) (v0 : Nat) (v1 : Int32) (hy : OK (f_X4_findName h v0 v1) P) : AW G X 0 [(0, vR v0), (1, vI v1)] [] h 0 0 := by
  unfold f_X4_findName at hy
  have hkd := hy.kd
  have hy := hy.kb
  refine aw_aloadn (pc := 0) hX 0 rfl dX4_findName_0 ?_
  refine aw_callV (pc := 1) (st := []) (a := v0) hX [] (con_X4_isName _ G _ v0 hy.bd) mc_X4_isName ml_X4_238 im_X4_isName se_X4_isName (by decide) hy.bd.kd rfl (rm_of hr (by decide)) (Nat.le_of_ble_eq_true rfl) rfl dX4_findName_1 (kpI rfl rfl (fun x1 hy => ?_))
  refine aw_if_ne (pc := 4) hX 15 (by decide) dX4_findName_4 (fun hc9 => ?_) (fun hc9 => ?_)
  · have hy := hy.f hc9
    refine aw_aloadn (pc := 15) hX 0 rfl dX4_findName_15 ?_
    refine aw_aloadn (pc := 16) hX 0 rfl dX4_findName_16 ?_
    refine aw_gR (pc := 17) hX hy fl_X4_21 (fun _ _ => rfl) dX4_findName_17 (fun r2 hy => ?_)
    refine aw_aloadn (pc := 20) hX 0 rfl dX4_findName_20 ?_
    refine aw_gI (pc := 21) hX hy fl_X4_121 (fun _ _ => rfl) dX4_findName_21 (fun x3 hy => ?_)
    refine aw_callV (pc := 24) (st := []) (a := v0) hX [vR r2, vI x3] (con_X4_placeOfWord _ G _ v0 r2 x3 hy.bd) mc_X4_placeOfWord ml_X4_241 im_X4_placeOfWord se_X4_placeOfWord (by decide) hy.bd.kd rfl (rm_of hr (by decide)) (Nat.le_of_ble_eq_true rfl) rfl dX4_findName_24 (kpI rfl rfl (fun x4 hy => ?_))
    refine aw_istoren (pc := 27) hX [(2, vI x4), (0, vR v0), (1, vI v1)] rfl (lt_n hN (by decide)) dX4_findName_27 ?_
    refine aw_iloadn (pc := 28) hX 0 rfl dX4_findName_28 ?_
    refine aw_if_lt (pc := 29) hX 42 (by decide) dX4_findName_29 (fun hc9 => ?_) (fun hc9 => ?_)
    · have hy := hy.t hc9
      refine AW.sub [1] rfl ?_
      exact w_X4_findName_42 hX hN hr h v0 hy
    · have hy := hy.f hc9
      refine aw_aloadn (pc := 32) hX 1 rfl dX4_findName_32 ?_
      refine aw_gR (pc := 33) hX hy fl_X4_24 (fun _ _ => rfl) dX4_findName_33 (fun r8 hy => ?_)
      refine aw_iloadn (pc := 36) hX 0 rfl dX4_findName_36 ?_
      refine aw_aI (pc := 37) hX hy dX4_findName_37 (fun x9 hy => ?_)
      refine aw_iloadn (pc := 38) hX 2 rfl dX4_findName_38 ?_
      refine aw_ic_eq (pc := 39) hX 50 (by decide) dX4_findName_39 (fun hc9 => ?_) (fun hc9 => ?_)
      · have hy := hy.t hc9
        refine aw_aloadn (pc := 50) hX 1 rfl dX4_findName_50 ?_
        refine aw_gR (pc := 51) hX hy fl_X4_27 (fun _ _ => rfl) dX4_findName_51 (fun r10 hy => ?_)
        refine aw_iloadn (pc := 54) hX 0 rfl dX4_findName_54 ?_
        refine aw_aI (pc := 55) hX hy dX4_findName_55 (fun x11 hy => ?_)
        exact aw_iret (pc := 56) hX hr (by decide) (by decide) dX4_findName_56 ⟨_, rfl, hy.s⟩
      · have hy := hy.f hc9
        refine AW.sub [1] rfl ?_
        exact w_X4_findName_42 hX hN hr h v0 hy
  · have hy := hy.t hc9
    refine aw_aloadn (pc := 7) hX 0 rfl dX4_findName_7 ?_
    refine aw_iconst (pc := 8) hX 1 (by decide) dX4_findName_8 ?_
    refine aw_callV (pc := 9) (st := []) (a := v0) hX [vI 1] (con_X4_fail _ G _ v0 1 hy.bd) mc_X4_fail ml_X4_105 im_X4_fail se_X4_fail (by decide) hy.bd.kd rfl (rm_of hr (by decide)) (Nat.le_of_ble_eq_true rfl) rfl dX4_findName_9 (kmI rfl rfl (fun q14 hy => ?_))
    refine aw_pop (pc := 12) hX rfl dX4_findName_12 ?_
    refine aw_iconst (pc := 13) hX (-1) (by decide) dX4_findName_13 ?_
    exact aw_iret (pc := 14) hX hr (by decide) (by decide) dX4_findName_14 ⟨_, rfl, hy.s⟩
theorem con_X4_findName (l : Launch) (G : GE) (h : Mem) (v0 : Nat) (v1 : Int32) {P : (Int32 × Mem) → Prop} (hy : OK (f_X4_findName h v0 v1) P) : Con l G yX4_findName cX4_findName 3 (some .int) rm_X4_findName [vR v0, vI v1] h (pmI P) := Con.of (by decide) (Nat.le_of_ble_eq_true rfl) (fun X hX hr hN => w_X4_findName hX hN hr h v0 v1 hy)
/-! X4_readName -/
theorem dX4_readName_0 : decode cX4_readName 0 = .ok (.aload_n 0, 1) := by decide +kernel
theorem dX4_readName_1 : decode cX4_readName 1 = .ok (.iload_n 1, 1) := by decide +kernel
theorem dX4_readName_2 : decode cX4_readName 2 = .ok (.invokevirtual 196, 3) := by decide +kernel
theorem dX4_readName_5 : decode cX4_readName 5 = .ok (.istore_n 2, 1) := by decide +kernel
theorem dX4_readName_6 : decode cX4_readName 6 = .ok (.iload_n 2, 1) := by decide +kernel
theorem dX4_readName_7 : decode cX4_readName 7 = .ok (.ifCond .lt 7, 3) := by decide +kernel
theorem dX4_readName_10 : decode cX4_readName 10 = .ok (.aload_n 0, 1) := by decide +kernel
theorem dX4_readName_11 : decode cX4_readName 11 = .ok (.invokevirtual 109, 3) := by decide +kernel
theorem dX4_readName_14 : decode cX4_readName 14 = .ok (.iload_n 2, 1) := by decide +kernel
theorem dX4_readName_15 : decode cX4_readName 15 = .ok (.ireturn, 1) := by decide +kernel
abbrev rm_X4_readName : Room := { frames := 2, cells := 0, slots := 0, locals := 45 }
def f_X4_readName (h : Mem) (v0 : Nat) (v1 : Int32) : Option (Int32 × Mem) :=
  (ck h v0 3).bind fun _ => (f_X4_findName h v0 v1).bind fun q3 => (if q3.1 < 0 then some (q3.1, q3.2) else (f_X4_step q3.2 v0).bind fun h4 => some (q3.1, h4))
set_option maxRecDepth 100000 in
set_option maxHeartbeats 4000000 in
theorem w_X4_readName {G : GE} {X : CX} {l : Launch} (hX : Ok G X cX4_readName RX4) (hN : xn X = 3) {P : (Int32 × Mem) → Prop} (hr : Rt G X l yX4_readName (some .int) rm_X4_readName (pmI P)) (h : Mem) (v0 : Nat) (v1 : Int32) (hy : OK (f_X4_readName h v0 v1) P) : AW G X 0 [(0, vR v0), (1, vI v1)] [] h 0 0 := by
  unfold f_X4_readName at hy
  have hkd := hy.kd
  have hy := hy.kb
  refine aw_aloadn (pc := 0) hX 0 rfl dX4_readName_0 ?_
  refine aw_iloadn (pc := 1) hX 1 rfl dX4_readName_1 ?_
  refine aw_callV (pc := 2) (st := []) (a := v0) hX [vI v1] (con_X4_findName _ G _ v0 v1 hy.bd) mc_X4_findName ml_X4_196 im_X4_findName se_X4_findName (by decide) hy.bd.kd rfl (rm_of hr (by decide)) (Nat.le_of_ble_eq_true rfl) rfl dX4_readName_2 (kmI rfl rfl (fun q3 hy => ?_))
  refine aw_istoren (pc := 5) hX [(2, vI q3.1), (0, vR v0), (1, vI v1)] rfl (lt_n hN (by decide)) dX4_readName_5 ?_
  refine aw_iloadn (pc := 6) hX 0 rfl dX4_readName_6 ?_
  refine aw_if_lt (pc := 7) hX 14 (by decide) dX4_readName_7 (fun hc9 => ?_) (fun hc9 => ?_)
  · have hy := hy.t hc9
    refine aw_iloadn (pc := 14) hX 0 rfl dX4_readName_14 ?_
    exact aw_iret (pc := 15) hX hr (by decide) (by decide) dX4_readName_15 ⟨_, rfl, hy.s⟩
  · have hy := hy.f hc9
    refine aw_aloadn (pc := 10) hX 1 rfl dX4_readName_10 ?_
    refine aw_callV (pc := 11) (st := []) (a := v0) hX [] (con_X4_step _ G _ v0 hy.bd) mc_X4_step ml_X4_109 im_X4_step se_X4_step (by decide) hy.bd.kd rfl (rm_of hr (by decide)) (Nat.le_of_ble_eq_true rfl) rfl dX4_readName_11 (kmV rfl rfl (fun h4 hy => ?_))
    refine aw_iloadn (pc := 14) hX 0 rfl dX4_readName_14 ?_
    exact aw_iret (pc := 15) hX hr (by decide) (by decide) dX4_readName_15 ⟨_, rfl, hy.s⟩
theorem con_X4_readName (l : Launch) (G : GE) (h : Mem) (v0 : Nat) (v1 : Int32) {P : (Int32 × Mem) → Prop} (hy : OK (f_X4_readName h v0 v1) P) : Con l G yX4_readName cX4_readName 3 (some .int) rm_X4_readName [vR v0, vI v1] h (pmI P) := Con.of (by decide) (Nat.le_of_ble_eq_true rfl) (fun X hX hr hN => w_X4_readName hX hN hr h v0 v1 hy)
/-! X5_roadBetween -/
theorem dX5_roadBetween_0 : decode cX5_roadBetween 0 = .ok (.aload_n 0, 1) := by decide +kernel
theorem dX5_roadBetween_1 : decode cX5_roadBetween 1 = .ok (.getfield 30, 3) := by decide +kernel
theorem dX5_roadBetween_4 : decode cX5_roadBetween 4 = .ok (.iload_n 1, 1) := by decide +kernel
theorem dX5_roadBetween_5 : decode cX5_roadBetween 5 = .ok (.bipush 7, 2) := by decide +kernel
theorem dX5_roadBetween_7 : decode cX5_roadBetween 7 = .ok (.imul, 1) := by decide +kernel
theorem dX5_roadBetween_8 : decode cX5_roadBetween 8 = .ok (.iload_n 2, 1) := by decide +kernel
theorem dX5_roadBetween_9 : decode cX5_roadBetween 9 = .ok (.iadd, 1) := by decide +kernel
theorem dX5_roadBetween_10 : decode cX5_roadBetween 10 = .ok (.iaload, 1) := by decide +kernel
theorem dX5_roadBetween_11 : decode cX5_roadBetween 11 = .ok (.ireturn, 1) := by decide +kernel
abbrev rm_X5_roadBetween : Room := { frames := 0, cells := 0, slots := 0, locals := 0 }
def f_X5_roadBetween (h : Mem) (v0 : Nat) (v1 : Int32) (v2 : Int32) : Option Int32 :=
  (ck h v0 4).bind fun _ => (gR h v0 15 4).bind fun r1 => (aI h r1 ((v1 * 7) + v2)).bind fun x2 => some x2
set_option maxRecDepth 100000 in
set_option maxHeartbeats 4000000 in
theorem w_X5_roadBetween {G : GE} {X : CX} {l : Launch} (hX : Ok G X cX5_roadBetween RX5) (hN : xn X = 3) (h : Mem) {P : Int32 → Prop} (hr : Rt G X l yX5_roadBetween (some .int) rm_X5_roadBetween (ppI h P)) (v0 : Nat) (v1 : Int32) (v2 : Int32) (hy : OK (f_X5_roadBetween h v0 v1 v2) P) : AW G X 0 [(0, vR v0), (1, vI v1), (2, vI v2)] [] h 0 0 := by
  unfold f_X5_roadBetween at hy
  have hkd := hy.kd
  have hy := hy.kb
  refine aw_aloadn (pc := 0) hX 0 rfl dX5_roadBetween_0 ?_
  refine aw_gR (pc := 1) hX hy fl_X5_30 (fun _ _ => rfl) dX5_roadBetween_1 (fun r1 hy => ?_)
  refine aw_iloadn (pc := 4) hX 1 rfl dX5_roadBetween_4 ?_
  refine aw_bipush (pc := 5) hX 7 (by decide) dX5_roadBetween_5 ?_
  refine aw_imul (pc := 7) hX dX5_roadBetween_7 ?_
  refine aw_iloadn (pc := 8) hX 2 rfl dX5_roadBetween_8 ?_
  refine aw_iadd (pc := 9) hX dX5_roadBetween_9 ?_
  refine aw_aI (pc := 10) hX hy dX5_roadBetween_10 (fun x2 hy => ?_)
  exact aw_iret (pc := 11) hX hr (by decide) (by decide) dX5_roadBetween_11 ⟨rfl, _, rfl, hy.s⟩
theorem con_X5_roadBetween (l : Launch) (G : GE) (h : Mem) (v0 : Nat) (v1 : Int32) (v2 : Int32) {P : Int32 → Prop} (hy : OK (f_X5_roadBetween h v0 v1 v2) P) : Con l G yX5_roadBetween cX5_roadBetween 3 (some .int) rm_X5_roadBetween [vR v0, vI v1, vI v2] h (ppI h P) := Con.of (by decide) (Nat.le_of_ble_eq_true rfl) (fun X hX hr hN => w_X5_roadBetween hX hN h hr v0 v1 v2 hy)
/-! X5_addRoad -/
theorem dX5_addRoad_0 : decode cX5_addRoad 0 = .ok (.aload_n 0, 1) := by decide +kernel
theorem dX5_addRoad_1 : decode cX5_addRoad 1 = .ok (.getfield 18, 3) := by decide +kernel
theorem dX5_addRoad_4 : decode cX5_addRoad 4 = .ok (.aload_n 0, 1) := by decide +kernel
theorem dX5_addRoad_5 : decode cX5_addRoad 5 = .ok (.getfield 57, 3) := by decide +kernel
theorem dX5_addRoad_8 : decode cX5_addRoad 8 = .ok (.iconst 2, 1) := by decide +kernel
theorem dX5_addRoad_9 : decode cX5_addRoad 9 = .ok (.imul, 1) := by decide +kernel
theorem dX5_addRoad_10 : decode cX5_addRoad 10 = .ok (.iload_n 1, 1) := by decide +kernel
theorem dX5_addRoad_11 : decode cX5_addRoad 11 = .ok (.iastore, 1) := by decide +kernel
theorem dX5_addRoad_12 : decode cX5_addRoad 12 = .ok (.aload_n 0, 1) := by decide +kernel
theorem dX5_addRoad_13 : decode cX5_addRoad 13 = .ok (.getfield 18, 3) := by decide +kernel
theorem dX5_addRoad_16 : decode cX5_addRoad 16 = .ok (.aload_n 0, 1) := by decide +kernel
theorem dX5_addRoad_17 : decode cX5_addRoad 17 = .ok (.getfield 57, 3) := by decide +kernel
theorem dX5_addRoad_20 : decode cX5_addRoad 20 = .ok (.iconst 2, 1) := by decide +kernel
theorem dX5_addRoad_21 : decode cX5_addRoad 21 = .ok (.imul, 1) := by decide +kernel
theorem dX5_addRoad_22 : decode cX5_addRoad 22 = .ok (.iconst 1, 1) := by decide +kernel
theorem dX5_addRoad_23 : decode cX5_addRoad 23 = .ok (.iadd, 1) := by decide +kernel
theorem dX5_addRoad_24 : decode cX5_addRoad 24 = .ok (.iload_n 2, 1) := by decide +kernel
theorem dX5_addRoad_25 : decode cX5_addRoad 25 = .ok (.iastore, 1) := by decide +kernel
theorem dX5_addRoad_26 : decode cX5_addRoad 26 = .ok (.aload_n 0, 1) := by decide +kernel
theorem dX5_addRoad_27 : decode cX5_addRoad 27 = .ok (.getfield 21, 3) := by decide +kernel
theorem dX5_addRoad_30 : decode cX5_addRoad 30 = .ok (.aload_n 0, 1) := by decide +kernel
theorem dX5_addRoad_31 : decode cX5_addRoad 31 = .ok (.getfield 57, 3) := by decide +kernel
theorem dX5_addRoad_34 : decode cX5_addRoad 34 = .ok (.iload_n 3, 1) := by decide +kernel
theorem dX5_addRoad_35 : decode cX5_addRoad 35 = .ok (.iastore, 1) := by decide +kernel
theorem dX5_addRoad_36 : decode cX5_addRoad 36 = .ok (.aload_n 0, 1) := by decide +kernel
theorem dX5_addRoad_37 : decode cX5_addRoad 37 = .ok (.getfield 30, 3) := by decide +kernel
theorem dX5_addRoad_40 : decode cX5_addRoad 40 = .ok (.iload_n 1, 1) := by decide +kernel
theorem dX5_addRoad_41 : decode cX5_addRoad 41 = .ok (.bipush 7, 2) := by decide +kernel
theorem dX5_addRoad_43 : decode cX5_addRoad 43 = .ok (.imul, 1) := by decide +kernel
theorem dX5_addRoad_44 : decode cX5_addRoad 44 = .ok (.iload_n 2, 1) := by decide +kernel
theorem dX5_addRoad_45 : decode cX5_addRoad 45 = .ok (.iadd, 1) := by decide +kernel
theorem dX5_addRoad_46 : decode cX5_addRoad 46 = .ok (.aload_n 0, 1) := by decide +kernel
theorem dX5_addRoad_47 : decode cX5_addRoad 47 = .ok (.getfield 57, 3) := by decide +kernel
theorem dX5_addRoad_50 : decode cX5_addRoad 50 = .ok (.iastore, 1) := by decide +kernel
theorem dX5_addRoad_51 : decode cX5_addRoad 51 = .ok (.aload_n 0, 1) := by decide +kernel
theorem dX5_addRoad_52 : decode cX5_addRoad 52 = .ok (.getfield 30, 3) := by decide +kernel
theorem dX5_addRoad_55 : decode cX5_addRoad 55 = .ok (.iload_n 2, 1) := by decide +kernel
theorem dX5_addRoad_56 : decode cX5_addRoad 56 = .ok (.bipush 7, 2) := by decide +kernel
theorem dX5_addRoad_58 : decode cX5_addRoad 58 = .ok (.imul, 1) := by decide +kernel
theorem dX5_addRoad_59 : decode cX5_addRoad 59 = .ok (.iload_n 1, 1) := by decide +kernel
theorem dX5_addRoad_60 : decode cX5_addRoad 60 = .ok (.iadd, 1) := by decide +kernel
theorem dX5_addRoad_61 : decode cX5_addRoad 61 = .ok (.aload_n 0, 1) := by decide +kernel
theorem dX5_addRoad_62 : decode cX5_addRoad 62 = .ok (.getfield 57, 3) := by decide +kernel
theorem dX5_addRoad_65 : decode cX5_addRoad 65 = .ok (.iastore, 1) := by decide +kernel
theorem dX5_addRoad_66 : decode cX5_addRoad 66 = .ok (.aload_n 0, 1) := by decide +kernel
theorem dX5_addRoad_67 : decode cX5_addRoad 67 = .ok (.dup, 1) := by decide +kernel
theorem dX5_addRoad_68 : decode cX5_addRoad 68 = .ok (.getfield 57, 3) := by decide +kernel
theorem dX5_addRoad_71 : decode cX5_addRoad 71 = .ok (.iconst 1, 1) := by decide +kernel
theorem dX5_addRoad_72 : decode cX5_addRoad 72 = .ok (.iadd, 1) := by decide +kernel
theorem dX5_addRoad_73 : decode cX5_addRoad 73 = .ok (.putfield 57, 3) := by decide +kernel
theorem dX5_addRoad_76 : decode cX5_addRoad 76 = .ok (.return_, 1) := by decide +kernel
abbrev rm_X5_addRoad : Room := { frames := 0, cells := 0, slots := 0, locals := 0 }
def f_X5_addRoad (h : Mem) (v0 : Nat) (v1 : Int32) (v2 : Int32) (v3 : Int32) : Option Mem :=
  (ck h v0 4).bind fun _ => (gR h v0 11 4).bind fun r1 => (gI h v0 3 4).bind fun x2 => (sI h r1 (x2 * 2) v1).bind fun h3 => (gR h3 v0 11 4).bind fun r4 => (gI h3 v0 3 4).bind fun x5 => (sI h3 r4 ((x5 * 2) + 1) v2).bind fun h6 => (gR h6 v0 12 4).bind fun r7 => (gI h6 v0 3 4).bind fun x8 => (sI h6 r7 x8 v3).bind fun h9 => (gR h9 v0 15 4).bind fun r10 => (gI h9 v0 3 4).bind fun x11 => (sI h9 r10 ((v1 * 7) + v2) x11).bind fun h12 => (gR h12 v0 15 4).bind fun r13 => (gI h12 v0 3 4).bind fun x14 => (sI h12 r13 ((v2 * 7) + v1) x14).bind fun h15 => (gI h15 v0 3 4).bind fun x16 => (pI h15 v0 3 4 (x16 + 1)).bind fun h17 => some h17
set_option maxRecDepth 100000 in
set_option maxHeartbeats 4000000 in
theorem w_X5_addRoad {G : GE} {X : CX} {l : Launch} (hX : Ok G X cX5_addRoad RX5) (hN : xn X = 4) {P : Mem → Prop} (hr : Rt G X l yX5_addRoad none rm_X5_addRoad (pmV P)) (h : Mem) (v0 : Nat) (v1 : Int32) (v2 : Int32) (v3 : Int32) (hy : OK (f_X5_addRoad h v0 v1 v2 v3) P) : AW G X 0 [(0, vR v0), (1, vI v1), (2, vI v2), (3, vI v3)] [] h 0 0 := by
  unfold f_X5_addRoad at hy
  have hkd := hy.kd
  have hy := hy.kb
  refine aw_aloadn (pc := 0) hX 0 rfl dX5_addRoad_0 ?_
  refine aw_gR (pc := 1) hX hy fl_X5_18 (fun _ _ => rfl) dX5_addRoad_1 (fun r1 hy => ?_)
  refine aw_aloadn (pc := 4) hX 0 rfl dX5_addRoad_4 ?_
  refine aw_gI (pc := 5) hX hy fl_X5_57 (fun _ _ => rfl) dX5_addRoad_5 (fun x2 hy => ?_)
  refine aw_iconst (pc := 8) hX 2 (by decide) dX5_addRoad_8 ?_
  refine aw_imul (pc := 9) hX dX5_addRoad_9 ?_
  refine aw_iloadn (pc := 10) hX 1 rfl dX5_addRoad_10 ?_
  refine aw_sI (pc := 11) hX hy dX5_addRoad_11 (fun h3 hy => ?_)
  refine aw_aloadn (pc := 12) hX 0 rfl dX5_addRoad_12 ?_
  refine aw_gR (pc := 13) hX hy fl_X5_18 (fun _ _ => rfl) dX5_addRoad_13 (fun r4 hy => ?_)
  refine aw_aloadn (pc := 16) hX 0 rfl dX5_addRoad_16 ?_
  refine aw_gI (pc := 17) hX hy fl_X5_57 (fun _ _ => rfl) dX5_addRoad_17 (fun x5 hy => ?_)
  refine aw_iconst (pc := 20) hX 2 (by decide) dX5_addRoad_20 ?_
  refine aw_imul (pc := 21) hX dX5_addRoad_21 ?_
  refine aw_iconst (pc := 22) hX 1 (by decide) dX5_addRoad_22 ?_
  refine aw_iadd (pc := 23) hX dX5_addRoad_23 ?_
  refine aw_iloadn (pc := 24) hX 2 rfl dX5_addRoad_24 ?_
  refine aw_sI (pc := 25) hX hy dX5_addRoad_25 (fun h6 hy => ?_)
  refine aw_aloadn (pc := 26) hX 0 rfl dX5_addRoad_26 ?_
  refine aw_gR (pc := 27) hX hy fl_X5_21 (fun _ _ => rfl) dX5_addRoad_27 (fun r7 hy => ?_)
  refine aw_aloadn (pc := 30) hX 0 rfl dX5_addRoad_30 ?_
  refine aw_gI (pc := 31) hX hy fl_X5_57 (fun _ _ => rfl) dX5_addRoad_31 (fun x8 hy => ?_)
  refine aw_iloadn (pc := 34) hX 3 rfl dX5_addRoad_34 ?_
  refine aw_sI (pc := 35) hX hy dX5_addRoad_35 (fun h9 hy => ?_)
  refine aw_aloadn (pc := 36) hX 0 rfl dX5_addRoad_36 ?_
  refine aw_gR (pc := 37) hX hy fl_X5_30 (fun _ _ => rfl) dX5_addRoad_37 (fun r10 hy => ?_)
  refine aw_iloadn (pc := 40) hX 1 rfl dX5_addRoad_40 ?_
  refine aw_bipush (pc := 41) hX 7 (by decide) dX5_addRoad_41 ?_
  refine aw_imul (pc := 43) hX dX5_addRoad_43 ?_
  refine aw_iloadn (pc := 44) hX 2 rfl dX5_addRoad_44 ?_
  refine aw_iadd (pc := 45) hX dX5_addRoad_45 ?_
  refine aw_aloadn (pc := 46) hX 0 rfl dX5_addRoad_46 ?_
  refine aw_gI (pc := 47) hX hy fl_X5_57 (fun _ _ => rfl) dX5_addRoad_47 (fun x11 hy => ?_)
  refine aw_sI (pc := 50) hX hy dX5_addRoad_50 (fun h12 hy => ?_)
  refine aw_aloadn (pc := 51) hX 0 rfl dX5_addRoad_51 ?_
  refine aw_gR (pc := 52) hX hy fl_X5_30 (fun _ _ => rfl) dX5_addRoad_52 (fun r13 hy => ?_)
  refine aw_iloadn (pc := 55) hX 2 rfl dX5_addRoad_55 ?_
  refine aw_bipush (pc := 56) hX 7 (by decide) dX5_addRoad_56 ?_
  refine aw_imul (pc := 58) hX dX5_addRoad_58 ?_
  refine aw_iloadn (pc := 59) hX 1 rfl dX5_addRoad_59 ?_
  refine aw_iadd (pc := 60) hX dX5_addRoad_60 ?_
  refine aw_aloadn (pc := 61) hX 0 rfl dX5_addRoad_61 ?_
  refine aw_gI (pc := 62) hX hy fl_X5_57 (fun _ _ => rfl) dX5_addRoad_62 (fun x14 hy => ?_)
  refine aw_sI (pc := 65) hX hy dX5_addRoad_65 (fun h15 hy => ?_)
  refine aw_aloadn (pc := 66) hX 0 rfl dX5_addRoad_66 ?_
  refine aw_dup (pc := 67) hX rfl dX5_addRoad_67 ?_
  refine aw_gI (pc := 68) hX hy fl_X5_57 (fun _ _ => rfl) dX5_addRoad_68 (fun x16 hy => ?_)
  refine aw_iconst (pc := 71) hX 1 (by decide) dX5_addRoad_71 ?_
  refine aw_iadd (pc := 72) hX dX5_addRoad_72 ?_
  refine aw_pI (pc := 73) hX hy fl_X5_57 rfl (Or.inl rfl) dX5_addRoad_73 (fun h17 hy => ?_)
  exact aw_vret (pc := 76) hX hr (by decide) (by decide) dX5_addRoad_76 ⟨rfl, hy.s⟩
theorem con_X5_addRoad (l : Launch) (G : GE) (h : Mem) (v0 : Nat) (v1 : Int32) (v2 : Int32) (v3 : Int32) {P : Mem → Prop} (hy : OK (f_X5_addRoad h v0 v1 v2 v3) P) : Con l G yX5_addRoad cX5_addRoad 4 none rm_X5_addRoad [vR v0, vI v1, vI v2, vI v3] h (pmV P) := Con.of (by decide) (Nat.le_of_ble_eq_true rfl) (fun X hX hr hN => w_X5_addRoad hX hN hr h v0 v1 v2 v3 hy)
/-! X4_readRoad -/
theorem dX4_readRoad_0 : decode cX4_readRoad 0 = .ok (.aload_n 0, 1) := by decide +kernel
theorem dX4_readRoad_1 : decode cX4_readRoad 1 = .ok (.iconst 2, 1) := by decide +kernel
theorem dX4_readRoad_2 : decode cX4_readRoad 2 = .ok (.invokevirtual 192, 3) := by decide +kernel
theorem dX4_readRoad_5 : decode cX4_readRoad 5 = .ok (.istore_n 1, 1) := by decide +kernel
theorem dX4_readRoad_6 : decode cX4_readRoad 6 = .ok (.iload_n 1, 1) := by decide +kernel
theorem dX4_readRoad_7 : decode cX4_readRoad 7 = .ok (.ifCond .ge 7, 3) := by decide +kernel
theorem dX4_readRoad_10 : decode cX4_readRoad 10 = .ok (.iconst (-1), 1) := by decide +kernel
theorem dX4_readRoad_11 : decode cX4_readRoad 11 = .ok (.goto 8, 3) := by decide +kernel
theorem dX4_readRoad_14 : decode cX4_readRoad 14 = .ok (.aload_n 0, 1) := by decide +kernel
theorem dX4_readRoad_15 : decode cX4_readRoad 15 = .ok (.iconst 2, 1) := by decide +kernel
theorem dX4_readRoad_16 : decode cX4_readRoad 16 = .ok (.invokevirtual 196, 3) := by decide +kernel
theorem dX4_readRoad_19 : decode cX4_readRoad 19 = .ok (.istore_n 2, 1) := by decide +kernel
theorem dX4_readRoad_20 : decode cX4_readRoad 20 = .ok (.iload_n 2, 1) := by decide +kernel
theorem dX4_readRoad_21 : decode cX4_readRoad 21 = .ok (.ifCond .ge 5, 3) := by decide +kernel
theorem dX4_readRoad_24 : decode cX4_readRoad 24 = .ok (.iconst 0, 1) := by decide +kernel
theorem dX4_readRoad_25 : decode cX4_readRoad 25 = .ok (.ireturn, 1) := by decide +kernel
theorem dX4_readRoad_26 : decode cX4_readRoad 26 = .ok (.iload_n 2, 1) := by decide +kernel
theorem dX4_readRoad_27 : decode cX4_readRoad 27 = .ok (.iload_n 1, 1) := by decide +kernel
theorem dX4_readRoad_28 : decode cX4_readRoad 28 = .ok (.if_icmp .eq 15, 3) := by decide +kernel
theorem dX4_readRoad_31 : decode cX4_readRoad 31 = .ok (.aload_n 0, 1) := by decide +kernel
theorem dX4_readRoad_32 : decode cX4_readRoad 32 = .ok (.getfield 34, 3) := by decide +kernel
theorem dX4_readRoad_35 : decode cX4_readRoad 35 = .ok (.iload_n 1, 1) := by decide +kernel
theorem dX4_readRoad_36 : decode cX4_readRoad 36 = .ok (.iload_n 2, 1) := by decide +kernel
theorem dX4_readRoad_37 : decode cX4_readRoad 37 = .ok (.invokevirtual 199, 3) := by decide +kernel
theorem dX4_readRoad_40 : decode cX4_readRoad 40 = .ok (.ifCond .lt 9, 3) := by decide +kernel
theorem dX4_readRoad_43 : decode cX4_readRoad 43 = .ok (.aload_n 0, 1) := by decide +kernel
theorem dX4_readRoad_44 : decode cX4_readRoad 44 = .ok (.iconst 3, 1) := by decide +kernel
theorem dX4_readRoad_45 : decode cX4_readRoad 45 = .ok (.invokevirtual 105, 3) := by decide +kernel
theorem dX4_readRoad_48 : decode cX4_readRoad 48 = .ok (.ireturn, 1) := by decide +kernel
theorem dX4_readRoad_49 : decode cX4_readRoad 49 = .ok (.aload_n 0, 1) := by decide +kernel
theorem dX4_readRoad_50 : decode cX4_readRoad 50 = .ok (.invokevirtual 109, 3) := by decide +kernel
theorem dX4_readRoad_53 : decode cX4_readRoad 53 = .ok (.aload_n 0, 1) := by decide +kernel
theorem dX4_readRoad_54 : decode cX4_readRoad 54 = .ok (.bipush 10, 2) := by decide +kernel
theorem dX4_readRoad_56 : decode cX4_readRoad 56 = .ok (.invokevirtual 171, 3) := by decide +kernel
theorem dX4_readRoad_59 : decode cX4_readRoad 59 = .ok (.ifCond .eq 13, 3) := by decide +kernel
theorem dX4_readRoad_62 : decode cX4_readRoad 62 = .ok (.aload_n 0, 1) := by decide +kernel
theorem dX4_readRoad_63 : decode cX4_readRoad 63 = .ok (.iconst 1, 1) := by decide +kernel
theorem dX4_readRoad_64 : decode cX4_readRoad 64 = .ok (.bipush 99, 2) := by decide +kernel
theorem dX4_readRoad_66 : decode cX4_readRoad 66 = .ok (.invokevirtual 174, 3) := by decide +kernel
theorem dX4_readRoad_69 : decode cX4_readRoad 69 = .ok (.goto 4, 3) := by decide +kernel
theorem dX4_readRoad_72 : decode cX4_readRoad 72 = .ok (.iconst (-1), 1) := by decide +kernel
theorem dX4_readRoad_73 : decode cX4_readRoad 73 = .ok (.istore_n 3, 1) := by decide +kernel
theorem dX4_readRoad_74 : decode cX4_readRoad 74 = .ok (.iload_n 3, 1) := by decide +kernel
theorem dX4_readRoad_75 : decode cX4_readRoad 75 = .ok (.ifCond .ge 5, 3) := by decide +kernel
theorem dX4_readRoad_78 : decode cX4_readRoad 78 = .ok (.iconst 0, 1) := by decide +kernel
theorem dX4_readRoad_79 : decode cX4_readRoad 79 = .ok (.ireturn, 1) := by decide +kernel
theorem dX4_readRoad_80 : decode cX4_readRoad 80 = .ok (.aload_n 0, 1) := by decide +kernel
theorem dX4_readRoad_81 : decode cX4_readRoad 81 = .ok (.getfield 34, 3) := by decide +kernel
theorem dX4_readRoad_84 : decode cX4_readRoad 84 = .ok (.iload_n 1, 1) := by decide +kernel
theorem dX4_readRoad_85 : decode cX4_readRoad 85 = .ok (.iload_n 2, 1) := by decide +kernel
theorem dX4_readRoad_86 : decode cX4_readRoad 86 = .ok (.iload_n 3, 1) := by decide +kernel
theorem dX4_readRoad_87 : decode cX4_readRoad 87 = .ok (.invokevirtual 202, 3) := by decide +kernel
theorem dX4_readRoad_90 : decode cX4_readRoad 90 = .ok (.iconst 1, 1) := by decide +kernel
theorem dX4_readRoad_91 : decode cX4_readRoad 91 = .ok (.ireturn, 1) := by decide +kernel
abbrev rm_X4_readRoad : Room := { frames := 3, cells := 0, slots := 0, locals := 67 }
def f_X4_readRoad_43 (h : Mem) (v0 : Nat) : Option (Int32 × Mem) :=
  (f_X4_fail h v0 3).bind fun q9 => retZ q9.1 (q9.1, q9.2)
set_option maxRecDepth 100000 in
set_option maxHeartbeats 4000000 in
theorem w_X4_readRoad_43 {G : GE} {X : CX} {l : Launch} (hX : Ok G X cX4_readRoad RX4) (hN : xn X = 4) {P : (Int32 × Mem) → Prop} (hr : Rt G X l yX4_readRoad (some .boolean) rm_X4_readRoad (pmI P)) (h : Mem) (v0 : Nat) (hy : OK (f_X4_readRoad_43 h v0) P) : AW G X 43 [(0, vR v0)] [] h 0 0 := by
  unfold f_X4_readRoad_43 at hy
  refine aw_aloadn (pc := 43) hX 0 rfl dX4_readRoad_43 ?_
  refine aw_iconst (pc := 44) hX 3 (by decide) dX4_readRoad_44 ?_
  refine aw_callV (pc := 45) (st := []) (a := v0) hX [vI 3] (con_X4_fail _ G _ v0 3 hy.bd) mc_X4_fail ml_X4_105 im_X4_fail se_X4_fail (by decide) hy.bd.kd rfl (rm_of hr (by decide)) (Nat.le_of_ble_eq_true rfl) rfl dX4_readRoad_45 (kmI rfl rfl (fun q9 hy => ?_))
  exact aw_zret (pc := 48) hX hr (by decide) (by decide) dX4_readRoad_48 hy.rz.1 ⟨_, rfl, hy.rz.2⟩
def f_X4_readRoad_73 (h : Mem) (v0 : Nat) (v1 : Int32) (v2 : Int32) (s0 : Int32) : Option (Int32 × Mem) :=
  (if 0 ≤ s0 then (gR h v0 6 3).bind fun r16 => (f_X5_addRoad h r16 v1 v2 s0).bind fun h17 => some (1, h17) else some (0, h))
set_option maxRecDepth 100000 in
set_option maxHeartbeats 4000000 in
theorem w_X4_readRoad_73 {G : GE} {X : CX} {l : Launch} (hX : Ok G X cX4_readRoad RX4) (hN : xn X = 4) {P : (Int32 × Mem) → Prop} (hr : Rt G X l yX4_readRoad (some .boolean) rm_X4_readRoad (pmI P)) (h : Mem) (v0 : Nat) (v1 : Int32) (v2 : Int32) (s0 : Int32) (hy : OK (f_X4_readRoad_73 h v0 v1 v2 s0) P) : AW G X 73 [(0, vR v0), (1, vI v1), (2, vI v2)] [vI s0] h 0 0 := by
  unfold f_X4_readRoad_73 at hy
  refine aw_istoren (pc := 73) hX [(3, vI s0), (0, vR v0), (1, vI v1), (2, vI v2)] rfl (lt_n hN (by decide)) dX4_readRoad_73 ?_
  refine aw_iloadn (pc := 74) hX 0 rfl dX4_readRoad_74 ?_
  refine aw_if_ge (pc := 75) hX 80 (by decide) dX4_readRoad_75 (fun hc9 => ?_) (fun hc9 => ?_)
  · have hy := hy.t hc9
    refine aw_aloadn (pc := 80) hX 1 rfl dX4_readRoad_80 ?_
    refine aw_gR (pc := 81) hX hy fl_X4_34 (fun _ _ => rfl) dX4_readRoad_81 (fun r16 hy => ?_)
    refine aw_iloadn (pc := 84) hX 2 rfl dX4_readRoad_84 ?_
    refine aw_iloadn (pc := 85) hX 3 rfl dX4_readRoad_85 ?_
    refine aw_iloadn (pc := 86) hX 0 rfl dX4_readRoad_86 ?_
    refine aw_callV (pc := 87) (st := []) (a := r16) hX [vI v1, vI v2, vI s0] (con_X5_addRoad _ G _ r16 v1 v2 s0 hy.bd) mc_X5_addRoad ml_X4_202 im_X5_addRoad se_X5_addRoad (by decide) hy.bd.kd rfl (rm_of hr (by decide)) (Nat.le_of_ble_eq_true rfl) rfl dX4_readRoad_87 (kmV rfl rfl (fun h17 hy => ?_))
    refine aw_iconst (pc := 90) hX 1 (by decide) dX4_readRoad_90 ?_
    exact aw_zret (pc := 91) hX hr (by decide) (by decide) dX4_readRoad_91 (Or.inr rfl) ⟨_, rfl, hy.s⟩
  · have hy := hy.f hc9
    refine aw_iconst (pc := 78) hX 0 (by decide) dX4_readRoad_78 ?_
    exact aw_zret (pc := 79) hX hr (by decide) (by decide) dX4_readRoad_79 (Or.inl rfl) ⟨_, rfl, hy.s⟩
def f_X4_readRoad_19 (h : Mem) (v0 : Nat) (v1 : Int32) (s0 : Int32) : Option (Int32 × Mem) :=
  (if 0 ≤ s0 then (if s0 = v1 then f_X4_readRoad_43 h v0 else (gR h v0 6 3).bind fun r10 => (f_X5_roadBetween h r10 v1 s0).bind fun x11 => (if x11 < 0 then (f_X4_step h v0).bind fun h12 => (f_X4_readWord h12 v0 10).bind fun q15 => (if q15.1 = 0 then f_X4_readRoad_73 q15.2 v0 v1 s0 (-1) else (f_X4_readWhole q15.2 v0 1 99).bind fun q20 => f_X4_readRoad_73 q20.2 v0 v1 s0 q20.1) else f_X4_readRoad_43 h v0)) else some (0, h))
set_option maxRecDepth 100000 in
set_option maxHeartbeats 4000000 in
theorem w_X4_readRoad_19 {G : GE} {X : CX} {l : Launch} (hX : Ok G X cX4_readRoad RX4) (hN : xn X = 4) {P : (Int32 × Mem) → Prop} (hr : Rt G X l yX4_readRoad (some .boolean) rm_X4_readRoad (pmI P)) (h : Mem) (v0 : Nat) (v1 : Int32) (s0 : Int32) (hy : OK (f_X4_readRoad_19 h v0 v1 s0) P) : AW G X 19 [(0, vR v0), (1, vI v1)] [vI s0] h 0 0 := by
  unfold f_X4_readRoad_19 at hy
  refine aw_istoren (pc := 19) hX [(2, vI s0), (0, vR v0), (1, vI v1)] rfl (lt_n hN (by decide)) dX4_readRoad_19 ?_
  refine aw_iloadn (pc := 20) hX 0 rfl dX4_readRoad_20 ?_
  refine aw_if_ge (pc := 21) hX 26 (by decide) dX4_readRoad_21 (fun hc9 => ?_) (fun hc9 => ?_)
  · have hy := hy.t hc9
    refine aw_iloadn (pc := 26) hX 0 rfl dX4_readRoad_26 ?_
    refine aw_iloadn (pc := 27) hX 2 rfl dX4_readRoad_27 ?_
    refine aw_ic_eq (pc := 28) hX 43 (by decide) dX4_readRoad_28 (fun hc9 => ?_) (fun hc9 => ?_)
    · have hy := hy.t hc9
      refine AW.sub [1] rfl ?_
      exact w_X4_readRoad_43 hX hN hr h v0 hy
    · have hy := hy.f hc9
      refine aw_aloadn (pc := 31) hX 1 rfl dX4_readRoad_31 ?_
      refine aw_gR (pc := 32) hX hy fl_X4_34 (fun _ _ => rfl) dX4_readRoad_32 (fun r10 hy => ?_)
      refine aw_iloadn (pc := 35) hX 2 rfl dX4_readRoad_35 ?_
      refine aw_iloadn (pc := 36) hX 0 rfl dX4_readRoad_36 ?_
      refine aw_callV (pc := 37) (st := []) (a := r10) hX [vI v1, vI s0] (con_X5_roadBetween _ G _ r10 v1 s0 hy.bd) mc_X5_roadBetween ml_X4_199 im_X5_roadBetween se_X5_roadBetween (by decide) hy.bd.kd rfl (rm_of hr (by decide)) (Nat.le_of_ble_eq_true rfl) rfl dX4_readRoad_37 (kpI rfl rfl (fun x11 hy => ?_))
      refine aw_if_lt (pc := 40) hX 49 (by decide) dX4_readRoad_40 (fun hc9 => ?_) (fun hc9 => ?_)
      · have hy := hy.t hc9
        refine aw_aloadn (pc := 49) hX 1 rfl dX4_readRoad_49 ?_
        refine aw_callV (pc := 50) (st := []) (a := v0) hX [] (con_X4_step _ G _ v0 hy.bd) mc_X4_step ml_X4_109 im_X4_step se_X4_step (by decide) hy.bd.kd rfl (rm_of hr (by decide)) (Nat.le_of_ble_eq_true rfl) rfl dX4_readRoad_50 (kmV rfl rfl (fun h12 hy => ?_))
        refine aw_aloadn (pc := 53) hX 1 rfl dX4_readRoad_53 ?_
        refine aw_bipush (pc := 54) hX 10 (by decide) dX4_readRoad_54 ?_
        refine aw_callV (pc := 56) (st := []) (a := v0) hX [vI 10] (con_X4_readWord _ G _ v0 10 hy.bd) mc_X4_readWord ml_X4_171 im_X4_readWord se_X4_readWord (by decide) hy.bd.kd rfl (rm_of hr (by decide)) (Nat.le_of_ble_eq_true rfl) rfl dX4_readRoad_56 (kmI rfl rfl (fun q15 hy => ?_))
        refine aw_if_eq (pc := 59) hX 72 (by decide) dX4_readRoad_59 (fun hc9 => ?_) (fun hc9 => ?_)
        · have hy := hy.t hc9
          refine aw_iconst (pc := 72) hX (-1) (by decide) dX4_readRoad_72 ?_
          refine AW.sub [1, 2, 0] rfl ?_
          exact w_X4_readRoad_73 hX hN hr q15.2 v0 v1 s0 (-1) hy
        · have hy := hy.f hc9
          refine aw_aloadn (pc := 62) hX 1 rfl dX4_readRoad_62 ?_
          refine aw_iconst (pc := 63) hX 1 (by decide) dX4_readRoad_63 ?_
          refine aw_bipush (pc := 64) hX 99 (by decide) dX4_readRoad_64 ?_
          refine aw_callV (pc := 66) (st := []) (a := v0) hX [vI 1, vI 99] (con_X4_readWhole _ G _ v0 1 99 hy.bd) mc_X4_readWhole ml_X4_174 im_X4_readWhole se_X4_readWhole (by decide) hy.bd.kd rfl (rm_of hr (by decide)) (Nat.le_of_ble_eq_true rfl) rfl dX4_readRoad_66 (kmI rfl rfl (fun q20 hy => ?_))
          refine aw_goto (pc := 69) hX 73 (by decide) dX4_readRoad_69 ?_
          refine AW.sub [1, 2, 0] rfl ?_
          exact w_X4_readRoad_73 hX hN hr q20.2 v0 v1 s0 q20.1 hy
      · have hy := hy.f hc9
        refine AW.sub [1] rfl ?_
        exact w_X4_readRoad_43 hX hN hr h v0 hy
  · have hy := hy.f hc9
    refine aw_iconst (pc := 24) hX 0 (by decide) dX4_readRoad_24 ?_
    exact aw_zret (pc := 25) hX hr (by decide) (by decide) dX4_readRoad_25 (Or.inl rfl) ⟨_, rfl, hy.s⟩
def f_X4_readRoad (h : Mem) (v0 : Nat) : Option (Int32 × Mem) :=
  (ck h v0 3).bind fun _ => (f_X4_readName h v0 2).bind fun q3 => (if 0 ≤ q3.1 then (f_X4_findName q3.2 v0 2).bind fun q6 => f_X4_readRoad_19 q6.2 v0 q3.1 q6.1 else f_X4_readRoad_19 q3.2 v0 q3.1 (-1))
set_option maxRecDepth 100000 in
set_option maxHeartbeats 4000000 in
theorem w_X4_readRoad {G : GE} {X : CX} {l : Launch} (hX : Ok G X cX4_readRoad RX4) (hN : xn X = 4) {P : (Int32 × Mem) → Prop} (hr : Rt G X l yX4_readRoad (some .boolean) rm_X4_readRoad (pmI P)) (h : Mem) (v0 : Nat) (hy : OK (f_X4_readRoad h v0) P) : AW G X 0 [(0, vR v0)] [] h 0 0 := by
  unfold f_X4_readRoad at hy
  have hkd := hy.kd
  have hy := hy.kb
  refine aw_aloadn (pc := 0) hX 0 rfl dX4_readRoad_0 ?_
  refine aw_iconst (pc := 1) hX 2 (by decide) dX4_readRoad_1 ?_
  refine aw_callV (pc := 2) (st := []) (a := v0) hX [vI 2] (con_X4_readName _ G _ v0 2 hy.bd) mc_X4_readName ml_X4_192 im_X4_readName se_X4_readName (by decide) hy.bd.kd rfl (rm_of hr (by decide)) (Nat.le_of_ble_eq_true rfl) rfl dX4_readRoad_2 (kmI rfl rfl (fun q3 hy => ?_))
  refine aw_istoren (pc := 5) hX [(1, vI q3.1), (0, vR v0)] rfl (lt_n hN (by decide)) dX4_readRoad_5 ?_
  refine aw_iloadn (pc := 6) hX 0 rfl dX4_readRoad_6 ?_
  refine aw_if_ge (pc := 7) hX 14 (by decide) dX4_readRoad_7 (fun hc9 => ?_) (fun hc9 => ?_)
  · have hy := hy.t hc9
    refine aw_aloadn (pc := 14) hX 1 rfl dX4_readRoad_14 ?_
    refine aw_iconst (pc := 15) hX 2 (by decide) dX4_readRoad_15 ?_
    refine aw_callV (pc := 16) (st := []) (a := v0) hX [vI 2] (con_X4_findName _ G _ v0 2 hy.bd) mc_X4_findName ml_X4_196 im_X4_findName se_X4_findName (by decide) hy.bd.kd rfl (rm_of hr (by decide)) (Nat.le_of_ble_eq_true rfl) rfl dX4_readRoad_16 (kmI rfl rfl (fun q6 hy => ?_))
    refine AW.sub [1, 0] rfl ?_
    exact w_X4_readRoad_19 hX hN hr q6.2 v0 q3.1 q6.1 hy
  · have hy := hy.f hc9
    refine aw_iconst (pc := 10) hX (-1) (by decide) dX4_readRoad_10 ?_
    refine aw_goto (pc := 11) hX 19 (by decide) dX4_readRoad_11 ?_
    refine AW.sub [1, 0] rfl ?_
    exact w_X4_readRoad_19 hX hN hr q3.2 v0 q3.1 (-1) hy
theorem con_X4_readRoad (l : Launch) (G : GE) (h : Mem) (v0 : Nat) {P : (Int32 × Mem) → Prop} (hy : OK (f_X4_readRoad h v0) P) : Con l G yX4_readRoad cX4_readRoad 4 (some .boolean) rm_X4_readRoad [vR v0] h (pmI P) := Con.of (by decide) (Nat.le_of_ble_eq_true rfl) (fun X hX hr hN => w_X4_readRoad hX hN hr h v0 hy)
/-! X5_addGate -/
theorem dX5_addGate_0 : decode cX5_addGate 0 = .ok (.aload_n 0, 1) := by decide +kernel
theorem dX5_addGate_1 : decode cX5_addGate 1 = .ok (.getfield 24, 3) := by decide +kernel
theorem dX5_addGate_4 : decode cX5_addGate 4 = .ok (.iload_n 1, 1) := by decide +kernel
theorem dX5_addGate_5 : decode cX5_addGate 5 = .ok (.iload_n 2, 1) := by decide +kernel
theorem dX5_addGate_6 : decode cX5_addGate 6 = .ok (.iastore, 1) := by decide +kernel
theorem dX5_addGate_7 : decode cX5_addGate 7 = .ok (.aload_n 0, 1) := by decide +kernel
theorem dX5_addGate_8 : decode cX5_addGate 8 = .ok (.getfield 27, 3) := by decide +kernel
theorem dX5_addGate_11 : decode cX5_addGate 11 = .ok (.iload_n 1, 1) := by decide +kernel
theorem dX5_addGate_12 : decode cX5_addGate 12 = .ok (.iload_n 3, 1) := by decide +kernel
theorem dX5_addGate_13 : decode cX5_addGate 13 = .ok (.iastore, 1) := by decide +kernel
theorem dX5_addGate_14 : decode cX5_addGate 14 = .ok (.aload_n 0, 1) := by decide +kernel
theorem dX5_addGate_15 : decode cX5_addGate 15 = .ok (.dup, 1) := by decide +kernel
theorem dX5_addGate_16 : decode cX5_addGate 16 = .ok (.getfield 60, 3) := by decide +kernel
theorem dX5_addGate_19 : decode cX5_addGate 19 = .ok (.iconst 1, 1) := by decide +kernel
theorem dX5_addGate_20 : decode cX5_addGate 20 = .ok (.iadd, 1) := by decide +kernel
theorem dX5_addGate_21 : decode cX5_addGate 21 = .ok (.putfield 60, 3) := by decide +kernel
theorem dX5_addGate_24 : decode cX5_addGate 24 = .ok (.return_, 1) := by decide +kernel
abbrev rm_X5_addGate : Room := { frames := 0, cells := 0, slots := 0, locals := 0 }
def f_X5_addGate (h : Mem) (v0 : Nat) (v1 : Int32) (v2 : Int32) (v3 : Int32) : Option Mem :=
  (ck h v0 4).bind fun _ => (gR h v0 13 4).bind fun r1 => (sI h r1 v1 v2).bind fun h2 => (gR h2 v0 14 4).bind fun r3 => (sI h2 r3 v1 v3).bind fun h4 => (gI h4 v0 4 4).bind fun x5 => (pI h4 v0 4 4 (x5 + 1)).bind fun h6 => some h6
set_option maxRecDepth 100000 in
set_option maxHeartbeats 4000000 in
theorem w_X5_addGate {G : GE} {X : CX} {l : Launch} (hX : Ok G X cX5_addGate RX5) (hN : xn X = 4) {P : Mem → Prop} (hr : Rt G X l yX5_addGate none rm_X5_addGate (pmV P)) (h : Mem) (v0 : Nat) (v1 : Int32) (v2 : Int32) (v3 : Int32) (hy : OK (f_X5_addGate h v0 v1 v2 v3) P) : AW G X 0 [(0, vR v0), (1, vI v1), (2, vI v2), (3, vI v3)] [] h 0 0 := by
  unfold f_X5_addGate at hy
  have hkd := hy.kd
  have hy := hy.kb
  refine aw_aloadn (pc := 0) hX 0 rfl dX5_addGate_0 ?_
  refine aw_gR (pc := 1) hX hy fl_X5_24 (fun _ _ => rfl) dX5_addGate_1 (fun r1 hy => ?_)
  refine aw_iloadn (pc := 4) hX 1 rfl dX5_addGate_4 ?_
  refine aw_iloadn (pc := 5) hX 2 rfl dX5_addGate_5 ?_
  refine aw_sI (pc := 6) hX hy dX5_addGate_6 (fun h2 hy => ?_)
  refine aw_aloadn (pc := 7) hX 0 rfl dX5_addGate_7 ?_
  refine aw_gR (pc := 8) hX hy fl_X5_27 (fun _ _ => rfl) dX5_addGate_8 (fun r3 hy => ?_)
  refine aw_iloadn (pc := 11) hX 1 rfl dX5_addGate_11 ?_
  refine aw_iloadn (pc := 12) hX 3 rfl dX5_addGate_12 ?_
  refine aw_sI (pc := 13) hX hy dX5_addGate_13 (fun h4 hy => ?_)
  refine aw_aloadn (pc := 14) hX 0 rfl dX5_addGate_14 ?_
  refine aw_dup (pc := 15) hX rfl dX5_addGate_15 ?_
  refine aw_gI (pc := 16) hX hy fl_X5_60 (fun _ _ => rfl) dX5_addGate_16 (fun x5 hy => ?_)
  refine aw_iconst (pc := 19) hX 1 (by decide) dX5_addGate_19 ?_
  refine aw_iadd (pc := 20) hX dX5_addGate_20 ?_
  refine aw_pI (pc := 21) hX hy fl_X5_60 rfl (Or.inl rfl) dX5_addGate_21 (fun h6 hy => ?_)
  exact aw_vret (pc := 24) hX hr (by decide) (by decide) dX5_addGate_24 ⟨rfl, hy.s⟩
theorem con_X5_addGate (l : Launch) (G : GE) (h : Mem) (v0 : Nat) (v1 : Int32) (v2 : Int32) (v3 : Int32) {P : Mem → Prop} (hy : OK (f_X5_addGate h v0 v1 v2 v3) P) : Con l G yX5_addGate cX5_addGate 4 none rm_X5_addGate [vR v0, vI v1, vI v2, vI v3] h (pmV P) := Con.of (by decide) (Nat.le_of_ble_eq_true rfl) (fun X hX hr hN => w_X5_addGate hX hN hr h v0 v1 v2 v3 hy)
/-! X4_readGate -/
theorem dX4_readGate_0 : decode cX4_readGate 0 = .ok (.aload_n 0, 1) := by decide +kernel
theorem dX4_readGate_1 : decode cX4_readGate 1 = .ok (.iconst 2, 1) := by decide +kernel
theorem dX4_readGate_2 : decode cX4_readGate 2 = .ok (.invokevirtual 192, 3) := by decide +kernel
theorem dX4_readGate_5 : decode cX4_readGate 5 = .ok (.istore_n 1, 1) := by decide +kernel
theorem dX4_readGate_6 : decode cX4_readGate 6 = .ok (.iload_n 1, 1) := by decide +kernel
theorem dX4_readGate_7 : decode cX4_readGate 7 = .ok (.ifCond .ge 7, 3) := by decide +kernel
theorem dX4_readGate_10 : decode cX4_readGate 10 = .ok (.iconst (-1), 1) := by decide +kernel
theorem dX4_readGate_11 : decode cX4_readGate 11 = .ok (.goto 8, 3) := by decide +kernel
theorem dX4_readGate_14 : decode cX4_readGate 14 = .ok (.aload_n 0, 1) := by decide +kernel
theorem dX4_readGate_15 : decode cX4_readGate 15 = .ok (.iconst 2, 1) := by decide +kernel
theorem dX4_readGate_16 : decode cX4_readGate 16 = .ok (.invokevirtual 196, 3) := by decide +kernel
theorem dX4_readGate_19 : decode cX4_readGate 19 = .ok (.istore_n 2, 1) := by decide +kernel
theorem dX4_readGate_20 : decode cX4_readGate 20 = .ok (.iload_n 2, 1) := by decide +kernel
theorem dX4_readGate_21 : decode cX4_readGate 21 = .ok (.ifCond .ge 5, 3) := by decide +kernel
theorem dX4_readGate_24 : decode cX4_readGate 24 = .ok (.iconst 0, 1) := by decide +kernel
theorem dX4_readGate_25 : decode cX4_readGate 25 = .ok (.ireturn, 1) := by decide +kernel
theorem dX4_readGate_26 : decode cX4_readGate 26 = .ok (.iload_n 2, 1) := by decide +kernel
theorem dX4_readGate_27 : decode cX4_readGate 27 = .ok (.iload_n 1, 1) := by decide +kernel
theorem dX4_readGate_28 : decode cX4_readGate 28 = .ok (.if_icmp .ne 9, 3) := by decide +kernel
theorem dX4_readGate_31 : decode cX4_readGate 31 = .ok (.aload_n 0, 1) := by decide +kernel
theorem dX4_readGate_32 : decode cX4_readGate 32 = .ok (.iconst 3, 1) := by decide +kernel
theorem dX4_readGate_33 : decode cX4_readGate 33 = .ok (.invokevirtual 105, 3) := by decide +kernel
theorem dX4_readGate_36 : decode cX4_readGate 36 = .ok (.ireturn, 1) := by decide +kernel
theorem dX4_readGate_37 : decode cX4_readGate 37 = .ok (.aload_n 0, 1) := by decide +kernel
theorem dX4_readGate_38 : decode cX4_readGate 38 = .ok (.getfield 34, 3) := by decide +kernel
theorem dX4_readGate_41 : decode cX4_readGate 41 = .ok (.iload_n 1, 1) := by decide +kernel
theorem dX4_readGate_42 : decode cX4_readGate 42 = .ok (.iload_n 2, 1) := by decide +kernel
theorem dX4_readGate_43 : decode cX4_readGate 43 = .ok (.invokevirtual 199, 3) := by decide +kernel
theorem dX4_readGate_46 : decode cX4_readGate 46 = .ok (.istore_n 3, 1) := by decide +kernel
theorem dX4_readGate_47 : decode cX4_readGate 47 = .ok (.iload_n 3, 1) := by decide +kernel
theorem dX4_readGate_48 : decode cX4_readGate 48 = .ok (.ifCond .ge 10, 3) := by decide +kernel
theorem dX4_readGate_51 : decode cX4_readGate 51 = .ok (.aload_n 0, 1) := by decide +kernel
theorem dX4_readGate_52 : decode cX4_readGate 52 = .ok (.bipush 8, 2) := by decide +kernel
theorem dX4_readGate_54 : decode cX4_readGate 54 = .ok (.invokevirtual 105, 3) := by decide +kernel
theorem dX4_readGate_57 : decode cX4_readGate 57 = .ok (.ireturn, 1) := by decide +kernel
theorem dX4_readGate_58 : decode cX4_readGate 58 = .ok (.aload_n 0, 1) := by decide +kernel
theorem dX4_readGate_59 : decode cX4_readGate 59 = .ok (.getfield 34, 3) := by decide +kernel
theorem dX4_readGate_62 : decode cX4_readGate 62 = .ok (.iload_n 3, 1) := by decide +kernel
theorem dX4_readGate_63 : decode cX4_readGate 63 = .ok (.invokevirtual 206, 3) := by decide +kernel
theorem dX4_readGate_66 : decode cX4_readGate 66 = .ok (.ifCond .eq 9, 3) := by decide +kernel
theorem dX4_readGate_69 : decode cX4_readGate 69 = .ok (.aload_n 0, 1) := by decide +kernel
theorem dX4_readGate_70 : decode cX4_readGate 70 = .ok (.iconst 3, 1) := by decide +kernel
theorem dX4_readGate_71 : decode cX4_readGate 71 = .ok (.invokevirtual 105, 3) := by decide +kernel
theorem dX4_readGate_74 : decode cX4_readGate 74 = .ok (.ireturn, 1) := by decide +kernel
theorem dX4_readGate_75 : decode cX4_readGate 75 = .ok (.aload_n 0, 1) := by decide +kernel
theorem dX4_readGate_76 : decode cX4_readGate 76 = .ok (.invokevirtual 109, 3) := by decide +kernel
theorem dX4_readGate_79 : decode cX4_readGate 79 = .ok (.aload_n 0, 1) := by decide +kernel
theorem dX4_readGate_80 : decode cX4_readGate 80 = .ok (.getfield 99, 3) := by decide +kernel
theorem dX4_readGate_83 : decode cX4_readGate 83 = .ok (.iconst 1, 1) := by decide +kernel
theorem dX4_readGate_84 : decode cX4_readGate 84 = .ok (.if_icmp .ne 21, 3) := by decide +kernel
theorem dX4_readGate_87 : decode cX4_readGate 87 = .ok (.aload_n 0, 1) := by decide +kernel
theorem dX4_readGate_88 : decode cX4_readGate 88 = .ok (.getfield 138, 3) := by decide +kernel
theorem dX4_readGate_91 : decode cX4_readGate 91 = .ok (.bipush 11, 2) := by decide +kernel
theorem dX4_readGate_93 : decode cX4_readGate 93 = .ok (.if_icmp .lt 12, 3) := by decide +kernel
theorem dX4_readGate_96 : decode cX4_readGate 96 = .ok (.aload_n 0, 1) := by decide +kernel
theorem dX4_readGate_97 : decode cX4_readGate 97 = .ok (.getfield 138, 3) := by decide +kernel
theorem dX4_readGate_100 : decode cX4_readGate 100 = .ok (.bipush 14, 2) := by decide +kernel
theorem dX4_readGate_102 : decode cX4_readGate 102 = .ok (.if_icmp .le 9, 3) := by decide +kernel
theorem dX4_readGate_105 : decode cX4_readGate 105 = .ok (.aload_n 0, 1) := by decide +kernel
theorem dX4_readGate_106 : decode cX4_readGate 106 = .ok (.iconst 1, 1) := by decide +kernel
theorem dX4_readGate_107 : decode cX4_readGate 107 = .ok (.invokevirtual 105, 3) := by decide +kernel
theorem dX4_readGate_110 : decode cX4_readGate 110 = .ok (.ireturn, 1) := by decide +kernel
theorem dX4_readGate_111 : decode cX4_readGate 111 = .ok (.aload_n 0, 1) := by decide +kernel
theorem dX4_readGate_112 : decode cX4_readGate 112 = .ok (.getfield 138, 3) := by decide +kernel
theorem dX4_readGate_115 : decode cX4_readGate 115 = .ok (.bipush 11, 2) := by decide +kernel
theorem dX4_readGate_117 : decode cX4_readGate 117 = .ok (.isub, 1) := by decide +kernel
theorem dX4_readGate_118 : decode cX4_readGate 118 = .ok (.istore 4, 2) := by decide +kernel
theorem dX4_readGate_120 : decode cX4_readGate 120 = .ok (.aload_n 0, 1) := by decide +kernel
theorem dX4_readGate_121 : decode cX4_readGate 121 = .ok (.invokevirtual 109, 3) := by decide +kernel
theorem dX4_readGate_124 : decode cX4_readGate 124 = .ok (.aload_n 0, 1) := by decide +kernel
theorem dX4_readGate_125 : decode cX4_readGate 125 = .ok (.iconst 1, 1) := by decide +kernel
theorem dX4_readGate_126 : decode cX4_readGate 126 = .ok (.invokevirtual 192, 3) := by decide +kernel
theorem dX4_readGate_129 : decode cX4_readGate 129 = .ok (.istore 5, 2) := by decide +kernel
theorem dX4_readGate_131 : decode cX4_readGate 131 = .ok (.iload 5, 2) := by decide +kernel
theorem dX4_readGate_133 : decode cX4_readGate 133 = .ok (.ifCond .ge 5, 3) := by decide +kernel
theorem dX4_readGate_136 : decode cX4_readGate 136 = .ok (.iconst 0, 1) := by decide +kernel
theorem dX4_readGate_137 : decode cX4_readGate 137 = .ok (.ireturn, 1) := by decide +kernel
theorem dX4_readGate_138 : decode cX4_readGate 138 = .ok (.aload_n 0, 1) := by decide +kernel
theorem dX4_readGate_139 : decode cX4_readGate 139 = .ok (.getfield 34, 3) := by decide +kernel
theorem dX4_readGate_142 : decode cX4_readGate 142 = .ok (.iload_n 3, 1) := by decide +kernel
theorem dX4_readGate_143 : decode cX4_readGate 143 = .ok (.iload 4, 2) := by decide +kernel
theorem dX4_readGate_145 : decode cX4_readGate 145 = .ok (.iload 5, 2) := by decide +kernel
theorem dX4_readGate_147 : decode cX4_readGate 147 = .ok (.invokevirtual 209, 3) := by decide +kernel
theorem dX4_readGate_150 : decode cX4_readGate 150 = .ok (.iconst 1, 1) := by decide +kernel
theorem dX4_readGate_151 : decode cX4_readGate 151 = .ok (.ireturn, 1) := by decide +kernel
abbrev rm_X4_readGate : Room := { frames := 3, cells := 0, slots := 0, locals := 67 }
def f_X4_readGate_105 (h : Mem) (v0 : Nat) : Option (Int32 × Mem) :=
  (f_X4_fail h v0 1).bind fun q15 => retZ q15.1 (q15.1, q15.2)
set_option maxRecDepth 100000 in
set_option maxHeartbeats 4000000 in
theorem w_X4_readGate_105 {G : GE} {X : CX} {l : Launch} (hX : Ok G X cX4_readGate RX4) (hN : xn X = 6) {P : (Int32 × Mem) → Prop} (hr : Rt G X l yX4_readGate (some .boolean) rm_X4_readGate (pmI P)) (h : Mem) (v0 : Nat) (hy : OK (f_X4_readGate_105 h v0) P) : AW G X 105 [(0, vR v0)] [] h 0 0 := by
  unfold f_X4_readGate_105 at hy
  refine aw_aloadn (pc := 105) hX 0 rfl dX4_readGate_105 ?_
  refine aw_iconst (pc := 106) hX 1 (by decide) dX4_readGate_106 ?_
  refine aw_callV (pc := 107) (st := []) (a := v0) hX [vI 1] (con_X4_fail _ G _ v0 1 hy.bd) mc_X4_fail ml_X4_105 im_X4_fail se_X4_fail (by decide) hy.bd.kd rfl (rm_of hr (by decide)) (Nat.le_of_ble_eq_true rfl) rfl dX4_readGate_107 (kmI rfl rfl (fun q15 hy => ?_))
  exact aw_zret (pc := 110) hX hr (by decide) (by decide) dX4_readGate_110 hy.rz.1 ⟨_, rfl, hy.rz.2⟩
def f_X4_readGate_19 (h : Mem) (v0 : Nat) (v1 : Int32) (s0 : Int32) : Option (Int32 × Mem) :=
  (if 0 ≤ s0 then (if s0 = v1 then (f_X4_fail h v0 3).bind fun q33 => retZ q33.1 (q33.1, q33.2) else (gR h v0 6 3).bind fun r7 => (f_X5_roadBetween h r7 v1 s0).bind fun x8 => (if 0 ≤ x8 then (gR h v0 6 3).bind fun r9 => (f_X5_hasGate h r9 x8).bind fun x10 => (if x10 = 0 then (f_X4_step h v0).bind fun h11 => (gI h11 v0 11 3).bind fun x12 => (if x12 = 1 then (gI h11 v0 13 3).bind fun x16 => (if x16 < 11 then f_X4_readGate_105 h11 v0 else (gI h11 v0 13 3).bind fun x17 => (if x17 ≤ 14 then (gI h11 v0 13 3).bind fun x18 => (f_X4_step h11 v0).bind fun h19 => (f_X4_readName h19 v0 1).bind fun q22 => (if 0 ≤ q22.1 then (gR q22.2 v0 6 3).bind fun r23 => (f_X5_addGate q22.2 r23 x8 (x18 - 11) q22.1).bind fun h24 => some (1, h24) else some (0, q22.2)) else f_X4_readGate_105 h11 v0)) else f_X4_readGate_105 h11 v0) else (f_X4_fail h v0 3).bind fun q27 => retZ q27.1 (q27.1, q27.2)) else (f_X4_fail h v0 8).bind fun q30 => retZ q30.1 (q30.1, q30.2))) else some (0, h))
set_option maxRecDepth 100000 in
set_option maxHeartbeats 4000000 in
theorem w_X4_readGate_19 {G : GE} {X : CX} {l : Launch} (hX : Ok G X cX4_readGate RX4) (hN : xn X = 6) {P : (Int32 × Mem) → Prop} (hr : Rt G X l yX4_readGate (some .boolean) rm_X4_readGate (pmI P)) (h : Mem) (v0 : Nat) (v1 : Int32) (s0 : Int32) (hy : OK (f_X4_readGate_19 h v0 v1 s0) P) : AW G X 19 [(0, vR v0), (1, vI v1)] [vI s0] h 0 0 := by
  unfold f_X4_readGate_19 at hy
  refine aw_istoren (pc := 19) hX [(2, vI s0), (0, vR v0), (1, vI v1)] rfl (lt_n hN (by decide)) dX4_readGate_19 ?_
  refine aw_iloadn (pc := 20) hX 0 rfl dX4_readGate_20 ?_
  refine aw_if_ge (pc := 21) hX 26 (by decide) dX4_readGate_21 (fun hc9 => ?_) (fun hc9 => ?_)
  · have hy := hy.t hc9
    refine aw_iloadn (pc := 26) hX 0 rfl dX4_readGate_26 ?_
    refine aw_iloadn (pc := 27) hX 2 rfl dX4_readGate_27 ?_
    refine aw_ic_ne (pc := 28) hX 37 (by decide) dX4_readGate_28 (fun hc9 => ?_) (fun hc9 => ?_)
    · have hy := hy.f hc9
      refine aw_aloadn (pc := 37) hX 1 rfl dX4_readGate_37 ?_
      refine aw_gR (pc := 38) hX hy fl_X4_34 (fun _ _ => rfl) dX4_readGate_38 (fun r7 hy => ?_)
      refine aw_iloadn (pc := 41) hX 2 rfl dX4_readGate_41 ?_
      refine aw_iloadn (pc := 42) hX 0 rfl dX4_readGate_42 ?_
      refine aw_callV (pc := 43) (st := []) (a := r7) hX [vI v1, vI s0] (con_X5_roadBetween _ G _ r7 v1 s0 hy.bd) mc_X5_roadBetween ml_X4_199 im_X5_roadBetween se_X5_roadBetween (by decide) hy.bd.kd rfl (rm_of hr (by decide)) (Nat.le_of_ble_eq_true rfl) rfl dX4_readGate_43 (kpI rfl rfl (fun x8 hy => ?_))
      refine aw_istoren (pc := 46) hX [(3, vI x8), (2, vI s0), (0, vR v0), (1, vI v1)] rfl (lt_n hN (by decide)) dX4_readGate_46 ?_
      refine aw_iloadn (pc := 47) hX 0 rfl dX4_readGate_47 ?_
      refine aw_if_ge (pc := 48) hX 58 (by decide) dX4_readGate_48 (fun hc9 => ?_) (fun hc9 => ?_)
      · have hy := hy.t hc9
        refine aw_aloadn (pc := 58) hX 2 rfl dX4_readGate_58 ?_
        refine aw_gR (pc := 59) hX hy fl_X4_34 (fun _ _ => rfl) dX4_readGate_59 (fun r9 hy => ?_)
        refine aw_iloadn (pc := 62) hX 0 rfl dX4_readGate_62 ?_
        refine aw_callV (pc := 63) (st := []) (a := r9) hX [vI x8] (con_X5_hasGate _ G _ r9 x8 hy.bd) mc_X5_hasGate ml_X4_206 im_X5_hasGate se_X5_hasGate (by decide) hy.bd.kd rfl (rm_of hr (by decide)) (Nat.le_of_ble_eq_true rfl) rfl dX4_readGate_63 (kpI rfl rfl (fun x10 hy => ?_))
        refine aw_if_eq (pc := 66) hX 75 (by decide) dX4_readGate_66 (fun hc9 => ?_) (fun hc9 => ?_)
        · have hy := hy.t hc9
          refine aw_aloadn (pc := 75) hX 2 rfl dX4_readGate_75 ?_
          refine aw_callV (pc := 76) (st := []) (a := v0) hX [] (con_X4_step _ G _ v0 hy.bd) mc_X4_step ml_X4_109 im_X4_step se_X4_step (by decide) hy.bd.kd rfl (rm_of hr (by decide)) (Nat.le_of_ble_eq_true rfl) rfl dX4_readGate_76 (kmV rfl rfl (fun h11 hy => ?_))
          refine aw_aloadn (pc := 79) hX 2 rfl dX4_readGate_79 ?_
          refine aw_gI (pc := 80) hX hy fl_X4_99 (fun _ _ => rfl) dX4_readGate_80 (fun x12 hy => ?_)
          refine aw_iconst (pc := 83) hX 1 (by decide) dX4_readGate_83 ?_
          refine aw_ic_ne (pc := 84) hX 105 (by decide) dX4_readGate_84 (fun hc9 => ?_) (fun hc9 => ?_)
          · have hy := hy.f hc9
            refine AW.sub [2] rfl ?_
            exact w_X4_readGate_105 hX hN hr h11 v0 hy
          · have hy := hy.t hc9
            refine aw_aloadn (pc := 87) hX 2 rfl dX4_readGate_87 ?_
            refine aw_gI (pc := 88) hX hy fl_X4_138 (fun _ _ => rfl) dX4_readGate_88 (fun x16 hy => ?_)
            refine aw_bipush (pc := 91) hX 11 (by decide) dX4_readGate_91 ?_
            refine aw_ic_lt (pc := 93) hX 105 (by decide) dX4_readGate_93 (fun hc9 => ?_) (fun hc9 => ?_)
            · have hy := hy.t hc9
              refine AW.sub [2] rfl ?_
              exact w_X4_readGate_105 hX hN hr h11 v0 hy
            · have hy := hy.f hc9
              refine aw_aloadn (pc := 96) hX 2 rfl dX4_readGate_96 ?_
              refine aw_gI (pc := 97) hX hy fl_X4_138 (fun _ _ => rfl) dX4_readGate_97 (fun x17 hy => ?_)
              refine aw_bipush (pc := 100) hX 14 (by decide) dX4_readGate_100 ?_
              refine aw_ic_le (pc := 102) hX 111 (by decide) dX4_readGate_102 (fun hc9 => ?_) (fun hc9 => ?_)
              · have hy := hy.t hc9
                refine aw_aloadn (pc := 111) hX 2 rfl dX4_readGate_111 ?_
                refine aw_gI (pc := 112) hX hy fl_X4_138 (fun _ _ => rfl) dX4_readGate_112 (fun x18 hy => ?_)
                refine aw_bipush (pc := 115) hX 11 (by decide) dX4_readGate_115 ?_
                refine aw_isub (pc := 117) hX dX4_readGate_117 ?_
                refine aw_istore (pc := 118) hX [(4, vI (x18 - 11)), (3, vI x8), (2, vI s0), (0, vR v0), (1, vI v1)] rfl (lt_n hN (by decide)) dX4_readGate_118 ?_
                refine aw_aloadn (pc := 120) hX 3 rfl dX4_readGate_120 ?_
                refine aw_callV (pc := 121) (st := []) (a := v0) hX [] (con_X4_step _ G _ v0 hy.bd) mc_X4_step ml_X4_109 im_X4_step se_X4_step (by decide) hy.bd.kd rfl (rm_of hr (by decide)) (Nat.le_of_ble_eq_true rfl) rfl dX4_readGate_121 (kmV rfl rfl (fun h19 hy => ?_))
                refine aw_aloadn (pc := 124) hX 3 rfl dX4_readGate_124 ?_
                refine aw_iconst (pc := 125) hX 1 (by decide) dX4_readGate_125 ?_
                refine aw_callV (pc := 126) (st := []) (a := v0) hX [vI 1] (con_X4_readName _ G _ v0 1 hy.bd) mc_X4_readName ml_X4_192 im_X4_readName se_X4_readName (by decide) hy.bd.kd rfl (rm_of hr (by decide)) (Nat.le_of_ble_eq_true rfl) rfl dX4_readGate_126 (kmI rfl rfl (fun q22 hy => ?_))
                refine aw_istore (pc := 129) hX [(5, vI q22.1), (4, vI (x18 - 11)), (3, vI x8), (2, vI s0), (0, vR v0), (1, vI v1)] rfl (lt_n hN (by decide)) dX4_readGate_129 ?_
                refine aw_iload (pc := 131) hX 0 rfl dX4_readGate_131 ?_
                refine aw_if_ge (pc := 133) hX 138 (by decide) dX4_readGate_133 (fun hc9 => ?_) (fun hc9 => ?_)
                · have hy := hy.t hc9
                  refine aw_aloadn (pc := 138) hX 4 rfl dX4_readGate_138 ?_
                  refine aw_gR (pc := 139) hX hy fl_X4_34 (fun _ _ => rfl) dX4_readGate_139 (fun r23 hy => ?_)
                  refine aw_iloadn (pc := 142) hX 2 rfl dX4_readGate_142 ?_
                  refine aw_iload (pc := 143) hX 1 rfl dX4_readGate_143 ?_
                  refine aw_iload (pc := 145) hX 0 rfl dX4_readGate_145 ?_
                  refine aw_callV (pc := 147) (st := []) (a := r23) hX [vI x8, vI (x18 - 11), vI q22.1] (con_X5_addGate _ G _ r23 x8 (x18 - 11) q22.1 hy.bd) mc_X5_addGate ml_X4_209 im_X5_addGate se_X5_addGate (by decide) hy.bd.kd rfl (rm_of hr (by decide)) (Nat.le_of_ble_eq_true rfl) rfl dX4_readGate_147 (kmV rfl rfl (fun h24 hy => ?_))
                  refine aw_iconst (pc := 150) hX 1 (by decide) dX4_readGate_150 ?_
                  exact aw_zret (pc := 151) hX hr (by decide) (by decide) dX4_readGate_151 (Or.inr rfl) ⟨_, rfl, hy.s⟩
                · have hy := hy.f hc9
                  refine aw_iconst (pc := 136) hX 0 (by decide) dX4_readGate_136 ?_
                  exact aw_zret (pc := 137) hX hr (by decide) (by decide) dX4_readGate_137 (Or.inl rfl) ⟨_, rfl, hy.s⟩
              · have hy := hy.f hc9
                refine AW.sub [2] rfl ?_
                exact w_X4_readGate_105 hX hN hr h11 v0 hy
        · have hy := hy.f hc9
          refine aw_aloadn (pc := 69) hX 2 rfl dX4_readGate_69 ?_
          refine aw_iconst (pc := 70) hX 3 (by decide) dX4_readGate_70 ?_
          refine aw_callV (pc := 71) (st := []) (a := v0) hX [vI 3] (con_X4_fail _ G _ v0 3 hy.bd) mc_X4_fail ml_X4_105 im_X4_fail se_X4_fail (by decide) hy.bd.kd rfl (rm_of hr (by decide)) (Nat.le_of_ble_eq_true rfl) rfl dX4_readGate_71 (kmI rfl rfl (fun q27 hy => ?_))
          exact aw_zret (pc := 74) hX hr (by decide) (by decide) dX4_readGate_74 hy.rz.1 ⟨_, rfl, hy.rz.2⟩
      · have hy := hy.f hc9
        refine aw_aloadn (pc := 51) hX 2 rfl dX4_readGate_51 ?_
        refine aw_bipush (pc := 52) hX 8 (by decide) dX4_readGate_52 ?_
        refine aw_callV (pc := 54) (st := []) (a := v0) hX [vI 8] (con_X4_fail _ G _ v0 8 hy.bd) mc_X4_fail ml_X4_105 im_X4_fail se_X4_fail (by decide) hy.bd.kd rfl (rm_of hr (by decide)) (Nat.le_of_ble_eq_true rfl) rfl dX4_readGate_54 (kmI rfl rfl (fun q30 hy => ?_))
        exact aw_zret (pc := 57) hX hr (by decide) (by decide) dX4_readGate_57 hy.rz.1 ⟨_, rfl, hy.rz.2⟩
    · have hy := hy.t hc9
      refine aw_aloadn (pc := 31) hX 1 rfl dX4_readGate_31 ?_
      refine aw_iconst (pc := 32) hX 3 (by decide) dX4_readGate_32 ?_
      refine aw_callV (pc := 33) (st := []) (a := v0) hX [vI 3] (con_X4_fail _ G _ v0 3 hy.bd) mc_X4_fail ml_X4_105 im_X4_fail se_X4_fail (by decide) hy.bd.kd rfl (rm_of hr (by decide)) (Nat.le_of_ble_eq_true rfl) rfl dX4_readGate_33 (kmI rfl rfl (fun q33 hy => ?_))
      exact aw_zret (pc := 36) hX hr (by decide) (by decide) dX4_readGate_36 hy.rz.1 ⟨_, rfl, hy.rz.2⟩
  · have hy := hy.f hc9
    refine aw_iconst (pc := 24) hX 0 (by decide) dX4_readGate_24 ?_
    exact aw_zret (pc := 25) hX hr (by decide) (by decide) dX4_readGate_25 (Or.inl rfl) ⟨_, rfl, hy.s⟩
def f_X4_readGate (h : Mem) (v0 : Nat) : Option (Int32 × Mem) :=
  (ck h v0 3).bind fun _ => (f_X4_readName h v0 2).bind fun q3 => (if 0 ≤ q3.1 then (f_X4_findName q3.2 v0 2).bind fun q6 => f_X4_readGate_19 q6.2 v0 q3.1 q6.1 else f_X4_readGate_19 q3.2 v0 q3.1 (-1))
set_option maxRecDepth 100000 in
set_option maxHeartbeats 4000000 in
theorem w_X4_readGate {G : GE} {X : CX} {l : Launch} (hX : Ok G X cX4_readGate RX4) (hN : xn X = 6) {P : (Int32 × Mem) → Prop} (hr : Rt G X l yX4_readGate (some .boolean) rm_X4_readGate (pmI P)) (h : Mem) (v0 : Nat) (hy : OK (f_X4_readGate h v0) P) : AW G X 0 [(0, vR v0)] [] h 0 0 := by
  unfold f_X4_readGate at hy
  have hkd := hy.kd
  have hy := hy.kb
  refine aw_aloadn (pc := 0) hX 0 rfl dX4_readGate_0 ?_
  refine aw_iconst (pc := 1) hX 2 (by decide) dX4_readGate_1 ?_
  refine aw_callV (pc := 2) (st := []) (a := v0) hX [vI 2] (con_X4_readName _ G _ v0 2 hy.bd) mc_X4_readName ml_X4_192 im_X4_readName se_X4_readName (by decide) hy.bd.kd rfl (rm_of hr (by decide)) (Nat.le_of_ble_eq_true rfl) rfl dX4_readGate_2 (kmI rfl rfl (fun q3 hy => ?_))
  refine aw_istoren (pc := 5) hX [(1, vI q3.1), (0, vR v0)] rfl (lt_n hN (by decide)) dX4_readGate_5 ?_
  refine aw_iloadn (pc := 6) hX 0 rfl dX4_readGate_6 ?_
  refine aw_if_ge (pc := 7) hX 14 (by decide) dX4_readGate_7 (fun hc9 => ?_) (fun hc9 => ?_)
  · have hy := hy.t hc9
    refine aw_aloadn (pc := 14) hX 1 rfl dX4_readGate_14 ?_
    refine aw_iconst (pc := 15) hX 2 (by decide) dX4_readGate_15 ?_
    refine aw_callV (pc := 16) (st := []) (a := v0) hX [vI 2] (con_X4_findName _ G _ v0 2 hy.bd) mc_X4_findName ml_X4_196 im_X4_findName se_X4_findName (by decide) hy.bd.kd rfl (rm_of hr (by decide)) (Nat.le_of_ble_eq_true rfl) rfl dX4_readGate_16 (kmI rfl rfl (fun q6 hy => ?_))
    refine AW.sub [1, 0] rfl ?_
    exact w_X4_readGate_19 hX hN hr q6.2 v0 q3.1 q6.1 hy
  · have hy := hy.f hc9
    refine aw_iconst (pc := 10) hX (-1) (by decide) dX4_readGate_10 ?_
    refine aw_goto (pc := 11) hX 19 (by decide) dX4_readGate_11 ?_
    refine AW.sub [1, 0] rfl ?_
    exact w_X4_readGate_19 hX hN hr q3.2 v0 q3.1 (-1) hy
theorem con_X4_readGate (l : Launch) (G : GE) (h : Mem) (v0 : Nat) {P : (Int32 × Mem) → Prop} (hy : OK (f_X4_readGate h v0) P) : Con l G yX4_readGate cX4_readGate 6 (some .boolean) rm_X4_readGate [vR v0] h (pmI P) := Con.of (by decide) (Nat.le_of_ble_eq_true rfl) (fun X hX hr hN => w_X4_readGate hX hN hr h v0 hy)
/-! X5_addInn -/
theorem dX5_addInn_0 : decode cX5_addInn 0 = .ok (.aload_n 0, 1) := by decide +kernel
theorem dX5_addInn_1 : decode cX5_addInn 1 = .ok (.getfield 63, 3) := by decide +kernel
theorem dX5_addInn_4 : decode cX5_addInn 4 = .ok (.iconst 4, 1) := by decide +kernel
theorem dX5_addInn_5 : decode cX5_addInn 5 = .ok (.imul, 1) := by decide +kernel
theorem dX5_addInn_6 : decode cX5_addInn 6 = .ok (.istore 5, 2) := by decide +kernel
theorem dX5_addInn_8 : decode cX5_addInn 8 = .ok (.aload_n 0, 1) := by decide +kernel
theorem dX5_addInn_9 : decode cX5_addInn 9 = .ok (.getfield 33, 3) := by decide +kernel
theorem dX5_addInn_12 : decode cX5_addInn 12 = .ok (.iload 5, 2) := by decide +kernel
theorem dX5_addInn_14 : decode cX5_addInn 14 = .ok (.iconst 0, 1) := by decide +kernel
theorem dX5_addInn_15 : decode cX5_addInn 15 = .ok (.iadd, 1) := by decide +kernel
theorem dX5_addInn_16 : decode cX5_addInn 16 = .ok (.iload_n 1, 1) := by decide +kernel
theorem dX5_addInn_17 : decode cX5_addInn 17 = .ok (.iastore, 1) := by decide +kernel
theorem dX5_addInn_18 : decode cX5_addInn 18 = .ok (.aload_n 0, 1) := by decide +kernel
theorem dX5_addInn_19 : decode cX5_addInn 19 = .ok (.getfield 33, 3) := by decide +kernel
theorem dX5_addInn_22 : decode cX5_addInn 22 = .ok (.iload 5, 2) := by decide +kernel
theorem dX5_addInn_24 : decode cX5_addInn 24 = .ok (.iconst 1, 1) := by decide +kernel
theorem dX5_addInn_25 : decode cX5_addInn 25 = .ok (.iadd, 1) := by decide +kernel
theorem dX5_addInn_26 : decode cX5_addInn 26 = .ok (.iload_n 2, 1) := by decide +kernel
theorem dX5_addInn_27 : decode cX5_addInn 27 = .ok (.iastore, 1) := by decide +kernel
theorem dX5_addInn_28 : decode cX5_addInn 28 = .ok (.aload_n 0, 1) := by decide +kernel
theorem dX5_addInn_29 : decode cX5_addInn 29 = .ok (.getfield 33, 3) := by decide +kernel
theorem dX5_addInn_32 : decode cX5_addInn 32 = .ok (.iload 5, 2) := by decide +kernel
theorem dX5_addInn_34 : decode cX5_addInn 34 = .ok (.iconst 2, 1) := by decide +kernel
theorem dX5_addInn_35 : decode cX5_addInn 35 = .ok (.iadd, 1) := by decide +kernel
theorem dX5_addInn_36 : decode cX5_addInn 36 = .ok (.iload_n 3, 1) := by decide +kernel
theorem dX5_addInn_37 : decode cX5_addInn 37 = .ok (.ifCond .eq 7, 3) := by decide +kernel
theorem dX5_addInn_40 : decode cX5_addInn 40 = .ok (.iconst 1, 1) := by decide +kernel
theorem dX5_addInn_41 : decode cX5_addInn 41 = .ok (.goto 4, 3) := by decide +kernel
theorem dX5_addInn_44 : decode cX5_addInn 44 = .ok (.iconst 0, 1) := by decide +kernel
theorem dX5_addInn_45 : decode cX5_addInn 45 = .ok (.iastore, 1) := by decide +kernel
theorem dX5_addInn_46 : decode cX5_addInn 46 = .ok (.aload_n 0, 1) := by decide +kernel
theorem dX5_addInn_47 : decode cX5_addInn 47 = .ok (.getfield 33, 3) := by decide +kernel
theorem dX5_addInn_50 : decode cX5_addInn 50 = .ok (.iload 5, 2) := by decide +kernel
theorem dX5_addInn_52 : decode cX5_addInn 52 = .ok (.iconst 3, 1) := by decide +kernel
theorem dX5_addInn_53 : decode cX5_addInn 53 = .ok (.iadd, 1) := by decide +kernel
theorem dX5_addInn_54 : decode cX5_addInn 54 = .ok (.iload 4, 2) := by decide +kernel
theorem dX5_addInn_56 : decode cX5_addInn 56 = .ok (.iastore, 1) := by decide +kernel
theorem dX5_addInn_57 : decode cX5_addInn 57 = .ok (.aload_n 0, 1) := by decide +kernel
theorem dX5_addInn_58 : decode cX5_addInn 58 = .ok (.dup, 1) := by decide +kernel
theorem dX5_addInn_59 : decode cX5_addInn 59 = .ok (.getfield 63, 3) := by decide +kernel
theorem dX5_addInn_62 : decode cX5_addInn 62 = .ok (.iconst 1, 1) := by decide +kernel
theorem dX5_addInn_63 : decode cX5_addInn 63 = .ok (.iadd, 1) := by decide +kernel
theorem dX5_addInn_64 : decode cX5_addInn 64 = .ok (.putfield 63, 3) := by decide +kernel
theorem dX5_addInn_67 : decode cX5_addInn 67 = .ok (.return_, 1) := by decide +kernel
abbrev rm_X5_addInn : Room := { frames := 0, cells := 0, slots := 0, locals := 0 }
def f_X5_addInn_45 (h : Mem) (v0 : Nat) (v4 : Int32) (v5 : Int32) (s0 : Nat) (s1 : Int32) (s2 : Int32) : Option Mem :=
  (sI h s0 s1 s2).bind fun h7 => (gR h7 v0 16 4).bind fun r8 => (sI h7 r8 (v5 + 3) v4).bind fun h9 => (gI h9 v0 5 4).bind fun x10 => (pI h9 v0 5 4 (x10 + 1)).bind fun h11 => some h11
set_option maxRecDepth 100000 in
set_option maxHeartbeats 4000000 in
theorem w_X5_addInn_45 {G : GE} {X : CX} {l : Launch} (hX : Ok G X cX5_addInn RX5) (hN : xn X = 6) {P : Mem → Prop} (hr : Rt G X l yX5_addInn none rm_X5_addInn (pmV P)) (h : Mem) (v0 : Nat) (v4 : Int32) (v5 : Int32) (s0 : Nat) (s1 : Int32) (s2 : Int32) (hy : OK (f_X5_addInn_45 h v0 v4 v5 s0 s1 s2) P) : AW G X 45 [(0, vR v0), (4, vI v4), (5, vI v5)] [vI s2, vI s1, vR s0] h 0 0 := by
  unfold f_X5_addInn_45 at hy
  refine aw_sI (pc := 45) hX hy dX5_addInn_45 (fun h7 hy => ?_)
  refine aw_aloadn (pc := 46) hX 0 rfl dX5_addInn_46 ?_
  refine aw_gR (pc := 47) hX hy fl_X5_33 (fun _ _ => rfl) dX5_addInn_47 (fun r8 hy => ?_)
  refine aw_iload (pc := 50) hX 2 rfl dX5_addInn_50 ?_
  refine aw_iconst (pc := 52) hX 3 (by decide) dX5_addInn_52 ?_
  refine aw_iadd (pc := 53) hX dX5_addInn_53 ?_
  refine aw_iload (pc := 54) hX 1 rfl dX5_addInn_54 ?_
  refine aw_sI (pc := 56) hX hy dX5_addInn_56 (fun h9 hy => ?_)
  refine aw_aloadn (pc := 57) hX 0 rfl dX5_addInn_57 ?_
  refine aw_dup (pc := 58) hX rfl dX5_addInn_58 ?_
  refine aw_gI (pc := 59) hX hy fl_X5_63 (fun _ _ => rfl) dX5_addInn_59 (fun x10 hy => ?_)
  refine aw_iconst (pc := 62) hX 1 (by decide) dX5_addInn_62 ?_
  refine aw_iadd (pc := 63) hX dX5_addInn_63 ?_
  refine aw_pI (pc := 64) hX hy fl_X5_63 rfl (Or.inl rfl) dX5_addInn_64 (fun h11 hy => ?_)
  exact aw_vret (pc := 67) hX hr (by decide) (by decide) dX5_addInn_67 ⟨rfl, hy.s⟩
def f_X5_addInn (h : Mem) (v0 : Nat) (v1 : Int32) (v2 : Int32) (v3 : Int32) (v4 : Int32) : Option Mem :=
  (ck h v0 4).bind fun _ => (gI h v0 5 4).bind fun x1 => (gR h v0 16 4).bind fun r2 => (sI h r2 ((x1 * 4) + 0) v1).bind fun h3 => (gR h3 v0 16 4).bind fun r4 => (sI h3 r4 ((x1 * 4) + 1) v2).bind fun h5 => (gR h5 v0 16 4).bind fun r6 => (if v3 = 0 then f_X5_addInn_45 h5 v0 v4 (x1 * 4) r6 ((x1 * 4) + 2) 0 else f_X5_addInn_45 h5 v0 v4 (x1 * 4) r6 ((x1 * 4) + 2) 1)
set_option maxRecDepth 100000 in
set_option maxHeartbeats 4000000 in
theorem w_X5_addInn {G : GE} {X : CX} {l : Launch} (hX : Ok G X cX5_addInn RX5) (hN : xn X = 6) {P : Mem → Prop} (hr : Rt G X l yX5_addInn none rm_X5_addInn (pmV P)) (h : Mem) (v0 : Nat) (v1 : Int32) (v2 : Int32) (v3 : Int32) (v4 : Int32) (hy : OK (f_X5_addInn h v0 v1 v2 v3 v4) P) : AW G X 0 [(0, vR v0), (1, vI v1), (2, vI v2), (3, vI v3), (4, vI v4)] [] h 0 0 := by
  unfold f_X5_addInn at hy
  have hkd := hy.kd
  have hy := hy.kb
  refine aw_aloadn (pc := 0) hX 0 rfl dX5_addInn_0 ?_
  refine aw_gI (pc := 1) hX hy fl_X5_63 (fun _ _ => rfl) dX5_addInn_1 (fun x1 hy => ?_)
  refine aw_iconst (pc := 4) hX 4 (by decide) dX5_addInn_4 ?_
  refine aw_imul (pc := 5) hX dX5_addInn_5 ?_
  refine aw_istore (pc := 6) hX [(5, vI (x1 * 4)), (0, vR v0), (1, vI v1), (2, vI v2), (3, vI v3), (4, vI v4)] rfl (lt_n hN (by decide)) dX5_addInn_6 ?_
  refine aw_aloadn (pc := 8) hX 1 rfl dX5_addInn_8 ?_
  refine aw_gR (pc := 9) hX hy fl_X5_33 (fun _ _ => rfl) dX5_addInn_9 (fun r2 hy => ?_)
  refine aw_iload (pc := 12) hX 0 rfl dX5_addInn_12 ?_
  refine aw_iconst (pc := 14) hX 0 (by decide) dX5_addInn_14 ?_
  refine aw_iadd (pc := 15) hX dX5_addInn_15 ?_
  refine aw_iloadn (pc := 16) hX 2 rfl dX5_addInn_16 ?_
  refine aw_sI (pc := 17) hX hy dX5_addInn_17 (fun h3 hy => ?_)
  refine aw_aloadn (pc := 18) hX 1 rfl dX5_addInn_18 ?_
  refine aw_gR (pc := 19) hX hy fl_X5_33 (fun _ _ => rfl) dX5_addInn_19 (fun r4 hy => ?_)
  refine aw_iload (pc := 22) hX 0 rfl dX5_addInn_22 ?_
  refine aw_iconst (pc := 24) hX 1 (by decide) dX5_addInn_24 ?_
  refine aw_iadd (pc := 25) hX dX5_addInn_25 ?_
  refine aw_iloadn (pc := 26) hX 3 rfl dX5_addInn_26 ?_
  refine aw_sI (pc := 27) hX hy dX5_addInn_27 (fun h5 hy => ?_)
  refine aw_aloadn (pc := 28) hX 1 rfl dX5_addInn_28 ?_
  refine aw_gR (pc := 29) hX hy fl_X5_33 (fun _ _ => rfl) dX5_addInn_29 (fun r6 hy => ?_)
  refine aw_iload (pc := 32) hX 0 rfl dX5_addInn_32 ?_
  refine aw_iconst (pc := 34) hX 2 (by decide) dX5_addInn_34 ?_
  refine aw_iadd (pc := 35) hX dX5_addInn_35 ?_
  refine aw_iloadn (pc := 36) hX 4 rfl dX5_addInn_36 ?_
  refine aw_if_eq (pc := 37) hX 44 (by decide) dX5_addInn_37 (fun hc9 => ?_) (fun hc9 => ?_)
  · have hy := hy.t hc9
    refine aw_iconst (pc := 44) hX 0 (by decide) dX5_addInn_44 ?_
    refine AW.sub [1, 5, 0] rfl ?_
    exact w_X5_addInn_45 hX hN hr h5 v0 v4 (x1 * 4) r6 ((x1 * 4) + 2) 0 hy
  · have hy := hy.f hc9
    refine aw_iconst (pc := 40) hX 1 (by decide) dX5_addInn_40 ?_
    refine aw_goto (pc := 41) hX 45 (by decide) dX5_addInn_41 ?_
    refine AW.sub [1, 5, 0] rfl ?_
    exact w_X5_addInn_45 hX hN hr h5 v0 v4 (x1 * 4) r6 ((x1 * 4) + 2) 1 hy
theorem con_X5_addInn (l : Launch) (G : GE) (h : Mem) (v0 : Nat) (v1 : Int32) (v2 : Int32) (v3 : Int32) (v4 : Int32) {P : Mem → Prop} (hy : OK (f_X5_addInn h v0 v1 v2 v3 v4) P) : Con l G yX5_addInn cX5_addInn 6 none rm_X5_addInn [vR v0, vI v1, vI v2, vI v3, vI v4] h (pmV P) := Con.of (by decide) (Nat.le_of_ble_eq_true rfl) (fun X hX hr hN => w_X5_addInn hX hN hr h v0 v1 v2 v3 v4 hy)
/-! X4_readInn -/
theorem dX4_readInn_0 : decode cX4_readInn 0 = .ok (.aload_n 0, 1) := by decide +kernel
theorem dX4_readInn_1 : decode cX4_readInn 1 = .ok (.iconst 2, 1) := by decide +kernel
theorem dX4_readInn_2 : decode cX4_readInn 2 = .ok (.invokevirtual 192, 3) := by decide +kernel
theorem dX4_readInn_5 : decode cX4_readInn 5 = .ok (.istore_n 1, 1) := by decide +kernel
theorem dX4_readInn_6 : decode cX4_readInn 6 = .ok (.iload_n 1, 1) := by decide +kernel
theorem dX4_readInn_7 : decode cX4_readInn 7 = .ok (.ifCond .ge 5, 3) := by decide +kernel
theorem dX4_readInn_10 : decode cX4_readInn 10 = .ok (.iconst 0, 1) := by decide +kernel
theorem dX4_readInn_11 : decode cX4_readInn 11 = .ok (.ireturn, 1) := by decide +kernel
theorem dX4_readInn_12 : decode cX4_readInn 12 = .ok (.aload_n 0, 1) := by decide +kernel
theorem dX4_readInn_13 : decode cX4_readInn 13 = .ok (.bipush 16, 2) := by decide +kernel
theorem dX4_readInn_15 : decode cX4_readInn 15 = .ok (.invokevirtual 212, 3) := by decide +kernel
theorem dX4_readInn_18 : decode cX4_readInn 18 = .ok (.istore_n 2, 1) := by decide +kernel
theorem dX4_readInn_19 : decode cX4_readInn 19 = .ok (.iload_n 2, 1) := by decide +kernel
theorem dX4_readInn_20 : decode cX4_readInn 20 = .ok (.ifCond .ne 18, 3) := by decide +kernel
theorem dX4_readInn_23 : decode cX4_readInn 23 = .ok (.aload_n 0, 1) := by decide +kernel
theorem dX4_readInn_24 : decode cX4_readInn 24 = .ok (.bipush 15, 2) := by decide +kernel
theorem dX4_readInn_26 : decode cX4_readInn 26 = .ok (.invokevirtual 212, 3) := by decide +kernel
theorem dX4_readInn_29 : decode cX4_readInn 29 = .ok (.ifCond .ne 9, 3) := by decide +kernel
theorem dX4_readInn_32 : decode cX4_readInn 32 = .ok (.aload_n 0, 1) := by decide +kernel
theorem dX4_readInn_33 : decode cX4_readInn 33 = .ok (.iconst 1, 1) := by decide +kernel
theorem dX4_readInn_34 : decode cX4_readInn 34 = .ok (.invokevirtual 105, 3) := by decide +kernel
theorem dX4_readInn_37 : decode cX4_readInn 37 = .ok (.ireturn, 1) := by decide +kernel
theorem dX4_readInn_38 : decode cX4_readInn 38 = .ok (.aload_n 0, 1) := by decide +kernel
theorem dX4_readInn_39 : decode cX4_readInn 39 = .ok (.invokevirtual 109, 3) := by decide +kernel
theorem dX4_readInn_42 : decode cX4_readInn 42 = .ok (.aload_n 0, 1) := by decide +kernel
theorem dX4_readInn_43 : decode cX4_readInn 43 = .ok (.iconst 1, 1) := by decide +kernel
theorem dX4_readInn_44 : decode cX4_readInn 44 = .ok (.invokevirtual 192, 3) := by decide +kernel
theorem dX4_readInn_47 : decode cX4_readInn 47 = .ok (.istore_n 3, 1) := by decide +kernel
theorem dX4_readInn_48 : decode cX4_readInn 48 = .ok (.iload_n 3, 1) := by decide +kernel
theorem dX4_readInn_49 : decode cX4_readInn 49 = .ok (.ifCond .lt 22, 3) := by decide +kernel
theorem dX4_readInn_52 : decode cX4_readInn 52 = .ok (.aload_n 0, 1) := by decide +kernel
theorem dX4_readInn_53 : decode cX4_readInn 53 = .ok (.bipush 17, 2) := by decide +kernel
theorem dX4_readInn_55 : decode cX4_readInn 55 = .ok (.invokevirtual 171, 3) := by decide +kernel
theorem dX4_readInn_58 : decode cX4_readInn 58 = .ok (.ifCond .eq 13, 3) := by decide +kernel
theorem dX4_readInn_61 : decode cX4_readInn 61 = .ok (.aload_n 0, 1) := by decide +kernel
theorem dX4_readInn_62 : decode cX4_readInn 62 = .ok (.iconst 0, 1) := by decide +kernel
theorem dX4_readInn_63 : decode cX4_readInn 63 = .ok (.bipush 99, 2) := by decide +kernel
theorem dX4_readInn_65 : decode cX4_readInn 65 = .ok (.invokevirtual 174, 3) := by decide +kernel
theorem dX4_readInn_68 : decode cX4_readInn 68 = .ok (.goto 4, 3) := by decide +kernel
theorem dX4_readInn_71 : decode cX4_readInn 71 = .ok (.iconst (-1), 1) := by decide +kernel
theorem dX4_readInn_72 : decode cX4_readInn 72 = .ok (.istore 4, 2) := by decide +kernel
theorem dX4_readInn_74 : decode cX4_readInn 74 = .ok (.iload 4, 2) := by decide +kernel
theorem dX4_readInn_76 : decode cX4_readInn 76 = .ok (.ifCond .ge 5, 3) := by decide +kernel
theorem dX4_readInn_79 : decode cX4_readInn 79 = .ok (.iconst 0, 1) := by decide +kernel
theorem dX4_readInn_80 : decode cX4_readInn 80 = .ok (.ireturn, 1) := by decide +kernel
theorem dX4_readInn_81 : decode cX4_readInn 81 = .ok (.aload_n 0, 1) := by decide +kernel
theorem dX4_readInn_82 : decode cX4_readInn 82 = .ok (.getfield 34, 3) := by decide +kernel
theorem dX4_readInn_85 : decode cX4_readInn 85 = .ok (.iload_n 1, 1) := by decide +kernel
theorem dX4_readInn_86 : decode cX4_readInn 86 = .ok (.iload_n 3, 1) := by decide +kernel
theorem dX4_readInn_87 : decode cX4_readInn 87 = .ok (.iload_n 2, 1) := by decide +kernel
theorem dX4_readInn_88 : decode cX4_readInn 88 = .ok (.iload 4, 2) := by decide +kernel
theorem dX4_readInn_90 : decode cX4_readInn 90 = .ok (.invokevirtual 215, 3) := by decide +kernel
theorem dX4_readInn_93 : decode cX4_readInn 93 = .ok (.iconst 1, 1) := by decide +kernel
theorem dX4_readInn_94 : decode cX4_readInn 94 = .ok (.ireturn, 1) := by decide +kernel
abbrev rm_X4_readInn : Room := { frames := 3, cells := 0, slots := 0, locals := 67 }
def f_X4_readInn_72 (h : Mem) (v0 : Nat) (v1 : Int32) (v2 : Int32) (v3 : Int32) (s0 : Int32) : Option (Int32 × Mem) :=
  (if 0 ≤ s0 then (gR h v0 6 3).bind fun r9 => (f_X5_addInn h r9 v1 v3 v2 s0).bind fun h10 => some (1, h10) else some (0, h))
set_option maxRecDepth 100000 in
set_option maxHeartbeats 4000000 in
theorem w_X4_readInn_72 {G : GE} {X : CX} {l : Launch} (hX : Ok G X cX4_readInn RX4) (hN : xn X = 5) {P : (Int32 × Mem) → Prop} (hr : Rt G X l yX4_readInn (some .boolean) rm_X4_readInn (pmI P)) (h : Mem) (v0 : Nat) (v1 : Int32) (v2 : Int32) (v3 : Int32) (s0 : Int32) (hy : OK (f_X4_readInn_72 h v0 v1 v2 v3 s0) P) : AW G X 72 [(0, vR v0), (1, vI v1), (2, vI v2), (3, vI v3)] [vI s0] h 0 0 := by
  unfold f_X4_readInn_72 at hy
  refine aw_istore (pc := 72) hX [(4, vI s0), (0, vR v0), (1, vI v1), (2, vI v2), (3, vI v3)] rfl (lt_n hN (by decide)) dX4_readInn_72 ?_
  refine aw_iload (pc := 74) hX 0 rfl dX4_readInn_74 ?_
  refine aw_if_ge (pc := 76) hX 81 (by decide) dX4_readInn_76 (fun hc9 => ?_) (fun hc9 => ?_)
  · have hy := hy.t hc9
    refine aw_aloadn (pc := 81) hX 1 rfl dX4_readInn_81 ?_
    refine aw_gR (pc := 82) hX hy fl_X4_34 (fun _ _ => rfl) dX4_readInn_82 (fun r9 hy => ?_)
    refine aw_iloadn (pc := 85) hX 2 rfl dX4_readInn_85 ?_
    refine aw_iloadn (pc := 86) hX 4 rfl dX4_readInn_86 ?_
    refine aw_iloadn (pc := 87) hX 3 rfl dX4_readInn_87 ?_
    refine aw_iload (pc := 88) hX 0 rfl dX4_readInn_88 ?_
    refine aw_callV (pc := 90) (st := []) (a := r9) hX [vI v1, vI v3, vI v2, vI s0] (con_X5_addInn _ G _ r9 v1 v3 v2 s0 hy.bd) mc_X5_addInn ml_X4_215 im_X5_addInn se_X5_addInn (by decide) hy.bd.kd rfl (rm_of hr (by decide)) (Nat.le_of_ble_eq_true rfl) rfl dX4_readInn_90 (kmV rfl rfl (fun h10 hy => ?_))
    refine aw_iconst (pc := 93) hX 1 (by decide) dX4_readInn_93 ?_
    exact aw_zret (pc := 94) hX hr (by decide) (by decide) dX4_readInn_94 (Or.inr rfl) ⟨_, rfl, hy.s⟩
  · have hy := hy.f hc9
    refine aw_iconst (pc := 79) hX 0 (by decide) dX4_readInn_79 ?_
    exact aw_zret (pc := 80) hX hr (by decide) (by decide) dX4_readInn_80 (Or.inl rfl) ⟨_, rfl, hy.s⟩
def f_X4_readInn_71 (h : Mem) (v0 : Nat) (v1 : Int32) (v2 : Int32) (v3 : Int32) : Option (Int32 × Mem) :=
  f_X4_readInn_72 h v0 v1 v2 v3 (-1)
set_option maxRecDepth 100000 in
set_option maxHeartbeats 4000000 in
theorem w_X4_readInn_71 {G : GE} {X : CX} {l : Launch} (hX : Ok G X cX4_readInn RX4) (hN : xn X = 5) {P : (Int32 × Mem) → Prop} (hr : Rt G X l yX4_readInn (some .boolean) rm_X4_readInn (pmI P)) (h : Mem) (v0 : Nat) (v1 : Int32) (v2 : Int32) (v3 : Int32) (hy : OK (f_X4_readInn_71 h v0 v1 v2 v3) P) : AW G X 71 [(0, vR v0), (1, vI v1), (2, vI v2), (3, vI v3)] [] h 0 0 := by
  unfold f_X4_readInn_71 at hy
  refine aw_iconst (pc := 71) hX (-1) (by decide) dX4_readInn_71 ?_
  exact w_X4_readInn_72 hX hN hr h v0 v1 v2 v3 (-1) hy
def f_X4_readInn_38 (h : Mem) (v0 : Nat) (v1 : Int32) (v2 : Int32) : Option (Int32 × Mem) :=
  (f_X4_step h v0).bind fun h5 => (f_X4_readName h5 v0 1).bind fun q8 => (if q8.1 < 0 then f_X4_readInn_71 q8.2 v0 v1 v2 q8.1 else (f_X4_readWord q8.2 v0 17).bind fun q13 => (if q13.1 = 0 then f_X4_readInn_71 q13.2 v0 v1 v2 q8.1 else (f_X4_readWhole q13.2 v0 0 99).bind fun q16 => f_X4_readInn_72 q16.2 v0 v1 v2 q8.1 q16.1))
set_option maxRecDepth 100000 in
set_option maxHeartbeats 4000000 in
theorem w_X4_readInn_38 {G : GE} {X : CX} {l : Launch} (hX : Ok G X cX4_readInn RX4) (hN : xn X = 5) {P : (Int32 × Mem) → Prop} (hr : Rt G X l yX4_readInn (some .boolean) rm_X4_readInn (pmI P)) (h : Mem) (v0 : Nat) (v1 : Int32) (v2 : Int32) (hy : OK (f_X4_readInn_38 h v0 v1 v2) P) : AW G X 38 [(0, vR v0), (1, vI v1), (2, vI v2)] [] h 0 0 := by
  unfold f_X4_readInn_38 at hy
  refine aw_aloadn (pc := 38) hX 0 rfl dX4_readInn_38 ?_
  refine aw_callV (pc := 39) (st := []) (a := v0) hX [] (con_X4_step _ G _ v0 hy.bd) mc_X4_step ml_X4_109 im_X4_step se_X4_step (by decide) hy.bd.kd rfl (rm_of hr (by decide)) (Nat.le_of_ble_eq_true rfl) rfl dX4_readInn_39 (kmV rfl rfl (fun h5 hy => ?_))
  refine aw_aloadn (pc := 42) hX 0 rfl dX4_readInn_42 ?_
  refine aw_iconst (pc := 43) hX 1 (by decide) dX4_readInn_43 ?_
  refine aw_callV (pc := 44) (st := []) (a := v0) hX [vI 1] (con_X4_readName _ G _ v0 1 hy.bd) mc_X4_readName ml_X4_192 im_X4_readName se_X4_readName (by decide) hy.bd.kd rfl (rm_of hr (by decide)) (Nat.le_of_ble_eq_true rfl) rfl dX4_readInn_44 (kmI rfl rfl (fun q8 hy => ?_))
  refine aw_istoren (pc := 47) hX [(3, vI q8.1), (0, vR v0), (1, vI v1), (2, vI v2)] rfl (lt_n hN (by decide)) dX4_readInn_47 ?_
  refine aw_iloadn (pc := 48) hX 0 rfl dX4_readInn_48 ?_
  refine aw_if_lt (pc := 49) hX 71 (by decide) dX4_readInn_49 (fun hc9 => ?_) (fun hc9 => ?_)
  · have hy := hy.t hc9
    refine AW.sub [1, 2, 3, 0] rfl ?_
    exact w_X4_readInn_71 hX hN hr q8.2 v0 v1 v2 q8.1 hy
  · have hy := hy.f hc9
    refine aw_aloadn (pc := 52) hX 1 rfl dX4_readInn_52 ?_
    refine aw_bipush (pc := 53) hX 17 (by decide) dX4_readInn_53 ?_
    refine aw_callV (pc := 55) (st := []) (a := v0) hX [vI 17] (con_X4_readWord _ G _ v0 17 hy.bd) mc_X4_readWord ml_X4_171 im_X4_readWord se_X4_readWord (by decide) hy.bd.kd rfl (rm_of hr (by decide)) (Nat.le_of_ble_eq_true rfl) rfl dX4_readInn_55 (kmI rfl rfl (fun q13 hy => ?_))
    refine aw_if_eq (pc := 58) hX 71 (by decide) dX4_readInn_58 (fun hc9 => ?_) (fun hc9 => ?_)
    · have hy := hy.t hc9
      refine AW.sub [1, 2, 3, 0] rfl ?_
      exact w_X4_readInn_71 hX hN hr q13.2 v0 v1 v2 q8.1 hy
    · have hy := hy.f hc9
      refine aw_aloadn (pc := 61) hX 1 rfl dX4_readInn_61 ?_
      refine aw_iconst (pc := 62) hX 0 (by decide) dX4_readInn_62 ?_
      refine aw_bipush (pc := 63) hX 99 (by decide) dX4_readInn_63 ?_
      refine aw_callV (pc := 65) (st := []) (a := v0) hX [vI 0, vI 99] (con_X4_readWhole _ G _ v0 0 99 hy.bd) mc_X4_readWhole ml_X4_174 im_X4_readWhole se_X4_readWhole (by decide) hy.bd.kd rfl (rm_of hr (by decide)) (Nat.le_of_ble_eq_true rfl) rfl dX4_readInn_65 (kmI rfl rfl (fun q16 hy => ?_))
      refine aw_goto (pc := 68) hX 72 (by decide) dX4_readInn_68 ?_
      refine AW.sub [1, 2, 3, 0] rfl ?_
      exact w_X4_readInn_72 hX hN hr q16.2 v0 v1 v2 q8.1 q16.1 hy
def f_X4_readInn (h : Mem) (v0 : Nat) : Option (Int32 × Mem) :=
  (ck h v0 3).bind fun _ => (f_X4_readName h v0 2).bind fun q3 => (if 0 ≤ q3.1 then (f_X4_isWord q3.2 v0 16).bind fun x4 => (if x4 = 0 then (f_X4_isWord q3.2 v0 15).bind fun x17 => (if x17 = 0 then (f_X4_fail q3.2 v0 1).bind fun q20 => retZ q20.1 (q20.1, q20.2) else f_X4_readInn_38 q3.2 v0 q3.1 x4) else f_X4_readInn_38 q3.2 v0 q3.1 x4) else some (0, q3.2))
set_option maxRecDepth 100000 in
set_option maxHeartbeats 4000000 in
theorem w_X4_readInn {G : GE} {X : CX} {l : Launch} (hX : Ok G X cX4_readInn RX4) (hN : xn X = 5) {P : (Int32 × Mem) → Prop} (hr : Rt G X l yX4_readInn (some .boolean) rm_X4_readInn (pmI P)) (h : Mem) (v0 : Nat) (hy : OK (f_X4_readInn h v0) P) : AW G X 0 [(0, vR v0)] [] h 0 0 := by
  unfold f_X4_readInn at hy
  have hkd := hy.kd
  have hy := hy.kb
  refine aw_aloadn (pc := 0) hX 0 rfl dX4_readInn_0 ?_
  refine aw_iconst (pc := 1) hX 2 (by decide) dX4_readInn_1 ?_
  refine aw_callV (pc := 2) (st := []) (a := v0) hX [vI 2] (con_X4_readName _ G _ v0 2 hy.bd) mc_X4_readName ml_X4_192 im_X4_readName se_X4_readName (by decide) hy.bd.kd rfl (rm_of hr (by decide)) (Nat.le_of_ble_eq_true rfl) rfl dX4_readInn_2 (kmI rfl rfl (fun q3 hy => ?_))
  refine aw_istoren (pc := 5) hX [(1, vI q3.1), (0, vR v0)] rfl (lt_n hN (by decide)) dX4_readInn_5 ?_
  refine aw_iloadn (pc := 6) hX 0 rfl dX4_readInn_6 ?_
  refine aw_if_ge (pc := 7) hX 12 (by decide) dX4_readInn_7 (fun hc9 => ?_) (fun hc9 => ?_)
  · have hy := hy.t hc9
    refine aw_aloadn (pc := 12) hX 1 rfl dX4_readInn_12 ?_
    refine aw_bipush (pc := 13) hX 16 (by decide) dX4_readInn_13 ?_
    refine aw_callV (pc := 15) (st := []) (a := v0) hX [vI 16] (con_X4_isWord _ G _ v0 16 hy.bd) mc_X4_isWord ml_X4_212 im_X4_isWord se_X4_isWord (by decide) hy.bd.kd rfl (rm_of hr (by decide)) (Nat.le_of_ble_eq_true rfl) rfl dX4_readInn_15 (kpI rfl rfl (fun x4 hy => ?_))
    refine aw_istoren (pc := 18) hX [(2, vI x4), (1, vI q3.1), (0, vR v0)] rfl (lt_n hN (by decide)) dX4_readInn_18 ?_
    refine aw_iloadn (pc := 19) hX 0 rfl dX4_readInn_19 ?_
    refine aw_if_ne (pc := 20) hX 38 (by decide) dX4_readInn_20 (fun hc9 => ?_) (fun hc9 => ?_)
    · have hy := hy.f hc9
      refine AW.sub [2, 1, 0] rfl ?_
      exact w_X4_readInn_38 hX hN hr q3.2 v0 q3.1 x4 hy
    · have hy := hy.t hc9
      refine aw_aloadn (pc := 23) hX 2 rfl dX4_readInn_23 ?_
      refine aw_bipush (pc := 24) hX 15 (by decide) dX4_readInn_24 ?_
      refine aw_callV (pc := 26) (st := []) (a := v0) hX [vI 15] (con_X4_isWord _ G _ v0 15 hy.bd) mc_X4_isWord ml_X4_212 im_X4_isWord se_X4_isWord (by decide) hy.bd.kd rfl (rm_of hr (by decide)) (Nat.le_of_ble_eq_true rfl) rfl dX4_readInn_26 (kpI rfl rfl (fun x17 hy => ?_))
      refine aw_if_ne (pc := 29) hX 38 (by decide) dX4_readInn_29 (fun hc9 => ?_) (fun hc9 => ?_)
      · have hy := hy.f hc9
        refine AW.sub [2, 1, 0] rfl ?_
        exact w_X4_readInn_38 hX hN hr q3.2 v0 q3.1 x4 hy
      · have hy := hy.t hc9
        refine aw_aloadn (pc := 32) hX 2 rfl dX4_readInn_32 ?_
        refine aw_iconst (pc := 33) hX 1 (by decide) dX4_readInn_33 ?_
        refine aw_callV (pc := 34) (st := []) (a := v0) hX [vI 1] (con_X4_fail _ G _ v0 1 hy.bd) mc_X4_fail ml_X4_105 im_X4_fail se_X4_fail (by decide) hy.bd.kd rfl (rm_of hr (by decide)) (Nat.le_of_ble_eq_true rfl) rfl dX4_readInn_34 (kmI rfl rfl (fun q20 hy => ?_))
        exact aw_zret (pc := 37) hX hr (by decide) (by decide) dX4_readInn_37 hy.rz.1 ⟨_, rfl, hy.rz.2⟩
  · have hy := hy.f hc9
    refine aw_iconst (pc := 10) hX 0 (by decide) dX4_readInn_10 ?_
    exact aw_zret (pc := 11) hX hr (by decide) (by decide) dX4_readInn_11 (Or.inl rfl) ⟨_, rfl, hy.s⟩
theorem con_X4_readInn (l : Launch) (G : GE) (h : Mem) (v0 : Nat) {P : (Int32 × Mem) → Prop} (hy : OK (f_X4_readInn h v0) P) : Con l G yX4_readInn cX4_readInn 5 (some .boolean) rm_X4_readInn [vR v0] h (pmI P) := Con.of (by decide) (Nat.le_of_ble_eq_true rfl) (fun X hX hr hN => w_X4_readInn hX hN hr h v0 hy)
/-! X5_addPerson -/
theorem dX5_addPerson_0 : decode cX5_addPerson 0 = .ok (.aload_n 0, 1) := by decide +kernel
theorem dX5_addPerson_1 : decode cX5_addPerson 1 = .ok (.getfield 44, 3) := by decide +kernel
theorem dX5_addPerson_4 : decode cX5_addPerson 4 = .ok (.aload_n 0, 1) := by decide +kernel
theorem dX5_addPerson_5 : decode cX5_addPerson 5 = .ok (.getfield 66, 3) := by decide +kernel
theorem dX5_addPerson_8 : decode cX5_addPerson 8 = .ok (.iconst 5, 1) := by decide +kernel
theorem dX5_addPerson_9 : decode cX5_addPerson 9 = .ok (.imul, 1) := by decide +kernel
theorem dX5_addPerson_10 : decode cX5_addPerson 10 = .ok (.iconst 0, 1) := by decide +kernel
theorem dX5_addPerson_11 : decode cX5_addPerson 11 = .ok (.iadd, 1) := by decide +kernel
theorem dX5_addPerson_12 : decode cX5_addPerson 12 = .ok (.iload_n 1, 1) := by decide +kernel
theorem dX5_addPerson_13 : decode cX5_addPerson 13 = .ok (.iastore, 1) := by decide +kernel
theorem dX5_addPerson_14 : decode cX5_addPerson 14 = .ok (.aload_n 0, 1) := by decide +kernel
theorem dX5_addPerson_15 : decode cX5_addPerson 15 = .ok (.getfield 44, 3) := by decide +kernel
theorem dX5_addPerson_18 : decode cX5_addPerson 18 = .ok (.aload_n 0, 1) := by decide +kernel
theorem dX5_addPerson_19 : decode cX5_addPerson 19 = .ok (.getfield 66, 3) := by decide +kernel
theorem dX5_addPerson_22 : decode cX5_addPerson 22 = .ok (.iconst 5, 1) := by decide +kernel
theorem dX5_addPerson_23 : decode cX5_addPerson 23 = .ok (.imul, 1) := by decide +kernel
theorem dX5_addPerson_24 : decode cX5_addPerson 24 = .ok (.iconst 1, 1) := by decide +kernel
theorem dX5_addPerson_25 : decode cX5_addPerson 25 = .ok (.iadd, 1) := by decide +kernel
theorem dX5_addPerson_26 : decode cX5_addPerson 26 = .ok (.iload_n 2, 1) := by decide +kernel
theorem dX5_addPerson_27 : decode cX5_addPerson 27 = .ok (.iastore, 1) := by decide +kernel
theorem dX5_addPerson_28 : decode cX5_addPerson 28 = .ok (.aload_n 0, 1) := by decide +kernel
theorem dX5_addPerson_29 : decode cX5_addPerson 29 = .ok (.dup, 1) := by decide +kernel
theorem dX5_addPerson_30 : decode cX5_addPerson 30 = .ok (.getfield 66, 3) := by decide +kernel
theorem dX5_addPerson_33 : decode cX5_addPerson 33 = .ok (.iconst 1, 1) := by decide +kernel
theorem dX5_addPerson_34 : decode cX5_addPerson 34 = .ok (.iadd, 1) := by decide +kernel
theorem dX5_addPerson_35 : decode cX5_addPerson 35 = .ok (.putfield 66, 3) := by decide +kernel
theorem dX5_addPerson_38 : decode cX5_addPerson 38 = .ok (.return_, 1) := by decide +kernel
abbrev rm_X5_addPerson : Room := { frames := 0, cells := 0, slots := 0, locals := 0 }
def f_X5_addPerson (h : Mem) (v0 : Nat) (v1 : Int32) (v2 : Int32) : Option Mem :=
  (ck h v0 4).bind fun _ => (gR h v0 19 4).bind fun r1 => (gI h v0 6 4).bind fun x2 => (sI h r1 ((x2 * 5) + 0) v1).bind fun h3 => (gR h3 v0 19 4).bind fun r4 => (gI h3 v0 6 4).bind fun x5 => (sI h3 r4 ((x5 * 5) + 1) v2).bind fun h6 => (gI h6 v0 6 4).bind fun x7 => (pI h6 v0 6 4 (x7 + 1)).bind fun h8 => some h8
set_option maxRecDepth 100000 in
set_option maxHeartbeats 4000000 in
theorem w_X5_addPerson {G : GE} {X : CX} {l : Launch} (hX : Ok G X cX5_addPerson RX5) (hN : xn X = 3) {P : Mem → Prop} (hr : Rt G X l yX5_addPerson none rm_X5_addPerson (pmV P)) (h : Mem) (v0 : Nat) (v1 : Int32) (v2 : Int32) (hy : OK (f_X5_addPerson h v0 v1 v2) P) : AW G X 0 [(0, vR v0), (1, vI v1), (2, vI v2)] [] h 0 0 := by
  unfold f_X5_addPerson at hy
  have hkd := hy.kd
  have hy := hy.kb
  refine aw_aloadn (pc := 0) hX 0 rfl dX5_addPerson_0 ?_
  refine aw_gR (pc := 1) hX hy fl_X5_44 (fun _ _ => rfl) dX5_addPerson_1 (fun r1 hy => ?_)
  refine aw_aloadn (pc := 4) hX 0 rfl dX5_addPerson_4 ?_
  refine aw_gI (pc := 5) hX hy fl_X5_66 (fun _ _ => rfl) dX5_addPerson_5 (fun x2 hy => ?_)
  refine aw_iconst (pc := 8) hX 5 (by decide) dX5_addPerson_8 ?_
  refine aw_imul (pc := 9) hX dX5_addPerson_9 ?_
  refine aw_iconst (pc := 10) hX 0 (by decide) dX5_addPerson_10 ?_
  refine aw_iadd (pc := 11) hX dX5_addPerson_11 ?_
  refine aw_iloadn (pc := 12) hX 1 rfl dX5_addPerson_12 ?_
  refine aw_sI (pc := 13) hX hy dX5_addPerson_13 (fun h3 hy => ?_)
  refine aw_aloadn (pc := 14) hX 0 rfl dX5_addPerson_14 ?_
  refine aw_gR (pc := 15) hX hy fl_X5_44 (fun _ _ => rfl) dX5_addPerson_15 (fun r4 hy => ?_)
  refine aw_aloadn (pc := 18) hX 0 rfl dX5_addPerson_18 ?_
  refine aw_gI (pc := 19) hX hy fl_X5_66 (fun _ _ => rfl) dX5_addPerson_19 (fun x5 hy => ?_)
  refine aw_iconst (pc := 22) hX 5 (by decide) dX5_addPerson_22 ?_
  refine aw_imul (pc := 23) hX dX5_addPerson_23 ?_
  refine aw_iconst (pc := 24) hX 1 (by decide) dX5_addPerson_24 ?_
  refine aw_iadd (pc := 25) hX dX5_addPerson_25 ?_
  refine aw_iloadn (pc := 26) hX 2 rfl dX5_addPerson_26 ?_
  refine aw_sI (pc := 27) hX hy dX5_addPerson_27 (fun h6 hy => ?_)
  refine aw_aloadn (pc := 28) hX 0 rfl dX5_addPerson_28 ?_
  refine aw_dup (pc := 29) hX rfl dX5_addPerson_29 ?_
  refine aw_gI (pc := 30) hX hy fl_X5_66 (fun _ _ => rfl) dX5_addPerson_30 (fun x7 hy => ?_)
  refine aw_iconst (pc := 33) hX 1 (by decide) dX5_addPerson_33 ?_
  refine aw_iadd (pc := 34) hX dX5_addPerson_34 ?_
  refine aw_pI (pc := 35) hX hy fl_X5_66 rfl (Or.inl rfl) dX5_addPerson_35 (fun h8 hy => ?_)
  exact aw_vret (pc := 38) hX hr (by decide) (by decide) dX5_addPerson_38 ⟨rfl, hy.s⟩
theorem con_X5_addPerson (l : Launch) (G : GE) (h : Mem) (v0 : Nat) (v1 : Int32) (v2 : Int32) {P : Mem → Prop} (hy : OK (f_X5_addPerson h v0 v1 v2) P) : Con l G yX5_addPerson cX5_addPerson 3 none rm_X5_addPerson [vR v0, vI v1, vI v2] h (pmV P) := Con.of (by decide) (Nat.le_of_ble_eq_true rfl) (fun X hX hr hN => w_X5_addPerson hX hN hr h v0 v1 v2 hy)
/-! X4_readPerson -/
theorem dX4_readPerson_0 : decode cX4_readPerson 0 = .ok (.aload_n 0, 1) := by decide +kernel
theorem dX4_readPerson_1 : decode cX4_readPerson 1 = .ok (.bipush 6, 2) := by decide +kernel
theorem dX4_readPerson_3 : decode cX4_readPerson 3 = .ok (.invokevirtual 180, 3) := by decide +kernel
theorem dX4_readPerson_6 : decode cX4_readPerson 6 = .ok (.ifCond .eq 20, 3) := by decide +kernel
theorem dX4_readPerson_9 : decode cX4_readPerson 9 = .ok (.aload_n 0, 1) := by decide +kernel
theorem dX4_readPerson_10 : decode cX4_readPerson 10 = .ok (.bipush 18, 2) := by decide +kernel
theorem dX4_readPerson_12 : decode cX4_readPerson 12 = .ok (.invokevirtual 171, 3) := by decide +kernel
theorem dX4_readPerson_15 : decode cX4_readPerson 15 = .ok (.ifCond .eq 11, 3) := by decide +kernel
theorem dX4_readPerson_18 : decode cX4_readPerson 18 = .ok (.aload_n 0, 1) := by decide +kernel
theorem dX4_readPerson_19 : decode cX4_readPerson 19 = .ok (.iconst 2, 1) := by decide +kernel
theorem dX4_readPerson_20 : decode cX4_readPerson 20 = .ok (.invokevirtual 192, 3) := by decide +kernel
theorem dX4_readPerson_23 : decode cX4_readPerson 23 = .ok (.goto 4, 3) := by decide +kernel
theorem dX4_readPerson_26 : decode cX4_readPerson 26 = .ok (.iconst (-1), 1) := by decide +kernel
theorem dX4_readPerson_27 : decode cX4_readPerson 27 = .ok (.istore_n 1, 1) := by decide +kernel
theorem dX4_readPerson_28 : decode cX4_readPerson 28 = .ok (.iload_n 1, 1) := by decide +kernel
theorem dX4_readPerson_29 : decode cX4_readPerson 29 = .ok (.ifCond .lt 23, 3) := by decide +kernel
theorem dX4_readPerson_32 : decode cX4_readPerson 32 = .ok (.aload_n 0, 1) := by decide +kernel
theorem dX4_readPerson_33 : decode cX4_readPerson 33 = .ok (.bipush 19, 2) := by decide +kernel
theorem dX4_readPerson_35 : decode cX4_readPerson 35 = .ok (.invokevirtual 171, 3) := by decide +kernel
theorem dX4_readPerson_38 : decode cX4_readPerson 38 = .ok (.ifCond .eq 14, 3) := by decide +kernel
theorem dX4_readPerson_41 : decode cX4_readPerson 41 = .ok (.aload_n 0, 1) := by decide +kernel
theorem dX4_readPerson_42 : decode cX4_readPerson 42 = .ok (.iconst 0, 1) := by decide +kernel
theorem dX4_readPerson_43 : decode cX4_readPerson 43 = .ok (.sipush 999, 3) := by decide +kernel
theorem dX4_readPerson_46 : decode cX4_readPerson 46 = .ok (.invokevirtual 174, 3) := by decide +kernel
theorem dX4_readPerson_49 : decode cX4_readPerson 49 = .ok (.goto 4, 3) := by decide +kernel
theorem dX4_readPerson_52 : decode cX4_readPerson 52 = .ok (.iconst (-1), 1) := by decide +kernel
theorem dX4_readPerson_53 : decode cX4_readPerson 53 = .ok (.istore_n 2, 1) := by decide +kernel
theorem dX4_readPerson_54 : decode cX4_readPerson 54 = .ok (.iload_n 2, 1) := by decide +kernel
theorem dX4_readPerson_55 : decode cX4_readPerson 55 = .ok (.ifCond .ge 5, 3) := by decide +kernel
theorem dX4_readPerson_58 : decode cX4_readPerson 58 = .ok (.iconst 0, 1) := by decide +kernel
theorem dX4_readPerson_59 : decode cX4_readPerson 59 = .ok (.ireturn, 1) := by decide +kernel
theorem dX4_readPerson_60 : decode cX4_readPerson 60 = .ok (.aload_n 0, 1) := by decide +kernel
theorem dX4_readPerson_61 : decode cX4_readPerson 61 = .ok (.getfield 34, 3) := by decide +kernel
theorem dX4_readPerson_64 : decode cX4_readPerson 64 = .ok (.iload_n 1, 1) := by decide +kernel
theorem dX4_readPerson_65 : decode cX4_readPerson 65 = .ok (.iload_n 2, 1) := by decide +kernel
theorem dX4_readPerson_66 : decode cX4_readPerson 66 = .ok (.invokevirtual 219, 3) := by decide +kernel
theorem dX4_readPerson_69 : decode cX4_readPerson 69 = .ok (.iconst 1, 1) := by decide +kernel
theorem dX4_readPerson_70 : decode cX4_readPerson 70 = .ok (.ireturn, 1) := by decide +kernel
abbrev rm_X4_readPerson : Room := { frames := 3, cells := 0, slots := 0, locals := 67 }
def f_X4_readPerson_53 (h : Mem) (v0 : Nat) (v1 : Int32) (s0 : Int32) : Option (Int32 × Mem) :=
  (if 0 ≤ s0 then (gR h v0 6 3).bind fun r4 => (f_X5_addPerson h r4 v1 s0).bind fun h5 => some (1, h5) else some (0, h))
set_option maxRecDepth 100000 in
set_option maxHeartbeats 4000000 in
theorem w_X4_readPerson_53 {G : GE} {X : CX} {l : Launch} (hX : Ok G X cX4_readPerson RX4) (hN : xn X = 3) {P : (Int32 × Mem) → Prop} (hr : Rt G X l yX4_readPerson (some .boolean) rm_X4_readPerson (pmI P)) (h : Mem) (v0 : Nat) (v1 : Int32) (s0 : Int32) (hy : OK (f_X4_readPerson_53 h v0 v1 s0) P) : AW G X 53 [(0, vR v0), (1, vI v1)] [vI s0] h 0 0 := by
  unfold f_X4_readPerson_53 at hy
  refine aw_istoren (pc := 53) hX [(2, vI s0), (0, vR v0), (1, vI v1)] rfl (lt_n hN (by decide)) dX4_readPerson_53 ?_
  refine aw_iloadn (pc := 54) hX 0 rfl dX4_readPerson_54 ?_
  refine aw_if_ge (pc := 55) hX 60 (by decide) dX4_readPerson_55 (fun hc9 => ?_) (fun hc9 => ?_)
  · have hy := hy.t hc9
    refine aw_aloadn (pc := 60) hX 1 rfl dX4_readPerson_60 ?_
    refine aw_gR (pc := 61) hX hy fl_X4_34 (fun _ _ => rfl) dX4_readPerson_61 (fun r4 hy => ?_)
    refine aw_iloadn (pc := 64) hX 2 rfl dX4_readPerson_64 ?_
    refine aw_iloadn (pc := 65) hX 0 rfl dX4_readPerson_65 ?_
    refine aw_callV (pc := 66) (st := []) (a := r4) hX [vI v1, vI s0] (con_X5_addPerson _ G _ r4 v1 s0 hy.bd) mc_X5_addPerson ml_X4_219 im_X5_addPerson se_X5_addPerson (by decide) hy.bd.kd rfl (rm_of hr (by decide)) (Nat.le_of_ble_eq_true rfl) rfl dX4_readPerson_66 (kmV rfl rfl (fun h5 hy => ?_))
    refine aw_iconst (pc := 69) hX 1 (by decide) dX4_readPerson_69 ?_
    exact aw_zret (pc := 70) hX hr (by decide) (by decide) dX4_readPerson_70 (Or.inr rfl) ⟨_, rfl, hy.s⟩
  · have hy := hy.f hc9
    refine aw_iconst (pc := 58) hX 0 (by decide) dX4_readPerson_58 ?_
    exact aw_zret (pc := 59) hX hr (by decide) (by decide) dX4_readPerson_59 (Or.inl rfl) ⟨_, rfl, hy.s⟩
def f_X4_readPerson_52 (h : Mem) (v0 : Nat) (v1 : Int32) : Option (Int32 × Mem) :=
  f_X4_readPerson_53 h v0 v1 (-1)
set_option maxRecDepth 100000 in
set_option maxHeartbeats 4000000 in
theorem w_X4_readPerson_52 {G : GE} {X : CX} {l : Launch} (hX : Ok G X cX4_readPerson RX4) (hN : xn X = 3) {P : (Int32 × Mem) → Prop} (hr : Rt G X l yX4_readPerson (some .boolean) rm_X4_readPerson (pmI P)) (h : Mem) (v0 : Nat) (v1 : Int32) (hy : OK (f_X4_readPerson_52 h v0 v1) P) : AW G X 52 [(0, vR v0), (1, vI v1)] [] h 0 0 := by
  unfold f_X4_readPerson_52 at hy
  refine aw_iconst (pc := 52) hX (-1) (by decide) dX4_readPerson_52 ?_
  exact w_X4_readPerson_53 hX hN hr h v0 v1 (-1) hy
def f_X4_readPerson_27 (h : Mem) (v0 : Nat) (s0 : Int32) : Option (Int32 × Mem) :=
  (if s0 < 0 then f_X4_readPerson_52 h v0 s0 else (f_X4_readWord h v0 19).bind fun q8 => (if q8.1 = 0 then f_X4_readPerson_52 q8.2 v0 s0 else (f_X4_readWhole q8.2 v0 0 999).bind fun q11 => f_X4_readPerson_53 q11.2 v0 s0 q11.1))
set_option maxRecDepth 100000 in
set_option maxHeartbeats 4000000 in
theorem w_X4_readPerson_27 {G : GE} {X : CX} {l : Launch} (hX : Ok G X cX4_readPerson RX4) (hN : xn X = 3) {P : (Int32 × Mem) → Prop} (hr : Rt G X l yX4_readPerson (some .boolean) rm_X4_readPerson (pmI P)) (h : Mem) (v0 : Nat) (s0 : Int32) (hy : OK (f_X4_readPerson_27 h v0 s0) P) : AW G X 27 [(0, vR v0)] [vI s0] h 0 0 := by
  unfold f_X4_readPerson_27 at hy
  refine aw_istoren (pc := 27) hX [(1, vI s0), (0, vR v0)] rfl (lt_n hN (by decide)) dX4_readPerson_27 ?_
  refine aw_iloadn (pc := 28) hX 0 rfl dX4_readPerson_28 ?_
  refine aw_if_lt (pc := 29) hX 52 (by decide) dX4_readPerson_29 (fun hc9 => ?_) (fun hc9 => ?_)
  · have hy := hy.t hc9
    refine AW.sub [1, 0] rfl ?_
    exact w_X4_readPerson_52 hX hN hr h v0 s0 hy
  · have hy := hy.f hc9
    refine aw_aloadn (pc := 32) hX 1 rfl dX4_readPerson_32 ?_
    refine aw_bipush (pc := 33) hX 19 (by decide) dX4_readPerson_33 ?_
    refine aw_callV (pc := 35) (st := []) (a := v0) hX [vI 19] (con_X4_readWord _ G _ v0 19 hy.bd) mc_X4_readWord ml_X4_171 im_X4_readWord se_X4_readWord (by decide) hy.bd.kd rfl (rm_of hr (by decide)) (Nat.le_of_ble_eq_true rfl) rfl dX4_readPerson_35 (kmI rfl rfl (fun q8 hy => ?_))
    refine aw_if_eq (pc := 38) hX 52 (by decide) dX4_readPerson_38 (fun hc9 => ?_) (fun hc9 => ?_)
    · have hy := hy.t hc9
      refine AW.sub [1, 0] rfl ?_
      exact w_X4_readPerson_52 hX hN hr q8.2 v0 s0 hy
    · have hy := hy.f hc9
      refine aw_aloadn (pc := 41) hX 1 rfl dX4_readPerson_41 ?_
      refine aw_iconst (pc := 42) hX 0 (by decide) dX4_readPerson_42 ?_
      refine aw_sipush (pc := 43) hX 999 (by decide) dX4_readPerson_43 ?_
      refine aw_callV (pc := 46) (st := []) (a := v0) hX [vI 0, vI 999] (con_X4_readWhole _ G _ v0 0 999 hy.bd) mc_X4_readWhole ml_X4_174 im_X4_readWhole se_X4_readWhole (by decide) hy.bd.kd rfl (rm_of hr (by decide)) (Nat.le_of_ble_eq_true rfl) rfl dX4_readPerson_46 (kmI rfl rfl (fun q11 hy => ?_))
      refine aw_goto (pc := 49) hX 53 (by decide) dX4_readPerson_49 ?_
      refine AW.sub [1, 0] rfl ?_
      exact w_X4_readPerson_53 hX hN hr q11.2 v0 s0 q11.1 hy
def f_X4_readPerson_26 (h : Mem) (v0 : Nat) : Option (Int32 × Mem) :=
  f_X4_readPerson_27 h v0 (-1)
set_option maxRecDepth 100000 in
set_option maxHeartbeats 4000000 in
theorem w_X4_readPerson_26 {G : GE} {X : CX} {l : Launch} (hX : Ok G X cX4_readPerson RX4) (hN : xn X = 3) {P : (Int32 × Mem) → Prop} (hr : Rt G X l yX4_readPerson (some .boolean) rm_X4_readPerson (pmI P)) (h : Mem) (v0 : Nat) (hy : OK (f_X4_readPerson_26 h v0) P) : AW G X 26 [(0, vR v0)] [] h 0 0 := by
  unfold f_X4_readPerson_26 at hy
  refine aw_iconst (pc := 26) hX (-1) (by decide) dX4_readPerson_26 ?_
  exact w_X4_readPerson_27 hX hN hr h v0 (-1) hy
def f_X4_readPerson (h : Mem) (v0 : Nat) : Option (Int32 × Mem) :=
  (ck h v0 3).bind fun _ => (f_X4_readNewName h v0 6).bind fun q3 => (if q3.1 = 0 then f_X4_readPerson_26 q3.2 v0 else (f_X4_readWord q3.2 v0 18).bind fun q14 => (if q14.1 = 0 then f_X4_readPerson_26 q14.2 v0 else (f_X4_readName q14.2 v0 2).bind fun q17 => f_X4_readPerson_27 q17.2 v0 q17.1))
set_option maxRecDepth 100000 in
set_option maxHeartbeats 4000000 in
theorem w_X4_readPerson {G : GE} {X : CX} {l : Launch} (hX : Ok G X cX4_readPerson RX4) (hN : xn X = 3) {P : (Int32 × Mem) → Prop} (hr : Rt G X l yX4_readPerson (some .boolean) rm_X4_readPerson (pmI P)) (h : Mem) (v0 : Nat) (hy : OK (f_X4_readPerson h v0) P) : AW G X 0 [(0, vR v0)] [] h 0 0 := by
  unfold f_X4_readPerson at hy
  have hkd := hy.kd
  have hy := hy.kb
  refine aw_aloadn (pc := 0) hX 0 rfl dX4_readPerson_0 ?_
  refine aw_bipush (pc := 1) hX 6 (by decide) dX4_readPerson_1 ?_
  refine aw_callV (pc := 3) (st := []) (a := v0) hX [vI 6] (con_X4_readNewName _ G _ v0 6 hy.bd) mc_X4_readNewName ml_X4_180 im_X4_readNewName se_X4_readNewName (by decide) hy.bd.kd rfl (rm_of hr (by decide)) (Nat.le_of_ble_eq_true rfl) rfl dX4_readPerson_3 (kmI rfl rfl (fun q3 hy => ?_))
  refine aw_if_eq (pc := 6) hX 26 (by decide) dX4_readPerson_6 (fun hc9 => ?_) (fun hc9 => ?_)
  · have hy := hy.t hc9
    exact w_X4_readPerson_26 hX hN hr q3.2 v0 hy
  · have hy := hy.f hc9
    refine aw_aloadn (pc := 9) hX 0 rfl dX4_readPerson_9 ?_
    refine aw_bipush (pc := 10) hX 18 (by decide) dX4_readPerson_10 ?_
    refine aw_callV (pc := 12) (st := []) (a := v0) hX [vI 18] (con_X4_readWord _ G _ v0 18 hy.bd) mc_X4_readWord ml_X4_171 im_X4_readWord se_X4_readWord (by decide) hy.bd.kd rfl (rm_of hr (by decide)) (Nat.le_of_ble_eq_true rfl) rfl dX4_readPerson_12 (kmI rfl rfl (fun q14 hy => ?_))
    refine aw_if_eq (pc := 15) hX 26 (by decide) dX4_readPerson_15 (fun hc9 => ?_) (fun hc9 => ?_)
    · have hy := hy.t hc9
      exact w_X4_readPerson_26 hX hN hr q14.2 v0 hy
    · have hy := hy.f hc9
      refine aw_aloadn (pc := 18) hX 0 rfl dX4_readPerson_18 ?_
      refine aw_iconst (pc := 19) hX 2 (by decide) dX4_readPerson_19 ?_
      refine aw_callV (pc := 20) (st := []) (a := v0) hX [vI 2] (con_X4_readName _ G _ v0 2 hy.bd) mc_X4_readName ml_X4_192 im_X4_readName se_X4_readName (by decide) hy.bd.kd rfl (rm_of hr (by decide)) (Nat.le_of_ble_eq_true rfl) rfl dX4_readPerson_20 (kmI rfl rfl (fun q17 hy => ?_))
      refine aw_goto (pc := 23) hX 27 (by decide) dX4_readPerson_23 ?_
      exact w_X4_readPerson_27 hX hN hr q17.2 v0 q17.1 hy
theorem con_X4_readPerson (l : Launch) (G : GE) (h : Mem) (v0 : Nat) {P : (Int32 × Mem) → Prop} (hy : OK (f_X4_readPerson h v0) P) : Con l G yX4_readPerson cX4_readPerson 3 (some .boolean) rm_X4_readPerson [vR v0] h (pmI P) := Con.of (by decide) (Nat.le_of_ble_eq_true rfl) (fun X hX hr hN => w_X4_readPerson hX hN hr h v0 hy)
/-! X5_knowsFromStart -/
theorem dX5_knowsFromStart_0 : decode cX5_knowsFromStart 0 = .ok (.aload_n 0, 1) := by decide +kernel
theorem dX5_knowsFromStart_1 : decode cX5_knowsFromStart 1 = .ok (.getfield 44, 3) := by decide +kernel
theorem dX5_knowsFromStart_4 : decode cX5_knowsFromStart 4 = .ok (.iload_n 1, 1) := by decide +kernel
theorem dX5_knowsFromStart_5 : decode cX5_knowsFromStart 5 = .ok (.iconst 5, 1) := by decide +kernel
theorem dX5_knowsFromStart_6 : decode cX5_knowsFromStart 6 = .ok (.imul, 1) := by decide +kernel
theorem dX5_knowsFromStart_7 : decode cX5_knowsFromStart 7 = .ok (.iconst 2, 1) := by decide +kernel
theorem dX5_knowsFromStart_8 : decode cX5_knowsFromStart 8 = .ok (.iadd, 1) := by decide +kernel
theorem dX5_knowsFromStart_9 : decode cX5_knowsFromStart 9 = .ok (.iaload, 1) := by decide +kernel
theorem dX5_knowsFromStart_10 : decode cX5_knowsFromStart 10 = .ok (.iload_n 2, 1) := by decide +kernel
theorem dX5_knowsFromStart_11 : decode cX5_knowsFromStart 11 = .ok (.ishr, 1) := by decide +kernel
theorem dX5_knowsFromStart_12 : decode cX5_knowsFromStart 12 = .ok (.iconst 1, 1) := by decide +kernel
theorem dX5_knowsFromStart_13 : decode cX5_knowsFromStart 13 = .ok (.iand, 1) := by decide +kernel
theorem dX5_knowsFromStart_14 : decode cX5_knowsFromStart 14 = .ok (.iconst 1, 1) := by decide +kernel
theorem dX5_knowsFromStart_15 : decode cX5_knowsFromStart 15 = .ok (.if_icmp .ne 7, 3) := by decide +kernel
theorem dX5_knowsFromStart_18 : decode cX5_knowsFromStart 18 = .ok (.iconst 1, 1) := by decide +kernel
theorem dX5_knowsFromStart_19 : decode cX5_knowsFromStart 19 = .ok (.goto 4, 3) := by decide +kernel
theorem dX5_knowsFromStart_22 : decode cX5_knowsFromStart 22 = .ok (.iconst 0, 1) := by decide +kernel
theorem dX5_knowsFromStart_23 : decode cX5_knowsFromStart 23 = .ok (.ireturn, 1) := by decide +kernel
abbrev rm_X5_knowsFromStart : Room := { frames := 0, cells := 0, slots := 0, locals := 0 }
def f_X5_knowsFromStart (h : Mem) (v0 : Nat) (v1 : Int32) (v2 : Int32) : Option Int32 :=
  (ck h v0 4).bind fun _ => (gR h v0 19 4).bind fun r1 => (aI h r1 ((v1 * 5) + 2)).bind fun x2 => (if (((x2 : Int32) >>> (v2 &&& 31)) &&& 1) = 1 then some 1 else some 0)
set_option maxRecDepth 100000 in
set_option maxHeartbeats 4000000 in
theorem w_X5_knowsFromStart {G : GE} {X : CX} {l : Launch} (hX : Ok G X cX5_knowsFromStart RX5) (hN : xn X = 3) (h : Mem) {P : Int32 → Prop} (hr : Rt G X l yX5_knowsFromStart (some .boolean) rm_X5_knowsFromStart (ppI h P)) (v0 : Nat) (v1 : Int32) (v2 : Int32) (hy : OK (f_X5_knowsFromStart h v0 v1 v2) P) : AW G X 0 [(0, vR v0), (1, vI v1), (2, vI v2)] [] h 0 0 := by
  unfold f_X5_knowsFromStart at hy
  have hkd := hy.kd
  have hy := hy.kb
  refine aw_aloadn (pc := 0) hX 0 rfl dX5_knowsFromStart_0 ?_
  refine aw_gR (pc := 1) hX hy fl_X5_44 (fun _ _ => rfl) dX5_knowsFromStart_1 (fun r1 hy => ?_)
  refine aw_iloadn (pc := 4) hX 1 rfl dX5_knowsFromStart_4 ?_
  refine aw_iconst (pc := 5) hX 5 (by decide) dX5_knowsFromStart_5 ?_
  refine aw_imul (pc := 6) hX dX5_knowsFromStart_6 ?_
  refine aw_iconst (pc := 7) hX 2 (by decide) dX5_knowsFromStart_7 ?_
  refine aw_iadd (pc := 8) hX dX5_knowsFromStart_8 ?_
  refine aw_aI (pc := 9) hX hy dX5_knowsFromStart_9 (fun x2 hy => ?_)
  refine aw_iloadn (pc := 10) hX 2 rfl dX5_knowsFromStart_10 ?_
  refine aw_ishr (pc := 11) hX dX5_knowsFromStart_11 ?_
  refine aw_iconst (pc := 12) hX 1 (by decide) dX5_knowsFromStart_12 ?_
  refine aw_iand (pc := 13) hX dX5_knowsFromStart_13 ?_
  refine aw_iconst (pc := 14) hX 1 (by decide) dX5_knowsFromStart_14 ?_
  refine aw_ic_ne (pc := 15) hX 22 (by decide) dX5_knowsFromStart_15 (fun hc9 => ?_) (fun hc9 => ?_)
  · have hy := hy.f hc9
    refine aw_iconst (pc := 22) hX 0 (by decide) dX5_knowsFromStart_22 ?_
    exact aw_zret (pc := 23) hX hr (by decide) (by decide) dX5_knowsFromStart_23 (Or.inl rfl) ⟨rfl, _, rfl, hy.s⟩
  · have hy := hy.t hc9
    refine aw_iconst (pc := 18) hX 1 (by decide) dX5_knowsFromStart_18 ?_
    refine aw_goto (pc := 19) hX 23 (by decide) dX5_knowsFromStart_19 ?_
    exact aw_zret (pc := 23) hX hr (by decide) (by decide) dX5_knowsFromStart_23 (Or.inr rfl) ⟨rfl, _, rfl, hy.s⟩
theorem con_X5_knowsFromStart (l : Launch) (G : GE) (h : Mem) (v0 : Nat) (v1 : Int32) (v2 : Int32) {P : Int32 → Prop} (hy : OK (f_X5_knowsFromStart h v0 v1 v2) P) : Con l G yX5_knowsFromStart cX5_knowsFromStart 3 (some .boolean) rm_X5_knowsFromStart [vR v0, vI v1, vI v2] h (ppI h P) := Con.of (by decide) (Nat.le_of_ble_eq_true rfl) (fun X hX hr hN => w_X5_knowsFromStart hX hN h hr v0 v1 v2 hy)
/-! X5_addKnown -/
theorem dX5_addKnown_0 : decode cX5_addKnown 0 = .ok (.aload_n 0, 1) := by decide +kernel
theorem dX5_addKnown_1 : decode cX5_addKnown 1 = .ok (.getfield 44, 3) := by decide +kernel
theorem dX5_addKnown_4 : decode cX5_addKnown 4 = .ok (.iload_n 1, 1) := by decide +kernel
theorem dX5_addKnown_5 : decode cX5_addKnown 5 = .ok (.iconst 5, 1) := by decide +kernel
theorem dX5_addKnown_6 : decode cX5_addKnown 6 = .ok (.imul, 1) := by decide +kernel
theorem dX5_addKnown_7 : decode cX5_addKnown 7 = .ok (.iconst 2, 1) := by decide +kernel
theorem dX5_addKnown_8 : decode cX5_addKnown 8 = .ok (.iadd, 1) := by decide +kernel
theorem dX5_addKnown_9 : decode cX5_addKnown 9 = .ok (.dup2, 1) := by decide +kernel
theorem dX5_addKnown_10 : decode cX5_addKnown 10 = .ok (.iaload, 1) := by decide +kernel
theorem dX5_addKnown_11 : decode cX5_addKnown 11 = .ok (.iconst 1, 1) := by decide +kernel
theorem dX5_addKnown_12 : decode cX5_addKnown 12 = .ok (.iload_n 2, 1) := by decide +kernel
theorem dX5_addKnown_13 : decode cX5_addKnown 13 = .ok (.ishl, 1) := by decide +kernel
theorem dX5_addKnown_14 : decode cX5_addKnown 14 = .ok (.ior, 1) := by decide +kernel
theorem dX5_addKnown_15 : decode cX5_addKnown 15 = .ok (.iastore, 1) := by decide +kernel
theorem dX5_addKnown_16 : decode cX5_addKnown 16 = .ok (.aload_n 0, 1) := by decide +kernel
theorem dX5_addKnown_17 : decode cX5_addKnown 17 = .ok (.dup, 1) := by decide +kernel
theorem dX5_addKnown_18 : decode cX5_addKnown 18 = .ok (.getfield 69, 3) := by decide +kernel
theorem dX5_addKnown_21 : decode cX5_addKnown 21 = .ok (.iconst 1, 1) := by decide +kernel
theorem dX5_addKnown_22 : decode cX5_addKnown 22 = .ok (.iadd, 1) := by decide +kernel
theorem dX5_addKnown_23 : decode cX5_addKnown 23 = .ok (.putfield 69, 3) := by decide +kernel
theorem dX5_addKnown_26 : decode cX5_addKnown 26 = .ok (.return_, 1) := by decide +kernel
abbrev rm_X5_addKnown : Room := { frames := 0, cells := 0, slots := 0, locals := 0 }
def f_X5_addKnown (h : Mem) (v0 : Nat) (v1 : Int32) (v2 : Int32) : Option Mem :=
  (ck h v0 4).bind fun _ => (gR h v0 19 4).bind fun r1 => (aI h r1 ((v1 * 5) + 2)).bind fun x2 => (sI h r1 ((v1 * 5) + 2) (x2 ||| ((1 : Int32) <<< (v2 &&& 31)))).bind fun h3 => (gI h3 v0 7 4).bind fun x4 => (pI h3 v0 7 4 (x4 + 1)).bind fun h5 => some h5
set_option maxRecDepth 100000 in
set_option maxHeartbeats 4000000 in
theorem w_X5_addKnown {G : GE} {X : CX} {l : Launch} (hX : Ok G X cX5_addKnown RX5) (hN : xn X = 3) {P : Mem → Prop} (hr : Rt G X l yX5_addKnown none rm_X5_addKnown (pmV P)) (h : Mem) (v0 : Nat) (v1 : Int32) (v2 : Int32) (hy : OK (f_X5_addKnown h v0 v1 v2) P) : AW G X 0 [(0, vR v0), (1, vI v1), (2, vI v2)] [] h 0 0 := by
  unfold f_X5_addKnown at hy
  have hkd := hy.kd
  have hy := hy.kb
  refine aw_aloadn (pc := 0) hX 0 rfl dX5_addKnown_0 ?_
  refine aw_gR (pc := 1) hX hy fl_X5_44 (fun _ _ => rfl) dX5_addKnown_1 (fun r1 hy => ?_)
  refine aw_iloadn (pc := 4) hX 1 rfl dX5_addKnown_4 ?_
  refine aw_iconst (pc := 5) hX 5 (by decide) dX5_addKnown_5 ?_
  refine aw_imul (pc := 6) hX dX5_addKnown_6 ?_
  refine aw_iconst (pc := 7) hX 2 (by decide) dX5_addKnown_7 ?_
  refine aw_iadd (pc := 8) hX dX5_addKnown_8 ?_
  refine aw_dup2 (pc := 9) hX rfl rfl dX5_addKnown_9 ?_
  refine aw_aI (pc := 10) hX hy dX5_addKnown_10 (fun x2 hy => ?_)
  refine aw_iconst (pc := 11) hX 1 (by decide) dX5_addKnown_11 ?_
  refine aw_iloadn (pc := 12) hX 2 rfl dX5_addKnown_12 ?_
  refine aw_ishl (pc := 13) hX dX5_addKnown_13 ?_
  refine aw_ior (pc := 14) hX dX5_addKnown_14 ?_
  refine aw_sI (pc := 15) hX hy dX5_addKnown_15 (fun h3 hy => ?_)
  refine aw_aloadn (pc := 16) hX 0 rfl dX5_addKnown_16 ?_
  refine aw_dup (pc := 17) hX rfl dX5_addKnown_17 ?_
  refine aw_gI (pc := 18) hX hy fl_X5_69 (fun _ _ => rfl) dX5_addKnown_18 (fun x4 hy => ?_)
  refine aw_iconst (pc := 21) hX 1 (by decide) dX5_addKnown_21 ?_
  refine aw_iadd (pc := 22) hX dX5_addKnown_22 ?_
  refine aw_pI (pc := 23) hX hy fl_X5_69 rfl (Or.inl rfl) dX5_addKnown_23 (fun h5 hy => ?_)
  exact aw_vret (pc := 26) hX hr (by decide) (by decide) dX5_addKnown_26 ⟨rfl, hy.s⟩
theorem con_X5_addKnown (l : Launch) (G : GE) (h : Mem) (v0 : Nat) (v1 : Int32) (v2 : Int32) {P : Mem → Prop} (hy : OK (f_X5_addKnown h v0 v1 v2) P) : Con l G yX5_addKnown cX5_addKnown 3 none rm_X5_addKnown [vR v0, vI v1, vI v2] h (pmV P) := Con.of (by decide) (Nat.le_of_ble_eq_true rfl) (fun X hX hr hN => w_X5_addKnown hX hN hr h v0 v1 v2 hy)
/-! X4_readKnows -/
theorem dX4_readKnows_0 : decode cX4_readKnows 0 = .ok (.aload_n 0, 1) := by decide +kernel
theorem dX4_readKnows_1 : decode cX4_readKnows 1 = .ok (.bipush 6, 2) := by decide +kernel
theorem dX4_readKnows_3 : decode cX4_readKnows 3 = .ok (.invokevirtual 192, 3) := by decide +kernel
theorem dX4_readKnows_6 : decode cX4_readKnows 6 = .ok (.istore_n 1, 1) := by decide +kernel
theorem dX4_readKnows_7 : decode cX4_readKnows 7 = .ok (.iload_n 1, 1) := by decide +kernel
theorem dX4_readKnows_8 : decode cX4_readKnows 8 = .ok (.ifCond .ge 7, 3) := by decide +kernel
theorem dX4_readKnows_11 : decode cX4_readKnows 11 = .ok (.iconst (-1), 1) := by decide +kernel
theorem dX4_readKnows_12 : decode cX4_readKnows 12 = .ok (.goto 8, 3) := by decide +kernel
theorem dX4_readKnows_15 : decode cX4_readKnows 15 = .ok (.aload_n 0, 1) := by decide +kernel
theorem dX4_readKnows_16 : decode cX4_readKnows 16 = .ok (.iconst 1, 1) := by decide +kernel
theorem dX4_readKnows_17 : decode cX4_readKnows 17 = .ok (.invokevirtual 196, 3) := by decide +kernel
theorem dX4_readKnows_20 : decode cX4_readKnows 20 = .ok (.istore_n 2, 1) := by decide +kernel
theorem dX4_readKnows_21 : decode cX4_readKnows 21 = .ok (.iload_n 2, 1) := by decide +kernel
theorem dX4_readKnows_22 : decode cX4_readKnows 22 = .ok (.ifCond .ge 5, 3) := by decide +kernel
theorem dX4_readKnows_25 : decode cX4_readKnows 25 = .ok (.iconst 0, 1) := by decide +kernel
theorem dX4_readKnows_26 : decode cX4_readKnows 26 = .ok (.ireturn, 1) := by decide +kernel
theorem dX4_readKnows_27 : decode cX4_readKnows 27 = .ok (.aload_n 0, 1) := by decide +kernel
theorem dX4_readKnows_28 : decode cX4_readKnows 28 = .ok (.getfield 34, 3) := by decide +kernel
theorem dX4_readKnows_31 : decode cX4_readKnows 31 = .ok (.iload_n 1, 1) := by decide +kernel
theorem dX4_readKnows_32 : decode cX4_readKnows 32 = .ok (.iload_n 2, 1) := by decide +kernel
theorem dX4_readKnows_33 : decode cX4_readKnows 33 = .ok (.invokevirtual 223, 3) := by decide +kernel
theorem dX4_readKnows_36 : decode cX4_readKnows 36 = .ok (.ifCond .eq 9, 3) := by decide +kernel
theorem dX4_readKnows_39 : decode cX4_readKnows 39 = .ok (.aload_n 0, 1) := by decide +kernel
theorem dX4_readKnows_40 : decode cX4_readKnows 40 = .ok (.iconst 3, 1) := by decide +kernel
theorem dX4_readKnows_41 : decode cX4_readKnows 41 = .ok (.invokevirtual 105, 3) := by decide +kernel
theorem dX4_readKnows_44 : decode cX4_readKnows 44 = .ok (.ireturn, 1) := by decide +kernel
theorem dX4_readKnows_45 : decode cX4_readKnows 45 = .ok (.aload_n 0, 1) := by decide +kernel
theorem dX4_readKnows_46 : decode cX4_readKnows 46 = .ok (.getfield 34, 3) := by decide +kernel
theorem dX4_readKnows_49 : decode cX4_readKnows 49 = .ok (.iload_n 1, 1) := by decide +kernel
theorem dX4_readKnows_50 : decode cX4_readKnows 50 = .ok (.iload_n 2, 1) := by decide +kernel
theorem dX4_readKnows_51 : decode cX4_readKnows 51 = .ok (.invokevirtual 227, 3) := by decide +kernel
theorem dX4_readKnows_54 : decode cX4_readKnows 54 = .ok (.aload_n 0, 1) := by decide +kernel
theorem dX4_readKnows_55 : decode cX4_readKnows 55 = .ok (.invokevirtual 109, 3) := by decide +kernel
theorem dX4_readKnows_58 : decode cX4_readKnows 58 = .ok (.iconst 1, 1) := by decide +kernel
theorem dX4_readKnows_59 : decode cX4_readKnows 59 = .ok (.ireturn, 1) := by decide +kernel
abbrev rm_X4_readKnows : Room := { frames := 3, cells := 0, slots := 0, locals := 67 }
def f_X4_readKnows_20 (h : Mem) (v0 : Nat) (v1 : Int32) (s0 : Int32) : Option (Int32 × Mem) :=
  (if 0 ≤ s0 then (gR h v0 6 3).bind fun r7 => (f_X5_knowsFromStart h r7 v1 s0).bind fun x8 => (if x8 = 0 then (gR h v0 6 3).bind fun r9 => (f_X5_addKnown h r9 v1 s0).bind fun h10 => (f_X4_step h10 v0).bind fun h11 => some (1, h11) else (f_X4_fail h v0 3).bind fun q14 => retZ q14.1 (q14.1, q14.2)) else some (0, h))
set_option maxRecDepth 100000 in
set_option maxHeartbeats 4000000 in
theorem w_X4_readKnows_20 {G : GE} {X : CX} {l : Launch} (hX : Ok G X cX4_readKnows RX4) (hN : xn X = 3) {P : (Int32 × Mem) → Prop} (hr : Rt G X l yX4_readKnows (some .boolean) rm_X4_readKnows (pmI P)) (h : Mem) (v0 : Nat) (v1 : Int32) (s0 : Int32) (hy : OK (f_X4_readKnows_20 h v0 v1 s0) P) : AW G X 20 [(0, vR v0), (1, vI v1)] [vI s0] h 0 0 := by
  unfold f_X4_readKnows_20 at hy
  refine aw_istoren (pc := 20) hX [(2, vI s0), (0, vR v0), (1, vI v1)] rfl (lt_n hN (by decide)) dX4_readKnows_20 ?_
  refine aw_iloadn (pc := 21) hX 0 rfl dX4_readKnows_21 ?_
  refine aw_if_ge (pc := 22) hX 27 (by decide) dX4_readKnows_22 (fun hc9 => ?_) (fun hc9 => ?_)
  · have hy := hy.t hc9
    refine aw_aloadn (pc := 27) hX 1 rfl dX4_readKnows_27 ?_
    refine aw_gR (pc := 28) hX hy fl_X4_34 (fun _ _ => rfl) dX4_readKnows_28 (fun r7 hy => ?_)
    refine aw_iloadn (pc := 31) hX 2 rfl dX4_readKnows_31 ?_
    refine aw_iloadn (pc := 32) hX 0 rfl dX4_readKnows_32 ?_
    refine aw_callV (pc := 33) (st := []) (a := r7) hX [vI v1, vI s0] (con_X5_knowsFromStart _ G _ r7 v1 s0 hy.bd) mc_X5_knowsFromStart ml_X4_223 im_X5_knowsFromStart se_X5_knowsFromStart (by decide) hy.bd.kd rfl (rm_of hr (by decide)) (Nat.le_of_ble_eq_true rfl) rfl dX4_readKnows_33 (kpI rfl rfl (fun x8 hy => ?_))
    refine aw_if_eq (pc := 36) hX 45 (by decide) dX4_readKnows_36 (fun hc9 => ?_) (fun hc9 => ?_)
    · have hy := hy.t hc9
      refine aw_aloadn (pc := 45) hX 1 rfl dX4_readKnows_45 ?_
      refine aw_gR (pc := 46) hX hy fl_X4_34 (fun _ _ => rfl) dX4_readKnows_46 (fun r9 hy => ?_)
      refine aw_iloadn (pc := 49) hX 2 rfl dX4_readKnows_49 ?_
      refine aw_iloadn (pc := 50) hX 0 rfl dX4_readKnows_50 ?_
      refine aw_callV (pc := 51) (st := []) (a := r9) hX [vI v1, vI s0] (con_X5_addKnown _ G _ r9 v1 s0 hy.bd) mc_X5_addKnown ml_X4_227 im_X5_addKnown se_X5_addKnown (by decide) hy.bd.kd rfl (rm_of hr (by decide)) (Nat.le_of_ble_eq_true rfl) rfl dX4_readKnows_51 (kmV rfl rfl (fun h10 hy => ?_))
      refine aw_aloadn (pc := 54) hX 1 rfl dX4_readKnows_54 ?_
      refine aw_callV (pc := 55) (st := []) (a := v0) hX [] (con_X4_step _ G _ v0 hy.bd) mc_X4_step ml_X4_109 im_X4_step se_X4_step (by decide) hy.bd.kd rfl (rm_of hr (by decide)) (Nat.le_of_ble_eq_true rfl) rfl dX4_readKnows_55 (kmV rfl rfl (fun h11 hy => ?_))
      refine aw_iconst (pc := 58) hX 1 (by decide) dX4_readKnows_58 ?_
      exact aw_zret (pc := 59) hX hr (by decide) (by decide) dX4_readKnows_59 (Or.inr rfl) ⟨_, rfl, hy.s⟩
    · have hy := hy.f hc9
      refine aw_aloadn (pc := 39) hX 1 rfl dX4_readKnows_39 ?_
      refine aw_iconst (pc := 40) hX 3 (by decide) dX4_readKnows_40 ?_
      refine aw_callV (pc := 41) (st := []) (a := v0) hX [vI 3] (con_X4_fail _ G _ v0 3 hy.bd) mc_X4_fail ml_X4_105 im_X4_fail se_X4_fail (by decide) hy.bd.kd rfl (rm_of hr (by decide)) (Nat.le_of_ble_eq_true rfl) rfl dX4_readKnows_41 (kmI rfl rfl (fun q14 hy => ?_))
      exact aw_zret (pc := 44) hX hr (by decide) (by decide) dX4_readKnows_44 hy.rz.1 ⟨_, rfl, hy.rz.2⟩
  · have hy := hy.f hc9
    refine aw_iconst (pc := 25) hX 0 (by decide) dX4_readKnows_25 ?_
    exact aw_zret (pc := 26) hX hr (by decide) (by decide) dX4_readKnows_26 (Or.inl rfl) ⟨_, rfl, hy.s⟩
def f_X4_readKnows (h : Mem) (v0 : Nat) : Option (Int32 × Mem) :=
  (ck h v0 3).bind fun _ => (f_X4_readName h v0 6).bind fun q3 => (if 0 ≤ q3.1 then (f_X4_findName q3.2 v0 1).bind fun q6 => f_X4_readKnows_20 q6.2 v0 q3.1 q6.1 else f_X4_readKnows_20 q3.2 v0 q3.1 (-1))
set_option maxRecDepth 100000 in
set_option maxHeartbeats 4000000 in
theorem w_X4_readKnows {G : GE} {X : CX} {l : Launch} (hX : Ok G X cX4_readKnows RX4) (hN : xn X = 3) {P : (Int32 × Mem) → Prop} (hr : Rt G X l yX4_readKnows (some .boolean) rm_X4_readKnows (pmI P)) (h : Mem) (v0 : Nat) (hy : OK (f_X4_readKnows h v0) P) : AW G X 0 [(0, vR v0)] [] h 0 0 := by
  unfold f_X4_readKnows at hy
  have hkd := hy.kd
  have hy := hy.kb
  refine aw_aloadn (pc := 0) hX 0 rfl dX4_readKnows_0 ?_
  refine aw_bipush (pc := 1) hX 6 (by decide) dX4_readKnows_1 ?_
  refine aw_callV (pc := 3) (st := []) (a := v0) hX [vI 6] (con_X4_readName _ G _ v0 6 hy.bd) mc_X4_readName ml_X4_192 im_X4_readName se_X4_readName (by decide) hy.bd.kd rfl (rm_of hr (by decide)) (Nat.le_of_ble_eq_true rfl) rfl dX4_readKnows_3 (kmI rfl rfl (fun q3 hy => ?_))
  refine aw_istoren (pc := 6) hX [(1, vI q3.1), (0, vR v0)] rfl (lt_n hN (by decide)) dX4_readKnows_6 ?_
  refine aw_iloadn (pc := 7) hX 0 rfl dX4_readKnows_7 ?_
  refine aw_if_ge (pc := 8) hX 15 (by decide) dX4_readKnows_8 (fun hc9 => ?_) (fun hc9 => ?_)
  · have hy := hy.t hc9
    refine aw_aloadn (pc := 15) hX 1 rfl dX4_readKnows_15 ?_
    refine aw_iconst (pc := 16) hX 1 (by decide) dX4_readKnows_16 ?_
    refine aw_callV (pc := 17) (st := []) (a := v0) hX [vI 1] (con_X4_findName _ G _ v0 1 hy.bd) mc_X4_findName ml_X4_196 im_X4_findName se_X4_findName (by decide) hy.bd.kd rfl (rm_of hr (by decide)) (Nat.le_of_ble_eq_true rfl) rfl dX4_readKnows_17 (kmI rfl rfl (fun q6 hy => ?_))
    refine AW.sub [1, 0] rfl ?_
    exact w_X4_readKnows_20 hX hN hr q6.2 v0 q3.1 q6.1 hy
  · have hy := hy.f hc9
    refine aw_iconst (pc := 11) hX (-1) (by decide) dX4_readKnows_11 ?_
    refine aw_goto (pc := 12) hX 20 (by decide) dX4_readKnows_12 ?_
    refine AW.sub [1, 0] rfl ?_
    exact w_X4_readKnows_20 hX hN hr q3.2 v0 q3.1 (-1) hy
theorem con_X4_readKnows (l : Launch) (G : GE) (h : Mem) (v0 : Nat) {P : (Int32 × Mem) → Prop} (hy : OK (f_X4_readKnows h v0) P) : Con l G yX4_readKnows cX4_readKnows 3 (some .boolean) rm_X4_readKnows [vR v0] h (pmI P) := Con.of (by decide) (Nat.le_of_ble_eq_true rfl) (fun X hX hr hN => w_X4_readKnows hX hN hr h v0 hy)
/-! X4_readHeard -/
theorem dX4_readHeard_0 : decode cX4_readHeard 0 = .ok (.aload_n 0, 1) := by decide +kernel
theorem dX4_readHeard_1 : decode cX4_readHeard 1 = .ok (.iconst 1, 1) := by decide +kernel
theorem dX4_readHeard_2 : decode cX4_readHeard 2 = .ok (.invokevirtual 192, 3) := by decide +kernel
theorem dX4_readHeard_5 : decode cX4_readHeard 5 = .ok (.istore_n 1, 1) := by decide +kernel
theorem dX4_readHeard_6 : decode cX4_readHeard 6 = .ok (.iload_n 1, 1) := by decide +kernel
theorem dX4_readHeard_7 : decode cX4_readHeard 7 = .ok (.ifCond .ge 5, 3) := by decide +kernel
theorem dX4_readHeard_10 : decode cX4_readHeard 10 = .ok (.iconst 0, 1) := by decide +kernel
theorem dX4_readHeard_11 : decode cX4_readHeard 11 = .ok (.ireturn, 1) := by decide +kernel
theorem dX4_readHeard_12 : decode cX4_readHeard 12 = .ok (.aload_n 0, 1) := by decide +kernel
theorem dX4_readHeard_13 : decode cX4_readHeard 13 = .ok (.getfield 34, 3) := by decide +kernel
theorem dX4_readHeard_16 : decode cX4_readHeard 16 = .ok (.getfield 230, 3) := by decide +kernel
theorem dX4_readHeard_19 : decode cX4_readHeard 19 = .ok (.aload_n 0, 1) := by decide +kernel
theorem dX4_readHeard_20 : decode cX4_readHeard 20 = .ok (.getfield 34, 3) := by decide +kernel
theorem dX4_readHeard_23 : decode cX4_readHeard 23 = .ok (.getfield 233, 3) := by decide +kernel
theorem dX4_readHeard_26 : decode cX4_readHeard 26 = .ok (.iload_n 1, 1) := by decide +kernel
theorem dX4_readHeard_27 : decode cX4_readHeard 27 = .ok (.iastore, 1) := by decide +kernel
theorem dX4_readHeard_28 : decode cX4_readHeard 28 = .ok (.aload_n 0, 1) := by decide +kernel
theorem dX4_readHeard_29 : decode cX4_readHeard 29 = .ok (.getfield 34, 3) := by decide +kernel
theorem dX4_readHeard_32 : decode cX4_readHeard 32 = .ok (.dup, 1) := by decide +kernel
theorem dX4_readHeard_33 : decode cX4_readHeard 33 = .ok (.getfield 233, 3) := by decide +kernel
theorem dX4_readHeard_36 : decode cX4_readHeard 36 = .ok (.iconst 1, 1) := by decide +kernel
theorem dX4_readHeard_37 : decode cX4_readHeard 37 = .ok (.iadd, 1) := by decide +kernel
theorem dX4_readHeard_38 : decode cX4_readHeard 38 = .ok (.putfield 233, 3) := by decide +kernel
theorem dX4_readHeard_41 : decode cX4_readHeard 41 = .ok (.iconst 1, 1) := by decide +kernel
theorem dX4_readHeard_42 : decode cX4_readHeard 42 = .ok (.ireturn, 1) := by decide +kernel
abbrev rm_X4_readHeard : Room := { frames := 3, cells := 0, slots := 0, locals := 67 }
def f_X4_readHeard (h : Mem) (v0 : Nat) : Option (Int32 × Mem) :=
  (ck h v0 3).bind fun _ => (f_X4_readName h v0 1).bind fun q3 => (if 0 ≤ q3.1 then (gR q3.2 v0 6 3).bind fun r4 => (gR q3.2 r4 17 4).bind fun r5 => (gR q3.2 v0 6 3).bind fun r6 => (gI q3.2 r6 8 4).bind fun x7 => (sI q3.2 r5 x7 q3.1).bind fun h8 => (gR h8 v0 6 3).bind fun r9 => (gI h8 r9 8 4).bind fun x10 => (pI h8 r9 8 4 (x10 + 1)).bind fun h11 => some (1, h11) else some (0, q3.2))
set_option maxRecDepth 100000 in
set_option maxHeartbeats 4000000 in
theorem w_X4_readHeard {G : GE} {X : CX} {l : Launch} (hX : Ok G X cX4_readHeard RX4) (hN : xn X = 2) {P : (Int32 × Mem) → Prop} (hr : Rt G X l yX4_readHeard (some .boolean) rm_X4_readHeard (pmI P)) (h : Mem) (v0 : Nat) (hy : OK (f_X4_readHeard h v0) P) : AW G X 0 [(0, vR v0)] [] h 0 0 := by
  unfold f_X4_readHeard at hy
  have hkd := hy.kd
  have hy := hy.kb
  refine aw_aloadn (pc := 0) hX 0 rfl dX4_readHeard_0 ?_
  refine aw_iconst (pc := 1) hX 1 (by decide) dX4_readHeard_1 ?_
  refine aw_callV (pc := 2) (st := []) (a := v0) hX [vI 1] (con_X4_readName _ G _ v0 1 hy.bd) mc_X4_readName ml_X4_192 im_X4_readName se_X4_readName (by decide) hy.bd.kd rfl (rm_of hr (by decide)) (Nat.le_of_ble_eq_true rfl) rfl dX4_readHeard_2 (kmI rfl rfl (fun q3 hy => ?_))
  refine aw_istoren (pc := 5) hX [(1, vI q3.1), (0, vR v0)] rfl (lt_n hN (by decide)) dX4_readHeard_5 ?_
  refine aw_iloadn (pc := 6) hX 0 rfl dX4_readHeard_6 ?_
  refine aw_if_ge (pc := 7) hX 12 (by decide) dX4_readHeard_7 (fun hc9 => ?_) (fun hc9 => ?_)
  · have hy := hy.t hc9
    refine aw_aloadn (pc := 12) hX 1 rfl dX4_readHeard_12 ?_
    refine aw_gR (pc := 13) hX hy fl_X4_34 (fun _ _ => rfl) dX4_readHeard_13 (fun r4 hy => ?_)
    refine aw_gR (pc := 16) hX hy fl_X4_230 (fun _ _ => rfl) dX4_readHeard_16 (fun r5 hy => ?_)
    refine aw_aloadn (pc := 19) hX 1 rfl dX4_readHeard_19 ?_
    refine aw_gR (pc := 20) hX hy fl_X4_34 (fun _ _ => rfl) dX4_readHeard_20 (fun r6 hy => ?_)
    refine aw_gI (pc := 23) hX hy fl_X4_233 (fun _ _ => rfl) dX4_readHeard_23 (fun x7 hy => ?_)
    refine aw_iloadn (pc := 26) hX 0 rfl dX4_readHeard_26 ?_
    refine aw_sI (pc := 27) hX hy dX4_readHeard_27 (fun h8 hy => ?_)
    refine aw_aloadn (pc := 28) hX 1 rfl dX4_readHeard_28 ?_
    refine aw_gR (pc := 29) hX hy fl_X4_34 (fun _ _ => rfl) dX4_readHeard_29 (fun r9 hy => ?_)
    refine aw_dup (pc := 32) hX rfl dX4_readHeard_32 ?_
    refine aw_gI (pc := 33) hX hy fl_X4_233 (fun _ _ => rfl) dX4_readHeard_33 (fun x10 hy => ?_)
    refine aw_iconst (pc := 36) hX 1 (by decide) dX4_readHeard_36 ?_
    refine aw_iadd (pc := 37) hX dX4_readHeard_37 ?_
    refine aw_pI (pc := 38) hX hy fl_X4_233 rfl (Or.inl rfl) dX4_readHeard_38 (fun h11 hy => ?_)
    refine aw_iconst (pc := 41) hX 1 (by decide) dX4_readHeard_41 ?_
    exact aw_zret (pc := 42) hX hr (by decide) (by decide) dX4_readHeard_42 (Or.inr rfl) ⟨_, rfl, hy.s⟩
  · have hy := hy.f hc9
    refine aw_iconst (pc := 10) hX 0 (by decide) dX4_readHeard_10 ?_
    exact aw_zret (pc := 11) hX hr (by decide) (by decide) dX4_readHeard_11 (Or.inl rfl) ⟨_, rfl, hy.s⟩
theorem con_X4_readHeard (l : Launch) (G : GE) (h : Mem) (v0 : Nat) {P : (Int32 × Mem) → Prop} (hy : OK (f_X4_readHeard h v0) P) : Con l G yX4_readHeard cX4_readHeard 2 (some .boolean) rm_X4_readHeard [vR v0] h (pmI P) := Con.of (by decide) (Nat.le_of_ble_eq_true rfl) (fun X hX hr hN => w_X4_readHeard hX hN hr h v0 hy)
/-! X4_readLine -/
theorem dX4_readLine_0 : decode cX4_readLine 0 = .ok (.aload_n 0, 1) := by decide +kernel
theorem dX4_readLine_1 : decode cX4_readLine 1 = .ok (.getfield 138, 3) := by decide +kernel
theorem dX4_readLine_4 : decode cX4_readLine 4 = .ok (.istore_n 1, 1) := by decide +kernel
theorem dX4_readLine_5 : decode cX4_readLine 5 = .ok (.aload_n 0, 1) := by decide +kernel
theorem dX4_readLine_6 : decode cX4_readLine 6 = .ok (.getfield 99, 3) := by decide +kernel
theorem dX4_readLine_9 : decode cX4_readLine 9 = .ok (.iconst 1, 1) := by decide +kernel
theorem dX4_readLine_10 : decode cX4_readLine 10 = .ok (.if_icmp .ne 13, 3) := by decide +kernel
theorem dX4_readLine_13 : decode cX4_readLine 13 = .ok (.iload_n 1, 1) := by decide +kernel
theorem dX4_readLine_14 : decode cX4_readLine 14 = .ok (.ifCond .lt 9, 3) := by decide +kernel
theorem dX4_readLine_17 : decode cX4_readLine 17 = .ok (.iload_n 1, 1) := by decide +kernel
theorem dX4_readLine_18 : decode cX4_readLine 18 = .ok (.bipush 9, 2) := by decide +kernel
theorem dX4_readLine_20 : decode cX4_readLine 20 = .ok (.if_icmp .lt 9, 3) := by decide +kernel
theorem dX4_readLine_23 : decode cX4_readLine 23 = .ok (.aload_n 0, 1) := by decide +kernel
theorem dX4_readLine_24 : decode cX4_readLine 24 = .ok (.iconst 1, 1) := by decide +kernel
theorem dX4_readLine_25 : decode cX4_readLine 25 = .ok (.invokevirtual 105, 3) := by decide +kernel
theorem dX4_readLine_28 : decode cX4_readLine 28 = .ok (.ireturn, 1) := by decide +kernel
theorem dX4_readLine_29 : decode cX4_readLine 29 = .ok (.iload_n 1, 1) := by decide +kernel
theorem dX4_readLine_30 : decode cX4_readLine 30 = .ok (.ifCond .ne 18, 3) := by decide +kernel
theorem dX4_readLine_33 : decode cX4_readLine 33 = .ok (.aload_n 0, 1) := by decide +kernel
theorem dX4_readLine_34 : decode cX4_readLine 34 = .ok (.getfield 30, 3) := by decide +kernel
theorem dX4_readLine_37 : decode cX4_readLine 37 = .ok (.iconst 0, 1) := by decide +kernel
theorem dX4_readLine_38 : decode cX4_readLine 38 = .ok (.iaload, 1) := by decide +kernel
theorem dX4_readLine_39 : decode cX4_readLine 39 = .ok (.ifCond .le 9, 3) := by decide +kernel
theorem dX4_readLine_42 : decode cX4_readLine 42 = .ok (.aload_n 0, 1) := by decide +kernel
theorem dX4_readLine_43 : decode cX4_readLine 43 = .ok (.iconst 3, 1) := by decide +kernel
theorem dX4_readLine_44 : decode cX4_readLine 44 = .ok (.invokevirtual 105, 3) := by decide +kernel
theorem dX4_readLine_47 : decode cX4_readLine 47 = .ok (.ireturn, 1) := by decide +kernel
theorem dX4_readLine_48 : decode cX4_readLine 48 = .ok (.iload_n 1, 1) := by decide +kernel
theorem dX4_readLine_49 : decode cX4_readLine 49 = .ok (.ifCond .eq 19, 3) := by decide +kernel
theorem dX4_readLine_52 : decode cX4_readLine 52 = .ok (.aload_n 0, 1) := by decide +kernel
theorem dX4_readLine_53 : decode cX4_readLine 53 = .ok (.getfield 30, 3) := by decide +kernel
theorem dX4_readLine_56 : decode cX4_readLine 56 = .ok (.iconst 0, 1) := by decide +kernel
theorem dX4_readLine_57 : decode cX4_readLine 57 = .ok (.iaload, 1) := by decide +kernel
theorem dX4_readLine_58 : decode cX4_readLine 58 = .ok (.ifCond .ne 10, 3) := by decide +kernel
theorem dX4_readLine_61 : decode cX4_readLine 61 = .ok (.aload_n 0, 1) := by decide +kernel
theorem dX4_readLine_62 : decode cX4_readLine 62 = .ok (.bipush 6, 2) := by decide +kernel
theorem dX4_readLine_64 : decode cX4_readLine 64 = .ok (.invokevirtual 105, 3) := by decide +kernel
theorem dX4_readLine_67 : decode cX4_readLine 67 = .ok (.ireturn, 1) := by decide +kernel
theorem dX4_readLine_68 : decode cX4_readLine 68 = .ok (.aload_n 0, 1) := by decide +kernel
theorem dX4_readLine_69 : decode cX4_readLine 69 = .ok (.getfield 30, 3) := by decide +kernel
theorem dX4_readLine_72 : decode cX4_readLine 72 = .ok (.iload_n 1, 1) := by decide +kernel
theorem dX4_readLine_73 : decode cX4_readLine 73 = .ok (.iaload, 1) := by decide +kernel
theorem dX4_readLine_74 : decode cX4_readLine 74 = .ok (.getstatic 141, 3) := by decide +kernel
theorem dX4_readLine_77 : decode cX4_readLine 77 = .ok (.iload_n 1, 1) := by decide +kernel
theorem dX4_readLine_78 : decode cX4_readLine 78 = .ok (.iaload, 1) := by decide +kernel
theorem dX4_readLine_79 : decode cX4_readLine 79 = .ok (.if_icmp .lt 9, 3) := by decide +kernel
theorem dX4_readLine_82 : decode cX4_readLine 82 = .ok (.aload_n 0, 1) := by decide +kernel
theorem dX4_readLine_83 : decode cX4_readLine 83 = .ok (.iconst 5, 1) := by decide +kernel
theorem dX4_readLine_84 : decode cX4_readLine 84 = .ok (.invokevirtual 105, 3) := by decide +kernel
theorem dX4_readLine_87 : decode cX4_readLine 87 = .ok (.ireturn, 1) := by decide +kernel
theorem dX4_readLine_88 : decode cX4_readLine 88 = .ok (.aload_n 0, 1) := by decide +kernel
theorem dX4_readLine_89 : decode cX4_readLine 89 = .ok (.getfield 30, 3) := by decide +kernel
theorem dX4_readLine_92 : decode cX4_readLine 92 = .ok (.iload_n 1, 1) := by decide +kernel
theorem dX4_readLine_93 : decode cX4_readLine 93 = .ok (.dup2, 1) := by decide +kernel
theorem dX4_readLine_94 : decode cX4_readLine 94 = .ok (.iaload, 1) := by decide +kernel
theorem dX4_readLine_95 : decode cX4_readLine 95 = .ok (.iconst 1, 1) := by decide +kernel
theorem dX4_readLine_96 : decode cX4_readLine 96 = .ok (.iadd, 1) := by decide +kernel
theorem dX4_readLine_97 : decode cX4_readLine 97 = .ok (.iastore, 1) := by decide +kernel
theorem dX4_readLine_98 : decode cX4_readLine 98 = .ok (.aload_n 0, 1) := by decide +kernel
theorem dX4_readLine_99 : decode cX4_readLine 99 = .ok (.invokevirtual 109, 3) := by decide +kernel
theorem dX4_readLine_102 : decode cX4_readLine 102 = .ok (.iload_n 1, 1) := by decide +kernel
theorem dX4_readLine_103 : decode cX4_readLine 103 = .ok (.tableswitch 85 0 7 #[45, 50, 55, 60, 65, 70, 75, 80], 45) := by decide +kernel
theorem dX4_readLine_148 : decode cX4_readLine 148 = .ok (.aload_n 0, 1) := by decide +kernel
theorem dX4_readLine_149 : decode cX4_readLine 149 = .ok (.invokevirtual 144, 3) := by decide +kernel
theorem dX4_readLine_152 : decode cX4_readLine 152 = .ok (.ireturn, 1) := by decide +kernel
theorem dX4_readLine_153 : decode cX4_readLine 153 = .ok (.aload_n 0, 1) := by decide +kernel
theorem dX4_readLine_154 : decode cX4_readLine 154 = .ok (.invokevirtual 147, 3) := by decide +kernel
theorem dX4_readLine_157 : decode cX4_readLine 157 = .ok (.ireturn, 1) := by decide +kernel
theorem dX4_readLine_158 : decode cX4_readLine 158 = .ok (.aload_n 0, 1) := by decide +kernel
theorem dX4_readLine_159 : decode cX4_readLine 159 = .ok (.invokevirtual 150, 3) := by decide +kernel
theorem dX4_readLine_162 : decode cX4_readLine 162 = .ok (.ireturn, 1) := by decide +kernel
theorem dX4_readLine_163 : decode cX4_readLine 163 = .ok (.aload_n 0, 1) := by decide +kernel
theorem dX4_readLine_164 : decode cX4_readLine 164 = .ok (.invokevirtual 153, 3) := by decide +kernel
theorem dX4_readLine_167 : decode cX4_readLine 167 = .ok (.ireturn, 1) := by decide +kernel
theorem dX4_readLine_168 : decode cX4_readLine 168 = .ok (.aload_n 0, 1) := by decide +kernel
theorem dX4_readLine_169 : decode cX4_readLine 169 = .ok (.invokevirtual 156, 3) := by decide +kernel
theorem dX4_readLine_172 : decode cX4_readLine 172 = .ok (.ireturn, 1) := by decide +kernel
theorem dX4_readLine_173 : decode cX4_readLine 173 = .ok (.aload_n 0, 1) := by decide +kernel
theorem dX4_readLine_174 : decode cX4_readLine 174 = .ok (.invokevirtual 159, 3) := by decide +kernel
theorem dX4_readLine_177 : decode cX4_readLine 177 = .ok (.ireturn, 1) := by decide +kernel
theorem dX4_readLine_178 : decode cX4_readLine 178 = .ok (.aload_n 0, 1) := by decide +kernel
theorem dX4_readLine_179 : decode cX4_readLine 179 = .ok (.invokevirtual 162, 3) := by decide +kernel
theorem dX4_readLine_182 : decode cX4_readLine 182 = .ok (.ireturn, 1) := by decide +kernel
theorem dX4_readLine_183 : decode cX4_readLine 183 = .ok (.aload_n 0, 1) := by decide +kernel
theorem dX4_readLine_184 : decode cX4_readLine 184 = .ok (.invokevirtual 165, 3) := by decide +kernel
theorem dX4_readLine_187 : decode cX4_readLine 187 = .ok (.ireturn, 1) := by decide +kernel
theorem dX4_readLine_188 : decode cX4_readLine 188 = .ok (.aload_n 0, 1) := by decide +kernel
theorem dX4_readLine_189 : decode cX4_readLine 189 = .ok (.invokevirtual 168, 3) := by decide +kernel
theorem dX4_readLine_192 : decode cX4_readLine 192 = .ok (.ireturn, 1) := by decide +kernel
abbrev rm_X4_readLine : Room := { frames := 4, cells := 0, slots := 0, locals := 92 }
def f_X4_readLine_23 (h : Mem) (v0 : Nat) : Option (Int32 × Mem) :=
  (f_X4_fail h v0 1).bind fun q5 => retZ q5.1 (q5.1, q5.2)
set_option maxRecDepth 100000 in
set_option maxHeartbeats 4000000 in
theorem w_X4_readLine_23 {G : GE} {X : CX} {l : Launch} (hX : Ok G X cX4_readLine RX4) (hN : xn X = 2) {P : (Int32 × Mem) → Prop} (hr : Rt G X l yX4_readLine (some .boolean) rm_X4_readLine (pmI P)) (h : Mem) (v0 : Nat) (hy : OK (f_X4_readLine_23 h v0) P) : AW G X 23 [(0, vR v0)] [] h 0 0 := by
  unfold f_X4_readLine_23 at hy
  refine aw_aloadn (pc := 23) hX 0 rfl dX4_readLine_23 ?_
  refine aw_iconst (pc := 24) hX 1 (by decide) dX4_readLine_24 ?_
  refine aw_callV (pc := 25) (st := []) (a := v0) hX [vI 1] (con_X4_fail _ G _ v0 1 hy.bd) mc_X4_fail ml_X4_105 im_X4_fail se_X4_fail (by decide) hy.bd.kd rfl (rm_of hr (by decide)) (Nat.le_of_ble_eq_true rfl) rfl dX4_readLine_25 (kmI rfl rfl (fun q5 hy => ?_))
  exact aw_zret (pc := 28) hX hr (by decide) (by decide) dX4_readLine_28 hy.rz.1 ⟨_, rfl, hy.rz.2⟩
def f_X4_readLine_68 (h : Mem) (v0 : Nat) (v1 : Int32) : Option (Int32 × Mem) :=
  (gR h v0 5 3).bind fun r6 => (aI h r6 v1).bind fun x7 => (xAI v1).bind fun x8 => (if x7 < x8 then (gR h v0 5 3).bind fun r9 => (aI h r9 v1).bind fun x10 => (sI h r9 v1 (x10 + 1)).bind fun h11 => (f_X4_step h11 v0).bind fun h12 => (if v1 = 0 then (f_X4_readTurnpike h12 v0).bind fun q15 => retZ q15.1 (q15.1, q15.2) else if v1 = 1 then (f_X4_readTune h12 v0).bind fun q18 => retZ q18.1 (q18.1, q18.2) else if v1 = 2 then (f_X4_readPlace h12 v0).bind fun q21 => retZ q21.1 (q21.1, q21.2) else if v1 = 3 then (f_X4_readRoad h12 v0).bind fun q24 => retZ q24.1 (q24.1, q24.2) else if v1 = 4 then (f_X4_readGate h12 v0).bind fun q27 => retZ q27.1 (q27.1, q27.2) else if v1 = 5 then (f_X4_readInn h12 v0).bind fun q30 => retZ q30.1 (q30.1, q30.2) else if v1 = 6 then (f_X4_readPerson h12 v0).bind fun q33 => retZ q33.1 (q33.1, q33.2) else if v1 = 7 then (f_X4_readKnows h12 v0).bind fun q36 => retZ q36.1 (q36.1, q36.2) else (f_X4_readHeard h12 v0).bind fun q39 => retZ q39.1 (q39.1, q39.2)) else (f_X4_fail h v0 5).bind fun q42 => retZ q42.1 (q42.1, q42.2))
set_option maxRecDepth 100000 in
set_option maxHeartbeats 4000000 in
theorem w_X4_readLine_68 {G : GE} {X : CX} {l : Launch} (hX : Ok G X cX4_readLine RX4) (hN : xn X = 2) {P : (Int32 × Mem) → Prop} (hr : Rt G X l yX4_readLine (some .boolean) rm_X4_readLine (pmI P)) (h : Mem) (v0 : Nat) (v1 : Int32) (hy : OK (f_X4_readLine_68 h v0 v1) P) : AW G X 68 [(0, vR v0), (1, vI v1)] [] h 0 0 := by
  unfold f_X4_readLine_68 at hy
  refine aw_aloadn (pc := 68) hX 0 rfl dX4_readLine_68 ?_
  refine aw_gR (pc := 69) hX hy fl_X4_30 (fun _ _ => rfl) dX4_readLine_69 (fun r6 hy => ?_)
  refine aw_iloadn (pc := 72) hX 1 rfl dX4_readLine_72 ?_
  refine aw_aI (pc := 73) hX hy dX4_readLine_73 (fun x7 hy => ?_)
  refine aw_lines (pc := 74) hX dX4_readLine_74 ?_
  refine aw_iloadn (pc := 77) hX 1 rfl dX4_readLine_77 ?_
  refine aw_xAI (pc := 78) hX hy dX4_readLine_78 (fun x8 hy => ?_)
  refine aw_ic_lt (pc := 79) hX 88 (by decide) dX4_readLine_79 (fun hc9 => ?_) (fun hc9 => ?_)
  · have hy := hy.t hc9
    refine aw_aloadn (pc := 88) hX 0 rfl dX4_readLine_88 ?_
    refine aw_gR (pc := 89) hX hy fl_X4_30 (fun _ _ => rfl) dX4_readLine_89 (fun r9 hy => ?_)
    refine aw_iloadn (pc := 92) hX 1 rfl dX4_readLine_92 ?_
    refine aw_dup2 (pc := 93) hX rfl rfl dX4_readLine_93 ?_
    refine aw_aI (pc := 94) hX hy dX4_readLine_94 (fun x10 hy => ?_)
    refine aw_iconst (pc := 95) hX 1 (by decide) dX4_readLine_95 ?_
    refine aw_iadd (pc := 96) hX dX4_readLine_96 ?_
    refine aw_sI (pc := 97) hX hy dX4_readLine_97 (fun h11 hy => ?_)
    refine aw_aloadn (pc := 98) hX 0 rfl dX4_readLine_98 ?_
    refine aw_callV (pc := 99) (st := []) (a := v0) hX [] (con_X4_step _ G _ v0 hy.bd) mc_X4_step ml_X4_109 im_X4_step se_X4_step (by decide) hy.bd.kd rfl (rm_of hr (by decide)) (Nat.le_of_ble_eq_true rfl) rfl dX4_readLine_99 (kmV rfl rfl (fun h12 hy => ?_))
    refine aw_iloadn (pc := 102) hX 1 rfl dX4_readLine_102 ?_
    rcases Decidable.em (v1 = 0) with hc9 | hn0
    · have hy := hy.t hc9
      refine aw_tin (pc := 103) hX 148 (by rw [hc9]; decide) (by rw [hc9]; decide) (by rw [hc9]; rfl) (by decide) dX4_readLine_103 ?_
      refine aw_aloadn (pc := 148) hX 0 rfl dX4_readLine_148 ?_
      refine aw_callV (pc := 149) (st := []) (a := v0) hX [] (con_X4_readTurnpike _ G _ v0 hy.bd) mc_X4_readTurnpike ml_X4_144 im_X4_readTurnpike se_X4_readTurnpike (by decide) hy.bd.kd rfl (rm_of hr (by decide)) (Nat.le_of_ble_eq_true rfl) rfl dX4_readLine_149 (kmI rfl rfl (fun q15 hy => ?_))
      exact aw_zret (pc := 152) hX hr (by decide) (by decide) dX4_readLine_152 hy.rz.1 ⟨_, rfl, hy.rz.2⟩
    have hy := hy.f hn0
    rcases Decidable.em (v1 = 1) with hc9 | hn1
    · have hy := hy.t hc9
      refine aw_tin (pc := 103) hX 153 (by rw [hc9]; decide) (by rw [hc9]; decide) (by rw [hc9]; rfl) (by decide) dX4_readLine_103 ?_
      refine aw_aloadn (pc := 153) hX 0 rfl dX4_readLine_153 ?_
      refine aw_callV (pc := 154) (st := []) (a := v0) hX [] (con_X4_readTune _ G _ v0 hy.bd) mc_X4_readTune ml_X4_147 im_X4_readTune se_X4_readTune (by decide) hy.bd.kd rfl (rm_of hr (by decide)) (Nat.le_of_ble_eq_true rfl) rfl dX4_readLine_154 (kmI rfl rfl (fun q18 hy => ?_))
      exact aw_zret (pc := 157) hX hr (by decide) (by decide) dX4_readLine_157 hy.rz.1 ⟨_, rfl, hy.rz.2⟩
    have hy := hy.f hn1
    rcases Decidable.em (v1 = 2) with hc9 | hn2
    · have hy := hy.t hc9
      refine aw_tin (pc := 103) hX 158 (by rw [hc9]; decide) (by rw [hc9]; decide) (by rw [hc9]; rfl) (by decide) dX4_readLine_103 ?_
      refine aw_aloadn (pc := 158) hX 0 rfl dX4_readLine_158 ?_
      refine aw_callV (pc := 159) (st := []) (a := v0) hX [] (con_X4_readPlace _ G _ v0 hy.bd) mc_X4_readPlace ml_X4_150 im_X4_readPlace se_X4_readPlace (by decide) hy.bd.kd rfl (rm_of hr (by decide)) (Nat.le_of_ble_eq_true rfl) rfl dX4_readLine_159 (kmI rfl rfl (fun q21 hy => ?_))
      exact aw_zret (pc := 162) hX hr (by decide) (by decide) dX4_readLine_162 hy.rz.1 ⟨_, rfl, hy.rz.2⟩
    have hy := hy.f hn2
    rcases Decidable.em (v1 = 3) with hc9 | hn3
    · have hy := hy.t hc9
      refine aw_tin (pc := 103) hX 163 (by rw [hc9]; decide) (by rw [hc9]; decide) (by rw [hc9]; rfl) (by decide) dX4_readLine_103 ?_
      refine aw_aloadn (pc := 163) hX 0 rfl dX4_readLine_163 ?_
      refine aw_callV (pc := 164) (st := []) (a := v0) hX [] (con_X4_readRoad _ G _ v0 hy.bd) mc_X4_readRoad ml_X4_153 im_X4_readRoad se_X4_readRoad (by decide) hy.bd.kd rfl (rm_of hr (by decide)) (Nat.le_of_ble_eq_true rfl) rfl dX4_readLine_164 (kmI rfl rfl (fun q24 hy => ?_))
      exact aw_zret (pc := 167) hX hr (by decide) (by decide) dX4_readLine_167 hy.rz.1 ⟨_, rfl, hy.rz.2⟩
    have hy := hy.f hn3
    rcases Decidable.em (v1 = 4) with hc9 | hn4
    · have hy := hy.t hc9
      refine aw_tin (pc := 103) hX 168 (by rw [hc9]; decide) (by rw [hc9]; decide) (by rw [hc9]; rfl) (by decide) dX4_readLine_103 ?_
      refine aw_aloadn (pc := 168) hX 0 rfl dX4_readLine_168 ?_
      refine aw_callV (pc := 169) (st := []) (a := v0) hX [] (con_X4_readGate _ G _ v0 hy.bd) mc_X4_readGate ml_X4_156 im_X4_readGate se_X4_readGate (by decide) hy.bd.kd rfl (rm_of hr (by decide)) (Nat.le_of_ble_eq_true rfl) rfl dX4_readLine_169 (kmI rfl rfl (fun q27 hy => ?_))
      exact aw_zret (pc := 172) hX hr (by decide) (by decide) dX4_readLine_172 hy.rz.1 ⟨_, rfl, hy.rz.2⟩
    have hy := hy.f hn4
    rcases Decidable.em (v1 = 5) with hc9 | hn5
    · have hy := hy.t hc9
      refine aw_tin (pc := 103) hX 173 (by rw [hc9]; decide) (by rw [hc9]; decide) (by rw [hc9]; rfl) (by decide) dX4_readLine_103 ?_
      refine aw_aloadn (pc := 173) hX 0 rfl dX4_readLine_173 ?_
      refine aw_callV (pc := 174) (st := []) (a := v0) hX [] (con_X4_readInn _ G _ v0 hy.bd) mc_X4_readInn ml_X4_159 im_X4_readInn se_X4_readInn (by decide) hy.bd.kd rfl (rm_of hr (by decide)) (Nat.le_of_ble_eq_true rfl) rfl dX4_readLine_174 (kmI rfl rfl (fun q30 hy => ?_))
      exact aw_zret (pc := 177) hX hr (by decide) (by decide) dX4_readLine_177 hy.rz.1 ⟨_, rfl, hy.rz.2⟩
    have hy := hy.f hn5
    rcases Decidable.em (v1 = 6) with hc9 | hn6
    · have hy := hy.t hc9
      refine aw_tin (pc := 103) hX 178 (by rw [hc9]; decide) (by rw [hc9]; decide) (by rw [hc9]; rfl) (by decide) dX4_readLine_103 ?_
      refine aw_aloadn (pc := 178) hX 0 rfl dX4_readLine_178 ?_
      refine aw_callV (pc := 179) (st := []) (a := v0) hX [] (con_X4_readPerson _ G _ v0 hy.bd) mc_X4_readPerson ml_X4_162 im_X4_readPerson se_X4_readPerson (by decide) hy.bd.kd rfl (rm_of hr (by decide)) (Nat.le_of_ble_eq_true rfl) rfl dX4_readLine_179 (kmI rfl rfl (fun q33 hy => ?_))
      exact aw_zret (pc := 182) hX hr (by decide) (by decide) dX4_readLine_182 hy.rz.1 ⟨_, rfl, hy.rz.2⟩
    have hy := hy.f hn6
    rcases Decidable.em (v1 = 7) with hc9 | hn7
    · have hy := hy.t hc9
      refine aw_tin (pc := 103) hX 183 (by rw [hc9]; decide) (by rw [hc9]; decide) (by rw [hc9]; rfl) (by decide) dX4_readLine_103 ?_
      refine aw_aloadn (pc := 183) hX 0 rfl dX4_readLine_183 ?_
      refine aw_callV (pc := 184) (st := []) (a := v0) hX [] (con_X4_readKnows _ G _ v0 hy.bd) mc_X4_readKnows ml_X4_165 im_X4_readKnows se_X4_readKnows (by decide) hy.bd.kd rfl (rm_of hr (by decide)) (Nat.le_of_ble_eq_true rfl) rfl dX4_readLine_184 (kmI rfl rfl (fun q36 hy => ?_))
      exact aw_zret (pc := 187) hX hr (by decide) (by decide) dX4_readLine_187 hy.rz.1 ⟨_, rfl, hy.rz.2⟩
    have hy := hy.f hn7
    refine aw_tout (pc := 103) hX 188 (tsw_out (lo := 0) (hi := 7) (fun k h1 h2 => ?_)) (by decide) dX4_readLine_103 ?_
    · rcases (show k = 0 ∨ k = 1 ∨ k = 2 ∨ k = 3 ∨ k = 4 ∨ k = 5 ∨ k = 6 ∨ k = 7 by omega) with rfl | rfl | rfl | rfl | rfl | rfl | rfl | rfl
      · exact lv_neT hn0 (by decide)
      · exact lv_neT hn1 (by decide)
      · exact lv_neT hn2 (by decide)
      · exact lv_neT hn3 (by decide)
      · exact lv_neT hn4 (by decide)
      · exact lv_neT hn5 (by decide)
      · exact lv_neT hn6 (by decide)
      · exact lv_neT hn7 (by decide)
    · skip
      refine aw_aloadn (pc := 188) hX 0 rfl dX4_readLine_188 ?_
      refine aw_callV (pc := 189) (st := []) (a := v0) hX [] (con_X4_readHeard _ G _ v0 hy.bd) mc_X4_readHeard ml_X4_168 im_X4_readHeard se_X4_readHeard (by decide) hy.bd.kd rfl (rm_of hr (by decide)) (Nat.le_of_ble_eq_true rfl) rfl dX4_readLine_189 (kmI rfl rfl (fun q39 hy => ?_))
      exact aw_zret (pc := 192) hX hr (by decide) (by decide) dX4_readLine_192 hy.rz.1 ⟨_, rfl, hy.rz.2⟩
  · have hy := hy.f hc9
    refine aw_aloadn (pc := 82) hX 0 rfl dX4_readLine_82 ?_
    refine aw_iconst (pc := 83) hX 5 (by decide) dX4_readLine_83 ?_
    refine aw_callV (pc := 84) (st := []) (a := v0) hX [vI 5] (con_X4_fail _ G _ v0 5 hy.bd) mc_X4_fail ml_X4_105 im_X4_fail se_X4_fail (by decide) hy.bd.kd rfl (rm_of hr (by decide)) (Nat.le_of_ble_eq_true rfl) rfl dX4_readLine_84 (kmI rfl rfl (fun q42 hy => ?_))
    exact aw_zret (pc := 87) hX hr (by decide) (by decide) dX4_readLine_87 hy.rz.1 ⟨_, rfl, hy.rz.2⟩
def f_X4_readLine_48 (h : Mem) (v0 : Nat) (v1 : Int32) : Option (Int32 × Mem) :=
  (if v1 = 0 then f_X4_readLine_68 h v0 v1 else (gR h v0 5 3).bind fun r43 => (aI h r43 0).bind fun x44 => (if x44 = 0 then (f_X4_fail h v0 6).bind fun q47 => retZ q47.1 (q47.1, q47.2) else f_X4_readLine_68 h v0 v1))
set_option maxRecDepth 100000 in
set_option maxHeartbeats 4000000 in
theorem w_X4_readLine_48 {G : GE} {X : CX} {l : Launch} (hX : Ok G X cX4_readLine RX4) (hN : xn X = 2) {P : (Int32 × Mem) → Prop} (hr : Rt G X l yX4_readLine (some .boolean) rm_X4_readLine (pmI P)) (h : Mem) (v0 : Nat) (v1 : Int32) (hy : OK (f_X4_readLine_48 h v0 v1) P) : AW G X 48 [(0, vR v0), (1, vI v1)] [] h 0 0 := by
  unfold f_X4_readLine_48 at hy
  refine aw_iloadn (pc := 48) hX 1 rfl dX4_readLine_48 ?_
  refine aw_if_eq (pc := 49) hX 68 (by decide) dX4_readLine_49 (fun hc9 => ?_) (fun hc9 => ?_)
  · have hy := hy.t hc9
    exact w_X4_readLine_68 hX hN hr h v0 v1 hy
  · have hy := hy.f hc9
    refine aw_aloadn (pc := 52) hX 0 rfl dX4_readLine_52 ?_
    refine aw_gR (pc := 53) hX hy fl_X4_30 (fun _ _ => rfl) dX4_readLine_53 (fun r43 hy => ?_)
    refine aw_iconst (pc := 56) hX 0 (by decide) dX4_readLine_56 ?_
    refine aw_aI (pc := 57) hX hy dX4_readLine_57 (fun x44 hy => ?_)
    refine aw_if_ne (pc := 58) hX 68 (by decide) dX4_readLine_58 (fun hc9 => ?_) (fun hc9 => ?_)
    · have hy := hy.f hc9
      exact w_X4_readLine_68 hX hN hr h v0 v1 hy
    · have hy := hy.t hc9
      refine aw_aloadn (pc := 61) hX 0 rfl dX4_readLine_61 ?_
      refine aw_bipush (pc := 62) hX 6 (by decide) dX4_readLine_62 ?_
      refine aw_callV (pc := 64) (st := []) (a := v0) hX [vI 6] (con_X4_fail _ G _ v0 6 hy.bd) mc_X4_fail ml_X4_105 im_X4_fail se_X4_fail (by decide) hy.bd.kd rfl (rm_of hr (by decide)) (Nat.le_of_ble_eq_true rfl) rfl dX4_readLine_64 (kmI rfl rfl (fun q47 hy => ?_))
      exact aw_zret (pc := 67) hX hr (by decide) (by decide) dX4_readLine_67 hy.rz.1 ⟨_, rfl, hy.rz.2⟩
def f_X4_readLine (h : Mem) (v0 : Nat) : Option (Int32 × Mem) :=
  (ck h v0 3).bind fun _ => (gI h v0 13 3).bind fun x1 => (gI h v0 11 3).bind fun x2 => (if x2 = 1 then (if x1 < 0 then f_X4_readLine_23 h v0 else (if x1 < 9 then (if x1 = 0 then (gR h v0 5 3).bind fun r48 => (aI h r48 0).bind fun x49 => (if x49 ≤ 0 then f_X4_readLine_48 h v0 x1 else (f_X4_fail h v0 3).bind fun q52 => retZ q52.1 (q52.1, q52.2)) else f_X4_readLine_48 h v0 x1) else f_X4_readLine_23 h v0)) else f_X4_readLine_23 h v0)
set_option maxRecDepth 100000 in
set_option maxHeartbeats 4000000 in
theorem w_X4_readLine {G : GE} {X : CX} {l : Launch} (hX : Ok G X cX4_readLine RX4) (hN : xn X = 2) {P : (Int32 × Mem) → Prop} (hr : Rt G X l yX4_readLine (some .boolean) rm_X4_readLine (pmI P)) (h : Mem) (v0 : Nat) (hy : OK (f_X4_readLine h v0) P) : AW G X 0 [(0, vR v0)] [] h 0 0 := by
  unfold f_X4_readLine at hy
  have hkd := hy.kd
  have hy := hy.kb
  refine aw_aloadn (pc := 0) hX 0 rfl dX4_readLine_0 ?_
  refine aw_gI (pc := 1) hX hy fl_X4_138 (fun _ _ => rfl) dX4_readLine_1 (fun x1 hy => ?_)
  refine aw_istoren (pc := 4) hX [(1, vI x1), (0, vR v0)] rfl (lt_n hN (by decide)) dX4_readLine_4 ?_
  refine aw_aloadn (pc := 5) hX 1 rfl dX4_readLine_5 ?_
  refine aw_gI (pc := 6) hX hy fl_X4_99 (fun _ _ => rfl) dX4_readLine_6 (fun x2 hy => ?_)
  refine aw_iconst (pc := 9) hX 1 (by decide) dX4_readLine_9 ?_
  refine aw_ic_ne (pc := 10) hX 23 (by decide) dX4_readLine_10 (fun hc9 => ?_) (fun hc9 => ?_)
  · have hy := hy.f hc9
    refine AW.sub [1] rfl ?_
    exact w_X4_readLine_23 hX hN hr h v0 hy
  · have hy := hy.t hc9
    refine aw_iloadn (pc := 13) hX 0 rfl dX4_readLine_13 ?_
    refine aw_if_lt (pc := 14) hX 23 (by decide) dX4_readLine_14 (fun hc9 => ?_) (fun hc9 => ?_)
    · have hy := hy.t hc9
      refine AW.sub [1] rfl ?_
      exact w_X4_readLine_23 hX hN hr h v0 hy
    · have hy := hy.f hc9
      refine aw_iloadn (pc := 17) hX 0 rfl dX4_readLine_17 ?_
      refine aw_bipush (pc := 18) hX 9 (by decide) dX4_readLine_18 ?_
      refine aw_ic_lt (pc := 20) hX 29 (by decide) dX4_readLine_20 (fun hc9 => ?_) (fun hc9 => ?_)
      · have hy := hy.t hc9
        refine aw_iloadn (pc := 29) hX 0 rfl dX4_readLine_29 ?_
        refine aw_if_ne (pc := 30) hX 48 (by decide) dX4_readLine_30 (fun hc9 => ?_) (fun hc9 => ?_)
        · have hy := hy.f hc9
          refine AW.sub [1, 0] rfl ?_
          exact w_X4_readLine_48 hX hN hr h v0 x1 hy
        · have hy := hy.t hc9
          refine aw_aloadn (pc := 33) hX 1 rfl dX4_readLine_33 ?_
          refine aw_gR (pc := 34) hX hy fl_X4_30 (fun _ _ => rfl) dX4_readLine_34 (fun r48 hy => ?_)
          refine aw_iconst (pc := 37) hX 0 (by decide) dX4_readLine_37 ?_
          refine aw_aI (pc := 38) hX hy dX4_readLine_38 (fun x49 hy => ?_)
          refine aw_if_le (pc := 39) hX 48 (by decide) dX4_readLine_39 (fun hc9 => ?_) (fun hc9 => ?_)
          · have hy := hy.t hc9
            refine AW.sub [1, 0] rfl ?_
            exact w_X4_readLine_48 hX hN hr h v0 x1 hy
          · have hy := hy.f hc9
            refine aw_aloadn (pc := 42) hX 1 rfl dX4_readLine_42 ?_
            refine aw_iconst (pc := 43) hX 3 (by decide) dX4_readLine_43 ?_
            refine aw_callV (pc := 44) (st := []) (a := v0) hX [vI 3] (con_X4_fail _ G _ v0 3 hy.bd) mc_X4_fail ml_X4_105 im_X4_fail se_X4_fail (by decide) hy.bd.kd rfl (rm_of hr (by decide)) (Nat.le_of_ble_eq_true rfl) rfl dX4_readLine_44 (kmI rfl rfl (fun q52 hy => ?_))
            exact aw_zret (pc := 47) hX hr (by decide) (by decide) dX4_readLine_47 hy.rz.1 ⟨_, rfl, hy.rz.2⟩
      · have hy := hy.f hc9
        refine AW.sub [1] rfl ?_
        exact w_X4_readLine_23 hX hN hr h v0 hy
theorem con_X4_readLine (l : Launch) (G : GE) (h : Mem) (v0 : Nat) {P : (Int32 × Mem) → Prop} (hy : OK (f_X4_readLine h v0) P) : Con l G yX4_readLine cX4_readLine 2 (some .boolean) rm_X4_readLine [vR v0] h (pmI P) := Con.of (by decide) (Nat.le_of_ble_eq_true rfl) (fun X hX hr hN => w_X4_readLine hX hN hr h v0 hy)
/-! X4_read -/
theorem dX4_read_0 : decode cX4_read 0 = .ok (.aload_n 0, 1) := by decide +kernel
theorem dX4_read_1 : decode cX4_read 1 = .ok (.iload_n 1, 1) := by decide +kernel
theorem dX4_read_2 : decode cX4_read 2 = .ok (.invokevirtual 88, 3) := by decide +kernel
theorem dX4_read_5 : decode cX4_read 5 = .ok (.iconst 0, 1) := by decide +kernel
theorem dX4_read_6 : decode cX4_read 6 = .ok (.istore_n 2, 1) := by decide +kernel
theorem dX4_read_7 : decode cX4_read 7 = .ok (.iload_n 2, 1) := by decide +kernel
theorem dX4_read_8 : decode cX4_read 8 = .ok (.aload_n 0, 1) := by decide +kernel
theorem dX4_read_9 : decode cX4_read 9 = .ok (.getfield 92, 3) := by decide +kernel
theorem dX4_read_12 : decode cX4_read 12 = .ok (.if_icmp .gt 68, 3) := by decide +kernel
theorem dX4_read_15 : decode cX4_read 15 = .ok (.aload_n 0, 1) := by decide +kernel
theorem dX4_read_16 : decode cX4_read 16 = .ok (.invokevirtual 95, 3) := by decide +kernel
theorem dX4_read_19 : decode cX4_read 19 = .ok (.ifCond .ne 5, 3) := by decide +kernel
theorem dX4_read_22 : decode cX4_read 22 = .ok (.iconst 0, 1) := by decide +kernel
theorem dX4_read_23 : decode cX4_read 23 = .ok (.ireturn, 1) := by decide +kernel
theorem dX4_read_24 : decode cX4_read 24 = .ok (.aload_n 0, 1) := by decide +kernel
theorem dX4_read_25 : decode cX4_read 25 = .ok (.getfield 99, 3) := by decide +kernel
theorem dX4_read_28 : decode cX4_read 28 = .ok (.ifCond .ne 28, 3) := by decide +kernel
theorem dX4_read_31 : decode cX4_read 31 = .ok (.aload_n 0, 1) := by decide +kernel
theorem dX4_read_32 : decode cX4_read 32 = .ok (.getfield 34, 3) := by decide +kernel
theorem dX4_read_35 : decode cX4_read 35 = .ok (.getfield 102, 3) := by decide +kernel
theorem dX4_read_38 : decode cX4_read 38 = .ok (.ifCond .gt 12, 3) := by decide +kernel
theorem dX4_read_41 : decode cX4_read 41 = .ok (.aload_n 0, 1) := by decide +kernel
theorem dX4_read_42 : decode cX4_read 42 = .ok (.bipush 6, 2) := by decide +kernel
theorem dX4_read_44 : decode cX4_read 44 = .ok (.invokevirtual 105, 3) := by decide +kernel
theorem dX4_read_47 : decode cX4_read 47 = .ok (.ifCond .eq 7, 3) := by decide +kernel
theorem dX4_read_50 : decode cX4_read 50 = .ok (.iconst 1, 1) := by decide +kernel
theorem dX4_read_51 : decode cX4_read 51 = .ok (.goto 4, 3) := by decide +kernel
theorem dX4_read_54 : decode cX4_read 54 = .ok (.iconst 0, 1) := by decide +kernel
theorem dX4_read_55 : decode cX4_read 55 = .ok (.ireturn, 1) := by decide +kernel
theorem dX4_read_56 : decode cX4_read 56 = .ok (.aload_n 0, 1) := by decide +kernel
theorem dX4_read_57 : decode cX4_read 57 = .ok (.getfield 99, 3) := by decide +kernel
theorem dX4_read_60 : decode cX4_read 60 = .ok (.iconst 3, 1) := by decide +kernel
theorem dX4_read_61 : decode cX4_read 61 = .ok (.if_icmp .eq 9, 3) := by decide +kernel
theorem dX4_read_64 : decode cX4_read 64 = .ok (.aload_n 0, 1) := by decide +kernel
theorem dX4_read_65 : decode cX4_read 65 = .ok (.iconst 1, 1) := by decide +kernel
theorem dX4_read_66 : decode cX4_read 66 = .ok (.invokevirtual 105, 3) := by decide +kernel
theorem dX4_read_69 : decode cX4_read 69 = .ok (.ireturn, 1) := by decide +kernel
theorem dX4_read_70 : decode cX4_read 70 = .ok (.aload_n 0, 1) := by decide +kernel
theorem dX4_read_71 : decode cX4_read 71 = .ok (.invokevirtual 109, 3) := by decide +kernel
theorem dX4_read_74 : decode cX4_read 74 = .ok (.iinc 2 1, 3) := by decide +kernel
theorem dX4_read_77 : decode cX4_read 77 = .ok (.goto (-70), 3) := by decide +kernel
theorem dX4_read_80 : decode cX4_read 80 = .ok (.aload_n 0, 1) := by decide +kernel
theorem dX4_read_81 : decode cX4_read 81 = .ok (.iconst 1, 1) := by decide +kernel
theorem dX4_read_82 : decode cX4_read 82 = .ok (.invokevirtual 105, 3) := by decide +kernel
theorem dX4_read_85 : decode cX4_read 85 = .ok (.ireturn, 1) := by decide +kernel
abbrev rm_X4_read : Room := { frames := 5, cells := 0, slots := 0, locals := 113 }
def b_X4_read_7 (h : Mem) (v0 : Nat) (v2 : Int32) : Option ((Int32 × Mem) ⊕ (Mem ⊕ Mem ⊕ Mem ⊕ Mem)) :=
  (gI h v0 8 3).bind fun x2 => (if x2 < v2 then some (.inr (.inr (.inr (.inr h)))) else (f_X4_readLine h v0).bind fun q5 => (if q5.1 = 0 then some (.inr (.inl q5.2)) else (gI q5.2 v0 11 3).bind fun x6 => (if x6 = 0 then some (.inr (.inr (.inl q5.2))) else (gI q5.2 v0 11 3).bind fun x7 => (if x7 = 3 then (f_X4_step q5.2 v0).bind fun h8 => some (.inl ((v2 + 1), h8)) else some (.inr (.inr (.inr (.inl q5.2))))))))
set_option maxRecDepth 100000 in
set_option maxHeartbeats 4000000 in
theorem wb_X4_read_7 {G : GE} {X : CX} {l : Launch} (hX : Ok G X cX4_read RX4) (hN : xn X = 3) {P0 : (Int32 × Mem) → Prop} (hr : Rt G X l yX4_read (some .boolean) rm_X4_read (pmI P0))  (v0 : Nat) {P : ((Int32 × Mem) ⊕ (Mem ⊕ Mem ⊕ Mem ⊕ Mem)) → Prop} (hc : ∀ s, P (.inl s) → AW G X 7 [(0, vR v0), (2, vI s.1)] [] s.2 0 0) (he0 : ∀ e, P (.inr (.inl e)) → AW G X 22 [] [] e 0 0) (he1 : ∀ e, P (.inr (.inr (.inl e))) → AW G X 31 [(0, vR v0)] [] e 0 0) (he2 : ∀ e, P (.inr (.inr (.inr (.inl e)))) → AW G X 64 [(0, vR v0)] [] e 0 0) (he3 : ∀ e, P (.inr (.inr (.inr (.inr e)))) → AW G X 80 [(0, vR v0)] [] e 0 0) (h : Mem) (v2 : Int32) (hy : OK (b_X4_read_7 h v0 v2) P) : AW G X 7 [(0, vR v0), (2, vI v2)] [] h 0 0 := by
  unfold b_X4_read_7 at hy
  refine aw_iloadn (pc := 7) hX 1 rfl dX4_read_7 ?_
  refine aw_aloadn (pc := 8) hX 0 rfl dX4_read_8 ?_
  refine aw_gI (pc := 9) hX hy fl_X4_92 (fun _ _ => rfl) dX4_read_9 (fun x2 hy => ?_)
  refine aw_ic_gt (pc := 12) hX 80 (by decide) dX4_read_12 (fun hc9 => ?_) (fun hc9 => ?_)
  · have hy := hy.t hc9
    refine AW.sub [0] rfl ?_
    exact he3 h hy.s
  · have hy := hy.f hc9
    refine aw_aloadn (pc := 15) hX 0 rfl dX4_read_15 ?_
    refine aw_callV (pc := 16) (st := []) (a := v0) hX [] (con_X4_readLine _ G _ v0 hy.bd) mc_X4_readLine ml_X4_95 im_X4_readLine se_X4_readLine (by decide) hy.bd.kd rfl (rm_of hr (by decide)) (Nat.le_of_ble_eq_true rfl) rfl dX4_read_16 (kmI rfl rfl (fun q5 hy => ?_))
    refine aw_if_ne (pc := 19) hX 24 (by decide) dX4_read_19 (fun hc9 => ?_) (fun hc9 => ?_)
    · have hy := hy.f hc9
      refine aw_aloadn (pc := 24) hX 0 rfl dX4_read_24 ?_
      refine aw_gI (pc := 25) hX hy fl_X4_99 (fun _ _ => rfl) dX4_read_25 (fun x6 hy => ?_)
      refine aw_if_ne (pc := 28) hX 56 (by decide) dX4_read_28 (fun hc9 => ?_) (fun hc9 => ?_)
      · have hy := hy.f hc9
        refine aw_aloadn (pc := 56) hX 0 rfl dX4_read_56 ?_
        refine aw_gI (pc := 57) hX hy fl_X4_99 (fun _ _ => rfl) dX4_read_57 (fun x7 hy => ?_)
        refine aw_iconst (pc := 60) hX 3 (by decide) dX4_read_60 ?_
        refine aw_ic_eq (pc := 61) hX 70 (by decide) dX4_read_61 (fun hc9 => ?_) (fun hc9 => ?_)
        · have hy := hy.t hc9
          refine aw_aloadn (pc := 70) hX 0 rfl dX4_read_70 ?_
          refine aw_callV (pc := 71) (st := []) (a := v0) hX [] (con_X4_step _ G _ v0 hy.bd) mc_X4_step ml_X4_109 im_X4_step se_X4_step (by decide) hy.bd.kd rfl (rm_of hr (by decide)) (Nat.le_of_ble_eq_true rfl) rfl dX4_read_71 (kmV rfl rfl (fun h8 hy => ?_))
          refine aw_iinc (pc := 74) hX 1 (by decide) 1 rfl [(2, vI (v2 + 1)), (0, vR v0)] rfl (lt_n hN (by decide)) dX4_read_74 ?_
          refine aw_goto (pc := 77) hX 7 (by decide) dX4_read_77 ?_
          refine AW.sub [1, 0] rfl ?_
          exact hc ((v2 + 1), h8) hy.s
        · have hy := hy.f hc9
          refine AW.sub [0] rfl ?_
          exact he2 q5.2 hy.s
      · have hy := hy.t hc9
        refine AW.sub [0] rfl ?_
        exact he1 q5.2 hy.s
    · have hy := hy.t hc9
      refine AW.sub [] rfl ?_
      exact he0 q5.2 hy.s
theorem wl_X4_read_7 {G : GE} {X : CX} {l : Launch} (hX : Ok G X cX4_read RX4) (hN : xn X = 3) {P0 : (Int32 × Mem) → Prop} (hr : Rt G X l yX4_read (some .boolean) rm_X4_read (pmI P0)) (v0 : Nat) {P : (Mem ⊕ Mem ⊕ Mem ⊕ Mem) → Prop} (he0 : ∀ e, P (.inl e) → AW G X 22 [] [] e 0 0) (he1 : ∀ e, P (.inr (.inl e)) → AW G X 31 [(0, vR v0)] [] e 0 0) (he2 : ∀ e, P (.inr (.inr (.inl e))) → AW G X 64 [(0, vR v0)] [] e 0 0) (he3 : ∀ e, P (.inr (.inr (.inr e))) → AW G X 80 [(0, vR v0)] [] e 0 0) : ∀ (n : Nat) (s : Int32 × Mem), OK (iter (fun (s : Int32 × Mem) => b_X4_read_7 s.2 v0 s.1) n s) P → AW G X 7 [(0, vR v0), (2, vI s.1)] [] s.2 0 0 := by
  intro n
  induction n with
  | zero => exact fun s hy => hy.it0.elim
  | succ n ih =>
    intro s hy
    exact wb_X4_read_7 hX hN hr v0 (fun s hs => ih s hs) (fun e hs => he0 e hs) (fun e hs => he1 e hs) (fun e hs => he2 e hs) (fun e hs => he3 e hs) s.2 s.1 hy.it
def f_X4_read_50 (h : Mem) : Option (Int32 × Mem) :=
  some (1, h)
set_option maxRecDepth 100000 in
set_option maxHeartbeats 4000000 in
theorem w_X4_read_50 {G : GE} {X : CX} {l : Launch} (hX : Ok G X cX4_read RX4) (hN : xn X = 3) {P : (Int32 × Mem) → Prop} (hr : Rt G X l yX4_read (some .boolean) rm_X4_read (pmI P)) (h : Mem) (hy : OK (f_X4_read_50 h) P) : AW G X 50 [] [] h 0 0 := by
  unfold f_X4_read_50 at hy
  refine aw_iconst (pc := 50) hX 1 (by decide) dX4_read_50 ?_
  refine aw_goto (pc := 51) hX 55 (by decide) dX4_read_51 ?_
  exact aw_zret (pc := 55) hX hr (by decide) (by decide) dX4_read_55 (Or.inr rfl) ⟨_, rfl, hy.s⟩
def f_X4_read (h : Mem) (v0 : Nat) (v1 : Int32) : Option (Int32 × Mem) :=
  (ck h v0 3).bind fun _ => (f_X4_begin h v0 v1).bind fun h1 => (iter (fun (s : Int32 × Mem) => b_X4_read_7 s.2 v0 s.1) FU (0, h1)).bind (Sum.elim (fun e10 => some (0, e10)) (Sum.elim (fun e11 => (gR e11 v0 6 3).bind fun r12 => (gI e11 r12 2 4).bind fun x13 => (if 0 < x13 then f_X4_read_50 e11 else (f_X4_fail e11 v0 6).bind fun q16 => (if q16.1 = 0 then some (0, q16.2) else f_X4_read_50 q16.2))) (Sum.elim (fun e17 => (f_X4_fail e17 v0 1).bind fun q20 => retZ q20.1 (q20.1, q20.2)) (fun e21 => (f_X4_fail e21 v0 1).bind fun q24 => retZ q24.1 (q24.1, q24.2)))))
set_option maxRecDepth 100000 in
set_option maxHeartbeats 4000000 in
theorem w_X4_read {G : GE} {X : CX} {l : Launch} (hX : Ok G X cX4_read RX4) (hN : xn X = 3) {P : (Int32 × Mem) → Prop} (hr : Rt G X l yX4_read (some .boolean) rm_X4_read (pmI P)) (h : Mem) (v0 : Nat) (v1 : Int32) (hy : OK (f_X4_read h v0 v1) P) : AW G X 0 [(0, vR v0), (1, vI v1)] [] h 0 0 := by
  unfold f_X4_read at hy
  have hkd := hy.kd
  have hy := hy.kb
  refine aw_aloadn (pc := 0) hX 0 rfl dX4_read_0 ?_
  refine aw_iloadn (pc := 1) hX 1 rfl dX4_read_1 ?_
  refine aw_callV (pc := 2) (st := []) (a := v0) hX [vI v1] (con_X4_begin _ G _ v0 v1 hy.bd) mc_X4_begin ml_X4_88 im_X4_begin se_X4_begin (by decide) hy.bd.kd rfl (rm_of hr (by decide)) (Nat.le_of_ble_eq_true rfl) rfl dX4_read_2 (kmV rfl rfl (fun h1 hy => ?_))
  refine aw_iconst (pc := 5) hX 0 (by decide) dX4_read_5 ?_
  refine aw_istoren (pc := 6) hX [(2, vI 0), (0, vR v0), (1, vI v1)] rfl (lt_n hN (by decide)) dX4_read_6 ?_
  refine AW.sub [1, 0] rfl ?_
  refine wl_X4_read_7 hX hN hr v0 ?_ ?_ ?_ ?_ FU (0, h1) hy.bd
  · intro e10 hy
    refine aw_iconst (pc := 22) hX 0 (by decide) dX4_read_22 ?_
    exact aw_zret (pc := 23) hX hr (by decide) (by decide) dX4_read_23 (Or.inl rfl) ⟨_, rfl, hy.s⟩
  · intro e11 hy
    refine aw_aloadn (pc := 31) hX 0 rfl dX4_read_31 ?_
    refine aw_gR (pc := 32) hX hy fl_X4_34 (fun _ _ => rfl) dX4_read_32 (fun r12 hy => ?_)
    refine aw_gI (pc := 35) hX hy fl_X4_102 (fun _ _ => rfl) dX4_read_35 (fun x13 hy => ?_)
    refine aw_if_gt (pc := 38) hX 50 (by decide) dX4_read_38 (fun hc9 => ?_) (fun hc9 => ?_)
    · have hy := hy.t hc9
      refine AW.sub [] rfl ?_
      exact w_X4_read_50 hX hN hr e11 hy
    · have hy := hy.f hc9
      refine aw_aloadn (pc := 41) hX 0 rfl dX4_read_41 ?_
      refine aw_bipush (pc := 42) hX 6 (by decide) dX4_read_42 ?_
      refine aw_callV (pc := 44) (st := []) (a := v0) hX [vI 6] (con_X4_fail _ G _ v0 6 hy.bd) mc_X4_fail ml_X4_105 im_X4_fail se_X4_fail (by decide) hy.bd.kd rfl (rm_of hr (by decide)) (Nat.le_of_ble_eq_true rfl) rfl dX4_read_44 (kmI rfl rfl (fun q16 hy => ?_))
      refine aw_if_eq (pc := 47) hX 54 (by decide) dX4_read_47 (fun hc9 => ?_) (fun hc9 => ?_)
      · have hy := hy.t hc9
        refine aw_iconst (pc := 54) hX 0 (by decide) dX4_read_54 ?_
        exact aw_zret (pc := 55) hX hr (by decide) (by decide) dX4_read_55 (Or.inl rfl) ⟨_, rfl, hy.s⟩
      · have hy := hy.f hc9
        refine AW.sub [] rfl ?_
        exact w_X4_read_50 hX hN hr q16.2 hy
  · intro e17 hy
    refine aw_aloadn (pc := 64) hX 0 rfl dX4_read_64 ?_
    refine aw_iconst (pc := 65) hX 1 (by decide) dX4_read_65 ?_
    refine aw_callV (pc := 66) (st := []) (a := v0) hX [vI 1] (con_X4_fail _ G _ v0 1 hy.bd) mc_X4_fail ml_X4_105 im_X4_fail se_X4_fail (by decide) hy.bd.kd rfl (rm_of hr (by decide)) (Nat.le_of_ble_eq_true rfl) rfl dX4_read_66 (kmI rfl rfl (fun q20 hy => ?_))
    exact aw_zret (pc := 69) hX hr (by decide) (by decide) dX4_read_69 hy.rz.1 ⟨_, rfl, hy.rz.2⟩
  · intro e21 hy
    refine aw_aloadn (pc := 80) hX 0 rfl dX4_read_80 ?_
    refine aw_iconst (pc := 81) hX 1 (by decide) dX4_read_81 ?_
    refine aw_callV (pc := 82) (st := []) (a := v0) hX [vI 1] (con_X4_fail _ G _ v0 1 hy.bd) mc_X4_fail ml_X4_105 im_X4_fail se_X4_fail (by decide) hy.bd.kd rfl (rm_of hr (by decide)) (Nat.le_of_ble_eq_true rfl) rfl dX4_read_82 (kmI rfl rfl (fun q24 hy => ?_))
    exact aw_zret (pc := 85) hX hr (by decide) (by decide) dX4_read_85 hy.rz.1 ⟨_, rfl, hy.rz.2⟩
theorem con_X4_read (l : Launch) (G : GE) (h : Mem) (v0 : Nat) (v1 : Int32) {P : (Int32 × Mem) → Prop} (hy : OK (f_X4_read h v0 v1) P) : Con l G yX4_read cX4_read 3 (some .boolean) rm_X4_read [vR v0, vI v1] h (pmI P) := Con.of (by decide) (Nat.le_of_ble_eq_true rfl) (fun X hX hr hN => w_X4_read hX hN hr h v0 v1 hy)
/-! X5_innPart -/
theorem dX5_innPart_0 : decode cX5_innPart 0 = .ok (.aload_n 0, 1) := by decide +kernel
theorem dX5_innPart_1 : decode cX5_innPart 1 = .ok (.getfield 33, 3) := by decide +kernel
theorem dX5_innPart_4 : decode cX5_innPart 4 = .ok (.iload_n 1, 1) := by decide +kernel
theorem dX5_innPart_5 : decode cX5_innPart 5 = .ok (.iconst 4, 1) := by decide +kernel
theorem dX5_innPart_6 : decode cX5_innPart 6 = .ok (.imul, 1) := by decide +kernel
theorem dX5_innPart_7 : decode cX5_innPart 7 = .ok (.iload_n 2, 1) := by decide +kernel
theorem dX5_innPart_8 : decode cX5_innPart 8 = .ok (.iadd, 1) := by decide +kernel
theorem dX5_innPart_9 : decode cX5_innPart 9 = .ok (.iaload, 1) := by decide +kernel
theorem dX5_innPart_10 : decode cX5_innPart 10 = .ok (.ireturn, 1) := by decide +kernel
abbrev rm_X5_innPart : Room := { frames := 0, cells := 0, slots := 0, locals := 0 }
def f_X5_innPart (h : Mem) (v0 : Nat) (v1 : Int32) (v2 : Int32) : Option Int32 :=
  (ck h v0 4).bind fun _ => (gR h v0 16 4).bind fun r1 => (aI h r1 ((v1 * 4) + v2)).bind fun x2 => some x2
set_option maxRecDepth 100000 in
set_option maxHeartbeats 4000000 in
theorem w_X5_innPart {G : GE} {X : CX} {l : Launch} (hX : Ok G X cX5_innPart RX5) (hN : xn X = 3) (h : Mem) {P : Int32 → Prop} (hr : Rt G X l yX5_innPart (some .int) rm_X5_innPart (ppI h P)) (v0 : Nat) (v1 : Int32) (v2 : Int32) (hy : OK (f_X5_innPart h v0 v1 v2) P) : AW G X 0 [(0, vR v0), (1, vI v1), (2, vI v2)] [] h 0 0 := by
  unfold f_X5_innPart at hy
  have hkd := hy.kd
  have hy := hy.kb
  refine aw_aloadn (pc := 0) hX 0 rfl dX5_innPart_0 ?_
  refine aw_gR (pc := 1) hX hy fl_X5_33 (fun _ _ => rfl) dX5_innPart_1 (fun r1 hy => ?_)
  refine aw_iloadn (pc := 4) hX 1 rfl dX5_innPart_4 ?_
  refine aw_iconst (pc := 5) hX 4 (by decide) dX5_innPart_5 ?_
  refine aw_imul (pc := 6) hX dX5_innPart_6 ?_
  refine aw_iloadn (pc := 7) hX 2 rfl dX5_innPart_7 ?_
  refine aw_iadd (pc := 8) hX dX5_innPart_8 ?_
  refine aw_aI (pc := 9) hX hy dX5_innPart_9 (fun x2 hy => ?_)
  exact aw_iret (pc := 10) hX hr (by decide) (by decide) dX5_innPart_10 ⟨rfl, _, rfl, hy.s⟩
theorem con_X5_innPart (l : Launch) (G : GE) (h : Mem) (v0 : Nat) (v1 : Int32) (v2 : Int32) {P : Int32 → Prop} (hy : OK (f_X5_innPart h v0 v1 v2) P) : Con l G yX5_innPart cX5_innPart 3 (some .int) rm_X5_innPart [vR v0, vI v1, vI v2] h (ppI h P) := Con.of (by decide) (Nat.le_of_ble_eq_true rfl) (fun X hX hr hN => w_X5_innPart hX hN h hr v0 v1 v2 hy)
/-! X5_heardAsBits -/
theorem dX5_heardAsBits_0 : decode cX5_heardAsBits 0 = .ok (.iconst 0, 1) := by decide +kernel
theorem dX5_heardAsBits_1 : decode cX5_heardAsBits 1 = .ok (.istore_n 1, 1) := by decide +kernel
theorem dX5_heardAsBits_2 : decode cX5_heardAsBits 2 = .ok (.iconst 0, 1) := by decide +kernel
theorem dX5_heardAsBits_3 : decode cX5_heardAsBits 3 = .ok (.istore_n 2, 1) := by decide +kernel
theorem dX5_heardAsBits_4 : decode cX5_heardAsBits 4 = .ok (.iload_n 2, 1) := by decide +kernel
theorem dX5_heardAsBits_5 : decode cX5_heardAsBits 5 = .ok (.aload_n 0, 1) := by decide +kernel
theorem dX5_heardAsBits_6 : decode cX5_heardAsBits 6 = .ok (.getfield 72, 3) := by decide +kernel
theorem dX5_heardAsBits_9 : decode cX5_heardAsBits 9 = .ok (.if_icmp .ge 20, 3) := by decide +kernel
theorem dX5_heardAsBits_12 : decode cX5_heardAsBits 12 = .ok (.iload_n 1, 1) := by decide +kernel
theorem dX5_heardAsBits_13 : decode cX5_heardAsBits 13 = .ok (.iconst 1, 1) := by decide +kernel
theorem dX5_heardAsBits_14 : decode cX5_heardAsBits 14 = .ok (.aload_n 0, 1) := by decide +kernel
theorem dX5_heardAsBits_15 : decode cX5_heardAsBits 15 = .ok (.getfield 36, 3) := by decide +kernel
theorem dX5_heardAsBits_18 : decode cX5_heardAsBits 18 = .ok (.iload_n 2, 1) := by decide +kernel
theorem dX5_heardAsBits_19 : decode cX5_heardAsBits 19 = .ok (.iaload, 1) := by decide +kernel
theorem dX5_heardAsBits_20 : decode cX5_heardAsBits 20 = .ok (.ishl, 1) := by decide +kernel
theorem dX5_heardAsBits_21 : decode cX5_heardAsBits 21 = .ok (.ior, 1) := by decide +kernel
theorem dX5_heardAsBits_22 : decode cX5_heardAsBits 22 = .ok (.istore_n 1, 1) := by decide +kernel
theorem dX5_heardAsBits_23 : decode cX5_heardAsBits 23 = .ok (.iinc 2 1, 3) := by decide +kernel
theorem dX5_heardAsBits_26 : decode cX5_heardAsBits 26 = .ok (.goto (-22), 3) := by decide +kernel
theorem dX5_heardAsBits_29 : decode cX5_heardAsBits 29 = .ok (.iload_n 1, 1) := by decide +kernel
theorem dX5_heardAsBits_30 : decode cX5_heardAsBits 30 = .ok (.ireturn, 1) := by decide +kernel
abbrev rm_X5_heardAsBits : Room := { frames := 0, cells := 0, slots := 0, locals := 0 }
def b_X5_heardAsBits_4 (h : Mem) (v0 : Nat) (v1 : Int32) (v2 : Int32) : Option ((Int32 × Int32) ⊕ Int32) :=
  (gI h v0 8 4).bind fun x1 => (if x1 ≤ v2 then some (.inr v1) else (gR h v0 17 4).bind fun r2 => (aI h r2 v2).bind fun x3 => some (.inl ((v1 ||| ((1 : Int32) <<< (x3 &&& 31))), (v2 + 1))))
set_option maxRecDepth 100000 in
set_option maxHeartbeats 4000000 in
theorem wb_X5_heardAsBits_4 {G : GE} {X : CX} {l : Launch} (hX : Ok G X cX5_heardAsBits RX5) (hN : xn X = 3) (h : Mem) {P0 : Int32 → Prop} (hr : Rt G X l yX5_heardAsBits (some .int) rm_X5_heardAsBits (ppI h P0))  (v0 : Nat) {P : ((Int32 × Int32) ⊕ Int32) → Prop} (hc : ∀ s, P (.inl s) → AW G X 4 [(0, vR v0), (1, vI s.1), (2, vI s.2)] [] h 0 0) (he0 : ∀ e, P (.inr e) → AW G X 29 [(1, vI e)] [] h 0 0) (v1 : Int32) (v2 : Int32) (hy : OK (b_X5_heardAsBits_4 h v0 v1 v2) P) : AW G X 4 [(0, vR v0), (1, vI v1), (2, vI v2)] [] h 0 0 := by
  unfold b_X5_heardAsBits_4 at hy
  refine aw_iloadn (pc := 4) hX 2 rfl dX5_heardAsBits_4 ?_
  refine aw_aloadn (pc := 5) hX 0 rfl dX5_heardAsBits_5 ?_
  refine aw_gI (pc := 6) hX hy fl_X5_72 (fun _ _ => rfl) dX5_heardAsBits_6 (fun x1 hy => ?_)
  refine aw_ic_ge (pc := 9) hX 29 (by decide) dX5_heardAsBits_9 (fun hc9 => ?_) (fun hc9 => ?_)
  · have hy := hy.t hc9
    refine AW.sub [1] rfl ?_
    exact he0 v1 hy.s
  · have hy := hy.f hc9
    refine aw_iloadn (pc := 12) hX 1 rfl dX5_heardAsBits_12 ?_
    refine aw_iconst (pc := 13) hX 1 (by decide) dX5_heardAsBits_13 ?_
    refine aw_aloadn (pc := 14) hX 0 rfl dX5_heardAsBits_14 ?_
    refine aw_gR (pc := 15) hX hy fl_X5_36 (fun _ _ => rfl) dX5_heardAsBits_15 (fun r2 hy => ?_)
    refine aw_iloadn (pc := 18) hX 2 rfl dX5_heardAsBits_18 ?_
    refine aw_aI (pc := 19) hX hy dX5_heardAsBits_19 (fun x3 hy => ?_)
    refine aw_ishl (pc := 20) hX dX5_heardAsBits_20 ?_
    refine aw_ior (pc := 21) hX dX5_heardAsBits_21 ?_
    refine aw_istoren (pc := 22) hX [(1, vI (v1 ||| ((1 : Int32) <<< (x3 &&& 31)))), (0, vR v0), (2, vI v2)] rfl (lt_n hN (by decide)) dX5_heardAsBits_22 ?_
    refine aw_iinc (pc := 23) hX 1 (by decide) 2 rfl [(2, vI (v2 + 1)), (1, vI (v1 ||| ((1 : Int32) <<< (x3 &&& 31)))), (0, vR v0)] rfl (lt_n hN (by decide)) dX5_heardAsBits_23 ?_
    refine aw_goto (pc := 26) hX 4 (by decide) dX5_heardAsBits_26 ?_
    refine AW.sub [2, 1, 0] rfl ?_
    exact hc ((v1 ||| ((1 : Int32) <<< (x3 &&& 31))), (v2 + 1)) hy.s
theorem wl_X5_heardAsBits_4 {G : GE} {X : CX} {l : Launch} (hX : Ok G X cX5_heardAsBits RX5) (hN : xn X = 3) (h : Mem) {P0 : Int32 → Prop} (hr : Rt G X l yX5_heardAsBits (some .int) rm_X5_heardAsBits (ppI h P0)) (v0 : Nat) {P : (Int32) → Prop} (he0 : ∀ e, P e → AW G X 29 [(1, vI e)] [] h 0 0) : ∀ (n : Nat) (s : Int32 × Int32), OK (iter (fun (s : Int32 × Int32) => b_X5_heardAsBits_4 h v0 s.1 s.2) n s) P → AW G X 4 [(0, vR v0), (1, vI s.1), (2, vI s.2)] [] h 0 0 := by
  intro n
  induction n with
  | zero => exact fun s hy => hy.it0.elim
  | succ n ih =>
    intro s hy
    exact wb_X5_heardAsBits_4 hX hN h hr v0 (fun s hs => ih s hs) (fun e hs => he0 e hs) s.1 s.2 hy.it
def f_X5_heardAsBits (h : Mem) (v0 : Nat) : Option Int32 :=
  (ck h v0 4).bind fun _ => (iter (fun (s : Int32 × Int32) => b_X5_heardAsBits_4 h v0 s.1 s.2) FU (0, 0)).bind (fun q4 => some q4)
set_option maxRecDepth 100000 in
set_option maxHeartbeats 4000000 in
theorem w_X5_heardAsBits {G : GE} {X : CX} {l : Launch} (hX : Ok G X cX5_heardAsBits RX5) (hN : xn X = 3) (h : Mem) {P : Int32 → Prop} (hr : Rt G X l yX5_heardAsBits (some .int) rm_X5_heardAsBits (ppI h P)) (v0 : Nat) (hy : OK (f_X5_heardAsBits h v0) P) : AW G X 0 [(0, vR v0)] [] h 0 0 := by
  unfold f_X5_heardAsBits at hy
  have hkd := hy.kd
  have hy := hy.kb
  refine aw_iconst (pc := 0) hX 0 (by decide) dX5_heardAsBits_0 ?_
  refine aw_istoren (pc := 1) hX [(1, vI 0), (0, vR v0)] rfl (lt_n hN (by decide)) dX5_heardAsBits_1 ?_
  refine aw_iconst (pc := 2) hX 0 (by decide) dX5_heardAsBits_2 ?_
  refine aw_istoren (pc := 3) hX [(2, vI 0), (1, vI 0), (0, vR v0)] rfl (lt_n hN (by decide)) dX5_heardAsBits_3 ?_
  refine AW.sub [2, 1, 0] rfl ?_
  refine wl_X5_heardAsBits_4 hX hN _ hr v0 ?_ FU (0, 0) hy.bd
  · intro q4 hy
    refine aw_iloadn (pc := 29) hX 0 rfl dX5_heardAsBits_29 ?_
    exact aw_iret (pc := 30) hX hr (by decide) (by decide) dX5_heardAsBits_30 ⟨rfl, _, rfl, hy.s⟩
theorem con_X5_heardAsBits (l : Launch) (G : GE) (h : Mem) (v0 : Nat) {P : Int32 → Prop} (hy : OK (f_X5_heardAsBits h v0) P) : Con l G yX5_heardAsBits cX5_heardAsBits 3 (some .int) rm_X5_heardAsBits [vR v0] h (ppI h P) := Con.of (by decide) (Nat.le_of_ble_eq_true rfl) (fun X hX hr hN => w_X5_heardAsBits hX hN h hr v0 hy)
/-! X6_init -/
theorem dX6_init_0 : decode cX6_init 0 = .ok (.aload_n 0, 1) := by decide +kernel
theorem dX6_init_1 : decode cX6_init 1 = .ok (.invokespecial 5, 3) := by decide +kernel
theorem dX6_init_4 : decode cX6_init 4 = .ok (.aload_n 0, 1) := by decide +kernel
theorem dX6_init_5 : decode cX6_init 5 = .ok (.bipush 42, 2) := by decide +kernel
theorem dX6_init_7 : decode cX6_init 7 = .ok (.newarray .int, 2) := by decide +kernel
theorem dX6_init_9 : decode cX6_init 9 = .ok (.putfield 13, 3) := by decide +kernel
theorem dX6_init_12 : decode cX6_init 12 = .ok (.aload_n 0, 1) := by decide +kernel
theorem dX6_init_13 : decode cX6_init 13 = .ok (.sipush 448, 3) := by decide +kernel
theorem dX6_init_16 : decode cX6_init 16 = .ok (.newarray .int, 2) := by decide +kernel
theorem dX6_init_18 : decode cX6_init 18 = .ok (.putfield 17, 3) := by decide +kernel
theorem dX6_init_21 : decode cX6_init 21 = .ok (.aload_n 0, 1) := by decide +kernel
theorem dX6_init_22 : decode cX6_init 22 = .ok (.sipush 448, 3) := by decide +kernel
theorem dX6_init_25 : decode cX6_init 25 = .ok (.newarray .int, 2) := by decide +kernel
theorem dX6_init_27 : decode cX6_init 27 = .ok (.putfield 20, 3) := by decide +kernel
theorem dX6_init_30 : decode cX6_init 30 = .ok (.return_, 1) := by decide +kernel
abbrev rm_X6_init : Room := { frames := 1, cells := 3, slots := 938, locals := 20 }
def f_X6_init (h : Mem) (v0 : Nat) : Option Mem :=
  (ck h v0 5).bind fun _ => (pR (mNew h 100 42) v0 0 5 (mN h)).bind fun h1 => (pR (mNew h1 100 448) v0 1 5 (mN h1)).bind fun h2 => (pR (mNew h2 100 448) v0 2 5 (mN h2)).bind fun h3 => some h3
set_option maxRecDepth 100000 in
set_option maxHeartbeats 4000000 in
theorem w_X6_init {G : GE} {X : CX} {l : Launch} (hX : Ok G X cX6_init RX6) (hN : xn X = 1) {P : Mem → Prop} (hr : Rt G X l yX6_init none rm_X6_init (pmV P)) (h : Mem) (v0 : Nat) (hy : OK (f_X6_init h v0) P) : AW G X 0 [(0, vR v0)] [] h 0 0 := by
  unfold f_X6_init at hy
  have hkd := hy.kd
  have hy := hy.kb
  refine aw_aloadn (pc := 0) hX 0 rfl dX6_init_0 ?_
  refine aw_objInit0 (pc := 1) hX hkd oi_X6_5 oi_i oi_c (by decide) (Nat.le_of_ble_eq_true rfl) (le_f hr (by decide)) (le_l hr (by decide)) dX6_init_1 ?_
  refine aw_aloadn (pc := 4) hX 0 rfl dX6_init_4 ?_
  refine aw_bipush (pc := 5) hX 42 (by decide) dX6_init_5 ?_
  refine aw_newi (pc := 7) hX 42 42 (by decide) (by decide) (by decide) ar_int (le_c hr (by decide)) (le_s hr (by decide)) dX6_init_7 ?_
  refine AW.eqa (ce' := 1) (sl' := 42) rfl rfl ?_
  refine aw_pR (pc := 9) hX hy fl_X6_13 rfl (Or.inr ⟨rfl, hr.2.2.2.1, rfl, fw_X6_13⟩) dX6_init_9 (fun h1 hy => ?_)
  refine aw_aloadn (pc := 12) hX 0 rfl dX6_init_12 ?_
  refine aw_sipush (pc := 13) hX 448 (by decide) dX6_init_13 ?_
  refine aw_newi (pc := 16) hX 448 448 (by decide) (by decide) (by decide) ar_int (le_c hr (by decide)) (le_s hr (by decide)) dX6_init_16 ?_
  refine AW.eqa (ce' := 2) (sl' := 490) rfl rfl ?_
  refine aw_pR (pc := 18) hX hy fl_X6_17 rfl (Or.inr ⟨rfl, hr.2.2.2.1, rfl, fw_X6_17⟩) dX6_init_18 (fun h2 hy => ?_)
  refine aw_aloadn (pc := 21) hX 0 rfl dX6_init_21 ?_
  refine aw_sipush (pc := 22) hX 448 (by decide) dX6_init_22 ?_
  refine aw_newi (pc := 25) hX 448 448 (by decide) (by decide) (by decide) ar_int (le_c hr (by decide)) (le_s hr (by decide)) dX6_init_25 ?_
  refine AW.eqa (ce' := 3) (sl' := 938) rfl rfl ?_
  refine aw_pR (pc := 27) hX hy fl_X6_20 rfl (Or.inr ⟨rfl, hr.2.2.2.1, rfl, fw_X6_20⟩) dX6_init_27 (fun h3 hy => ?_)
  exact aw_vret (pc := 30) hX hr (by decide) (by decide) dX6_init_30 ⟨rfl, hy.s⟩
theorem con_X6_init (l : Launch) (G : GE) (h : Mem) (v0 : Nat) {P : Mem → Prop} (hy : OK (f_X6_init h v0) P) : Con l G yX6_init cX6_init 1 none rm_X6_init [vR v0] h (pmV P) := Con.of (by decide) (Nat.le_of_ble_eq_true rfl) (fun X hX hr hN => w_X6_init hX hN hr h v0 hy)
/-! X6_isAlike -/
theorem dX6_isAlike_0 : decode cX6_isAlike 0 = .ok (.iconst 0, 1) := by decide +kernel
theorem dX6_isAlike_1 : decode cX6_isAlike 1 = .ok (.istore 5, 2) := by decide +kernel
theorem dX6_isAlike_3 : decode cX6_isAlike 3 = .ok (.iload 5, 2) := by decide +kernel
theorem dX6_isAlike_5 : decode cX6_isAlike 5 = .ok (.iload 4, 2) := by decide +kernel
theorem dX6_isAlike_7 : decode cX6_isAlike 7 = .ok (.if_icmp .ge 30, 3) := by decide +kernel
theorem dX6_isAlike_10 : decode cX6_isAlike 10 = .ok (.aload_n 0, 1) := by decide +kernel
theorem dX6_isAlike_11 : decode cX6_isAlike 11 = .ok (.iload_n 1, 1) := by decide +kernel
theorem dX6_isAlike_12 : decode cX6_isAlike 12 = .ok (.iload_n 2, 1) := by decide +kernel
theorem dX6_isAlike_13 : decode cX6_isAlike 13 = .ok (.iload 5, 2) := by decide +kernel
theorem dX6_isAlike_15 : decode cX6_isAlike 15 = .ok (.iadd, 1) := by decide +kernel
theorem dX6_isAlike_16 : decode cX6_isAlike 16 = .ok (.invokevirtual 36, 3) := by decide +kernel
theorem dX6_isAlike_19 : decode cX6_isAlike 19 = .ok (.aload_n 0, 1) := by decide +kernel
theorem dX6_isAlike_20 : decode cX6_isAlike 20 = .ok (.iload_n 3, 1) := by decide +kernel
theorem dX6_isAlike_21 : decode cX6_isAlike 21 = .ok (.iload 5, 2) := by decide +kernel
theorem dX6_isAlike_23 : decode cX6_isAlike 23 = .ok (.invokevirtual 36, 3) := by decide +kernel
theorem dX6_isAlike_26 : decode cX6_isAlike 26 = .ok (.if_icmp .eq 5, 3) := by decide +kernel
theorem dX6_isAlike_29 : decode cX6_isAlike 29 = .ok (.iconst 0, 1) := by decide +kernel
theorem dX6_isAlike_30 : decode cX6_isAlike 30 = .ok (.ireturn, 1) := by decide +kernel
theorem dX6_isAlike_31 : decode cX6_isAlike 31 = .ok (.iinc 5 1, 3) := by decide +kernel
theorem dX6_isAlike_34 : decode cX6_isAlike 34 = .ok (.goto (-31), 3) := by decide +kernel
theorem dX6_isAlike_37 : decode cX6_isAlike 37 = .ok (.iconst 1, 1) := by decide +kernel
theorem dX6_isAlike_38 : decode cX6_isAlike 38 = .ok (.ireturn, 1) := by decide +kernel
abbrev rm_X6_isAlike : Room := { frames := 1, cells := 0, slots := 0, locals := 22 }
def b_X6_isAlike_3 (h : Mem) (v0 : Nat) (v1 : Int32) (v2 : Int32) (v3 : Int32) (v4 : Int32) (v5 : Int32) : Option (Int32 ⊕ (Unit ⊕ Unit)) :=
  (if v4 ≤ v5 then some (.inr (.inr ())) else (f_X5_note h v0 v1 (v2 + v5)).bind fun x1 => (f_X5_note h v0 v3 v5).bind fun x2 => (if x1 = x2 then some (.inl (v5 + 1)) else some (.inr (.inl ()))))
set_option maxRecDepth 100000 in
set_option maxHeartbeats 4000000 in
theorem wb_X6_isAlike_3 {G : GE} {X : CX} {l : Launch} (hX : Ok G X cX6_isAlike RX6) (hN : xn X = 6) (h : Mem) {P0 : Int32 → Prop} (hr : Rt G X l yX6_isAlike (some .boolean) rm_X6_isAlike (ppI h P0))  (v0 : Nat) (v1 : Int32) (v2 : Int32) (v3 : Int32) (v4 : Int32) {P : (Int32 ⊕ (Unit ⊕ Unit)) → Prop} (hc : ∀ s, P (.inl s) → AW G X 3 [(0, vR v0), (1, vI v1), (2, vI v2), (3, vI v3), (4, vI v4), (5, vI s)] [] h 0 0) (he0 : ∀ e, P (.inr (.inl e)) → AW G X 29 [] [] h 0 0) (he1 : ∀ e, P (.inr (.inr e)) → AW G X 37 [] [] h 0 0) (v5 : Int32) (hy : OK (b_X6_isAlike_3 h v0 v1 v2 v3 v4 v5) P) : AW G X 3 [(0, vR v0), (1, vI v1), (2, vI v2), (3, vI v3), (4, vI v4), (5, vI v5)] [] h 0 0 := by
  unfold b_X6_isAlike_3 at hy
  refine aw_iload (pc := 3) hX 5 rfl dX6_isAlike_3 ?_
  refine aw_iload (pc := 5) hX 4 rfl dX6_isAlike_5 ?_
  refine aw_ic_ge (pc := 7) hX 37 (by decide) dX6_isAlike_7 (fun hc9 => ?_) (fun hc9 => ?_)
  · have hy := hy.t hc9
    refine AW.sub [] rfl ?_
    exact he1 () hy.s
  · have hy := hy.f hc9
    refine aw_aloadn (pc := 10) hX 0 rfl dX6_isAlike_10 ?_
    refine aw_iloadn (pc := 11) hX 1 rfl dX6_isAlike_11 ?_
    refine aw_iloadn (pc := 12) hX 2 rfl dX6_isAlike_12 ?_
    refine aw_iload (pc := 13) hX 5 rfl dX6_isAlike_13 ?_
    refine aw_iadd (pc := 15) hX dX6_isAlike_15 ?_
    refine aw_callV (pc := 16) (st := []) (a := v0) hX [vI v1, vI (v2 + v5)] (con_X5_note _ G _ v0 v1 (v2 + v5) hy.bd) mc_X5_note ml_X6_36 im_X5_note se_X5_note (by decide) hy.bd.kd rfl (rm_of hr (by decide)) (Nat.le_of_ble_eq_true rfl) rfl dX6_isAlike_16 (kpI rfl rfl (fun x1 hy => ?_))
    refine aw_aloadn (pc := 19) hX 0 rfl dX6_isAlike_19 ?_
    refine aw_iloadn (pc := 20) hX 3 rfl dX6_isAlike_20 ?_
    refine aw_iload (pc := 21) hX 5 rfl dX6_isAlike_21 ?_
    refine aw_callV (pc := 23) (st := [vI x1]) (a := v0) hX [vI v3, vI v5] (con_X5_note _ G _ v0 v3 v5 hy.bd) mc_X5_note ml_X6_36 im_X5_note se_X5_note (by decide) hy.bd.kd rfl (rm_of hr (by decide)) (Nat.le_of_ble_eq_true rfl) rfl dX6_isAlike_23 (kpI rfl rfl (fun x2 hy => ?_))
    refine aw_ic_eq (pc := 26) hX 31 (by decide) dX6_isAlike_26 (fun hc9 => ?_) (fun hc9 => ?_)
    · have hy := hy.t hc9
      refine aw_iinc (pc := 31) hX 1 (by decide) 5 rfl [(5, vI (v5 + 1)), (0, vR v0), (1, vI v1), (2, vI v2), (3, vI v3), (4, vI v4)] rfl (lt_n hN (by decide)) dX6_isAlike_31 ?_
      refine aw_goto (pc := 34) hX 3 (by decide) dX6_isAlike_34 ?_
      refine AW.sub [1, 2, 3, 4, 5, 0] rfl ?_
      exact hc (v5 + 1) hy.s
    · have hy := hy.f hc9
      refine AW.sub [] rfl ?_
      exact he0 () hy.s
theorem wl_X6_isAlike_3 {G : GE} {X : CX} {l : Launch} (hX : Ok G X cX6_isAlike RX6) (hN : xn X = 6) (h : Mem) {P0 : Int32 → Prop} (hr : Rt G X l yX6_isAlike (some .boolean) rm_X6_isAlike (ppI h P0)) (v0 : Nat) (v1 : Int32) (v2 : Int32) (v3 : Int32) (v4 : Int32) {P : (Unit ⊕ Unit) → Prop} (he0 : ∀ e, P (.inl e) → AW G X 29 [] [] h 0 0) (he1 : ∀ e, P (.inr e) → AW G X 37 [] [] h 0 0) : ∀ (n : Nat) (s : Int32), OK (iter (fun (s : Int32) => b_X6_isAlike_3 h v0 v1 v2 v3 v4 s) n s) P → AW G X 3 [(0, vR v0), (1, vI v1), (2, vI v2), (3, vI v3), (4, vI v4), (5, vI s)] [] h 0 0 := by
  intro n
  induction n with
  | zero => exact fun s hy => hy.it0.elim
  | succ n ih =>
    intro s hy
    exact wb_X6_isAlike_3 hX hN h hr v0 v1 v2 v3 v4 (fun s hs => ih s hs) (fun e hs => he0 e hs) (fun e hs => he1 e hs) s hy.it
def f_X6_isAlike (h : Mem) (v0 : Nat) (v1 : Int32) (v2 : Int32) (v3 : Int32) (v4 : Int32) : Option Int32 :=
  (iter (fun (s : Int32) => b_X6_isAlike_3 h v0 v1 v2 v3 v4 s) FU 0).bind (Sum.elim (fun e4 => some 0) (fun e5 => some 1))
set_option maxRecDepth 100000 in
set_option maxHeartbeats 4000000 in
theorem w_X6_isAlike {G : GE} {X : CX} {l : Launch} (hX : Ok G X cX6_isAlike RX6) (hN : xn X = 6) (h : Mem) {P : Int32 → Prop} (hr : Rt G X l yX6_isAlike (some .boolean) rm_X6_isAlike (ppI h P)) (v0 : Nat) (v1 : Int32) (v2 : Int32) (v3 : Int32) (v4 : Int32) (hy : OK (f_X6_isAlike h v0 v1 v2 v3 v4) P) : AW G X 0 [(0, vR v0), (1, vI v1), (2, vI v2), (3, vI v3), (4, vI v4)] [] h 0 0 := by
  unfold f_X6_isAlike at hy
  refine aw_iconst (pc := 0) hX 0 (by decide) dX6_isAlike_0 ?_
  refine aw_istore (pc := 1) hX [(5, vI 0), (0, vR v0), (1, vI v1), (2, vI v2), (3, vI v3), (4, vI v4)] rfl (lt_n hN (by decide)) dX6_isAlike_1 ?_
  refine AW.sub [1, 2, 3, 4, 5, 0] rfl ?_
  refine wl_X6_isAlike_3 hX hN _ hr v0 v1 v2 v3 v4 ?_ ?_ FU 0 hy.bd
  · intro e4 hy
    refine aw_iconst (pc := 29) hX 0 (by decide) dX6_isAlike_29 ?_
    exact aw_zret (pc := 30) hX hr (by decide) (by decide) dX6_isAlike_30 (Or.inl rfl) ⟨rfl, _, rfl, hy.s⟩
  · intro e5 hy
    refine aw_iconst (pc := 37) hX 1 (by decide) dX6_isAlike_37 ?_
    exact aw_zret (pc := 38) hX hr (by decide) (by decide) dX6_isAlike_38 (Or.inr rfl) ⟨rfl, _, rfl, hy.s⟩
theorem con_X6_isAlike (l : Launch) (G : GE) (h : Mem) (v0 : Nat) (v1 : Int32) (v2 : Int32) (v3 : Int32) (v4 : Int32) {P : Int32 → Prop} (hy : OK (f_X6_isAlike h v0 v1 v2 v3 v4) P) : Con l G yX6_isAlike cX6_isAlike 6 (some .boolean) rm_X6_isAlike [vR v0, vI v1, vI v2, vI v3, vI v4] h (ppI h P) := Con.of (by decide) (Nat.le_of_ble_eq_true rfl) (fun X hX hr hN => w_X6_isAlike hX hN h hr v0 v1 v2 v3 v4 hy)
/-! X6_notesInCommon -/
theorem dX6_notesInCommon_0 : decode cX6_notesInCommon 0 = .ok (.aload_n 0, 1) := by decide +kernel
theorem dX6_notesInCommon_1 : decode cX6_notesInCommon 1 = .ok (.getfield 23, 3) := by decide +kernel
theorem dX6_notesInCommon_4 : decode cX6_notesInCommon 4 = .ok (.iload_n 1, 1) := by decide +kernel
theorem dX6_notesInCommon_5 : decode cX6_notesInCommon 5 = .ok (.iaload, 1) := by decide +kernel
theorem dX6_notesInCommon_6 : decode cX6_notesInCommon 6 = .ok (.aload_n 0, 1) := by decide +kernel
theorem dX6_notesInCommon_7 : decode cX6_notesInCommon 7 = .ok (.getfield 23, 3) := by decide +kernel
theorem dX6_notesInCommon_10 : decode cX6_notesInCommon 10 = .ok (.iload_n 2, 1) := by decide +kernel
theorem dX6_notesInCommon_11 : decode cX6_notesInCommon 11 = .ok (.iaload, 1) := by decide +kernel
theorem dX6_notesInCommon_12 : decode cX6_notesInCommon 12 = .ok (.invokestatic 26, 3) := by decide +kernel
theorem dX6_notesInCommon_15 : decode cX6_notesInCommon 15 = .ok (.istore_n 3, 1) := by decide +kernel
theorem dX6_notesInCommon_16 : decode cX6_notesInCommon 16 = .ok (.iload_n 3, 1) := by decide +kernel
theorem dX6_notesInCommon_17 : decode cX6_notesInCommon 17 = .ok (.ifCond .le 29, 3) := by decide +kernel
theorem dX6_notesInCommon_20 : decode cX6_notesInCommon 20 = .ok (.aload_n 0, 1) := by decide +kernel
theorem dX6_notesInCommon_21 : decode cX6_notesInCommon 21 = .ok (.iload_n 1, 1) := by decide +kernel
theorem dX6_notesInCommon_22 : decode cX6_notesInCommon 22 = .ok (.aload_n 0, 1) := by decide +kernel
theorem dX6_notesInCommon_23 : decode cX6_notesInCommon 23 = .ok (.getfield 23, 3) := by decide +kernel
theorem dX6_notesInCommon_26 : decode cX6_notesInCommon 26 = .ok (.iload_n 1, 1) := by decide +kernel
theorem dX6_notesInCommon_27 : decode cX6_notesInCommon 27 = .ok (.iaload, 1) := by decide +kernel
theorem dX6_notesInCommon_28 : decode cX6_notesInCommon 28 = .ok (.iload_n 3, 1) := by decide +kernel
theorem dX6_notesInCommon_29 : decode cX6_notesInCommon 29 = .ok (.isub, 1) := by decide +kernel
theorem dX6_notesInCommon_30 : decode cX6_notesInCommon 30 = .ok (.iload_n 2, 1) := by decide +kernel
theorem dX6_notesInCommon_31 : decode cX6_notesInCommon 31 = .ok (.iload_n 3, 1) := by decide +kernel
theorem dX6_notesInCommon_32 : decode cX6_notesInCommon 32 = .ok (.invokestatic 32, 3) := by decide +kernel
theorem dX6_notesInCommon_35 : decode cX6_notesInCommon 35 = .ok (.ifCond .eq 5, 3) := by decide +kernel
theorem dX6_notesInCommon_38 : decode cX6_notesInCommon 38 = .ok (.iload_n 3, 1) := by decide +kernel
theorem dX6_notesInCommon_39 : decode cX6_notesInCommon 39 = .ok (.ireturn, 1) := by decide +kernel
theorem dX6_notesInCommon_40 : decode cX6_notesInCommon 40 = .ok (.iinc 3 (-1), 3) := by decide +kernel
theorem dX6_notesInCommon_43 : decode cX6_notesInCommon 43 = .ok (.goto (-27), 3) := by decide +kernel
theorem dX6_notesInCommon_46 : decode cX6_notesInCommon 46 = .ok (.iconst 0, 1) := by decide +kernel
theorem dX6_notesInCommon_47 : decode cX6_notesInCommon 47 = .ok (.ireturn, 1) := by decide +kernel
abbrev rm_X6_notesInCommon : Room := { frames := 2, cells := 0, slots := 0, locals := 47 }
def b_X6_notesInCommon_16 (h : Mem) (v0 : Nat) (v1 : Int32) (v2 : Int32) (v3 : Int32) : Option (Int32 ⊕ (Int32 ⊕ Unit)) :=
  (if v3 ≤ 0 then some (.inr (.inr ())) else (gR h v0 9 4).bind fun r5 => (aI h r5 v1).bind fun x6 => (f_X6_isAlike h v0 v1 (x6 - v3) v2 v3).bind fun x7 => (if x7 = 0 then some (.inl (v3 + (-1))) else some (.inr (.inl v3))))
set_option maxRecDepth 100000 in
set_option maxHeartbeats 4000000 in
theorem wb_X6_notesInCommon_16 {G : GE} {X : CX} {l : Launch} (hX : Ok G X cX6_notesInCommon RX6) (hN : xn X = 4) (h : Mem) {P0 : Int32 → Prop} (hr : Rt G X l yX6_notesInCommon (some .int) rm_X6_notesInCommon (ppI h P0))  (v0 : Nat) (v1 : Int32) (v2 : Int32) {P : (Int32 ⊕ (Int32 ⊕ Unit)) → Prop} (hc : ∀ s, P (.inl s) → AW G X 16 [(0, vR v0), (1, vI v1), (2, vI v2), (3, vI s)] [] h 0 0) (he0 : ∀ e, P (.inr (.inl e)) → AW G X 38 [(3, vI e)] [] h 0 0) (he1 : ∀ e, P (.inr (.inr e)) → AW G X 46 [] [] h 0 0) (v3 : Int32) (hy : OK (b_X6_notesInCommon_16 h v0 v1 v2 v3) P) : AW G X 16 [(0, vR v0), (1, vI v1), (2, vI v2), (3, vI v3)] [] h 0 0 := by
  unfold b_X6_notesInCommon_16 at hy
  refine aw_iloadn (pc := 16) hX 3 rfl dX6_notesInCommon_16 ?_
  refine aw_if_le (pc := 17) hX 46 (by decide) dX6_notesInCommon_17 (fun hc9 => ?_) (fun hc9 => ?_)
  · have hy := hy.t hc9
    refine AW.sub [] rfl ?_
    exact he1 () hy.s
  · have hy := hy.f hc9
    refine aw_aloadn (pc := 20) hX 0 rfl dX6_notesInCommon_20 ?_
    refine aw_iloadn (pc := 21) hX 1 rfl dX6_notesInCommon_21 ?_
    refine aw_aloadn (pc := 22) hX 0 rfl dX6_notesInCommon_22 ?_
    refine aw_gR (pc := 23) hX hy fl_X6_23 (fun _ _ => rfl) dX6_notesInCommon_23 (fun r5 hy => ?_)
    refine aw_iloadn (pc := 26) hX 1 rfl dX6_notesInCommon_26 ?_
    refine aw_aI (pc := 27) hX hy dX6_notesInCommon_27 (fun x6 hy => ?_)
    refine aw_iloadn (pc := 28) hX 3 rfl dX6_notesInCommon_28 ?_
    refine aw_isub (pc := 29) hX dX6_notesInCommon_29 ?_
    refine aw_iloadn (pc := 30) hX 2 rfl dX6_notesInCommon_30 ?_
    refine aw_iloadn (pc := 31) hX 3 rfl dX6_notesInCommon_31 ?_
    refine aw_callS (pc := 32) (st := []) hX [vR v0, vI v1, vI (x6 - v3), vI v2, vI v3] (con_X6_isAlike _ G _ v0 v1 (x6 - v3) v2 v3 hy.bd) mc_X6_isAlike ml_X6_32 st_X6_isAlike rfl (rm_of hr (by decide)) (Nat.le_of_ble_eq_true rfl) rfl dX6_notesInCommon_32 (kpI rfl rfl (fun x7 hy => ?_))
    refine aw_if_eq (pc := 35) hX 40 (by decide) dX6_notesInCommon_35 (fun hc9 => ?_) (fun hc9 => ?_)
    · have hy := hy.t hc9
      refine aw_iinc (pc := 40) hX (-1) (by decide) 3 rfl [(3, vI (v3 + (-1))), (0, vR v0), (1, vI v1), (2, vI v2)] rfl (lt_n hN (by decide)) dX6_notesInCommon_40 ?_
      refine aw_goto (pc := 43) hX 16 (by decide) dX6_notesInCommon_43 ?_
      refine AW.sub [1, 2, 3, 0] rfl ?_
      exact hc (v3 + (-1)) hy.s
    · have hy := hy.f hc9
      refine AW.sub [3] rfl ?_
      exact he0 v3 hy.s
theorem wl_X6_notesInCommon_16 {G : GE} {X : CX} {l : Launch} (hX : Ok G X cX6_notesInCommon RX6) (hN : xn X = 4) (h : Mem) {P0 : Int32 → Prop} (hr : Rt G X l yX6_notesInCommon (some .int) rm_X6_notesInCommon (ppI h P0)) (v0 : Nat) (v1 : Int32) (v2 : Int32) {P : (Int32 ⊕ Unit) → Prop} (he0 : ∀ e, P (.inl e) → AW G X 38 [(3, vI e)] [] h 0 0) (he1 : ∀ e, P (.inr e) → AW G X 46 [] [] h 0 0) : ∀ (n : Nat) (s : Int32), OK (iter (fun (s : Int32) => b_X6_notesInCommon_16 h v0 v1 v2 s) n s) P → AW G X 16 [(0, vR v0), (1, vI v1), (2, vI v2), (3, vI s)] [] h 0 0 := by
  intro n
  induction n with
  | zero => exact fun s hy => hy.it0.elim
  | succ n ih =>
    intro s hy
    exact wb_X6_notesInCommon_16 hX hN h hr v0 v1 v2 (fun s hs => ih s hs) (fun e hs => he0 e hs) (fun e hs => he1 e hs) s hy.it
def f_X6_notesInCommon (h : Mem) (v0 : Nat) (v1 : Int32) (v2 : Int32) : Option Int32 :=
  (gR h v0 9 4).bind fun r1 => (aI h r1 v1).bind fun x2 => (gR h v0 9 4).bind fun r3 => (aI h r3 v2).bind fun x4 => (iter (fun (s : Int32) => b_X6_notesInCommon_16 h v0 v1 v2 s) FU (mMin x2 x4)).bind (Sum.elim (fun e9 => some e9) (fun e10 => some 0))
set_option maxRecDepth 100000 in
set_option maxHeartbeats 4000000 in
theorem w_X6_notesInCommon {G : GE} {X : CX} {l : Launch} (hX : Ok G X cX6_notesInCommon RX6) (hN : xn X = 4) (h : Mem) {P : Int32 → Prop} (hr : Rt G X l yX6_notesInCommon (some .int) rm_X6_notesInCommon (ppI h P)) (v0 : Nat) (v1 : Int32) (v2 : Int32) (hy : OK (f_X6_notesInCommon h v0 v1 v2) P) : AW G X 0 [(0, vR v0), (1, vI v1), (2, vI v2)] [] h 0 0 := by
  unfold f_X6_notesInCommon at hy
  refine aw_aloadn (pc := 0) hX 0 rfl dX6_notesInCommon_0 ?_
  refine aw_gR (pc := 1) hX hy fl_X6_23 (fun _ _ => rfl) dX6_notesInCommon_1 (fun r1 hy => ?_)
  refine aw_iloadn (pc := 4) hX 1 rfl dX6_notesInCommon_4 ?_
  refine aw_aI (pc := 5) hX hy dX6_notesInCommon_5 (fun x2 hy => ?_)
  refine aw_aloadn (pc := 6) hX 0 rfl dX6_notesInCommon_6 ?_
  refine aw_gR (pc := 7) hX hy fl_X6_23 (fun _ _ => rfl) dX6_notesInCommon_7 (fun r3 hy => ?_)
  refine aw_iloadn (pc := 10) hX 2 rfl dX6_notesInCommon_10 ?_
  refine aw_aI (pc := 11) hX hy dX6_notesInCommon_11 (fun x4 hy => ?_)
  refine aw_mmin (pc := 12) hX ml_X6_26 (Nat.le_of_ble_eq_true rfl) (le_f hr (by decide)) (le_l hr (by decide)) (le_c hr (by decide)) (le_s hr (by decide)) dX6_notesInCommon_12 ?_
  refine aw_istoren (pc := 15) hX [(3, vI (mMin x2 x4)), (0, vR v0), (1, vI v1), (2, vI v2)] rfl (lt_n hN (by decide)) dX6_notesInCommon_15 ?_
  refine AW.sub [1, 2, 3, 0] rfl ?_
  refine wl_X6_notesInCommon_16 hX hN _ hr v0 v1 v2 ?_ ?_ FU (mMin x2 x4) hy.bd
  · intro e9 hy
    refine aw_iloadn (pc := 38) hX 0 rfl dX6_notesInCommon_38 ?_
    exact aw_iret (pc := 39) hX hr (by decide) (by decide) dX6_notesInCommon_39 ⟨rfl, _, rfl, hy.s⟩
  · intro e10 hy
    refine aw_iconst (pc := 46) hX 0 (by decide) dX6_notesInCommon_46 ?_
    exact aw_iret (pc := 47) hX hr (by decide) (by decide) dX6_notesInCommon_47 ⟨rfl, _, rfl, hy.s⟩
theorem con_X6_notesInCommon (l : Launch) (G : GE) (h : Mem) (v0 : Nat) (v1 : Int32) (v2 : Int32) {P : Int32 → Prop} (hy : OK (f_X6_notesInCommon h v0 v1 v2) P) : Con l G yX6_notesInCommon cX6_notesInCommon 4 (some .int) rm_X6_notesInCommon [vR v0, vI v1, vI v2] h (ppI h P) := Con.of (by decide) (Nat.le_of_ble_eq_true rfl) (fun X hX hr hN => w_X6_notesInCommon hX hN h hr v0 v1 v2 hy)
/-! X6_forget -/
theorem dX6_forget_0 : decode cX6_forget 0 = .ok (.aload_n 0, 1) := by decide +kernel
theorem dX6_forget_1 : decode cX6_forget 1 = .ok (.iconst 0, 1) := by decide +kernel
theorem dX6_forget_2 : decode cX6_forget 2 = .ok (.putfield 39, 3) := by decide +kernel
theorem dX6_forget_5 : decode cX6_forget 5 = .ok (.return_, 1) := by decide +kernel
abbrev rm_X6_forget : Room := { frames := 0, cells := 0, slots := 0, locals := 0 }
def f_X6_forget (h : Mem) (v0 : Nat) : Option Mem :=
  (ck h v0 5).bind fun _ => (pI h v0 3 5 0).bind fun h1 => some h1
set_option maxRecDepth 100000 in
set_option maxHeartbeats 4000000 in
theorem w_X6_forget {G : GE} {X : CX} {l : Launch} (hX : Ok G X cX6_forget RX6) (hN : xn X = 1) {P : Mem → Prop} (hr : Rt G X l yX6_forget none rm_X6_forget (pmV P)) (h : Mem) (v0 : Nat) (hy : OK (f_X6_forget h v0) P) : AW G X 0 [(0, vR v0)] [] h 0 0 := by
  unfold f_X6_forget at hy
  have hkd := hy.kd
  have hy := hy.kb
  refine aw_aloadn (pc := 0) hX 0 rfl dX6_forget_0 ?_
  refine aw_iconst (pc := 1) hX 0 (by decide) dX6_forget_1 ?_
  refine aw_pI (pc := 2) hX hy fl_X6_39 rfl (Or.inl rfl) dX6_forget_2 (fun h1 hy => ?_)
  exact aw_vret (pc := 5) hX hr (by decide) (by decide) dX6_forget_5 ⟨rfl, hy.s⟩
theorem con_X6_forget (l : Launch) (G : GE) (h : Mem) (v0 : Nat) {P : Mem → Prop} (hy : OK (f_X6_forget h v0) P) : Con l G yX6_forget cX6_forget 1 none rm_X6_forget [vR v0] h (pmV P) := Con.of (by decide) (Nat.le_of_ble_eq_true rfl) (fun X hX hr hN => w_X6_forget hX hN hr h v0 hy)
/-! X6_stands -/
theorem dX6_stands_0 : decode cX6_stands 0 = .ok (.iconst 0, 1) := by decide +kernel
theorem dX6_stands_1 : decode cX6_stands 1 = .ok (.istore_n 3, 1) := by decide +kernel
theorem dX6_stands_2 : decode cX6_stands 2 = .ok (.iload_n 3, 1) := by decide +kernel
theorem dX6_stands_3 : decode cX6_stands 3 = .ok (.aload_n 0, 1) := by decide +kernel
theorem dX6_stands_4 : decode cX6_stands 4 = .ok (.getfield 23, 3) := by decide +kernel
theorem dX6_stands_7 : decode cX6_stands 7 = .ok (.iload_n 1, 1) := by decide +kernel
theorem dX6_stands_8 : decode cX6_stands 8 = .ok (.iaload, 1) := by decide +kernel
theorem dX6_stands_9 : decode cX6_stands 9 = .ok (.iadd, 1) := by decide +kernel
theorem dX6_stands_10 : decode cX6_stands 10 = .ok (.aload_n 0, 1) := by decide +kernel
theorem dX6_stands_11 : decode cX6_stands 11 = .ok (.getfield 23, 3) := by decide +kernel
theorem dX6_stands_14 : decode cX6_stands 14 = .ok (.iload_n 2, 1) := by decide +kernel
theorem dX6_stands_15 : decode cX6_stands 15 = .ok (.iaload, 1) := by decide +kernel
theorem dX6_stands_16 : decode cX6_stands 16 = .ok (.if_icmp .gt 27, 3) := by decide +kernel
theorem dX6_stands_19 : decode cX6_stands 19 = .ok (.aload_n 0, 1) := by decide +kernel
theorem dX6_stands_20 : decode cX6_stands 20 = .ok (.iload_n 2, 1) := by decide +kernel
theorem dX6_stands_21 : decode cX6_stands 21 = .ok (.iload_n 3, 1) := by decide +kernel
theorem dX6_stands_22 : decode cX6_stands 22 = .ok (.iload_n 1, 1) := by decide +kernel
theorem dX6_stands_23 : decode cX6_stands 23 = .ok (.aload_n 0, 1) := by decide +kernel
theorem dX6_stands_24 : decode cX6_stands 24 = .ok (.getfield 23, 3) := by decide +kernel
theorem dX6_stands_27 : decode cX6_stands 27 = .ok (.iload_n 1, 1) := by decide +kernel
theorem dX6_stands_28 : decode cX6_stands 28 = .ok (.iaload, 1) := by decide +kernel
theorem dX6_stands_29 : decode cX6_stands 29 = .ok (.invokestatic 32, 3) := by decide +kernel
theorem dX6_stands_32 : decode cX6_stands 32 = .ok (.ifCond .eq 5, 3) := by decide +kernel
theorem dX6_stands_35 : decode cX6_stands 35 = .ok (.iconst 1, 1) := by decide +kernel
theorem dX6_stands_36 : decode cX6_stands 36 = .ok (.ireturn, 1) := by decide +kernel
theorem dX6_stands_37 : decode cX6_stands 37 = .ok (.iinc 3 1, 3) := by decide +kernel
theorem dX6_stands_40 : decode cX6_stands 40 = .ok (.goto (-38), 3) := by decide +kernel
theorem dX6_stands_43 : decode cX6_stands 43 = .ok (.iconst 0, 1) := by decide +kernel
theorem dX6_stands_44 : decode cX6_stands 44 = .ok (.ireturn, 1) := by decide +kernel
abbrev rm_X6_stands : Room := { frames := 2, cells := 0, slots := 0, locals := 47 }
def b_X6_stands_2 (h : Mem) (v0 : Nat) (v1 : Int32) (v2 : Int32) (v3 : Int32) : Option (Int32 ⊕ (Unit ⊕ Unit)) :=
  (gR h v0 9 4).bind fun r1 => (aI h r1 v1).bind fun x2 => (gR h v0 9 4).bind fun r3 => (aI h r3 v2).bind fun x4 => (if x4 < (v3 + x2) then some (.inr (.inr ())) else (gR h v0 9 4).bind fun r5 => (aI h r5 v1).bind fun x6 => (f_X6_isAlike h v0 v2 v3 v1 x6).bind fun x7 => (if x7 = 0 then some (.inl (v3 + 1)) else some (.inr (.inl ()))))
set_option maxRecDepth 100000 in
set_option maxHeartbeats 4000000 in
theorem wb_X6_stands_2 {G : GE} {X : CX} {l : Launch} (hX : Ok G X cX6_stands RX6) (hN : xn X = 4) (h : Mem) {P0 : Int32 → Prop} (hr : Rt G X l yX6_stands (some .boolean) rm_X6_stands (ppI h P0))  (v0 : Nat) (v1 : Int32) (v2 : Int32) {P : (Int32 ⊕ (Unit ⊕ Unit)) → Prop} (hc : ∀ s, P (.inl s) → AW G X 2 [(0, vR v0), (1, vI v1), (2, vI v2), (3, vI s)] [] h 0 0) (he0 : ∀ e, P (.inr (.inl e)) → AW G X 35 [] [] h 0 0) (he1 : ∀ e, P (.inr (.inr e)) → AW G X 43 [] [] h 0 0) (v3 : Int32) (hy : OK (b_X6_stands_2 h v0 v1 v2 v3) P) : AW G X 2 [(0, vR v0), (1, vI v1), (2, vI v2), (3, vI v3)] [] h 0 0 := by
  unfold b_X6_stands_2 at hy
  refine aw_iloadn (pc := 2) hX 3 rfl dX6_stands_2 ?_
  refine aw_aloadn (pc := 3) hX 0 rfl dX6_stands_3 ?_
  refine aw_gR (pc := 4) hX hy fl_X6_23 (fun _ _ => rfl) dX6_stands_4 (fun r1 hy => ?_)
  refine aw_iloadn (pc := 7) hX 1 rfl dX6_stands_7 ?_
  refine aw_aI (pc := 8) hX hy dX6_stands_8 (fun x2 hy => ?_)
  refine aw_iadd (pc := 9) hX dX6_stands_9 ?_
  refine aw_aloadn (pc := 10) hX 0 rfl dX6_stands_10 ?_
  refine aw_gR (pc := 11) hX hy fl_X6_23 (fun _ _ => rfl) dX6_stands_11 (fun r3 hy => ?_)
  refine aw_iloadn (pc := 14) hX 2 rfl dX6_stands_14 ?_
  refine aw_aI (pc := 15) hX hy dX6_stands_15 (fun x4 hy => ?_)
  refine aw_ic_gt (pc := 16) hX 43 (by decide) dX6_stands_16 (fun hc9 => ?_) (fun hc9 => ?_)
  · have hy := hy.t hc9
    refine AW.sub [] rfl ?_
    exact he1 () hy.s
  · have hy := hy.f hc9
    refine aw_aloadn (pc := 19) hX 0 rfl dX6_stands_19 ?_
    refine aw_iloadn (pc := 20) hX 2 rfl dX6_stands_20 ?_
    refine aw_iloadn (pc := 21) hX 3 rfl dX6_stands_21 ?_
    refine aw_iloadn (pc := 22) hX 1 rfl dX6_stands_22 ?_
    refine aw_aloadn (pc := 23) hX 0 rfl dX6_stands_23 ?_
    refine aw_gR (pc := 24) hX hy fl_X6_23 (fun _ _ => rfl) dX6_stands_24 (fun r5 hy => ?_)
    refine aw_iloadn (pc := 27) hX 1 rfl dX6_stands_27 ?_
    refine aw_aI (pc := 28) hX hy dX6_stands_28 (fun x6 hy => ?_)
    refine aw_callS (pc := 29) (st := []) hX [vR v0, vI v2, vI v3, vI v1, vI x6] (con_X6_isAlike _ G _ v0 v2 v3 v1 x6 hy.bd) mc_X6_isAlike ml_X6_32 st_X6_isAlike rfl (rm_of hr (by decide)) (Nat.le_of_ble_eq_true rfl) rfl dX6_stands_29 (kpI rfl rfl (fun x7 hy => ?_))
    refine aw_if_eq (pc := 32) hX 37 (by decide) dX6_stands_32 (fun hc9 => ?_) (fun hc9 => ?_)
    · have hy := hy.t hc9
      refine aw_iinc (pc := 37) hX 1 (by decide) 3 rfl [(3, vI (v3 + 1)), (0, vR v0), (1, vI v1), (2, vI v2)] rfl (lt_n hN (by decide)) dX6_stands_37 ?_
      refine aw_goto (pc := 40) hX 2 (by decide) dX6_stands_40 ?_
      refine AW.sub [1, 2, 3, 0] rfl ?_
      exact hc (v3 + 1) hy.s
    · have hy := hy.f hc9
      refine AW.sub [] rfl ?_
      exact he0 () hy.s
theorem wl_X6_stands_2 {G : GE} {X : CX} {l : Launch} (hX : Ok G X cX6_stands RX6) (hN : xn X = 4) (h : Mem) {P0 : Int32 → Prop} (hr : Rt G X l yX6_stands (some .boolean) rm_X6_stands (ppI h P0)) (v0 : Nat) (v1 : Int32) (v2 : Int32) {P : (Unit ⊕ Unit) → Prop} (he0 : ∀ e, P (.inl e) → AW G X 35 [] [] h 0 0) (he1 : ∀ e, P (.inr e) → AW G X 43 [] [] h 0 0) : ∀ (n : Nat) (s : Int32), OK (iter (fun (s : Int32) => b_X6_stands_2 h v0 v1 v2 s) n s) P → AW G X 2 [(0, vR v0), (1, vI v1), (2, vI v2), (3, vI s)] [] h 0 0 := by
  intro n
  induction n with
  | zero => exact fun s hy => hy.it0.elim
  | succ n ih =>
    intro s hy
    exact wb_X6_stands_2 hX hN h hr v0 v1 v2 (fun s hs => ih s hs) (fun e hs => he0 e hs) (fun e hs => he1 e hs) s hy.it
def f_X6_stands (h : Mem) (v0 : Nat) (v1 : Int32) (v2 : Int32) : Option Int32 :=
  (iter (fun (s : Int32) => b_X6_stands_2 h v0 v1 v2 s) FU 0).bind (Sum.elim (fun e9 => some 1) (fun e10 => some 0))
set_option maxRecDepth 100000 in
set_option maxHeartbeats 4000000 in
theorem w_X6_stands {G : GE} {X : CX} {l : Launch} (hX : Ok G X cX6_stands RX6) (hN : xn X = 4) (h : Mem) {P : Int32 → Prop} (hr : Rt G X l yX6_stands (some .boolean) rm_X6_stands (ppI h P)) (v0 : Nat) (v1 : Int32) (v2 : Int32) (hy : OK (f_X6_stands h v0 v1 v2) P) : AW G X 0 [(0, vR v0), (1, vI v1), (2, vI v2)] [] h 0 0 := by
  unfold f_X6_stands at hy
  refine aw_iconst (pc := 0) hX 0 (by decide) dX6_stands_0 ?_
  refine aw_istoren (pc := 1) hX [(3, vI 0), (0, vR v0), (1, vI v1), (2, vI v2)] rfl (lt_n hN (by decide)) dX6_stands_1 ?_
  refine AW.sub [1, 2, 3, 0] rfl ?_
  refine wl_X6_stands_2 hX hN _ hr v0 v1 v2 ?_ ?_ FU 0 hy.bd
  · intro e9 hy
    refine aw_iconst (pc := 35) hX 1 (by decide) dX6_stands_35 ?_
    exact aw_zret (pc := 36) hX hr (by decide) (by decide) dX6_stands_36 (Or.inr rfl) ⟨rfl, _, rfl, hy.s⟩
  · intro e10 hy
    refine aw_iconst (pc := 43) hX 0 (by decide) dX6_stands_43 ?_
    exact aw_zret (pc := 44) hX hr (by decide) (by decide) dX6_stands_44 (Or.inl rfl) ⟨rfl, _, rfl, hy.s⟩
theorem con_X6_stands (l : Launch) (G : GE) (h : Mem) (v0 : Nat) (v1 : Int32) (v2 : Int32) {P : Int32 → Prop} (hy : OK (f_X6_stands h v0 v1 v2) P) : Con l G yX6_stands cX6_stands 4 (some .boolean) rm_X6_stands [vR v0, vI v1, vI v2] h (ppI h P) := Con.of (by decide) (Nat.le_of_ble_eq_true rfl) (fun X hX hr hN => w_X6_stands hX hN h hr v0 v1 v2 hy)
/-! X6_withoutInner -/
theorem dX6_withoutInner_0 : decode cX6_withoutInner 0 = .ok (.iload_n 1, 1) := by decide +kernel
theorem dX6_withoutInner_1 : decode cX6_withoutInner 1 = .ok (.istore_n 2, 1) := by decide +kernel
theorem dX6_withoutInner_2 : decode cX6_withoutInner 2 = .ok (.iconst 0, 1) := by decide +kernel
theorem dX6_withoutInner_3 : decode cX6_withoutInner 3 = .ok (.istore_n 3, 1) := by decide +kernel
theorem dX6_withoutInner_4 : decode cX6_withoutInner 4 = .ok (.iload_n 3, 1) := by decide +kernel
theorem dX6_withoutInner_5 : decode cX6_withoutInner 5 = .ok (.aload_n 0, 1) := by decide +kernel
theorem dX6_withoutInner_6 : decode cX6_withoutInner 6 = .ok (.getfield 54, 3) := by decide +kernel
theorem dX6_withoutInner_9 : decode cX6_withoutInner 9 = .ok (.if_icmp .ge 68, 3) := by decide +kernel
theorem dX6_withoutInner_12 : decode cX6_withoutInner 12 = .ok (.iconst 0, 1) := by decide +kernel
theorem dX6_withoutInner_13 : decode cX6_withoutInner 13 = .ok (.istore 4, 2) := by decide +kernel
theorem dX6_withoutInner_15 : decode cX6_withoutInner 15 = .ok (.iload 4, 2) := by decide +kernel
theorem dX6_withoutInner_17 : decode cX6_withoutInner 17 = .ok (.aload_n 0, 1) := by decide +kernel
theorem dX6_withoutInner_18 : decode cX6_withoutInner 18 = .ok (.getfield 54, 3) := by decide +kernel
theorem dX6_withoutInner_21 : decode cX6_withoutInner 21 = .ok (.if_icmp .ge 50, 3) := by decide +kernel
theorem dX6_withoutInner_24 : decode cX6_withoutInner 24 = .ok (.iload_n 3, 1) := by decide +kernel
theorem dX6_withoutInner_25 : decode cX6_withoutInner 25 = .ok (.iload 4, 2) := by decide +kernel
theorem dX6_withoutInner_27 : decode cX6_withoutInner 27 = .ok (.if_icmp .eq 38, 3) := by decide +kernel
theorem dX6_withoutInner_30 : decode cX6_withoutInner 30 = .ok (.iload_n 2, 1) := by decide +kernel
theorem dX6_withoutInner_31 : decode cX6_withoutInner 31 = .ok (.iload_n 3, 1) := by decide +kernel
theorem dX6_withoutInner_32 : decode cX6_withoutInner 32 = .ok (.ishr, 1) := by decide +kernel
theorem dX6_withoutInner_33 : decode cX6_withoutInner 33 = .ok (.iconst 1, 1) := by decide +kernel
theorem dX6_withoutInner_34 : decode cX6_withoutInner 34 = .ok (.iand, 1) := by decide +kernel
theorem dX6_withoutInner_35 : decode cX6_withoutInner 35 = .ok (.iconst 1, 1) := by decide +kernel
theorem dX6_withoutInner_36 : decode cX6_withoutInner 36 = .ok (.if_icmp .ne 29, 3) := by decide +kernel
theorem dX6_withoutInner_39 : decode cX6_withoutInner 39 = .ok (.iload_n 2, 1) := by decide +kernel
theorem dX6_withoutInner_40 : decode cX6_withoutInner 40 = .ok (.iload 4, 2) := by decide +kernel
theorem dX6_withoutInner_42 : decode cX6_withoutInner 42 = .ok (.ishr, 1) := by decide +kernel
theorem dX6_withoutInner_43 : decode cX6_withoutInner 43 = .ok (.iconst 1, 1) := by decide +kernel
theorem dX6_withoutInner_44 : decode cX6_withoutInner 44 = .ok (.iand, 1) := by decide +kernel
theorem dX6_withoutInner_45 : decode cX6_withoutInner 45 = .ok (.iconst 1, 1) := by decide +kernel
theorem dX6_withoutInner_46 : decode cX6_withoutInner 46 = .ok (.if_icmp .ne 19, 3) := by decide +kernel
theorem dX6_withoutInner_49 : decode cX6_withoutInner 49 = .ok (.aload_n 0, 1) := by decide +kernel
theorem dX6_withoutInner_50 : decode cX6_withoutInner 50 = .ok (.iload_n 3, 1) := by decide +kernel
theorem dX6_withoutInner_51 : decode cX6_withoutInner 51 = .ok (.iload 4, 2) := by decide +kernel
theorem dX6_withoutInner_53 : decode cX6_withoutInner 53 = .ok (.invokestatic 65, 3) := by decide +kernel
theorem dX6_withoutInner_56 : decode cX6_withoutInner 56 = .ok (.ifCond .eq 9, 3) := by decide +kernel
theorem dX6_withoutInner_59 : decode cX6_withoutInner 59 = .ok (.iload_n 2, 1) := by decide +kernel
theorem dX6_withoutInner_60 : decode cX6_withoutInner 60 = .ok (.iconst 1, 1) := by decide +kernel
theorem dX6_withoutInner_61 : decode cX6_withoutInner 61 = .ok (.iload_n 3, 1) := by decide +kernel
theorem dX6_withoutInner_62 : decode cX6_withoutInner 62 = .ok (.ishl, 1) := by decide +kernel
theorem dX6_withoutInner_63 : decode cX6_withoutInner 63 = .ok (.ixor, 1) := by decide +kernel
theorem dX6_withoutInner_64 : decode cX6_withoutInner 64 = .ok (.istore_n 2, 1) := by decide +kernel
theorem dX6_withoutInner_65 : decode cX6_withoutInner 65 = .ok (.iinc 4 1, 3) := by decide +kernel
theorem dX6_withoutInner_68 : decode cX6_withoutInner 68 = .ok (.goto (-53), 3) := by decide +kernel
theorem dX6_withoutInner_71 : decode cX6_withoutInner 71 = .ok (.iinc 3 1, 3) := by decide +kernel
theorem dX6_withoutInner_74 : decode cX6_withoutInner 74 = .ok (.goto (-70), 3) := by decide +kernel
theorem dX6_withoutInner_77 : decode cX6_withoutInner 77 = .ok (.iload_n 2, 1) := by decide +kernel
theorem dX6_withoutInner_78 : decode cX6_withoutInner 78 = .ok (.ireturn, 1) := by decide +kernel
abbrev rm_X6_withoutInner : Room := { frames := 3, cells := 0, slots := 0, locals := 70 }
def f_X6_withoutInner_65 (h : Mem) (v0 : Nat) (v2 : Int32) (v3 : Int32) (v4 : Int32) : Option ((Int32 × Int32) ⊕ Int32) :=
  some (.inl (v2, (v4 + 1)))
set_option maxRecDepth 100000 in
set_option maxHeartbeats 4000000 in
theorem w_X6_withoutInner_65 {G : GE} {X : CX} {l : Launch} (hX : Ok G X cX6_withoutInner RX6) (hN : xn X = 5) (h : Mem) {P0 : Int32 → Prop} (hr : Rt G X l yX6_withoutInner (some .int) rm_X6_withoutInner (ppI h P0))  (v0 : Nat) (v3 : Int32) {P : ((Int32 × Int32) ⊕ Int32) → Prop} (hc : ∀ s, P (.inl s) → AW G X 15 [(0, vR v0), (2, vI s.1), (3, vI v3), (4, vI s.2)] [] h 0 0) (he0 : ∀ e, P (.inr e) → AW G X 71 [(0, vR v0), (2, vI e), (3, vI v3)] [] h 0 0) (v2 : Int32) (v4 : Int32) (hy : OK (f_X6_withoutInner_65 h v0 v2 v3 v4) P) : AW G X 65 [(0, vR v0), (2, vI v2), (3, vI v3), (4, vI v4)] [] h 0 0 := by
  unfold f_X6_withoutInner_65 at hy
  refine aw_iinc (pc := 65) hX 1 (by decide) 3 rfl [(4, vI (v4 + 1)), (0, vR v0), (2, vI v2), (3, vI v3)] rfl (lt_n hN (by decide)) dX6_withoutInner_65 ?_
  refine aw_goto (pc := 68) hX 15 (by decide) dX6_withoutInner_68 ?_
  refine AW.sub [1, 2, 3, 0] rfl ?_
  exact hc (v2, (v4 + 1)) hy.s
def b_X6_withoutInner_15 (h : Mem) (v0 : Nat) (v3 : Int32) (v2 : Int32) (v4 : Int32) : Option ((Int32 × Int32) ⊕ Int32) :=
  (gI h v0 1 4).bind fun x2 => (if x2 ≤ v4 then some (.inr v2) else (if v3 = v4 then f_X6_withoutInner_65 h v0 v2 v3 v4 else (if (((v2 : Int32) >>> (v3 &&& 31)) &&& 1) = 1 then (if (((v2 : Int32) >>> (v4 &&& 31)) &&& 1) = 1 then (f_X6_stands h v0 v3 v4).bind fun x3 => (if x3 = 0 then f_X6_withoutInner_65 h v0 v2 v3 v4 else f_X6_withoutInner_65 h v0 (v2 ^^^ ((1 : Int32) <<< (v3 &&& 31))) v3 v4) else f_X6_withoutInner_65 h v0 v2 v3 v4) else f_X6_withoutInner_65 h v0 v2 v3 v4)))
set_option maxRecDepth 100000 in
set_option maxHeartbeats 4000000 in
theorem wb_X6_withoutInner_15 {G : GE} {X : CX} {l : Launch} (hX : Ok G X cX6_withoutInner RX6) (hN : xn X = 5) (h : Mem) {P0 : Int32 → Prop} (hr : Rt G X l yX6_withoutInner (some .int) rm_X6_withoutInner (ppI h P0))  (v0 : Nat) (v3 : Int32) {P : ((Int32 × Int32) ⊕ Int32) → Prop} (hc : ∀ s, P (.inl s) → AW G X 15 [(0, vR v0), (2, vI s.1), (3, vI v3), (4, vI s.2)] [] h 0 0) (he0 : ∀ e, P (.inr e) → AW G X 71 [(0, vR v0), (2, vI e), (3, vI v3)] [] h 0 0) (v2 : Int32) (v4 : Int32) (hy : OK (b_X6_withoutInner_15 h v0 v3 v2 v4) P) : AW G X 15 [(0, vR v0), (2, vI v2), (3, vI v3), (4, vI v4)] [] h 0 0 := by
  unfold b_X6_withoutInner_15 at hy
  refine aw_iload (pc := 15) hX 3 rfl dX6_withoutInner_15 ?_
  refine aw_aloadn (pc := 17) hX 0 rfl dX6_withoutInner_17 ?_
  refine aw_gI (pc := 18) hX hy fl_X6_54 (fun _ _ => rfl) dX6_withoutInner_18 (fun x2 hy => ?_)
  refine aw_ic_ge (pc := 21) hX 71 (by decide) dX6_withoutInner_21 (fun hc9 => ?_) (fun hc9 => ?_)
  · have hy := hy.t hc9
    refine AW.sub [0, 1, 2] rfl ?_
    exact he0 v2 hy.s
  · have hy := hy.f hc9
    refine aw_iloadn (pc := 24) hX 2 rfl dX6_withoutInner_24 ?_
    refine aw_iload (pc := 25) hX 3 rfl dX6_withoutInner_25 ?_
    refine aw_ic_eq (pc := 27) hX 65 (by decide) dX6_withoutInner_27 (fun hc9 => ?_) (fun hc9 => ?_)
    · have hy := hy.t hc9
      exact w_X6_withoutInner_65 hX hN _ hr _ _ hc he0 v2 v4 hy
    · have hy := hy.f hc9
      refine aw_iloadn (pc := 30) hX 1 rfl dX6_withoutInner_30 ?_
      refine aw_iloadn (pc := 31) hX 2 rfl dX6_withoutInner_31 ?_
      refine aw_ishr (pc := 32) hX dX6_withoutInner_32 ?_
      refine aw_iconst (pc := 33) hX 1 (by decide) dX6_withoutInner_33 ?_
      refine aw_iand (pc := 34) hX dX6_withoutInner_34 ?_
      refine aw_iconst (pc := 35) hX 1 (by decide) dX6_withoutInner_35 ?_
      refine aw_ic_ne (pc := 36) hX 65 (by decide) dX6_withoutInner_36 (fun hc9 => ?_) (fun hc9 => ?_)
      · have hy := hy.f hc9
        exact w_X6_withoutInner_65 hX hN _ hr _ _ hc he0 v2 v4 hy
      · have hy := hy.t hc9
        refine aw_iloadn (pc := 39) hX 1 rfl dX6_withoutInner_39 ?_
        refine aw_iload (pc := 40) hX 3 rfl dX6_withoutInner_40 ?_
        refine aw_ishr (pc := 42) hX dX6_withoutInner_42 ?_
        refine aw_iconst (pc := 43) hX 1 (by decide) dX6_withoutInner_43 ?_
        refine aw_iand (pc := 44) hX dX6_withoutInner_44 ?_
        refine aw_iconst (pc := 45) hX 1 (by decide) dX6_withoutInner_45 ?_
        refine aw_ic_ne (pc := 46) hX 65 (by decide) dX6_withoutInner_46 (fun hc9 => ?_) (fun hc9 => ?_)
        · have hy := hy.f hc9
          exact w_X6_withoutInner_65 hX hN _ hr _ _ hc he0 v2 v4 hy
        · have hy := hy.t hc9
          refine aw_aloadn (pc := 49) hX 0 rfl dX6_withoutInner_49 ?_
          refine aw_iloadn (pc := 50) hX 2 rfl dX6_withoutInner_50 ?_
          refine aw_iload (pc := 51) hX 3 rfl dX6_withoutInner_51 ?_
          refine aw_callS (pc := 53) (st := []) hX [vR v0, vI v3, vI v4] (con_X6_stands _ G _ v0 v3 v4 hy.bd) mc_X6_stands ml_X6_65 st_X6_stands rfl (rm_of hr (by decide)) (Nat.le_of_ble_eq_true rfl) rfl dX6_withoutInner_53 (kpI rfl rfl (fun x3 hy => ?_))
          refine aw_if_eq (pc := 56) hX 65 (by decide) dX6_withoutInner_56 (fun hc9 => ?_) (fun hc9 => ?_)
          · have hy := hy.t hc9
            exact w_X6_withoutInner_65 hX hN _ hr _ _ hc he0 v2 v4 hy
          · have hy := hy.f hc9
            refine aw_iloadn (pc := 59) hX 1 rfl dX6_withoutInner_59 ?_
            refine aw_iconst (pc := 60) hX 1 (by decide) dX6_withoutInner_60 ?_
            refine aw_iloadn (pc := 61) hX 2 rfl dX6_withoutInner_61 ?_
            refine aw_ishl (pc := 62) hX dX6_withoutInner_62 ?_
            refine aw_ixor (pc := 63) hX dX6_withoutInner_63 ?_
            refine aw_istoren (pc := 64) hX [(2, vI (v2 ^^^ ((1 : Int32) <<< (v3 &&& 31)))), (0, vR v0), (3, vI v3), (4, vI v4)] rfl (lt_n hN (by decide)) dX6_withoutInner_64 ?_
            refine AW.sub [1, 0, 2, 3] rfl ?_
            exact w_X6_withoutInner_65 hX hN _ hr _ _ hc he0 (v2 ^^^ ((1 : Int32) <<< (v3 &&& 31))) v4 hy
theorem wl_X6_withoutInner_15 {G : GE} {X : CX} {l : Launch} (hX : Ok G X cX6_withoutInner RX6) (hN : xn X = 5) (h : Mem) {P0 : Int32 → Prop} (hr : Rt G X l yX6_withoutInner (some .int) rm_X6_withoutInner (ppI h P0)) (v0 : Nat) (v3 : Int32) {P : (Int32) → Prop} (he0 : ∀ e, P e → AW G X 71 [(0, vR v0), (2, vI e), (3, vI v3)] [] h 0 0) : ∀ (n : Nat) (s : Int32 × Int32), OK (iter (fun (s : Int32 × Int32) => b_X6_withoutInner_15 h v0 v3 s.1 s.2) n s) P → AW G X 15 [(0, vR v0), (2, vI s.1), (3, vI v3), (4, vI s.2)] [] h 0 0 := by
  intro n
  induction n with
  | zero => exact fun s hy => hy.it0.elim
  | succ n ih =>
    intro s hy
    exact wb_X6_withoutInner_15 hX hN h hr v0 v3 (fun s hs => ih s hs) (fun e hs => he0 e hs) s.1 s.2 hy.it
def b_X6_withoutInner_4 (h : Mem) (v0 : Nat) (v2 : Int32) (v3 : Int32) : Option ((Int32 × Int32) ⊕ Int32) :=
  (gI h v0 1 4).bind fun x1 => (if x1 ≤ v3 then some (.inr v2) else (iter (fun (s : Int32 × Int32) => b_X6_withoutInner_15 h v0 v3 s.1 s.2) FU (v2, 0)).bind (fun q4 => some (.inl (q4, (v3 + 1)))))
set_option maxRecDepth 100000 in
set_option maxHeartbeats 4000000 in
theorem wb_X6_withoutInner_4 {G : GE} {X : CX} {l : Launch} (hX : Ok G X cX6_withoutInner RX6) (hN : xn X = 5) (h : Mem) {P0 : Int32 → Prop} (hr : Rt G X l yX6_withoutInner (some .int) rm_X6_withoutInner (ppI h P0))  (v0 : Nat) {P : ((Int32 × Int32) ⊕ Int32) → Prop} (hc : ∀ s, P (.inl s) → AW G X 4 [(0, vR v0), (2, vI s.1), (3, vI s.2)] [] h 0 0) (he0 : ∀ e, P (.inr e) → AW G X 77 [(2, vI e)] [] h 0 0) (v2 : Int32) (v3 : Int32) (hy : OK (b_X6_withoutInner_4 h v0 v2 v3) P) : AW G X 4 [(0, vR v0), (2, vI v2), (3, vI v3)] [] h 0 0 := by
  unfold b_X6_withoutInner_4 at hy
  refine aw_iloadn (pc := 4) hX 2 rfl dX6_withoutInner_4 ?_
  refine aw_aloadn (pc := 5) hX 0 rfl dX6_withoutInner_5 ?_
  refine aw_gI (pc := 6) hX hy fl_X6_54 (fun _ _ => rfl) dX6_withoutInner_6 (fun x1 hy => ?_)
  refine aw_ic_ge (pc := 9) hX 77 (by decide) dX6_withoutInner_9 (fun hc9 => ?_) (fun hc9 => ?_)
  · have hy := hy.t hc9
    refine AW.sub [1] rfl ?_
    exact he0 v2 hy.s
  · have hy := hy.f hc9
    refine aw_iconst (pc := 12) hX 0 (by decide) dX6_withoutInner_12 ?_
    refine aw_istore (pc := 13) hX [(4, vI 0), (0, vR v0), (2, vI v2), (3, vI v3)] rfl (lt_n hN (by decide)) dX6_withoutInner_13 ?_
    refine AW.sub [1, 2, 3, 0] rfl ?_
    refine wl_X6_withoutInner_15 hX hN _ hr v0 v3 ?_ FU (v2, 0) hy.bd
    · intro q4 hy
      refine aw_iinc (pc := 71) hX 1 (by decide) 2 rfl [(3, vI (v3 + 1)), (0, vR v0), (2, vI q4)] rfl (lt_n hN (by decide)) dX6_withoutInner_71 ?_
      refine aw_goto (pc := 74) hX 4 (by decide) dX6_withoutInner_74 ?_
      refine AW.sub [1, 2, 0] rfl ?_
      exact hc (q4, (v3 + 1)) hy.s
theorem wl_X6_withoutInner_4 {G : GE} {X : CX} {l : Launch} (hX : Ok G X cX6_withoutInner RX6) (hN : xn X = 5) (h : Mem) {P0 : Int32 → Prop} (hr : Rt G X l yX6_withoutInner (some .int) rm_X6_withoutInner (ppI h P0)) (v0 : Nat) {P : (Int32) → Prop} (he0 : ∀ e, P e → AW G X 77 [(2, vI e)] [] h 0 0) : ∀ (n : Nat) (s : Int32 × Int32), OK (iter (fun (s : Int32 × Int32) => b_X6_withoutInner_4 h v0 s.1 s.2) n s) P → AW G X 4 [(0, vR v0), (2, vI s.1), (3, vI s.2)] [] h 0 0 := by
  intro n
  induction n with
  | zero => exact fun s hy => hy.it0.elim
  | succ n ih =>
    intro s hy
    exact wb_X6_withoutInner_4 hX hN h hr v0 (fun s hs => ih s hs) (fun e hs => he0 e hs) s.1 s.2 hy.it
def f_X6_withoutInner (h : Mem) (v0 : Nat) (v1 : Int32) : Option Int32 :=
  (iter (fun (s : Int32 × Int32) => b_X6_withoutInner_4 h v0 s.1 s.2) FU (v1, 0)).bind (fun q5 => some q5)
set_option maxRecDepth 100000 in
set_option maxHeartbeats 4000000 in
theorem w_X6_withoutInner {G : GE} {X : CX} {l : Launch} (hX : Ok G X cX6_withoutInner RX6) (hN : xn X = 5) (h : Mem) {P : Int32 → Prop} (hr : Rt G X l yX6_withoutInner (some .int) rm_X6_withoutInner (ppI h P)) (v0 : Nat) (v1 : Int32) (hy : OK (f_X6_withoutInner h v0 v1) P) : AW G X 0 [(0, vR v0), (1, vI v1)] [] h 0 0 := by
  unfold f_X6_withoutInner at hy
  refine aw_iloadn (pc := 0) hX 1 rfl dX6_withoutInner_0 ?_
  refine aw_istoren (pc := 1) hX [(2, vI v1), (0, vR v0), (1, vI v1)] rfl (lt_n hN (by decide)) dX6_withoutInner_1 ?_
  refine aw_iconst (pc := 2) hX 0 (by decide) dX6_withoutInner_2 ?_
  refine aw_istoren (pc := 3) hX [(3, vI 0), (2, vI v1), (0, vR v0), (1, vI v1)] rfl (lt_n hN (by decide)) dX6_withoutInner_3 ?_
  refine AW.sub [2, 1, 0] rfl ?_
  refine wl_X6_withoutInner_4 hX hN _ hr v0 ?_ FU (v1, 0) hy.bd
  · intro q5 hy
    refine aw_iloadn (pc := 77) hX 0 rfl dX6_withoutInner_77 ?_
    exact aw_iret (pc := 78) hX hr (by decide) (by decide) dX6_withoutInner_78 ⟨rfl, _, rfl, hy.s⟩
theorem con_X6_withoutInner (l : Launch) (G : GE) (h : Mem) (v0 : Nat) (v1 : Int32) {P : Int32 → Prop} (hy : OK (f_X6_withoutInner h v0 v1) P) : Con l G yX6_withoutInner cX6_withoutInner 5 (some .int) rm_X6_withoutInner [vR v0, vI v1] h (ppI h P) := Con.of (by decide) (Nat.le_of_ble_eq_true rfl) (fun X hX hr hN => w_X6_withoutInner hX hN h hr v0 v1 hy)
/-! X6_findOverlaps -/
theorem dX6_findOverlaps_0 : decode cX6_findOverlaps 0 = .ok (.iconst 0, 1) := by decide +kernel
theorem dX6_findOverlaps_1 : decode cX6_findOverlaps 1 = .ok (.istore_n 2, 1) := by decide +kernel
theorem dX6_findOverlaps_2 : decode cX6_findOverlaps 2 = .ok (.iload_n 2, 1) := by decide +kernel
theorem dX6_findOverlaps_3 : decode cX6_findOverlaps 3 = .ok (.aload_n 1, 1) := by decide +kernel
theorem dX6_findOverlaps_4 : decode cX6_findOverlaps 4 = .ok (.getfield 54, 3) := by decide +kernel
theorem dX6_findOverlaps_7 : decode cX6_findOverlaps 7 = .ok (.if_icmp .ge 51, 3) := by decide +kernel
theorem dX6_findOverlaps_10 : decode cX6_findOverlaps 10 = .ok (.iconst 0, 1) := by decide +kernel
theorem dX6_findOverlaps_11 : decode cX6_findOverlaps 11 = .ok (.istore_n 3, 1) := by decide +kernel
theorem dX6_findOverlaps_12 : decode cX6_findOverlaps 12 = .ok (.iload_n 3, 1) := by decide +kernel
theorem dX6_findOverlaps_13 : decode cX6_findOverlaps 13 = .ok (.aload_n 1, 1) := by decide +kernel
theorem dX6_findOverlaps_14 : decode cX6_findOverlaps 14 = .ok (.getfield 54, 3) := by decide +kernel
theorem dX6_findOverlaps_17 : decode cX6_findOverlaps 17 = .ok (.if_icmp .ge 35, 3) := by decide +kernel
theorem dX6_findOverlaps_20 : decode cX6_findOverlaps 20 = .ok (.aload_n 0, 1) := by decide +kernel
theorem dX6_findOverlaps_21 : decode cX6_findOverlaps 21 = .ok (.getfield 13, 3) := by decide +kernel
theorem dX6_findOverlaps_24 : decode cX6_findOverlaps 24 = .ok (.iload_n 2, 1) := by decide +kernel
theorem dX6_findOverlaps_25 : decode cX6_findOverlaps 25 = .ok (.bipush 6, 2) := by decide +kernel
theorem dX6_findOverlaps_27 : decode cX6_findOverlaps 27 = .ok (.imul, 1) := by decide +kernel
theorem dX6_findOverlaps_28 : decode cX6_findOverlaps 28 = .ok (.iload_n 3, 1) := by decide +kernel
theorem dX6_findOverlaps_29 : decode cX6_findOverlaps 29 = .ok (.iadd, 1) := by decide +kernel
theorem dX6_findOverlaps_30 : decode cX6_findOverlaps 30 = .ok (.iload_n 2, 1) := by decide +kernel
theorem dX6_findOverlaps_31 : decode cX6_findOverlaps 31 = .ok (.iload_n 3, 1) := by decide +kernel
theorem dX6_findOverlaps_32 : decode cX6_findOverlaps 32 = .ok (.if_icmp .ne 7, 3) := by decide +kernel
theorem dX6_findOverlaps_35 : decode cX6_findOverlaps 35 = .ok (.iconst 0, 1) := by decide +kernel
theorem dX6_findOverlaps_36 : decode cX6_findOverlaps 36 = .ok (.goto 9, 3) := by decide +kernel
theorem dX6_findOverlaps_39 : decode cX6_findOverlaps 39 = .ok (.aload_n 1, 1) := by decide +kernel
theorem dX6_findOverlaps_40 : decode cX6_findOverlaps 40 = .ok (.iload_n 2, 1) := by decide +kernel
theorem dX6_findOverlaps_41 : decode cX6_findOverlaps 41 = .ok (.iload_n 3, 1) := by decide +kernel
theorem dX6_findOverlaps_42 : decode cX6_findOverlaps 42 = .ok (.invokestatic 69, 3) := by decide +kernel
theorem dX6_findOverlaps_45 : decode cX6_findOverlaps 45 = .ok (.iastore, 1) := by decide +kernel
theorem dX6_findOverlaps_46 : decode cX6_findOverlaps 46 = .ok (.iinc 3 1, 3) := by decide +kernel
theorem dX6_findOverlaps_49 : decode cX6_findOverlaps 49 = .ok (.goto (-37), 3) := by decide +kernel
theorem dX6_findOverlaps_52 : decode cX6_findOverlaps 52 = .ok (.iinc 2 1, 3) := by decide +kernel
theorem dX6_findOverlaps_55 : decode cX6_findOverlaps 55 = .ok (.goto (-53), 3) := by decide +kernel
theorem dX6_findOverlaps_58 : decode cX6_findOverlaps 58 = .ok (.return_, 1) := by decide +kernel
abbrev rm_X6_findOverlaps : Room := { frames := 3, cells := 0, slots := 0, locals := 70 }
def f_X6_findOverlaps_45 (h : Mem) (v0 : Nat) (v1 : Nat) (v2 : Int32) (v3 : Int32) (s0 : Nat) (s1 : Int32) (s2 : Int32) : Option ((Int32 × Mem) ⊕ Mem) :=
  (sI h s0 s1 s2).bind fun h5 => some (.inl ((v3 + 1), h5))
set_option maxRecDepth 100000 in
set_option maxHeartbeats 4000000 in
theorem w_X6_findOverlaps_45 {G : GE} {X : CX} {l : Launch} (hX : Ok G X cX6_findOverlaps RX6) (hN : xn X = 4) {P0 : Mem → Prop} (hr : Rt G X l yX6_findOverlaps none rm_X6_findOverlaps (pmV P0))  (v0 : Nat) (v1 : Nat) (v2 : Int32) {P : ((Int32 × Mem) ⊕ Mem) → Prop} (hc : ∀ s, P (.inl s) → AW G X 12 [(0, vR v0), (1, vR v1), (2, vI v2), (3, vI s.1)] [] s.2 0 0) (he0 : ∀ e, P (.inr e) → AW G X 52 [(0, vR v0), (1, vR v1), (2, vI v2)] [] e 0 0) (h : Mem) (v3 : Int32) (s0 : Nat) (s1 : Int32) (s2 : Int32) (hy : OK (f_X6_findOverlaps_45 h v0 v1 v2 v3 s0 s1 s2) P) : AW G X 45 [(0, vR v0), (1, vR v1), (2, vI v2), (3, vI v3)] [vI s2, vI s1, vR s0] h 0 0 := by
  unfold f_X6_findOverlaps_45 at hy
  refine aw_sI (pc := 45) hX hy dX6_findOverlaps_45 (fun h5 hy => ?_)
  refine aw_iinc (pc := 46) hX 1 (by decide) 3 rfl [(3, vI (v3 + 1)), (0, vR v0), (1, vR v1), (2, vI v2)] rfl (lt_n hN (by decide)) dX6_findOverlaps_46 ?_
  refine aw_goto (pc := 49) hX 12 (by decide) dX6_findOverlaps_49 ?_
  refine AW.sub [1, 2, 3, 0] rfl ?_
  exact hc ((v3 + 1), h5) hy.s
def b_X6_findOverlaps_12 (h : Mem) (v0 : Nat) (v1 : Nat) (v2 : Int32) (v3 : Int32) : Option ((Int32 × Mem) ⊕ Mem) :=
  (gI h v1 1 4).bind fun x2 => (if x2 ≤ v3 then some (.inr h) else (gR h v0 0 5).bind fun r3 => (if v2 = v3 then f_X6_findOverlaps_45 h v0 v1 v2 v3 r3 ((v2 * 6) + v3) 0 else (f_X6_notesInCommon h v1 v2 v3).bind fun x4 => f_X6_findOverlaps_45 h v0 v1 v2 v3 r3 ((v2 * 6) + v3) x4))
set_option maxRecDepth 100000 in
set_option maxHeartbeats 4000000 in
theorem wb_X6_findOverlaps_12 {G : GE} {X : CX} {l : Launch} (hX : Ok G X cX6_findOverlaps RX6) (hN : xn X = 4) {P0 : Mem → Prop} (hr : Rt G X l yX6_findOverlaps none rm_X6_findOverlaps (pmV P0))  (v0 : Nat) (v1 : Nat) (v2 : Int32) {P : ((Int32 × Mem) ⊕ Mem) → Prop} (hc : ∀ s, P (.inl s) → AW G X 12 [(0, vR v0), (1, vR v1), (2, vI v2), (3, vI s.1)] [] s.2 0 0) (he0 : ∀ e, P (.inr e) → AW G X 52 [(0, vR v0), (1, vR v1), (2, vI v2)] [] e 0 0) (h : Mem) (v3 : Int32) (hy : OK (b_X6_findOverlaps_12 h v0 v1 v2 v3) P) : AW G X 12 [(0, vR v0), (1, vR v1), (2, vI v2), (3, vI v3)] [] h 0 0 := by
  unfold b_X6_findOverlaps_12 at hy
  refine aw_iloadn (pc := 12) hX 3 rfl dX6_findOverlaps_12 ?_
  refine aw_aloadn (pc := 13) hX 1 rfl dX6_findOverlaps_13 ?_
  refine aw_gI (pc := 14) hX hy fl_X6_54 (fun _ _ => rfl) dX6_findOverlaps_14 (fun x2 hy => ?_)
  refine aw_ic_ge (pc := 17) hX 52 (by decide) dX6_findOverlaps_17 (fun hc9 => ?_) (fun hc9 => ?_)
  · have hy := hy.t hc9
    refine AW.sub [0, 1, 2] rfl ?_
    exact he0 h hy.s
  · have hy := hy.f hc9
    refine aw_aloadn (pc := 20) hX 0 rfl dX6_findOverlaps_20 ?_
    refine aw_gR (pc := 21) hX hy fl_X6_13 (fun _ _ => rfl) dX6_findOverlaps_21 (fun r3 hy => ?_)
    refine aw_iloadn (pc := 24) hX 2 rfl dX6_findOverlaps_24 ?_
    refine aw_bipush (pc := 25) hX 6 (by decide) dX6_findOverlaps_25 ?_
    refine aw_imul (pc := 27) hX dX6_findOverlaps_27 ?_
    refine aw_iloadn (pc := 28) hX 3 rfl dX6_findOverlaps_28 ?_
    refine aw_iadd (pc := 29) hX dX6_findOverlaps_29 ?_
    refine aw_iloadn (pc := 30) hX 2 rfl dX6_findOverlaps_30 ?_
    refine aw_iloadn (pc := 31) hX 3 rfl dX6_findOverlaps_31 ?_
    refine aw_ic_ne (pc := 32) hX 39 (by decide) dX6_findOverlaps_32 (fun hc9 => ?_) (fun hc9 => ?_)
    · have hy := hy.f hc9
      refine aw_aloadn (pc := 39) hX 1 rfl dX6_findOverlaps_39 ?_
      refine aw_iloadn (pc := 40) hX 2 rfl dX6_findOverlaps_40 ?_
      refine aw_iloadn (pc := 41) hX 3 rfl dX6_findOverlaps_41 ?_
      refine aw_callS (pc := 42) (st := [vI ((v2 * 6) + v3), vR r3]) hX [vR v1, vI v2, vI v3] (con_X6_notesInCommon _ G _ v1 v2 v3 hy.bd) mc_X6_notesInCommon ml_X6_69 st_X6_notesInCommon rfl (rm_of hr (by decide)) (Nat.le_of_ble_eq_true rfl) rfl dX6_findOverlaps_42 (kpI rfl rfl (fun x4 hy => ?_))
      exact w_X6_findOverlaps_45 hX hN hr _ _ _ hc he0 h v3 r3 ((v2 * 6) + v3) x4 hy
    · have hy := hy.t hc9
      refine aw_iconst (pc := 35) hX 0 (by decide) dX6_findOverlaps_35 ?_
      refine aw_goto (pc := 36) hX 45 (by decide) dX6_findOverlaps_36 ?_
      exact w_X6_findOverlaps_45 hX hN hr _ _ _ hc he0 h v3 r3 ((v2 * 6) + v3) 0 hy
theorem wl_X6_findOverlaps_12 {G : GE} {X : CX} {l : Launch} (hX : Ok G X cX6_findOverlaps RX6) (hN : xn X = 4) {P0 : Mem → Prop} (hr : Rt G X l yX6_findOverlaps none rm_X6_findOverlaps (pmV P0)) (v0 : Nat) (v1 : Nat) (v2 : Int32) {P : (Mem) → Prop} (he0 : ∀ e, P e → AW G X 52 [(0, vR v0), (1, vR v1), (2, vI v2)] [] e 0 0) : ∀ (n : Nat) (s : Int32 × Mem), OK (iter (fun (s : Int32 × Mem) => b_X6_findOverlaps_12 s.2 v0 v1 v2 s.1) n s) P → AW G X 12 [(0, vR v0), (1, vR v1), (2, vI v2), (3, vI s.1)] [] s.2 0 0 := by
  intro n
  induction n with
  | zero => exact fun s hy => hy.it0.elim
  | succ n ih =>
    intro s hy
    exact wb_X6_findOverlaps_12 hX hN hr v0 v1 v2 (fun s hs => ih s hs) (fun e hs => he0 e hs) s.2 s.1 hy.it
def b_X6_findOverlaps_2 (h : Mem) (v0 : Nat) (v1 : Nat) (v2 : Int32) : Option ((Int32 × Mem) ⊕ Mem) :=
  (gI h v1 1 4).bind fun x1 => (if x1 ≤ v2 then some (.inr h) else (iter (fun (s : Int32 × Mem) => b_X6_findOverlaps_12 s.2 v0 v1 v2 s.1) FU (0, h)).bind (fun q6 => some (.inl ((v2 + 1), q6))))
set_option maxRecDepth 100000 in
set_option maxHeartbeats 4000000 in
theorem wb_X6_findOverlaps_2 {G : GE} {X : CX} {l : Launch} (hX : Ok G X cX6_findOverlaps RX6) (hN : xn X = 4) {P0 : Mem → Prop} (hr : Rt G X l yX6_findOverlaps none rm_X6_findOverlaps (pmV P0))  (v0 : Nat) (v1 : Nat) {P : ((Int32 × Mem) ⊕ Mem) → Prop} (hc : ∀ s, P (.inl s) → AW G X 2 [(0, vR v0), (1, vR v1), (2, vI s.1)] [] s.2 0 0) (he0 : ∀ e, P (.inr e) → AW G X 58 [] [] e 0 0) (h : Mem) (v2 : Int32) (hy : OK (b_X6_findOverlaps_2 h v0 v1 v2) P) : AW G X 2 [(0, vR v0), (1, vR v1), (2, vI v2)] [] h 0 0 := by
  unfold b_X6_findOverlaps_2 at hy
  refine aw_iloadn (pc := 2) hX 2 rfl dX6_findOverlaps_2 ?_
  refine aw_aloadn (pc := 3) hX 1 rfl dX6_findOverlaps_3 ?_
  refine aw_gI (pc := 4) hX hy fl_X6_54 (fun _ _ => rfl) dX6_findOverlaps_4 (fun x1 hy => ?_)
  refine aw_ic_ge (pc := 7) hX 58 (by decide) dX6_findOverlaps_7 (fun hc9 => ?_) (fun hc9 => ?_)
  · have hy := hy.t hc9
    refine AW.sub [] rfl ?_
    exact he0 h hy.s
  · have hy := hy.f hc9
    refine aw_iconst (pc := 10) hX 0 (by decide) dX6_findOverlaps_10 ?_
    refine aw_istoren (pc := 11) hX [(3, vI 0), (0, vR v0), (1, vR v1), (2, vI v2)] rfl (lt_n hN (by decide)) dX6_findOverlaps_11 ?_
    refine AW.sub [1, 2, 3, 0] rfl ?_
    refine wl_X6_findOverlaps_12 hX hN hr v0 v1 v2 ?_ FU (0, h) hy.bd
    · intro q6 hy
      refine aw_iinc (pc := 52) hX 1 (by decide) 2 rfl [(2, vI (v2 + 1)), (0, vR v0), (1, vR v1)] rfl (lt_n hN (by decide)) dX6_findOverlaps_52 ?_
      refine aw_goto (pc := 55) hX 2 (by decide) dX6_findOverlaps_55 ?_
      refine AW.sub [1, 2, 0] rfl ?_
      exact hc ((v2 + 1), q6) hy.s
theorem wl_X6_findOverlaps_2 {G : GE} {X : CX} {l : Launch} (hX : Ok G X cX6_findOverlaps RX6) (hN : xn X = 4) {P0 : Mem → Prop} (hr : Rt G X l yX6_findOverlaps none rm_X6_findOverlaps (pmV P0)) (v0 : Nat) (v1 : Nat) {P : (Mem) → Prop} (he0 : ∀ e, P e → AW G X 58 [] [] e 0 0) : ∀ (n : Nat) (s : Int32 × Mem), OK (iter (fun (s : Int32 × Mem) => b_X6_findOverlaps_2 s.2 v0 v1 s.1) n s) P → AW G X 2 [(0, vR v0), (1, vR v1), (2, vI s.1)] [] s.2 0 0 := by
  intro n
  induction n with
  | zero => exact fun s hy => hy.it0.elim
  | succ n ih =>
    intro s hy
    exact wb_X6_findOverlaps_2 hX hN hr v0 v1 (fun s hs => ih s hs) (fun e hs => he0 e hs) s.2 s.1 hy.it
def f_X6_findOverlaps (h : Mem) (v0 : Nat) (v1 : Nat) : Option Mem :=
  (ck h v0 5).bind fun _ => (iter (fun (s : Int32 × Mem) => b_X6_findOverlaps_2 s.2 v0 v1 s.1) FU (0, h)).bind (fun q7 => some q7)
set_option maxRecDepth 100000 in
set_option maxHeartbeats 4000000 in
theorem w_X6_findOverlaps {G : GE} {X : CX} {l : Launch} (hX : Ok G X cX6_findOverlaps RX6) (hN : xn X = 4) {P : Mem → Prop} (hr : Rt G X l yX6_findOverlaps none rm_X6_findOverlaps (pmV P)) (h : Mem) (v0 : Nat) (v1 : Nat) (hy : OK (f_X6_findOverlaps h v0 v1) P) : AW G X 0 [(0, vR v0), (1, vR v1)] [] h 0 0 := by
  unfold f_X6_findOverlaps at hy
  have hkd := hy.kd
  have hy := hy.kb
  refine aw_iconst (pc := 0) hX 0 (by decide) dX6_findOverlaps_0 ?_
  refine aw_istoren (pc := 1) hX [(2, vI 0), (0, vR v0), (1, vR v1)] rfl (lt_n hN (by decide)) dX6_findOverlaps_1 ?_
  refine AW.sub [1, 2, 0] rfl ?_
  refine wl_X6_findOverlaps_2 hX hN hr v0 v1 ?_ FU (0, h) hy.bd
  · intro q7 hy
    exact aw_vret (pc := 58) hX hr (by decide) (by decide) dX6_findOverlaps_58 ⟨rfl, hy.s⟩
theorem con_X6_findOverlaps (l : Launch) (G : GE) (h : Mem) (v0 : Nat) (v1 : Nat) {P : Mem → Prop} (hy : OK (f_X6_findOverlaps h v0 v1) P) : Con l G yX6_findOverlaps cX6_findOverlaps 4 none rm_X6_findOverlaps [vR v0, vR v1] h (pmV P) := Con.of (by decide) (Nat.le_of_ble_eq_true rfl) (fun X hX hr hN => w_X6_findOverlaps hX hN hr h v0 v1 hy)
/-! X6_ownNotes -/
theorem dX6_ownNotes_0 : decode cX6_ownNotes 0 = .ok (.aload_n 1, 1) := by decide +kernel
theorem dX6_ownNotes_1 : decode cX6_ownNotes 1 = .ok (.getfield 23, 3) := by decide +kernel
theorem dX6_ownNotes_4 : decode cX6_ownNotes 4 = .ok (.iload_n 3, 1) := by decide +kernel
theorem dX6_ownNotes_5 : decode cX6_ownNotes 5 = .ok (.iaload, 1) := by decide +kernel
theorem dX6_ownNotes_6 : decode cX6_ownNotes 6 = .ok (.aload_n 0, 1) := by decide +kernel
theorem dX6_ownNotes_7 : decode cX6_ownNotes 7 = .ok (.getfield 13, 3) := by decide +kernel
theorem dX6_ownNotes_10 : decode cX6_ownNotes 10 = .ok (.iload_n 2, 1) := by decide +kernel
theorem dX6_ownNotes_11 : decode cX6_ownNotes 11 = .ok (.bipush 6, 2) := by decide +kernel
theorem dX6_ownNotes_13 : decode cX6_ownNotes 13 = .ok (.imul, 1) := by decide +kernel
theorem dX6_ownNotes_14 : decode cX6_ownNotes 14 = .ok (.iload_n 3, 1) := by decide +kernel
theorem dX6_ownNotes_15 : decode cX6_ownNotes 15 = .ok (.iadd, 1) := by decide +kernel
theorem dX6_ownNotes_16 : decode cX6_ownNotes 16 = .ok (.iaload, 1) := by decide +kernel
theorem dX6_ownNotes_17 : decode cX6_ownNotes 17 = .ok (.isub, 1) := by decide +kernel
theorem dX6_ownNotes_18 : decode cX6_ownNotes 18 = .ok (.ireturn, 1) := by decide +kernel
abbrev rm_X6_ownNotes : Room := { frames := 0, cells := 0, slots := 0, locals := 0 }
def f_X6_ownNotes (h : Mem) (v0 : Nat) (v1 : Nat) (v2 : Int32) (v3 : Int32) : Option Int32 :=
  (ck h v0 5).bind fun _ => (gR h v1 9 4).bind fun r1 => (aI h r1 v3).bind fun x2 => (gR h v0 0 5).bind fun r3 => (aI h r3 ((v2 * 6) + v3)).bind fun x4 => some (x2 - x4)
set_option maxRecDepth 100000 in
set_option maxHeartbeats 4000000 in
theorem w_X6_ownNotes {G : GE} {X : CX} {l : Launch} (hX : Ok G X cX6_ownNotes RX6) (hN : xn X = 4) (h : Mem) {P : Int32 → Prop} (hr : Rt G X l yX6_ownNotes (some .int) rm_X6_ownNotes (ppI h P)) (v0 : Nat) (v1 : Nat) (v2 : Int32) (v3 : Int32) (hy : OK (f_X6_ownNotes h v0 v1 v2 v3) P) : AW G X 0 [(0, vR v0), (1, vR v1), (2, vI v2), (3, vI v3)] [] h 0 0 := by
  unfold f_X6_ownNotes at hy
  have hkd := hy.kd
  have hy := hy.kb
  refine aw_aloadn (pc := 0) hX 1 rfl dX6_ownNotes_0 ?_
  refine aw_gR (pc := 1) hX hy fl_X6_23 (fun _ _ => rfl) dX6_ownNotes_1 (fun r1 hy => ?_)
  refine aw_iloadn (pc := 4) hX 3 rfl dX6_ownNotes_4 ?_
  refine aw_aI (pc := 5) hX hy dX6_ownNotes_5 (fun x2 hy => ?_)
  refine aw_aloadn (pc := 6) hX 0 rfl dX6_ownNotes_6 ?_
  refine aw_gR (pc := 7) hX hy fl_X6_13 (fun _ _ => rfl) dX6_ownNotes_7 (fun r3 hy => ?_)
  refine aw_iloadn (pc := 10) hX 2 rfl dX6_ownNotes_10 ?_
  refine aw_bipush (pc := 11) hX 6 (by decide) dX6_ownNotes_11 ?_
  refine aw_imul (pc := 13) hX dX6_ownNotes_13 ?_
  refine aw_iloadn (pc := 14) hX 3 rfl dX6_ownNotes_14 ?_
  refine aw_iadd (pc := 15) hX dX6_ownNotes_15 ?_
  refine aw_aI (pc := 16) hX hy dX6_ownNotes_16 (fun x4 hy => ?_)
  refine aw_isub (pc := 17) hX dX6_ownNotes_17 ?_
  exact aw_iret (pc := 18) hX hr (by decide) (by decide) dX6_ownNotes_18 ⟨rfl, _, rfl, hy.s⟩
theorem con_X6_ownNotes (l : Launch) (G : GE) (h : Mem) (v0 : Nat) (v1 : Nat) (v2 : Int32) (v3 : Int32) {P : Int32 → Prop} (hy : OK (f_X6_ownNotes h v0 v1 v2 v3) P) : Con l G yX6_ownNotes cX6_ownNotes 4 (some .int) rm_X6_ownNotes [vR v0, vR v1, vI v2, vI v3] h (ppI h P) := Con.of (by decide) (Nat.le_of_ble_eq_true rfl) (fun X hX hr hN => w_X6_ownNotes hX hN h hr v0 v1 v2 v3 hy)
