/-! X13_knownOne -/
theorem dX13_knownOne_0 : decode cX13_knownOne 0 = .ok (.aload_n 0, 1) := by decide +kernel
theorem dX13_knownOne_1 : decode cX13_knownOne 1 = .ok (.invokevirtual 167, 3) := by decide +kernel
theorem dX13_knownOne_4 : decode cX13_knownOne 4 = .ok (.ifCond .ne 8, 3) := by decide +kernel
theorem dX13_knownOne_7 : decode cX13_knownOne 7 = .ok (.aload_n 0, 1) := by decide +kernel
theorem dX13_knownOne_8 : decode cX13_knownOne 8 = .ok (.iconst 1, 1) := by decide +kernel
theorem dX13_knownOne_9 : decode cX13_knownOne 9 = .ok (.invokevirtual 125, 3) := by decide +kernel
theorem dX13_knownOne_12 : decode cX13_knownOne 12 = .ok (.aload_n 0, 1) := by decide +kernel
theorem dX13_knownOne_13 : decode cX13_knownOne 13 = .ok (.getfield 158, 3) := by decide +kernel
theorem dX13_knownOne_16 : decode cX13_knownOne 16 = .ok (.aload_n 0, 1) := by decide +kernel
theorem dX13_knownOne_17 : decode cX13_knownOne 17 = .ok (.getfield 95, 3) := by decide +kernel
theorem dX13_knownOne_20 : decode cX13_knownOne 20 = .ok (.invokevirtual 171, 3) := by decide +kernel
theorem dX13_knownOne_23 : decode cX13_knownOne 23 = .ok (.istore_n 2, 1) := by decide +kernel
theorem dX13_knownOne_24 : decode cX13_knownOne 24 = .ok (.iload_n 2, 1) := by decide +kernel
theorem dX13_knownOne_25 : decode cX13_knownOne 25 = .ok (.iconst (-1), 1) := by decide +kernel
theorem dX13_knownOne_26 : decode cX13_knownOne 26 = .ok (.if_icmp .eq 16, 3) := by decide +kernel
theorem dX13_knownOne_29 : decode cX13_knownOne 29 = .ok (.aload_n 0, 1) := by decide +kernel
theorem dX13_knownOne_30 : decode cX13_knownOne 30 = .ok (.getfield 158, 3) := by decide +kernel
theorem dX13_knownOne_33 : decode cX13_knownOne 33 = .ok (.getfield 182, 3) := by decide +kernel
theorem dX13_knownOne_36 : decode cX13_knownOne 36 = .ok (.iload_n 2, 1) := by decide +kernel
theorem dX13_knownOne_37 : decode cX13_knownOne 37 = .ok (.iaload, 1) := by decide +kernel
theorem dX13_knownOne_38 : decode cX13_knownOne 38 = .ok (.iload_n 1, 1) := by decide +kernel
theorem dX13_knownOne_39 : decode cX13_knownOne 39 = .ok (.if_icmp .eq 8, 3) := by decide +kernel
theorem dX13_knownOne_42 : decode cX13_knownOne 42 = .ok (.aload_n 0, 1) := by decide +kernel
theorem dX13_knownOne_43 : decode cX13_knownOne 43 = .ok (.iconst 2, 1) := by decide +kernel
theorem dX13_knownOne_44 : decode cX13_knownOne 44 = .ok (.invokevirtual 125, 3) := by decide +kernel
theorem dX13_knownOne_47 : decode cX13_knownOne 47 = .ok (.aload_n 0, 1) := by decide +kernel
theorem dX13_knownOne_48 : decode cX13_knownOne 48 = .ok (.getfield 79, 3) := by decide +kernel
theorem dX13_knownOne_51 : decode cX13_knownOne 51 = .ok (.iconst 5, 1) := by decide +kernel
theorem dX13_knownOne_52 : decode cX13_knownOne 52 = .ok (.if_icmp .ne 7, 3) := by decide +kernel
theorem dX13_knownOne_55 : decode cX13_knownOne 55 = .ok (.iconst 0, 1) := by decide +kernel
theorem dX13_knownOne_56 : decode cX13_knownOne 56 = .ok (.goto 12, 3) := by decide +kernel
theorem dX13_knownOne_59 : decode cX13_knownOne 59 = .ok (.aload_n 0, 1) := by decide +kernel
theorem dX13_knownOne_60 : decode cX13_knownOne 60 = .ok (.getfield 158, 3) := by decide +kernel
theorem dX13_knownOne_63 : decode cX13_knownOne 63 = .ok (.getfield 185, 3) := by decide +kernel
theorem dX13_knownOne_66 : decode cX13_knownOne 66 = .ok (.iload_n 2, 1) := by decide +kernel
theorem dX13_knownOne_67 : decode cX13_knownOne 67 = .ok (.iaload, 1) := by decide +kernel
theorem dX13_knownOne_68 : decode cX13_knownOne 68 = .ok (.ireturn, 1) := by decide +kernel
abbrev rm_X13_knownOne : Room := { frames := 7, cells := 0, slots := 0, locals := 175 }
def f_X13_knownOne_47 (h : Mem) (v0 : Nat) (v2 : Int32) : Option (Int32 × Mem) :=
  (gI h v0 9 11).bind fun x6 => (if x6 = 5 then some (0, h) else (gR h v0 4 11).bind fun r7 => (gR h r7 27 10).bind fun r8 => (aI h r8 v2).bind fun x9 => some (x9, h))
set_option maxRecDepth 100000 in
set_option maxHeartbeats 4000000 in
theorem w_X13_knownOne_47 {G : GE} {X : CX} {l : Launch} (hX : Ok G X cX13_knownOne RX13) (hN : xn X = 3) {P : (Int32 × Mem) → Prop} (hr : Rt G X l yX13_knownOne (some .int) rm_X13_knownOne (pmI P)) (h : Mem) (v0 : Nat) (v2 : Int32) (hy : OK (f_X13_knownOne_47 h v0 v2) P) : AW G X 47 [(0, vR v0), (2, vI v2)] [] h 0 0 := by
  unfold f_X13_knownOne_47 at hy
  refine aw_aloadn (pc := 47) hX 0 rfl dX13_knownOne_47 ?_
  refine aw_gI (pc := 48) hX hy fl_X13_79 (fun _ _ => rfl) dX13_knownOne_48 (fun x6 hy => ?_)
  refine aw_iconst (pc := 51) hX 5 (by decide) dX13_knownOne_51 ?_
  refine aw_ic_ne (pc := 52) hX 59 (by decide) dX13_knownOne_52 (fun hc9 => ?_) (fun hc9 => ?_)
  · have hy := hy.f hc9
    refine aw_aloadn (pc := 59) hX 0 rfl dX13_knownOne_59 ?_
    refine aw_gR (pc := 60) hX hy fl_X13_158 (fun _ _ => rfl) dX13_knownOne_60 (fun r7 hy => ?_)
    refine aw_gR (pc := 63) hX hy fl_X13_185 (fun _ _ => rfl) dX13_knownOne_63 (fun r8 hy => ?_)
    refine aw_iloadn (pc := 66) hX 1 rfl dX13_knownOne_66 ?_
    refine aw_aI (pc := 67) hX hy dX13_knownOne_67 (fun x9 hy => ?_)
    exact aw_iret (pc := 68) hX hr (by decide) (by decide) dX13_knownOne_68 ⟨_, rfl, hy.s⟩
  · have hy := hy.t hc9
    refine aw_iconst (pc := 55) hX 0 (by decide) dX13_knownOne_55 ?_
    refine aw_goto (pc := 56) hX 68 (by decide) dX13_knownOne_56 ?_
    exact aw_iret (pc := 68) hX hr (by decide) (by decide) dX13_knownOne_68 ⟨_, rfl, hy.s⟩
def f_X13_knownOne_42 (h : Mem) (v0 : Nat) (v2 : Int32) : Option (Int32 × Mem) :=
  (f_X13_flaw h v0 2).bind fun h5 => f_X13_knownOne_47 h5 v0 v2
set_option maxRecDepth 100000 in
set_option maxHeartbeats 4000000 in
theorem w_X13_knownOne_42 {G : GE} {X : CX} {l : Launch} (hX : Ok G X cX13_knownOne RX13) (hN : xn X = 3) {P : (Int32 × Mem) → Prop} (hr : Rt G X l yX13_knownOne (some .int) rm_X13_knownOne (pmI P)) (h : Mem) (v0 : Nat) (v2 : Int32) (hy : OK (f_X13_knownOne_42 h v0 v2) P) : AW G X 42 [(0, vR v0), (2, vI v2)] [] h 0 0 := by
  unfold f_X13_knownOne_42 at hy
  refine aw_aloadn (pc := 42) hX 0 rfl dX13_knownOne_42 ?_
  refine aw_iconst (pc := 43) hX 2 (by decide) dX13_knownOne_43 ?_
  refine aw_callV (pc := 44) (st := []) (a := v0) hX [vI 2] (con_X13_flaw _ G _ v0 2 hy.bd) mc_X13_flaw ml_X13_125 im_X13_flaw se_X13_flaw (by decide) hy.bd.kd rfl (rm_of hr (by decide)) (Nat.le_of_ble_eq_true rfl) rfl dX13_knownOne_44 (kmV rfl rfl (fun h5 hy => ?_))
  exact w_X13_knownOne_47 hX hN hr h5 v0 v2 hy
def f_X13_knownOne_12 (h : Mem) (v0 : Nat) (v1 : Int32) : Option (Int32 × Mem) :=
  (gR h v0 4 11).bind fun r2 => (gL h v0 15 11).bind fun x3 => (f_X12_find h r2 x3).bind fun x4 => (if x4 = (-1) then f_X13_knownOne_42 h v0 x4 else (gR h v0 4 11).bind fun r10 => (gR h r10 26 10).bind fun r11 => (aI h r11 x4).bind fun x12 => (if x12 = v1 then f_X13_knownOne_47 h v0 x4 else f_X13_knownOne_42 h v0 x4))
set_option maxRecDepth 100000 in
set_option maxHeartbeats 4000000 in
theorem w_X13_knownOne_12 {G : GE} {X : CX} {l : Launch} (hX : Ok G X cX13_knownOne RX13) (hN : xn X = 3) {P : (Int32 × Mem) → Prop} (hr : Rt G X l yX13_knownOne (some .int) rm_X13_knownOne (pmI P)) (h : Mem) (v0 : Nat) (v1 : Int32) (hy : OK (f_X13_knownOne_12 h v0 v1) P) : AW G X 12 [(0, vR v0), (1, vI v1)] [] h 0 0 := by
  unfold f_X13_knownOne_12 at hy
  refine aw_aloadn (pc := 12) hX 0 rfl dX13_knownOne_12 ?_
  refine aw_gR (pc := 13) hX hy fl_X13_158 (fun _ _ => rfl) dX13_knownOne_13 (fun r2 hy => ?_)
  refine aw_aloadn (pc := 16) hX 0 rfl dX13_knownOne_16 ?_
  refine aw_gL (pc := 17) hX hy fl_X13_95 (fun _ _ => rfl) dX13_knownOne_17 (fun x3 hy => ?_)
  refine aw_callV (pc := 20) (st := []) (a := r2) hX [vL x3] (con_X12_find _ G _ r2 x3 hy.bd) mc_X12_find ml_X13_171 im_X12_find se_X12_find (by decide) hy.bd.kd rfl (rm_of hr (by decide)) (Nat.le_of_ble_eq_true rfl) rfl dX13_knownOne_20 (kpI rfl rfl (fun x4 hy => ?_))
  refine aw_istoren (pc := 23) hX [(2, vI x4), (0, vR v0), (1, vI v1)] rfl (lt_n hN (by decide)) dX13_knownOne_23 ?_
  refine aw_iloadn (pc := 24) hX 0 rfl dX13_knownOne_24 ?_
  refine aw_iconst (pc := 25) hX (-1) (by decide) dX13_knownOne_25 ?_
  refine aw_ic_eq (pc := 26) hX 42 (by decide) dX13_knownOne_26 (fun hc9 => ?_) (fun hc9 => ?_)
  · have hy := hy.t hc9
    refine AW.sub [1, 0] rfl ?_
    exact w_X13_knownOne_42 hX hN hr h v0 x4 hy
  · have hy := hy.f hc9
    refine aw_aloadn (pc := 29) hX 1 rfl dX13_knownOne_29 ?_
    refine aw_gR (pc := 30) hX hy fl_X13_158 (fun _ _ => rfl) dX13_knownOne_30 (fun r10 hy => ?_)
    refine aw_gR (pc := 33) hX hy fl_X13_182 (fun _ _ => rfl) dX13_knownOne_33 (fun r11 hy => ?_)
    refine aw_iloadn (pc := 36) hX 0 rfl dX13_knownOne_36 ?_
    refine aw_aI (pc := 37) hX hy dX13_knownOne_37 (fun x12 hy => ?_)
    refine aw_iloadn (pc := 38) hX 2 rfl dX13_knownOne_38 ?_
    refine aw_ic_eq (pc := 39) hX 47 (by decide) dX13_knownOne_39 (fun hc9 => ?_) (fun hc9 => ?_)
    · have hy := hy.t hc9
      refine AW.sub [1, 0] rfl ?_
      exact w_X13_knownOne_47 hX hN hr h v0 x4 hy
    · have hy := hy.f hc9
      refine AW.sub [1, 0] rfl ?_
      exact w_X13_knownOne_42 hX hN hr h v0 x4 hy
def f_X13_knownOne (h : Mem) (v0 : Nat) (v1 : Int32) : Option (Int32 × Mem) :=
  (ck h v0 11).bind fun _ => (f_X13_isName h v0).bind fun x1 => (if x1 = 0 then (f_X13_flaw h v0 1).bind fun h13 => f_X13_knownOne_12 h13 v0 v1 else f_X13_knownOne_12 h v0 v1)
set_option maxRecDepth 100000 in
set_option maxHeartbeats 4000000 in
theorem w_X13_knownOne {G : GE} {X : CX} {l : Launch} (hX : Ok G X cX13_knownOne RX13) (hN : xn X = 3) {P : (Int32 × Mem) → Prop} (hr : Rt G X l yX13_knownOne (some .int) rm_X13_knownOne (pmI P)) (h : Mem) (v0 : Nat) (v1 : Int32) (hy : OK (f_X13_knownOne h v0 v1) P) : AW G X 0 [(0, vR v0), (1, vI v1)] [] h 0 0 := by
  unfold f_X13_knownOne at hy
  have hkd := hy.kd
  have hy := hy.kb
  refine aw_aloadn (pc := 0) hX 0 rfl dX13_knownOne_0 ?_
  refine aw_callV (pc := 1) (st := []) (a := v0) hX [] (con_X13_isName _ G _ v0 hy.bd) mc_X13_isName ml_X13_167 im_X13_isName se_X13_isName (by decide) hy.bd.kd rfl (rm_of hr (by decide)) (Nat.le_of_ble_eq_true rfl) rfl dX13_knownOne_1 (kpI rfl rfl (fun x1 hy => ?_))
  refine aw_if_ne (pc := 4) hX 12 (by decide) dX13_knownOne_4 (fun hc9 => ?_) (fun hc9 => ?_)
  · have hy := hy.f hc9
    exact w_X13_knownOne_12 hX hN hr h v0 v1 hy
  · have hy := hy.t hc9
    refine aw_aloadn (pc := 7) hX 0 rfl dX13_knownOne_7 ?_
    refine aw_iconst (pc := 8) hX 1 (by decide) dX13_knownOne_8 ?_
    refine aw_callV (pc := 9) (st := []) (a := v0) hX [vI 1] (con_X13_flaw _ G _ v0 1 hy.bd) mc_X13_flaw ml_X13_125 im_X13_flaw se_X13_flaw (by decide) hy.bd.kd rfl (rm_of hr (by decide)) (Nat.le_of_ble_eq_true rfl) rfl dX13_knownOne_9 (kmV rfl rfl (fun h13 hy => ?_))
    exact w_X13_knownOne_12 hX hN hr h13 v0 v1 hy
theorem con_X13_knownOne (l : Launch) (G : GE) (h : Mem) (v0 : Nat) (v1 : Int32) {P : (Int32 × Mem) → Prop} (hy : OK (f_X13_knownOne h v0 v1) P) : Con l G yX13_knownOne cX13_knownOne 3 (some .int) rm_X13_knownOne [vR v0, vI v1] h (pmI P) := Con.of (by decide) (Nat.le_of_ble_eq_true rfl) (fun X hX hr hN => w_X13_knownOne hX hN hr h v0 v1 hy)
/-! X13_readKnown -/
theorem dX13_readKnown_0 : decode cX13_readKnown 0 = .ok (.aload_n 0, 1) := by decide +kernel
theorem dX13_readKnown_1 : decode cX13_readKnown 1 = .ok (.iload_n 1, 1) := by decide +kernel
theorem dX13_readKnown_2 : decode cX13_readKnown 2 = .ok (.invokevirtual 188, 3) := by decide +kernel
theorem dX13_readKnown_5 : decode cX13_readKnown 5 = .ok (.istore_n 2, 1) := by decide +kernel
theorem dX13_readKnown_6 : decode cX13_readKnown 6 = .ok (.aload_n 0, 1) := by decide +kernel
theorem dX13_readKnown_7 : decode cX13_readKnown 7 = .ok (.invokevirtual 118, 3) := by decide +kernel
theorem dX13_readKnown_10 : decode cX13_readKnown 10 = .ok (.iload_n 2, 1) := by decide +kernel
theorem dX13_readKnown_11 : decode cX13_readKnown 11 = .ok (.ireturn, 1) := by decide +kernel
abbrev rm_X13_readKnown : Room := { frames := 8, cells := 0, slots := 0, locals := 197 }
def f_X13_readKnown (h : Mem) (v0 : Nat) (v1 : Int32) : Option (Int32 × Mem) :=
  (ck h v0 11).bind fun _ => (f_X13_knownOne h v0 v1).bind fun q3 => (f_X13_goesOn q3.2 v0).bind fun h4 => some (q3.1, h4)
set_option maxRecDepth 100000 in
set_option maxHeartbeats 4000000 in
theorem w_X13_readKnown {G : GE} {X : CX} {l : Launch} (hX : Ok G X cX13_readKnown RX13) (hN : xn X = 3) {P : (Int32 × Mem) → Prop} (hr : Rt G X l yX13_readKnown (some .int) rm_X13_readKnown (pmI P)) (h : Mem) (v0 : Nat) (v1 : Int32) (hy : OK (f_X13_readKnown h v0 v1) P) : AW G X 0 [(0, vR v0), (1, vI v1)] [] h 0 0 := by
  unfold f_X13_readKnown at hy
  have hkd := hy.kd
  have hy := hy.kb
  refine aw_aloadn (pc := 0) hX 0 rfl dX13_readKnown_0 ?_
  refine aw_iloadn (pc := 1) hX 1 rfl dX13_readKnown_1 ?_
  refine aw_callV (pc := 2) (st := []) (a := v0) hX [vI v1] (con_X13_knownOne _ G _ v0 v1 hy.bd) mc_X13_knownOne ml_X13_188 im_X13_knownOne se_X13_knownOne (by decide) hy.bd.kd rfl (rm_of hr (by decide)) (Nat.le_of_ble_eq_true rfl) rfl dX13_readKnown_2 (kmI rfl rfl (fun q3 hy => ?_))
  refine aw_istoren (pc := 5) hX [(2, vI q3.1), (0, vR v0), (1, vI v1)] rfl (lt_n hN (by decide)) dX13_readKnown_5 ?_
  refine aw_aloadn (pc := 6) hX 1 rfl dX13_readKnown_6 ?_
  refine aw_callV (pc := 7) (st := []) (a := v0) hX [] (con_X13_goesOn _ G _ v0 hy.bd) mc_X13_goesOn ml_X13_118 im_X13_goesOn se_X13_goesOn (by decide) hy.bd.kd rfl (rm_of hr (by decide)) (Nat.le_of_ble_eq_true rfl) rfl dX13_readKnown_7 (kmV rfl rfl (fun h4 hy => ?_))
  refine aw_iloadn (pc := 10) hX 0 rfl dX13_readKnown_10 ?_
  exact aw_iret (pc := 11) hX hr (by decide) (by decide) dX13_readKnown_11 ⟨_, rfl, hy.s⟩
theorem con_X13_readKnown (l : Launch) (G : GE) (h : Mem) (v0 : Nat) (v1 : Int32) {P : (Int32 × Mem) → Prop} (hy : OK (f_X13_readKnown h v0 v1) P) : Con l G yX13_readKnown cX13_readKnown 3 (some .int) rm_X13_readKnown [vR v0, vI v1] h (pmI P) := Con.of (by decide) (Nat.le_of_ble_eq_true rfl) (fun X hX hr hN => w_X13_readKnown hX hN hr h v0 v1 hy)
/-! X13_readTurnpike -/
theorem dX13_readTurnpike_0 : decode cX13_readTurnpike 0 = .ok (.aload_n 0, 1) := by decide +kernel
theorem dX13_readTurnpike_1 : decode cX13_readTurnpike 1 = .ok (.getfield 158, 3) := by decide +kernel
theorem dX13_readTurnpike_4 : decode cX13_readTurnpike 4 = .ok (.getfield 162, 3) := by decide +kernel
theorem dX13_readTurnpike_7 : decode cX13_readTurnpike 7 = .ok (.iconst (-1), 1) := by decide +kernel
theorem dX13_readTurnpike_8 : decode cX13_readTurnpike 8 = .ok (.if_icmp .eq 8, 3) := by decide +kernel
theorem dX13_readTurnpike_11 : decode cX13_readTurnpike 11 = .ok (.aload_n 0, 1) := by decide +kernel
theorem dX13_readTurnpike_12 : decode cX13_readTurnpike 12 = .ok (.iconst 3, 1) := by decide +kernel
theorem dX13_readTurnpike_13 : decode cX13_readTurnpike 13 = .ok (.invokevirtual 125, 3) := by decide +kernel
theorem dX13_readTurnpike_16 : decode cX13_readTurnpike 16 = .ok (.aload_n 0, 1) := by decide +kernel
theorem dX13_readTurnpike_17 : decode cX13_readTurnpike 17 = .ok (.invokevirtual 118, 3) := by decide +kernel
theorem dX13_readTurnpike_20 : decode cX13_readTurnpike 20 = .ok (.aload_n 0, 1) := by decide +kernel
theorem dX13_readTurnpike_21 : decode cX13_readTurnpike 21 = .ok (.ldc 227, 2) := by decide +kernel
theorem dX13_readTurnpike_23 : decode cX13_readTurnpike 23 = .ok (.iconst 0, 1) := by decide +kernel
theorem dX13_readTurnpike_24 : decode cX13_readTurnpike 24 = .ok (.bipush 100, 2) := by decide +kernel
theorem dX13_readTurnpike_26 : decode cX13_readTurnpike 26 = .ok (.invokevirtual 228, 3) := by decide +kernel
theorem dX13_readTurnpike_29 : decode cX13_readTurnpike 29 = .ok (.istore_n 1, 1) := by decide +kernel
theorem dX13_readTurnpike_30 : decode cX13_readTurnpike 30 = .ok (.aload_n 0, 1) := by decide +kernel
theorem dX13_readTurnpike_31 : decode cX13_readTurnpike 31 = .ok (.getfield 79, 3) := by decide +kernel
theorem dX13_readTurnpike_34 : decode cX13_readTurnpike 34 = .ok (.iconst 5, 1) := by decide +kernel
theorem dX13_readTurnpike_35 : decode cX13_readTurnpike 35 = .ok (.if_icmp .eq 11, 3) := by decide +kernel
theorem dX13_readTurnpike_38 : decode cX13_readTurnpike 38 = .ok (.aload_n 0, 1) := by decide +kernel
theorem dX13_readTurnpike_39 : decode cX13_readTurnpike 39 = .ok (.getfield 158, 3) := by decide +kernel
theorem dX13_readTurnpike_42 : decode cX13_readTurnpike 42 = .ok (.iload_n 1, 1) := by decide +kernel
theorem dX13_readTurnpike_43 : decode cX13_readTurnpike 43 = .ok (.putfield 162, 3) := by decide +kernel
theorem dX13_readTurnpike_46 : decode cX13_readTurnpike 46 = .ok (.return_, 1) := by decide +kernel
abbrev rm_X13_readTurnpike : Room := { frames := 8, cells := 0, slots := 0, locals := 199 }
def f_X13_readTurnpike_16 (h : Mem) (v0 : Nat) : Option Mem :=
  (f_X13_goesOn h v0).bind fun h3 => (f_X13_readPart h3 v0 9 0 100).bind fun q6 => (gI q6.2 v0 9 11).bind fun x7 => (if x7 = 5 then some q6.2 else (gR q6.2 v0 4 11).bind fun r8 => (pI q6.2 r8 0 10 q6.1).bind fun h9 => some h9)
set_option maxRecDepth 100000 in
set_option maxHeartbeats 4000000 in
theorem w_X13_readTurnpike_16 {G : GE} {X : CX} {l : Launch} (hX : Ok G X cX13_readTurnpike RX13) (hN : xn X = 2) {P : Mem → Prop} (hr : Rt G X l yX13_readTurnpike none rm_X13_readTurnpike (pmV P)) (h : Mem) (v0 : Nat) (hy : OK (f_X13_readTurnpike_16 h v0) P) : AW G X 16 [(0, vR v0)] [] h 0 0 := by
  unfold f_X13_readTurnpike_16 at hy
  refine aw_aloadn (pc := 16) hX 0 rfl dX13_readTurnpike_16 ?_
  refine aw_callV (pc := 17) (st := []) (a := v0) hX [] (con_X13_goesOn _ G _ v0 hy.bd) mc_X13_goesOn ml_X13_118 im_X13_goesOn se_X13_goesOn (by decide) hy.bd.kd rfl (rm_of hr (by decide)) (Nat.le_of_ble_eq_true rfl) rfl dX13_readTurnpike_17 (kmV rfl rfl (fun h3 hy => ?_))
  refine aw_aloadn (pc := 20) hX 0 rfl dX13_readTurnpike_20 ?_
  refine aw_ldcs (pc := 21) hX (tx := "rain") (k := 9) (by decide +kernel) dX13_readTurnpike_21 ?_
  refine aw_iconst (pc := 23) hX 0 (by decide) dX13_readTurnpike_23 ?_
  refine aw_bipush (pc := 24) hX 100 (by decide) dX13_readTurnpike_24 ?_
  refine aw_callV (pc := 26) (st := []) (a := v0) hX [vX 9, vI 0, vI 100] (con_X13_readPart _ G _ v0 9 0 100 hy.bd) mc_X13_readPart ml_X13_228 im_X13_readPart se_X13_readPart (by decide) hy.bd.kd rfl (rm_of hr (by decide)) (Nat.le_of_ble_eq_true rfl) rfl dX13_readTurnpike_26 (kmI rfl rfl (fun q6 hy => ?_))
  refine aw_istoren (pc := 29) hX [(1, vI q6.1), (0, vR v0)] rfl (lt_n hN (by decide)) dX13_readTurnpike_29 ?_
  refine aw_aloadn (pc := 30) hX 1 rfl dX13_readTurnpike_30 ?_
  refine aw_gI (pc := 31) hX hy fl_X13_79 (fun _ _ => rfl) dX13_readTurnpike_31 (fun x7 hy => ?_)
  refine aw_iconst (pc := 34) hX 5 (by decide) dX13_readTurnpike_34 ?_
  refine aw_ic_eq (pc := 35) hX 46 (by decide) dX13_readTurnpike_35 (fun hc9 => ?_) (fun hc9 => ?_)
  · have hy := hy.t hc9
    exact aw_vret (pc := 46) hX hr (by decide) (by decide) dX13_readTurnpike_46 ⟨rfl, hy.s⟩
  · have hy := hy.f hc9
    refine aw_aloadn (pc := 38) hX 1 rfl dX13_readTurnpike_38 ?_
    refine aw_gR (pc := 39) hX hy fl_X13_158 (fun _ _ => rfl) dX13_readTurnpike_39 (fun r8 hy => ?_)
    refine aw_iloadn (pc := 42) hX 0 rfl dX13_readTurnpike_42 ?_
    refine aw_pI (pc := 43) hX hy fl_X13_162 rfl (Or.inl rfl) dX13_readTurnpike_43 (fun h9 hy => ?_)
    exact aw_vret (pc := 46) hX hr (by decide) (by decide) dX13_readTurnpike_46 ⟨rfl, hy.s⟩
def f_X13_readTurnpike (h : Mem) (v0 : Nat) : Option Mem :=
  (ck h v0 11).bind fun _ => (gR h v0 4 11).bind fun r1 => (gI h r1 0 10).bind fun x2 => (if x2 = (-1) then f_X13_readTurnpike_16 h v0 else (f_X13_flaw h v0 3).bind fun h10 => f_X13_readTurnpike_16 h10 v0)
set_option maxRecDepth 100000 in
set_option maxHeartbeats 4000000 in
theorem w_X13_readTurnpike {G : GE} {X : CX} {l : Launch} (hX : Ok G X cX13_readTurnpike RX13) (hN : xn X = 2) {P : Mem → Prop} (hr : Rt G X l yX13_readTurnpike none rm_X13_readTurnpike (pmV P)) (h : Mem) (v0 : Nat) (hy : OK (f_X13_readTurnpike h v0) P) : AW G X 0 [(0, vR v0)] [] h 0 0 := by
  unfold f_X13_readTurnpike at hy
  have hkd := hy.kd
  have hy := hy.kb
  refine aw_aloadn (pc := 0) hX 0 rfl dX13_readTurnpike_0 ?_
  refine aw_gR (pc := 1) hX hy fl_X13_158 (fun _ _ => rfl) dX13_readTurnpike_1 (fun r1 hy => ?_)
  refine aw_gI (pc := 4) hX hy fl_X13_162 (fun _ _ => rfl) dX13_readTurnpike_4 (fun x2 hy => ?_)
  refine aw_iconst (pc := 7) hX (-1) (by decide) dX13_readTurnpike_7 ?_
  refine aw_ic_eq (pc := 8) hX 16 (by decide) dX13_readTurnpike_8 (fun hc9 => ?_) (fun hc9 => ?_)
  · have hy := hy.t hc9
    exact w_X13_readTurnpike_16 hX hN hr h v0 hy
  · have hy := hy.f hc9
    refine aw_aloadn (pc := 11) hX 0 rfl dX13_readTurnpike_11 ?_
    refine aw_iconst (pc := 12) hX 3 (by decide) dX13_readTurnpike_12 ?_
    refine aw_callV (pc := 13) (st := []) (a := v0) hX [vI 3] (con_X13_flaw _ G _ v0 3 hy.bd) mc_X13_flaw ml_X13_125 im_X13_flaw se_X13_flaw (by decide) hy.bd.kd rfl (rm_of hr (by decide)) (Nat.le_of_ble_eq_true rfl) rfl dX13_readTurnpike_13 (kmV rfl rfl (fun h10 hy => ?_))
    exact w_X13_readTurnpike_16 hX hN hr h10 v0 hy
theorem con_X13_readTurnpike (l : Launch) (G : GE) (h : Mem) (v0 : Nat) {P : Mem → Prop} (hy : OK (f_X13_readTurnpike h v0) P) : Con l G yX13_readTurnpike cX13_readTurnpike 2 none rm_X13_readTurnpike [vR v0] h (pmV P) := Con.of (by decide) (Nat.le_of_ble_eq_true rfl) (fun X hX hr hN => w_X13_readTurnpike hX hN hr h v0 hy)
/-! X13_areNotes -/
theorem dX13_areNotes_0 : decode cX13_areNotes 0 = .ok (.aload_n 0, 1) := by decide +kernel
theorem dX13_areNotes_1 : decode cX13_areNotes 1 = .ok (.getfield 99, 3) := by decide +kernel
theorem dX13_areNotes_4 : decode cX13_areNotes 4 = .ok (.iconst 2, 1) := by decide +kernel
theorem dX13_areNotes_5 : decode cX13_areNotes 5 = .ok (.if_icmp .ge 5, 3) := by decide +kernel
theorem dX13_areNotes_8 : decode cX13_areNotes 8 = .ok (.iconst 0, 1) := by decide +kernel
theorem dX13_areNotes_9 : decode cX13_areNotes 9 = .ok (.ireturn, 1) := by decide +kernel
theorem dX13_areNotes_10 : decode cX13_areNotes 10 = .ok (.aload_n 0, 1) := by decide +kernel
theorem dX13_areNotes_11 : decode cX13_areNotes 11 = .ok (.getfield 95, 3) := by decide +kernel
theorem dX13_areNotes_14 : decode cX13_areNotes 14 = .ok (.lstore_n 2, 1) := by decide +kernel
theorem dX13_areNotes_15 : decode cX13_areNotes 15 = .ok (.aload_n 0, 1) := by decide +kernel
theorem dX13_areNotes_16 : decode cX13_areNotes 16 = .ok (.getfield 99, 3) := by decide +kernel
theorem dX13_areNotes_19 : decode cX13_areNotes 19 = .ok (.iconst 1, 1) := by decide +kernel
theorem dX13_areNotes_20 : decode cX13_areNotes 20 = .ok (.isub, 1) := by decide +kernel
theorem dX13_areNotes_21 : decode cX13_areNotes 21 = .ok (.istore 4, 2) := by decide +kernel
theorem dX13_areNotes_23 : decode cX13_areNotes 23 = .ok (.iload 4, 2) := by decide +kernel
theorem dX13_areNotes_25 : decode cX13_areNotes 25 = .ok (.ifCond .lt 49, 3) := by decide +kernel
theorem dX13_areNotes_28 : decode cX13_areNotes 28 = .ok (.lload_n 2, 1) := by decide +kernel
theorem dX13_areNotes_29 : decode cX13_areNotes 29 = .ok (.ldc2_w 232, 3) := by decide +kernel
theorem dX13_areNotes_32 : decode cX13_areNotes 32 = .ok (.land, 1) := by decide +kernel
theorem dX13_areNotes_33 : decode cX13_areNotes 33 = .ok (.l2i, 1) := by decide +kernel
theorem dX13_areNotes_34 : decode cX13_areNotes 34 = .ok (.iconst 1, 1) := by decide +kernel
theorem dX13_areNotes_35 : decode cX13_areNotes 35 = .ok (.isub, 1) := by decide +kernel
theorem dX13_areNotes_36 : decode cX13_areNotes 36 = .ok (.istore 5, 2) := by decide +kernel
theorem dX13_areNotes_38 : decode cX13_areNotes 38 = .ok (.iload 5, 2) := by decide +kernel
theorem dX13_areNotes_40 : decode cX13_areNotes 40 = .ok (.bipush 6, 2) := by decide +kernel
theorem dX13_areNotes_42 : decode cX13_areNotes 42 = .ok (.if_icmp .le 5, 3) := by decide +kernel
theorem dX13_areNotes_45 : decode cX13_areNotes 45 = .ok (.iconst 0, 1) := by decide +kernel
theorem dX13_areNotes_46 : decode cX13_areNotes 46 = .ok (.ireturn, 1) := by decide +kernel
theorem dX13_areNotes_47 : decode cX13_areNotes 47 = .ok (.aload_n 0, 1) := by decide +kernel
theorem dX13_areNotes_48 : decode cX13_areNotes 48 = .ok (.getfield 158, 3) := by decide +kernel
theorem dX13_areNotes_51 : decode cX13_areNotes 51 = .ok (.getfield 234, 3) := by decide +kernel
theorem dX13_areNotes_54 : decode cX13_areNotes 54 = .ok (.bipush 8, 2) := by decide +kernel
theorem dX13_areNotes_56 : decode cX13_areNotes 56 = .ok (.iload_n 1, 1) := by decide +kernel
theorem dX13_areNotes_57 : decode cX13_areNotes 57 = .ok (.imul, 1) := by decide +kernel
theorem dX13_areNotes_58 : decode cX13_areNotes 58 = .ok (.iload 4, 2) := by decide +kernel
theorem dX13_areNotes_60 : decode cX13_areNotes 60 = .ok (.iadd, 1) := by decide +kernel
theorem dX13_areNotes_61 : decode cX13_areNotes 61 = .ok (.iload 5, 2) := by decide +kernel
theorem dX13_areNotes_63 : decode cX13_areNotes 63 = .ok (.iastore, 1) := by decide +kernel
theorem dX13_areNotes_64 : decode cX13_areNotes 64 = .ok (.lload_n 2, 1) := by decide +kernel
theorem dX13_areNotes_65 : decode cX13_areNotes 65 = .ok (.iconst 5, 1) := by decide +kernel
theorem dX13_areNotes_66 : decode cX13_areNotes 66 = .ok (.lshr, 1) := by decide +kernel
theorem dX13_areNotes_67 : decode cX13_areNotes 67 = .ok (.lstore_n 2, 1) := by decide +kernel
theorem dX13_areNotes_68 : decode cX13_areNotes 68 = .ok (.iinc 4 (-1), 3) := by decide +kernel
theorem dX13_areNotes_71 : decode cX13_areNotes 71 = .ok (.goto (-48), 3) := by decide +kernel
theorem dX13_areNotes_74 : decode cX13_areNotes 74 = .ok (.aload_n 0, 1) := by decide +kernel
theorem dX13_areNotes_75 : decode cX13_areNotes 75 = .ok (.getfield 158, 3) := by decide +kernel
theorem dX13_areNotes_78 : decode cX13_areNotes 78 = .ok (.getfield 237, 3) := by decide +kernel
theorem dX13_areNotes_81 : decode cX13_areNotes 81 = .ok (.iload_n 1, 1) := by decide +kernel
theorem dX13_areNotes_82 : decode cX13_areNotes 82 = .ok (.aload_n 0, 1) := by decide +kernel
theorem dX13_areNotes_83 : decode cX13_areNotes 83 = .ok (.getfield 99, 3) := by decide +kernel
theorem dX13_areNotes_86 : decode cX13_areNotes 86 = .ok (.iastore, 1) := by decide +kernel
theorem dX13_areNotes_87 : decode cX13_areNotes 87 = .ok (.iconst 1, 1) := by decide +kernel
theorem dX13_areNotes_88 : decode cX13_areNotes 88 = .ok (.ireturn, 1) := by decide +kernel
abbrev rm_X13_areNotes : Room := { frames := 0, cells := 0, slots := 0, locals := 0 }
def b_X13_areNotes_23 (h : Mem) (v0 : Nat) (v1 : Int32) (v2 : Int64) (v4 : Int32) : Option ((Int64 × Int32 × Mem) ⊕ (Mem ⊕ Mem)) :=
  (if v4 < 0 then some (.inr (.inr h)) else (if ((((v2 &&& 31) : Int64).toInt32) - 1) ≤ 6 then (gR h v0 4 11).bind fun r4 => (gR h r4 11 10).bind fun r5 => (sI h r5 ((8 * v1) + v4) ((((v2 &&& 31) : Int64).toInt32) - 1)).bind fun h6 => some (.inl ((v2 >>> ((5 : Int32).toInt64 &&& 63)), (v4 + (-1)), h6)) else some (.inr (.inl h))))
set_option maxRecDepth 100000 in
set_option maxHeartbeats 4000000 in
theorem wb_X13_areNotes_23 {G : GE} {X : CX} {l : Launch} (hX : Ok G X cX13_areNotes RX13) (hN : xn X = 6) {P0 : (Int32 × Mem) → Prop} (hr : Rt G X l yX13_areNotes (some .boolean) rm_X13_areNotes (pmI P0))  (v0 : Nat) (v1 : Int32) {P : ((Int64 × Int32 × Mem) ⊕ (Mem ⊕ Mem)) → Prop} (hc : ∀ s, P (.inl s) → AW G X 23 [(0, vR v0), (1, vI v1), (2, vL s.1), (4, vI s.2.1)] [] s.2.2 0 0) (he0 : ∀ e, P (.inr (.inl e)) → AW G X 45 [] [] e 0 0) (he1 : ∀ e, P (.inr (.inr e)) → AW G X 74 [(0, vR v0), (1, vI v1)] [] e 0 0) (h : Mem) (v2 : Int64) (v4 : Int32) (hy : OK (b_X13_areNotes_23 h v0 v1 v2 v4) P) : AW G X 23 [(0, vR v0), (1, vI v1), (2, vL v2), (4, vI v4)] [] h 0 0 := by
  unfold b_X13_areNotes_23 at hy
  refine aw_iload (pc := 23) hX 3 rfl dX13_areNotes_23 ?_
  refine aw_if_lt (pc := 25) hX 74 (by decide) dX13_areNotes_25 (fun hc9 => ?_) (fun hc9 => ?_)
  · have hy := hy.t hc9
    refine AW.sub [0, 1] rfl ?_
    exact he1 h hy.s
  · have hy := hy.f hc9
    refine aw_lloadn (pc := 28) hX 2 rfl dX13_areNotes_28 ?_
    refine aw_ldc2 (pc := 29) hX kc_X13_232 dX13_areNotes_29 ?_
    refine aw_land (pc := 32) hX dX13_areNotes_32 ?_
    refine aw_l2i (pc := 33) hX dX13_areNotes_33 ?_
    refine aw_iconst (pc := 34) hX 1 (by decide) dX13_areNotes_34 ?_
    refine aw_isub (pc := 35) hX dX13_areNotes_35 ?_
    refine aw_istore (pc := 36) hX [(5, vI ((((v2 &&& 31) : Int64).toInt32) - 1)), (0, vR v0), (1, vI v1), (2, vL v2), (4, vI v4)] rfl (lt_n hN (by decide)) dX13_areNotes_36 ?_
    refine aw_iload (pc := 38) hX 0 rfl dX13_areNotes_38 ?_
    refine aw_bipush (pc := 40) hX 6 (by decide) dX13_areNotes_40 ?_
    refine aw_ic_le (pc := 42) hX 47 (by decide) dX13_areNotes_42 (fun hc9 => ?_) (fun hc9 => ?_)
    · have hy := hy.t hc9
      refine aw_aloadn (pc := 47) hX 1 rfl dX13_areNotes_47 ?_
      refine aw_gR (pc := 48) hX hy fl_X13_158 (fun _ _ => rfl) dX13_areNotes_48 (fun r4 hy => ?_)
      refine aw_gR (pc := 51) hX hy fl_X13_234 (fun _ _ => rfl) dX13_areNotes_51 (fun r5 hy => ?_)
      refine aw_bipush (pc := 54) hX 8 (by decide) dX13_areNotes_54 ?_
      refine aw_iloadn (pc := 56) hX 2 rfl dX13_areNotes_56 ?_
      refine aw_imul (pc := 57) hX dX13_areNotes_57 ?_
      refine aw_iload (pc := 58) hX 4 rfl dX13_areNotes_58 ?_
      refine aw_iadd (pc := 60) hX dX13_areNotes_60 ?_
      refine aw_iload (pc := 61) hX 0 rfl dX13_areNotes_61 ?_
      refine aw_sI (pc := 63) hX hy dX13_areNotes_63 (fun h6 hy => ?_)
      refine aw_lloadn (pc := 64) hX 3 rfl dX13_areNotes_64 ?_
      refine aw_iconst (pc := 65) hX 5 (by decide) dX13_areNotes_65 ?_
      refine aw_lshr (pc := 66) hX dX13_areNotes_66 ?_
      refine aw_lstoren (pc := 67) hX [(2, vL (v2 >>> ((5 : Int32).toInt64 &&& 63))), (5, vI ((((v2 &&& 31) : Int64).toInt32) - 1)), (0, vR v0), (1, vI v1), (4, vI v4)] rfl (lt_n hN (by decide)) dX13_areNotes_67 ?_
      refine aw_iinc (pc := 68) hX (-1) (by decide) 4 rfl [(4, vI (v4 + (-1))), (2, vL (v2 >>> ((5 : Int32).toInt64 &&& 63))), (5, vI ((((v2 &&& 31) : Int64).toInt32) - 1)), (0, vR v0), (1, vI v1)] rfl (lt_n hN (by decide)) dX13_areNotes_68 ?_
      refine aw_goto (pc := 71) hX 23 (by decide) dX13_areNotes_71 ?_
      refine AW.sub [3, 4, 1, 0] rfl ?_
      exact hc ((v2 >>> ((5 : Int32).toInt64 &&& 63)), (v4 + (-1)), h6) hy.s
    · have hy := hy.f hc9
      refine AW.sub [] rfl ?_
      exact he0 h hy.s
theorem wl_X13_areNotes_23 {G : GE} {X : CX} {l : Launch} (hX : Ok G X cX13_areNotes RX13) (hN : xn X = 6) {P0 : (Int32 × Mem) → Prop} (hr : Rt G X l yX13_areNotes (some .boolean) rm_X13_areNotes (pmI P0)) (v0 : Nat) (v1 : Int32) {P : (Mem ⊕ Mem) → Prop} (he0 : ∀ e, P (.inl e) → AW G X 45 [] [] e 0 0) (he1 : ∀ e, P (.inr e) → AW G X 74 [(0, vR v0), (1, vI v1)] [] e 0 0) : ∀ (n : Nat) (s : Int64 × Int32 × Mem), OK (iter (fun (s : Int64 × Int32 × Mem) => b_X13_areNotes_23 s.2.2 v0 v1 s.1 s.2.1) n s) P → AW G X 23 [(0, vR v0), (1, vI v1), (2, vL s.1), (4, vI s.2.1)] [] s.2.2 0 0 := by
  intro n
  induction n with
  | zero => exact fun s hy => hy.it0.elim
  | succ n ih =>
    intro s hy
    exact wb_X13_areNotes_23 hX hN hr v0 v1 (fun s hs => ih s hs) (fun e hs => he0 e hs) (fun e hs => he1 e hs) s.2.2 s.1 s.2.1 hy.it
def f_X13_areNotes (h : Mem) (v0 : Nat) (v1 : Int32) : Option (Int32 × Mem) :=
  (ck h v0 11).bind fun _ => (gI h v0 14 11).bind fun x1 => (if 2 ≤ x1 then (gL h v0 15 11).bind fun x2 => (gI h v0 14 11).bind fun x3 => (iter (fun (s : Int64 × Int32 × Mem) => b_X13_areNotes_23 s.2.2 v0 v1 s.1 s.2.1) FU (x2, (x3 - 1), h)).bind (Sum.elim (fun e8 => some (0, e8)) (fun e9 => (gR e9 v0 4 11).bind fun r10 => (gR e9 r10 10 10).bind fun r11 => (gI e9 v0 14 11).bind fun x12 => (sI e9 r11 v1 x12).bind fun h13 => some (1, h13))) else some (0, h))
set_option maxRecDepth 100000 in
set_option maxHeartbeats 4000000 in
theorem w_X13_areNotes {G : GE} {X : CX} {l : Launch} (hX : Ok G X cX13_areNotes RX13) (hN : xn X = 6) {P : (Int32 × Mem) → Prop} (hr : Rt G X l yX13_areNotes (some .boolean) rm_X13_areNotes (pmI P)) (h : Mem) (v0 : Nat) (v1 : Int32) (hy : OK (f_X13_areNotes h v0 v1) P) : AW G X 0 [(0, vR v0), (1, vI v1)] [] h 0 0 := by
  unfold f_X13_areNotes at hy
  have hkd := hy.kd
  have hy := hy.kb
  refine aw_aloadn (pc := 0) hX 0 rfl dX13_areNotes_0 ?_
  refine aw_gI (pc := 1) hX hy fl_X13_99 (fun _ _ => rfl) dX13_areNotes_1 (fun x1 hy => ?_)
  refine aw_iconst (pc := 4) hX 2 (by decide) dX13_areNotes_4 ?_
  refine aw_ic_ge (pc := 5) hX 10 (by decide) dX13_areNotes_5 (fun hc9 => ?_) (fun hc9 => ?_)
  · have hy := hy.t hc9
    refine aw_aloadn (pc := 10) hX 0 rfl dX13_areNotes_10 ?_
    refine aw_gL (pc := 11) hX hy fl_X13_95 (fun _ _ => rfl) dX13_areNotes_11 (fun x2 hy => ?_)
    refine aw_lstoren (pc := 14) hX [(2, vL x2), (0, vR v0), (1, vI v1)] rfl (lt_n hN (by decide)) dX13_areNotes_14 ?_
    refine aw_aloadn (pc := 15) hX 1 rfl dX13_areNotes_15 ?_
    refine aw_gI (pc := 16) hX hy fl_X13_99 (fun _ _ => rfl) dX13_areNotes_16 (fun x3 hy => ?_)
    refine aw_iconst (pc := 19) hX 1 (by decide) dX13_areNotes_19 ?_
    refine aw_isub (pc := 20) hX dX13_areNotes_20 ?_
    refine aw_istore (pc := 21) hX [(4, vI (x3 - 1)), (2, vL x2), (0, vR v0), (1, vI v1)] rfl (lt_n hN (by decide)) dX13_areNotes_21 ?_
    refine AW.sub [2, 3, 1, 0] rfl ?_
    refine wl_X13_areNotes_23 hX hN hr v0 v1 ?_ ?_ FU (x2, (x3 - 1), h) hy.bd
    · intro e8 hy
      refine aw_iconst (pc := 45) hX 0 (by decide) dX13_areNotes_45 ?_
      exact aw_zret (pc := 46) hX hr (by decide) (by decide) dX13_areNotes_46 (Or.inl rfl) ⟨_, rfl, hy.s⟩
    · intro e9 hy
      refine aw_aloadn (pc := 74) hX 0 rfl dX13_areNotes_74 ?_
      refine aw_gR (pc := 75) hX hy fl_X13_158 (fun _ _ => rfl) dX13_areNotes_75 (fun r10 hy => ?_)
      refine aw_gR (pc := 78) hX hy fl_X13_237 (fun _ _ => rfl) dX13_areNotes_78 (fun r11 hy => ?_)
      refine aw_iloadn (pc := 81) hX 1 rfl dX13_areNotes_81 ?_
      refine aw_aloadn (pc := 82) hX 0 rfl dX13_areNotes_82 ?_
      refine aw_gI (pc := 83) hX hy fl_X13_99 (fun _ _ => rfl) dX13_areNotes_83 (fun x12 hy => ?_)
      refine aw_sI (pc := 86) hX hy dX13_areNotes_86 (fun h13 hy => ?_)
      refine aw_iconst (pc := 87) hX 1 (by decide) dX13_areNotes_87 ?_
      exact aw_zret (pc := 88) hX hr (by decide) (by decide) dX13_areNotes_88 (Or.inr rfl) ⟨_, rfl, hy.s⟩
  · have hy := hy.f hc9
    refine aw_iconst (pc := 8) hX 0 (by decide) dX13_areNotes_8 ?_
    exact aw_zret (pc := 9) hX hr (by decide) (by decide) dX13_areNotes_9 (Or.inl rfl) ⟨_, rfl, hy.s⟩
theorem con_X13_areNotes (l : Launch) (G : GE) (h : Mem) (v0 : Nat) (v1 : Int32) {P : (Int32 × Mem) → Prop} (hy : OK (f_X13_areNotes h v0 v1) P) : Con l G yX13_areNotes cX13_areNotes 6 (some .boolean) rm_X13_areNotes [vR v0, vI v1] h (pmI P) := Con.of (by decide) (Nat.le_of_ble_eq_true rfl) (fun X hX hr hN => w_X13_areNotes hX hN hr h v0 v1 hy)
/-! X13_readTune -/
theorem dX13_readTune_0 : decode cX13_readTune 0 = .ok (.aload_n 0, 1) := by decide +kernel
theorem dX13_readTune_1 : decode cX13_readTune 1 = .ok (.aload_n 0, 1) := by decide +kernel
theorem dX13_readTune_2 : decode cX13_readTune 2 = .ok (.getfield 158, 3) := by decide +kernel
theorem dX13_readTune_5 : decode cX13_readTune 5 = .ok (.getfield 239, 3) := by decide +kernel
theorem dX13_readTune_8 : decode cX13_readTune 8 = .ok (.bipush 6, 2) := by decide +kernel
theorem dX13_readTune_10 : decode cX13_readTune 10 = .ok (.invokevirtual 242, 3) := by decide +kernel
theorem dX13_readTune_13 : decode cX13_readTune 13 = .ok (.aload_n 0, 1) := by decide +kernel
theorem dX13_readTune_14 : decode cX13_readTune 14 = .ok (.invokevirtual 246, 3) := by decide +kernel
theorem dX13_readTune_17 : decode cX13_readTune 17 = .ok (.lstore_n 1, 1) := by decide +kernel
theorem dX13_readTune_18 : decode cX13_readTune 18 = .ok (.aload_n 0, 1) := by decide +kernel
theorem dX13_readTune_19 : decode cX13_readTune 19 = .ok (.getfield 79, 3) := by decide +kernel
theorem dX13_readTune_22 : decode cX13_readTune 22 = .ok (.iconst 2, 1) := by decide +kernel
theorem dX13_readTune_23 : decode cX13_readTune 23 = .ok (.if_icmp .eq 8, 3) := by decide +kernel
theorem dX13_readTune_26 : decode cX13_readTune 26 = .ok (.aload_n 0, 1) := by decide +kernel
theorem dX13_readTune_27 : decode cX13_readTune 27 = .ok (.iconst 1, 1) := by decide +kernel
theorem dX13_readTune_28 : decode cX13_readTune 28 = .ok (.invokevirtual 125, 3) := by decide +kernel
theorem dX13_readTune_31 : decode cX13_readTune 31 = .ok (.aload_n 0, 1) := by decide +kernel
theorem dX13_readTune_32 : decode cX13_readTune 32 = .ok (.getfield 79, 3) := by decide +kernel
theorem dX13_readTune_35 : decode cX13_readTune 35 = .ok (.iconst 5, 1) := by decide +kernel
theorem dX13_readTune_36 : decode cX13_readTune 36 = .ok (.if_icmp .eq 23, 3) := by decide +kernel
theorem dX13_readTune_39 : decode cX13_readTune 39 = .ok (.aload_n 0, 1) := by decide +kernel
theorem dX13_readTune_40 : decode cX13_readTune 40 = .ok (.aload_n 0, 1) := by decide +kernel
theorem dX13_readTune_41 : decode cX13_readTune 41 = .ok (.getfield 158, 3) := by decide +kernel
theorem dX13_readTune_44 : decode cX13_readTune 44 = .ok (.getfield 239, 3) := by decide +kernel
theorem dX13_readTune_47 : decode cX13_readTune 47 = .ok (.invokevirtual 250, 3) := by decide +kernel
theorem dX13_readTune_50 : decode cX13_readTune 50 = .ok (.ifCond .ne 9, 3) := by decide +kernel
theorem dX13_readTune_53 : decode cX13_readTune 53 = .ok (.aload_n 0, 1) := by decide +kernel
theorem dX13_readTune_54 : decode cX13_readTune 54 = .ok (.bipush 7, 2) := by decide +kernel
theorem dX13_readTune_56 : decode cX13_readTune 56 = .ok (.invokevirtual 125, 3) := by decide +kernel
theorem dX13_readTune_59 : decode cX13_readTune 59 = .ok (.aload_n 0, 1) := by decide +kernel
theorem dX13_readTune_60 : decode cX13_readTune 60 = .ok (.invokevirtual 118, 3) := by decide +kernel
theorem dX13_readTune_63 : decode cX13_readTune 63 = .ok (.aload_n 0, 1) := by decide +kernel
theorem dX13_readTune_64 : decode cX13_readTune 64 = .ok (.getfield 79, 3) := by decide +kernel
theorem dX13_readTune_67 : decode cX13_readTune 67 = .ok (.iconst 5, 1) := by decide +kernel
theorem dX13_readTune_68 : decode cX13_readTune 68 = .ok (.if_icmp .ne 4, 3) := by decide +kernel
theorem dX13_readTune_71 : decode cX13_readTune 71 = .ok (.return_, 1) := by decide +kernel
theorem dX13_readTune_72 : decode cX13_readTune 72 = .ok (.aload_n 0, 1) := by decide +kernel
theorem dX13_readTune_73 : decode cX13_readTune 73 = .ok (.lload_n 1, 1) := by decide +kernel
theorem dX13_readTune_74 : decode cX13_readTune 74 = .ok (.iconst 0, 1) := by decide +kernel
theorem dX13_readTune_75 : decode cX13_readTune 75 = .ok (.aload_n 0, 1) := by decide +kernel
theorem dX13_readTune_76 : decode cX13_readTune 76 = .ok (.getfield 158, 3) := by decide +kernel
theorem dX13_readTune_79 : decode cX13_readTune 79 = .ok (.getfield 239, 3) := by decide +kernel
theorem dX13_readTune_82 : decode cX13_readTune 82 = .ok (.invokevirtual 253, 3) := by decide +kernel
theorem dX13_readTune_85 : decode cX13_readTune 85 = .ok (.aload_n 0, 1) := by decide +kernel
theorem dX13_readTune_86 : decode cX13_readTune 86 = .ok (.getfield 158, 3) := by decide +kernel
theorem dX13_readTune_89 : decode cX13_readTune 89 = .ok (.dup, 1) := by decide +kernel
theorem dX13_readTune_90 : decode cX13_readTune 90 = .ok (.getfield 239, 3) := by decide +kernel
theorem dX13_readTune_93 : decode cX13_readTune 93 = .ok (.iconst 1, 1) := by decide +kernel
theorem dX13_readTune_94 : decode cX13_readTune 94 = .ok (.iadd, 1) := by decide +kernel
theorem dX13_readTune_95 : decode cX13_readTune 95 = .ok (.putfield 239, 3) := by decide +kernel
theorem dX13_readTune_98 : decode cX13_readTune 98 = .ok (.return_, 1) := by decide +kernel
abbrev rm_X13_readTune : Room := { frames := 8, cells := 0, slots := 0, locals := 197 }
def f_X13_readTune_59 (h : Mem) (v0 : Nat) (v1 : Int64) : Option Mem :=
  (f_X13_goesOn h v0).bind fun h9 => (gI h9 v0 9 11).bind fun x10 => (if x10 = 5 then some h9 else (gR h9 v0 4 11).bind fun r11 => (gI h9 r11 1 10).bind fun x12 => (f_X13_names h9 v0 v1 0 x12).bind fun h13 => (gR h13 v0 4 11).bind fun r14 => (gI h13 r14 1 10).bind fun x15 => (pI h13 r14 1 10 (x15 + 1)).bind fun h16 => some h16)
set_option maxRecDepth 100000 in
set_option maxHeartbeats 4000000 in
theorem w_X13_readTune_59 {G : GE} {X : CX} {l : Launch} (hX : Ok G X cX13_readTune RX13) (hN : xn X = 3) {P : Mem → Prop} (hr : Rt G X l yX13_readTune none rm_X13_readTune (pmV P)) (h : Mem) (v0 : Nat) (v1 : Int64) (hy : OK (f_X13_readTune_59 h v0 v1) P) : AW G X 59 [(0, vR v0), (1, vL v1)] [] h 0 0 := by
  unfold f_X13_readTune_59 at hy
  refine aw_aloadn (pc := 59) hX 0 rfl dX13_readTune_59 ?_
  refine aw_callV (pc := 60) (st := []) (a := v0) hX [] (con_X13_goesOn _ G _ v0 hy.bd) mc_X13_goesOn ml_X13_118 im_X13_goesOn se_X13_goesOn (by decide) hy.bd.kd rfl (rm_of hr (by decide)) (Nat.le_of_ble_eq_true rfl) rfl dX13_readTune_60 (kmV rfl rfl (fun h9 hy => ?_))
  refine aw_aloadn (pc := 63) hX 0 rfl dX13_readTune_63 ?_
  refine aw_gI (pc := 64) hX hy fl_X13_79 (fun _ _ => rfl) dX13_readTune_64 (fun x10 hy => ?_)
  refine aw_iconst (pc := 67) hX 5 (by decide) dX13_readTune_67 ?_
  refine aw_ic_ne (pc := 68) hX 72 (by decide) dX13_readTune_68 (fun hc9 => ?_) (fun hc9 => ?_)
  · have hy := hy.f hc9
    refine aw_aloadn (pc := 72) hX 0 rfl dX13_readTune_72 ?_
    refine aw_lloadn (pc := 73) hX 1 rfl dX13_readTune_73 ?_
    refine aw_iconst (pc := 74) hX 0 (by decide) dX13_readTune_74 ?_
    refine aw_aloadn (pc := 75) hX 0 rfl dX13_readTune_75 ?_
    refine aw_gR (pc := 76) hX hy fl_X13_158 (fun _ _ => rfl) dX13_readTune_76 (fun r11 hy => ?_)
    refine aw_gI (pc := 79) hX hy fl_X13_239 (fun _ _ => rfl) dX13_readTune_79 (fun x12 hy => ?_)
    refine aw_callV (pc := 82) (st := []) (a := v0) hX [vL v1, vI 0, vI x12] (con_X13_names _ G _ v0 v1 0 x12 hy.bd) mc_X13_names ml_X13_253 im_X13_names se_X13_names (by decide) hy.bd.kd rfl (rm_of hr (by decide)) (Nat.le_of_ble_eq_true rfl) rfl dX13_readTune_82 (kmV rfl rfl (fun h13 hy => ?_))
    refine aw_aloadn (pc := 85) hX 0 rfl dX13_readTune_85 ?_
    refine aw_gR (pc := 86) hX hy fl_X13_158 (fun _ _ => rfl) dX13_readTune_86 (fun r14 hy => ?_)
    refine aw_dup (pc := 89) hX rfl dX13_readTune_89 ?_
    refine aw_gI (pc := 90) hX hy fl_X13_239 (fun _ _ => rfl) dX13_readTune_90 (fun x15 hy => ?_)
    refine aw_iconst (pc := 93) hX 1 (by decide) dX13_readTune_93 ?_
    refine aw_iadd (pc := 94) hX dX13_readTune_94 ?_
    refine aw_pI (pc := 95) hX hy fl_X13_239 rfl (Or.inl rfl) dX13_readTune_95 (fun h16 hy => ?_)
    exact aw_vret (pc := 98) hX hr (by decide) (by decide) dX13_readTune_98 ⟨rfl, hy.s⟩
  · have hy := hy.t hc9
    exact aw_vret (pc := 71) hX hr (by decide) (by decide) dX13_readTune_71 ⟨rfl, hy.s⟩
def f_X13_readTune_31 (h : Mem) (v0 : Nat) (v1 : Int64) : Option Mem :=
  (gI h v0 9 11).bind fun x8 => (if x8 = 5 then f_X13_readTune_59 h v0 v1 else (gR h v0 4 11).bind fun r17 => (gI h r17 1 10).bind fun x18 => (f_X13_areNotes h v0 x18).bind fun q21 => (if q21.1 = 0 then (f_X13_flaw q21.2 v0 7).bind fun h22 => f_X13_readTune_59 h22 v0 v1 else f_X13_readTune_59 q21.2 v0 v1))
set_option maxRecDepth 100000 in
set_option maxHeartbeats 4000000 in
theorem w_X13_readTune_31 {G : GE} {X : CX} {l : Launch} (hX : Ok G X cX13_readTune RX13) (hN : xn X = 3) {P : Mem → Prop} (hr : Rt G X l yX13_readTune none rm_X13_readTune (pmV P)) (h : Mem) (v0 : Nat) (v1 : Int64) (hy : OK (f_X13_readTune_31 h v0 v1) P) : AW G X 31 [(0, vR v0), (1, vL v1)] [] h 0 0 := by
  unfold f_X13_readTune_31 at hy
  refine aw_aloadn (pc := 31) hX 0 rfl dX13_readTune_31 ?_
  refine aw_gI (pc := 32) hX hy fl_X13_79 (fun _ _ => rfl) dX13_readTune_32 (fun x8 hy => ?_)
  refine aw_iconst (pc := 35) hX 5 (by decide) dX13_readTune_35 ?_
  refine aw_ic_eq (pc := 36) hX 59 (by decide) dX13_readTune_36 (fun hc9 => ?_) (fun hc9 => ?_)
  · have hy := hy.t hc9
    exact w_X13_readTune_59 hX hN hr h v0 v1 hy
  · have hy := hy.f hc9
    refine aw_aloadn (pc := 39) hX 0 rfl dX13_readTune_39 ?_
    refine aw_aloadn (pc := 40) hX 0 rfl dX13_readTune_40 ?_
    refine aw_gR (pc := 41) hX hy fl_X13_158 (fun _ _ => rfl) dX13_readTune_41 (fun r17 hy => ?_)
    refine aw_gI (pc := 44) hX hy fl_X13_239 (fun _ _ => rfl) dX13_readTune_44 (fun x18 hy => ?_)
    refine aw_callV (pc := 47) (st := []) (a := v0) hX [vI x18] (con_X13_areNotes _ G _ v0 x18 hy.bd) mc_X13_areNotes ml_X13_250 im_X13_areNotes se_X13_areNotes (by decide) hy.bd.kd rfl (rm_of hr (by decide)) (Nat.le_of_ble_eq_true rfl) rfl dX13_readTune_47 (kmI rfl rfl (fun q21 hy => ?_))
    refine aw_if_ne (pc := 50) hX 59 (by decide) dX13_readTune_50 (fun hc9 => ?_) (fun hc9 => ?_)
    · have hy := hy.f hc9
      exact w_X13_readTune_59 hX hN hr q21.2 v0 v1 hy
    · have hy := hy.t hc9
      refine aw_aloadn (pc := 53) hX 0 rfl dX13_readTune_53 ?_
      refine aw_bipush (pc := 54) hX 7 (by decide) dX13_readTune_54 ?_
      refine aw_callV (pc := 56) (st := []) (a := v0) hX [vI 7] (con_X13_flaw _ G _ v0 7 hy.bd) mc_X13_flaw ml_X13_125 im_X13_flaw se_X13_flaw (by decide) hy.bd.kd rfl (rm_of hr (by decide)) (Nat.le_of_ble_eq_true rfl) rfl dX13_readTune_56 (kmV rfl rfl (fun h22 hy => ?_))
      exact w_X13_readTune_59 hX hN hr h22 v0 v1 hy
def f_X13_readTune (h : Mem) (v0 : Nat) : Option Mem :=
  (ck h v0 11).bind fun _ => (gR h v0 4 11).bind fun r1 => (gI h r1 1 10).bind fun x2 => (f_X13_lineBegins h v0 x2 6).bind fun h3 => (f_X13_readFresh h3 v0).bind fun q6 => (gI q6.2 v0 9 11).bind fun x7 => (if x7 = 2 then f_X13_readTune_31 q6.2 v0 q6.1 else (f_X13_flaw q6.2 v0 1).bind fun h23 => f_X13_readTune_31 h23 v0 q6.1)
set_option maxRecDepth 100000 in
set_option maxHeartbeats 4000000 in
theorem w_X13_readTune {G : GE} {X : CX} {l : Launch} (hX : Ok G X cX13_readTune RX13) (hN : xn X = 3) {P : Mem → Prop} (hr : Rt G X l yX13_readTune none rm_X13_readTune (pmV P)) (h : Mem) (v0 : Nat) (hy : OK (f_X13_readTune h v0) P) : AW G X 0 [(0, vR v0)] [] h 0 0 := by
  unfold f_X13_readTune at hy
  have hkd := hy.kd
  have hy := hy.kb
  refine aw_aloadn (pc := 0) hX 0 rfl dX13_readTune_0 ?_
  refine aw_aloadn (pc := 1) hX 0 rfl dX13_readTune_1 ?_
  refine aw_gR (pc := 2) hX hy fl_X13_158 (fun _ _ => rfl) dX13_readTune_2 (fun r1 hy => ?_)
  refine aw_gI (pc := 5) hX hy fl_X13_239 (fun _ _ => rfl) dX13_readTune_5 (fun x2 hy => ?_)
  refine aw_bipush (pc := 8) hX 6 (by decide) dX13_readTune_8 ?_
  refine aw_callV (pc := 10) (st := []) (a := v0) hX [vI x2, vI 6] (con_X13_lineBegins _ G _ v0 x2 6 hy.bd) mc_X13_lineBegins ml_X13_242 im_X13_lineBegins se_X13_lineBegins (by decide) hy.bd.kd rfl (rm_of hr (by decide)) (Nat.le_of_ble_eq_true rfl) rfl dX13_readTune_10 (kmV rfl rfl (fun h3 hy => ?_))
  refine aw_aloadn (pc := 13) hX 0 rfl dX13_readTune_13 ?_
  refine aw_callV (pc := 14) (st := []) (a := v0) hX [] (con_X13_readFresh _ G _ v0 hy.bd) mc_X13_readFresh ml_X13_246 im_X13_readFresh se_X13_readFresh (by decide) hy.bd.kd rfl (rm_of hr (by decide)) (Nat.le_of_ble_eq_true rfl) rfl dX13_readTune_14 (kmL rfl rfl (fun q6 hy => ?_))
  refine aw_lstoren (pc := 17) hX [(1, vL q6.1), (0, vR v0)] rfl (lt_n hN (by decide)) dX13_readTune_17 ?_
  refine aw_aloadn (pc := 18) hX 1 rfl dX13_readTune_18 ?_
  refine aw_gI (pc := 19) hX hy fl_X13_79 (fun _ _ => rfl) dX13_readTune_19 (fun x7 hy => ?_)
  refine aw_iconst (pc := 22) hX 2 (by decide) dX13_readTune_22 ?_
  refine aw_ic_eq (pc := 23) hX 31 (by decide) dX13_readTune_23 (fun hc9 => ?_) (fun hc9 => ?_)
  · have hy := hy.t hc9
    refine AW.sub [1, 0] rfl ?_
    exact w_X13_readTune_31 hX hN hr q6.2 v0 q6.1 hy
  · have hy := hy.f hc9
    refine aw_aloadn (pc := 26) hX 1 rfl dX13_readTune_26 ?_
    refine aw_iconst (pc := 27) hX 1 (by decide) dX13_readTune_27 ?_
    refine aw_callV (pc := 28) (st := []) (a := v0) hX [vI 1] (con_X13_flaw _ G _ v0 1 hy.bd) mc_X13_flaw ml_X13_125 im_X13_flaw se_X13_flaw (by decide) hy.bd.kd rfl (rm_of hr (by decide)) (Nat.le_of_ble_eq_true rfl) rfl dX13_readTune_28 (kmV rfl rfl (fun h23 hy => ?_))
    refine AW.sub [1, 0] rfl ?_
    exact w_X13_readTune_31 hX hN hr h23 v0 q6.1 hy
theorem con_X13_readTune (l : Launch) (G : GE) (h : Mem) (v0 : Nat) {P : Mem → Prop} (hy : OK (f_X13_readTune h v0) P) : Con l G yX13_readTune cX13_readTune 3 none rm_X13_readTune [vR v0] h (pmV P) := Con.of (by decide) (Nat.le_of_ble_eq_true rfl) (fun X hX hr hN => w_X13_readTune hX hN hr h v0 hy)
/-! X13_readPlace -/
theorem dX13_readPlace_0 : decode cX13_readPlace 0 = .ok (.aload_n 0, 1) := by decide +kernel
theorem dX13_readPlace_1 : decode cX13_readPlace 1 = .ok (.aload_n 0, 1) := by decide +kernel
theorem dX13_readPlace_2 : decode cX13_readPlace 2 = .ok (.getfield 158, 3) := by decide +kernel
theorem dX13_readPlace_5 : decode cX13_readPlace 5 = .ok (.getfield 197, 3) := by decide +kernel
theorem dX13_readPlace_8 : decode cX13_readPlace 8 = .ok (.bipush 7, 2) := by decide +kernel
theorem dX13_readPlace_10 : decode cX13_readPlace 10 = .ok (.invokevirtual 242, 3) := by decide +kernel
theorem dX13_readPlace_13 : decode cX13_readPlace 13 = .ok (.aload_n 0, 1) := by decide +kernel
theorem dX13_readPlace_14 : decode cX13_readPlace 14 = .ok (.invokevirtual 246, 3) := by decide +kernel
theorem dX13_readPlace_17 : decode cX13_readPlace 17 = .ok (.lstore_n 1, 1) := by decide +kernel
theorem dX13_readPlace_18 : decode cX13_readPlace 18 = .ok (.aload_n 0, 1) := by decide +kernel
theorem dX13_readPlace_19 : decode cX13_readPlace 19 = .ok (.getfield 79, 3) := by decide +kernel
theorem dX13_readPlace_22 : decode cX13_readPlace 22 = .ok (.iconst 5, 1) := by decide +kernel
theorem dX13_readPlace_23 : decode cX13_readPlace 23 = .ok (.if_icmp .ne 4, 3) := by decide +kernel
theorem dX13_readPlace_26 : decode cX13_readPlace 26 = .ok (.return_, 1) := by decide +kernel
theorem dX13_readPlace_27 : decode cX13_readPlace 27 = .ok (.aload_n 0, 1) := by decide +kernel
theorem dX13_readPlace_28 : decode cX13_readPlace 28 = .ok (.lload_n 1, 1) := by decide +kernel
theorem dX13_readPlace_29 : decode cX13_readPlace 29 = .ok (.iconst 1, 1) := by decide +kernel
theorem dX13_readPlace_30 : decode cX13_readPlace 30 = .ok (.aload_n 0, 1) := by decide +kernel
theorem dX13_readPlace_31 : decode cX13_readPlace 31 = .ok (.getfield 158, 3) := by decide +kernel
theorem dX13_readPlace_34 : decode cX13_readPlace 34 = .ok (.getfield 197, 3) := by decide +kernel
theorem dX13_readPlace_37 : decode cX13_readPlace 37 = .ok (.invokevirtual 253, 3) := by decide +kernel
theorem dX13_readPlace_40 : decode cX13_readPlace 40 = .ok (.aload_n 0, 1) := by decide +kernel
theorem dX13_readPlace_41 : decode cX13_readPlace 41 = .ok (.getfield 158, 3) := by decide +kernel
theorem dX13_readPlace_44 : decode cX13_readPlace 44 = .ok (.dup, 1) := by decide +kernel
theorem dX13_readPlace_45 : decode cX13_readPlace 45 = .ok (.getfield 197, 3) := by decide +kernel
theorem dX13_readPlace_48 : decode cX13_readPlace 48 = .ok (.iconst 1, 1) := by decide +kernel
theorem dX13_readPlace_49 : decode cX13_readPlace 49 = .ok (.iadd, 1) := by decide +kernel
theorem dX13_readPlace_50 : decode cX13_readPlace 50 = .ok (.putfield 197, 3) := by decide +kernel
theorem dX13_readPlace_53 : decode cX13_readPlace 53 = .ok (.return_, 1) := by decide +kernel
abbrev rm_X13_readPlace : Room := { frames := 8, cells := 0, slots := 0, locals := 197 }
def f_X13_readPlace (h : Mem) (v0 : Nat) : Option Mem :=
  (ck h v0 11).bind fun _ => (gR h v0 4 11).bind fun r1 => (gI h r1 2 10).bind fun x2 => (f_X13_lineBegins h v0 x2 7).bind fun h3 => (f_X13_readFresh h3 v0).bind fun q6 => (gI q6.2 v0 9 11).bind fun x7 => (if x7 = 5 then some q6.2 else (gR q6.2 v0 4 11).bind fun r8 => (gI q6.2 r8 2 10).bind fun x9 => (f_X13_names q6.2 v0 q6.1 1 x9).bind fun h10 => (gR h10 v0 4 11).bind fun r11 => (gI h10 r11 2 10).bind fun x12 => (pI h10 r11 2 10 (x12 + 1)).bind fun h13 => some h13)
set_option maxRecDepth 100000 in
set_option maxHeartbeats 4000000 in
theorem w_X13_readPlace {G : GE} {X : CX} {l : Launch} (hX : Ok G X cX13_readPlace RX13) (hN : xn X = 3) {P : Mem → Prop} (hr : Rt G X l yX13_readPlace none rm_X13_readPlace (pmV P)) (h : Mem) (v0 : Nat) (hy : OK (f_X13_readPlace h v0) P) : AW G X 0 [(0, vR v0)] [] h 0 0 := by
  unfold f_X13_readPlace at hy
  have hkd := hy.kd
  have hy := hy.kb
  refine aw_aloadn (pc := 0) hX 0 rfl dX13_readPlace_0 ?_
  refine aw_aloadn (pc := 1) hX 0 rfl dX13_readPlace_1 ?_
  refine aw_gR (pc := 2) hX hy fl_X13_158 (fun _ _ => rfl) dX13_readPlace_2 (fun r1 hy => ?_)
  refine aw_gI (pc := 5) hX hy fl_X13_197 (fun _ _ => rfl) dX13_readPlace_5 (fun x2 hy => ?_)
  refine aw_bipush (pc := 8) hX 7 (by decide) dX13_readPlace_8 ?_
  refine aw_callV (pc := 10) (st := []) (a := v0) hX [vI x2, vI 7] (con_X13_lineBegins _ G _ v0 x2 7 hy.bd) mc_X13_lineBegins ml_X13_242 im_X13_lineBegins se_X13_lineBegins (by decide) hy.bd.kd rfl (rm_of hr (by decide)) (Nat.le_of_ble_eq_true rfl) rfl dX13_readPlace_10 (kmV rfl rfl (fun h3 hy => ?_))
  refine aw_aloadn (pc := 13) hX 0 rfl dX13_readPlace_13 ?_
  refine aw_callV (pc := 14) (st := []) (a := v0) hX [] (con_X13_readFresh _ G _ v0 hy.bd) mc_X13_readFresh ml_X13_246 im_X13_readFresh se_X13_readFresh (by decide) hy.bd.kd rfl (rm_of hr (by decide)) (Nat.le_of_ble_eq_true rfl) rfl dX13_readPlace_14 (kmL rfl rfl (fun q6 hy => ?_))
  refine aw_lstoren (pc := 17) hX [(1, vL q6.1), (0, vR v0)] rfl (lt_n hN (by decide)) dX13_readPlace_17 ?_
  refine aw_aloadn (pc := 18) hX 1 rfl dX13_readPlace_18 ?_
  refine aw_gI (pc := 19) hX hy fl_X13_79 (fun _ _ => rfl) dX13_readPlace_19 (fun x7 hy => ?_)
  refine aw_iconst (pc := 22) hX 5 (by decide) dX13_readPlace_22 ?_
  refine aw_ic_ne (pc := 23) hX 27 (by decide) dX13_readPlace_23 (fun hc9 => ?_) (fun hc9 => ?_)
  · have hy := hy.f hc9
    refine aw_aloadn (pc := 27) hX 1 rfl dX13_readPlace_27 ?_
    refine aw_lloadn (pc := 28) hX 0 rfl dX13_readPlace_28 ?_
    refine aw_iconst (pc := 29) hX 1 (by decide) dX13_readPlace_29 ?_
    refine aw_aloadn (pc := 30) hX 1 rfl dX13_readPlace_30 ?_
    refine aw_gR (pc := 31) hX hy fl_X13_158 (fun _ _ => rfl) dX13_readPlace_31 (fun r8 hy => ?_)
    refine aw_gI (pc := 34) hX hy fl_X13_197 (fun _ _ => rfl) dX13_readPlace_34 (fun x9 hy => ?_)
    refine aw_callV (pc := 37) (st := []) (a := v0) hX [vL q6.1, vI 1, vI x9] (con_X13_names _ G _ v0 q6.1 1 x9 hy.bd) mc_X13_names ml_X13_253 im_X13_names se_X13_names (by decide) hy.bd.kd rfl (rm_of hr (by decide)) (Nat.le_of_ble_eq_true rfl) rfl dX13_readPlace_37 (kmV rfl rfl (fun h10 hy => ?_))
    refine aw_aloadn (pc := 40) hX 1 rfl dX13_readPlace_40 ?_
    refine aw_gR (pc := 41) hX hy fl_X13_158 (fun _ _ => rfl) dX13_readPlace_41 (fun r11 hy => ?_)
    refine aw_dup (pc := 44) hX rfl dX13_readPlace_44 ?_
    refine aw_gI (pc := 45) hX hy fl_X13_197 (fun _ _ => rfl) dX13_readPlace_45 (fun x12 hy => ?_)
    refine aw_iconst (pc := 48) hX 1 (by decide) dX13_readPlace_48 ?_
    refine aw_iadd (pc := 49) hX dX13_readPlace_49 ?_
    refine aw_pI (pc := 50) hX hy fl_X13_197 rfl (Or.inl rfl) dX13_readPlace_50 (fun h13 hy => ?_)
    exact aw_vret (pc := 53) hX hr (by decide) (by decide) dX13_readPlace_53 ⟨rfl, hy.s⟩
  · have hy := hy.t hc9
    exact aw_vret (pc := 26) hX hr (by decide) (by decide) dX13_readPlace_26 ⟨rfl, hy.s⟩
theorem con_X13_readPlace (l : Launch) (G : GE) (h : Mem) (v0 : Nat) {P : Mem → Prop} (hy : OK (f_X13_readPlace h v0) P) : Con l G yX13_readPlace cX13_readPlace 3 none rm_X13_readPlace [vR v0] h (pmV P) := Con.of (by decide) (Nat.le_of_ble_eq_true rfl) (fun X hX hr hN => w_X13_readPlace hX hN hr h v0 hy)
/-! X13_readRoad -/
theorem dX13_readRoad_0 : decode cX13_readRoad 0 = .ok (.aload_n 0, 1) := by decide +kernel
theorem dX13_readRoad_1 : decode cX13_readRoad 1 = .ok (.aload_n 0, 1) := by decide +kernel
theorem dX13_readRoad_2 : decode cX13_readRoad 2 = .ok (.getfield 158, 3) := by decide +kernel
theorem dX13_readRoad_5 : decode cX13_readRoad 5 = .ok (.getfield 256, 3) := by decide +kernel
theorem dX13_readRoad_8 : decode cX13_readRoad 8 = .ok (.bipush 10, 2) := by decide +kernel
theorem dX13_readRoad_10 : decode cX13_readRoad 10 = .ok (.invokevirtual 242, 3) := by decide +kernel
theorem dX13_readRoad_13 : decode cX13_readRoad 13 = .ok (.aload_n 0, 1) := by decide +kernel
theorem dX13_readRoad_14 : decode cX13_readRoad 14 = .ok (.iconst 1, 1) := by decide +kernel
theorem dX13_readRoad_15 : decode cX13_readRoad 15 = .ok (.invokevirtual 259, 3) := by decide +kernel
theorem dX13_readRoad_18 : decode cX13_readRoad 18 = .ok (.istore_n 1, 1) := by decide +kernel
theorem dX13_readRoad_19 : decode cX13_readRoad 19 = .ok (.aload_n 0, 1) := by decide +kernel
theorem dX13_readRoad_20 : decode cX13_readRoad 20 = .ok (.iconst 1, 1) := by decide +kernel
theorem dX13_readRoad_21 : decode cX13_readRoad 21 = .ok (.invokevirtual 188, 3) := by decide +kernel
theorem dX13_readRoad_24 : decode cX13_readRoad 24 = .ok (.istore_n 2, 1) := by decide +kernel
theorem dX13_readRoad_25 : decode cX13_readRoad 25 = .ok (.aload_n 0, 1) := by decide +kernel
theorem dX13_readRoad_26 : decode cX13_readRoad 26 = .ok (.getfield 79, 3) := by decide +kernel
theorem dX13_readRoad_29 : decode cX13_readRoad 29 = .ok (.iconst 5, 1) := by decide +kernel
theorem dX13_readRoad_30 : decode cX13_readRoad 30 = .ok (.if_icmp .eq 30, 3) := by decide +kernel
theorem dX13_readRoad_33 : decode cX13_readRoad 33 = .ok (.iload_n 1, 1) := by decide +kernel
theorem dX13_readRoad_34 : decode cX13_readRoad 34 = .ok (.iload_n 2, 1) := by decide +kernel
theorem dX13_readRoad_35 : decode cX13_readRoad 35 = .ok (.if_icmp .eq 20, 3) := by decide +kernel
theorem dX13_readRoad_38 : decode cX13_readRoad 38 = .ok (.aload_n 0, 1) := by decide +kernel
theorem dX13_readRoad_39 : decode cX13_readRoad 39 = .ok (.getfield 158, 3) := by decide +kernel
theorem dX13_readRoad_42 : decode cX13_readRoad 42 = .ok (.getfield 262, 3) := by decide +kernel
theorem dX13_readRoad_45 : decode cX13_readRoad 45 = .ok (.bipush 7, 2) := by decide +kernel
theorem dX13_readRoad_47 : decode cX13_readRoad 47 = .ok (.iload_n 1, 1) := by decide +kernel
theorem dX13_readRoad_48 : decode cX13_readRoad 48 = .ok (.imul, 1) := by decide +kernel
theorem dX13_readRoad_49 : decode cX13_readRoad 49 = .ok (.iload_n 2, 1) := by decide +kernel
theorem dX13_readRoad_50 : decode cX13_readRoad 50 = .ok (.iadd, 1) := by decide +kernel
theorem dX13_readRoad_51 : decode cX13_readRoad 51 = .ok (.iaload, 1) := by decide +kernel
theorem dX13_readRoad_52 : decode cX13_readRoad 52 = .ok (.ifCond .le 8, 3) := by decide +kernel
theorem dX13_readRoad_55 : decode cX13_readRoad 55 = .ok (.aload_n 0, 1) := by decide +kernel
theorem dX13_readRoad_56 : decode cX13_readRoad 56 = .ok (.iconst 3, 1) := by decide +kernel
theorem dX13_readRoad_57 : decode cX13_readRoad 57 = .ok (.invokevirtual 125, 3) := by decide +kernel
theorem dX13_readRoad_60 : decode cX13_readRoad 60 = .ok (.aload_n 0, 1) := by decide +kernel
theorem dX13_readRoad_61 : decode cX13_readRoad 61 = .ok (.invokevirtual 118, 3) := by decide +kernel
theorem dX13_readRoad_64 : decode cX13_readRoad 64 = .ok (.aload_n 0, 1) := by decide +kernel
theorem dX13_readRoad_65 : decode cX13_readRoad 65 = .ok (.ldc_w 265, 3) := by decide +kernel
theorem dX13_readRoad_68 : decode cX13_readRoad 68 = .ok (.iconst 1, 1) := by decide +kernel
theorem dX13_readRoad_69 : decode cX13_readRoad 69 = .ok (.bipush 99, 2) := by decide +kernel
theorem dX13_readRoad_71 : decode cX13_readRoad 71 = .ok (.invokevirtual 228, 3) := by decide +kernel
theorem dX13_readRoad_74 : decode cX13_readRoad 74 = .ok (.istore_n 3, 1) := by decide +kernel
theorem dX13_readRoad_75 : decode cX13_readRoad 75 = .ok (.aload_n 0, 1) := by decide +kernel
theorem dX13_readRoad_76 : decode cX13_readRoad 76 = .ok (.getfield 79, 3) := by decide +kernel
theorem dX13_readRoad_79 : decode cX13_readRoad 79 = .ok (.iconst 5, 1) := by decide +kernel
theorem dX13_readRoad_80 : decode cX13_readRoad 80 = .ok (.if_icmp .ne 4, 3) := by decide +kernel
theorem dX13_readRoad_83 : decode cX13_readRoad 83 = .ok (.return_, 1) := by decide +kernel
theorem dX13_readRoad_84 : decode cX13_readRoad 84 = .ok (.aload_n 0, 1) := by decide +kernel
theorem dX13_readRoad_85 : decode cX13_readRoad 85 = .ok (.getfield 158, 3) := by decide +kernel
theorem dX13_readRoad_88 : decode cX13_readRoad 88 = .ok (.getfield 262, 3) := by decide +kernel
theorem dX13_readRoad_91 : decode cX13_readRoad 91 = .ok (.bipush 7, 2) := by decide +kernel
theorem dX13_readRoad_93 : decode cX13_readRoad 93 = .ok (.iload_n 1, 1) := by decide +kernel
theorem dX13_readRoad_94 : decode cX13_readRoad 94 = .ok (.imul, 1) := by decide +kernel
theorem dX13_readRoad_95 : decode cX13_readRoad 95 = .ok (.iload_n 2, 1) := by decide +kernel
theorem dX13_readRoad_96 : decode cX13_readRoad 96 = .ok (.iadd, 1) := by decide +kernel
theorem dX13_readRoad_97 : decode cX13_readRoad 97 = .ok (.iload_n 3, 1) := by decide +kernel
theorem dX13_readRoad_98 : decode cX13_readRoad 98 = .ok (.iastore, 1) := by decide +kernel
theorem dX13_readRoad_99 : decode cX13_readRoad 99 = .ok (.aload_n 0, 1) := by decide +kernel
theorem dX13_readRoad_100 : decode cX13_readRoad 100 = .ok (.getfield 158, 3) := by decide +kernel
theorem dX13_readRoad_103 : decode cX13_readRoad 103 = .ok (.getfield 262, 3) := by decide +kernel
theorem dX13_readRoad_106 : decode cX13_readRoad 106 = .ok (.bipush 7, 2) := by decide +kernel
theorem dX13_readRoad_108 : decode cX13_readRoad 108 = .ok (.iload_n 2, 1) := by decide +kernel
theorem dX13_readRoad_109 : decode cX13_readRoad 109 = .ok (.imul, 1) := by decide +kernel
theorem dX13_readRoad_110 : decode cX13_readRoad 110 = .ok (.iload_n 1, 1) := by decide +kernel
theorem dX13_readRoad_111 : decode cX13_readRoad 111 = .ok (.iadd, 1) := by decide +kernel
theorem dX13_readRoad_112 : decode cX13_readRoad 112 = .ok (.iload_n 3, 1) := by decide +kernel
theorem dX13_readRoad_113 : decode cX13_readRoad 113 = .ok (.iastore, 1) := by decide +kernel
theorem dX13_readRoad_114 : decode cX13_readRoad 114 = .ok (.aload_n 0, 1) := by decide +kernel
theorem dX13_readRoad_115 : decode cX13_readRoad 115 = .ok (.getfield 158, 3) := by decide +kernel
theorem dX13_readRoad_118 : decode cX13_readRoad 118 = .ok (.getfield 266, 3) := by decide +kernel
theorem dX13_readRoad_121 : decode cX13_readRoad 121 = .ok (.aload_n 0, 1) := by decide +kernel
theorem dX13_readRoad_122 : decode cX13_readRoad 122 = .ok (.getfield 158, 3) := by decide +kernel
theorem dX13_readRoad_125 : decode cX13_readRoad 125 = .ok (.getfield 256, 3) := by decide +kernel
theorem dX13_readRoad_128 : decode cX13_readRoad 128 = .ok (.iload_n 1, 1) := by decide +kernel
theorem dX13_readRoad_129 : decode cX13_readRoad 129 = .ok (.iastore, 1) := by decide +kernel
theorem dX13_readRoad_130 : decode cX13_readRoad 130 = .ok (.aload_n 0, 1) := by decide +kernel
theorem dX13_readRoad_131 : decode cX13_readRoad 131 = .ok (.getfield 158, 3) := by decide +kernel
theorem dX13_readRoad_134 : decode cX13_readRoad 134 = .ok (.getfield 269, 3) := by decide +kernel
theorem dX13_readRoad_137 : decode cX13_readRoad 137 = .ok (.aload_n 0, 1) := by decide +kernel
theorem dX13_readRoad_138 : decode cX13_readRoad 138 = .ok (.getfield 158, 3) := by decide +kernel
theorem dX13_readRoad_141 : decode cX13_readRoad 141 = .ok (.getfield 256, 3) := by decide +kernel
theorem dX13_readRoad_144 : decode cX13_readRoad 144 = .ok (.iload_n 2, 1) := by decide +kernel
theorem dX13_readRoad_145 : decode cX13_readRoad 145 = .ok (.iastore, 1) := by decide +kernel
theorem dX13_readRoad_146 : decode cX13_readRoad 146 = .ok (.aload_n 0, 1) := by decide +kernel
theorem dX13_readRoad_147 : decode cX13_readRoad 147 = .ok (.getfield 158, 3) := by decide +kernel
theorem dX13_readRoad_150 : decode cX13_readRoad 150 = .ok (.dup, 1) := by decide +kernel
theorem dX13_readRoad_151 : decode cX13_readRoad 151 = .ok (.getfield 256, 3) := by decide +kernel
theorem dX13_readRoad_154 : decode cX13_readRoad 154 = .ok (.iconst 1, 1) := by decide +kernel
theorem dX13_readRoad_155 : decode cX13_readRoad 155 = .ok (.iadd, 1) := by decide +kernel
theorem dX13_readRoad_156 : decode cX13_readRoad 156 = .ok (.putfield 256, 3) := by decide +kernel
theorem dX13_readRoad_159 : decode cX13_readRoad 159 = .ok (.return_, 1) := by decide +kernel
abbrev rm_X13_readRoad : Room := { frames := 9, cells := 0, slots := 0, locals := 219 }
def f_X13_readRoad_60 (h : Mem) (v0 : Nat) (v1 : Int32) (v2 : Int32) : Option Mem :=
  (f_X13_goesOn h v0).bind fun h11 => (f_X13_readPart h11 v0 10 1 99).bind fun q14 => (gI q14.2 v0 9 11).bind fun x15 => (if x15 = 5 then some q14.2 else (gR q14.2 v0 4 11).bind fun r16 => (gR q14.2 r16 12 10).bind fun r17 => (sI q14.2 r17 ((7 * v1) + v2) q14.1).bind fun h18 => (gR h18 v0 4 11).bind fun r19 => (gR h18 r19 12 10).bind fun r20 => (sI h18 r20 ((7 * v2) + v1) q14.1).bind fun h21 => (gR h21 v0 4 11).bind fun r22 => (gR h21 r22 15 10).bind fun r23 => (gR h21 v0 4 11).bind fun r24 => (gI h21 r24 3 10).bind fun x25 => (sI h21 r23 x25 v1).bind fun h26 => (gR h26 v0 4 11).bind fun r27 => (gR h26 r27 16 10).bind fun r28 => (gR h26 v0 4 11).bind fun r29 => (gI h26 r29 3 10).bind fun x30 => (sI h26 r28 x30 v2).bind fun h31 => (gR h31 v0 4 11).bind fun r32 => (gI h31 r32 3 10).bind fun x33 => (pI h31 r32 3 10 (x33 + 1)).bind fun h34 => some h34)
set_option maxRecDepth 100000 in
set_option maxHeartbeats 4000000 in
theorem w_X13_readRoad_60 {G : GE} {X : CX} {l : Launch} (hX : Ok G X cX13_readRoad RX13) (hN : xn X = 4) {P : Mem → Prop} (hr : Rt G X l yX13_readRoad none rm_X13_readRoad (pmV P)) (h : Mem) (v0 : Nat) (v1 : Int32) (v2 : Int32) (hy : OK (f_X13_readRoad_60 h v0 v1 v2) P) : AW G X 60 [(0, vR v0), (1, vI v1), (2, vI v2)] [] h 0 0 := by
  unfold f_X13_readRoad_60 at hy
  refine aw_aloadn (pc := 60) hX 0 rfl dX13_readRoad_60 ?_
  refine aw_callV (pc := 61) (st := []) (a := v0) hX [] (con_X13_goesOn _ G _ v0 hy.bd) mc_X13_goesOn ml_X13_118 im_X13_goesOn se_X13_goesOn (by decide) hy.bd.kd rfl (rm_of hr (by decide)) (Nat.le_of_ble_eq_true rfl) rfl dX13_readRoad_61 (kmV rfl rfl (fun h11 hy => ?_))
  refine aw_aloadn (pc := 64) hX 0 rfl dX13_readRoad_64 ?_
  refine aw_ldcsw (pc := 65) hX (tx := "minutes") (k := 10) (by decide +kernel) dX13_readRoad_65 ?_
  refine aw_iconst (pc := 68) hX 1 (by decide) dX13_readRoad_68 ?_
  refine aw_bipush (pc := 69) hX 99 (by decide) dX13_readRoad_69 ?_
  refine aw_callV (pc := 71) (st := []) (a := v0) hX [vX 10, vI 1, vI 99] (con_X13_readPart _ G _ v0 10 1 99 hy.bd) mc_X13_readPart ml_X13_228 im_X13_readPart se_X13_readPart (by decide) hy.bd.kd rfl (rm_of hr (by decide)) (Nat.le_of_ble_eq_true rfl) rfl dX13_readRoad_71 (kmI rfl rfl (fun q14 hy => ?_))
  refine aw_istoren (pc := 74) hX [(3, vI q14.1), (0, vR v0), (1, vI v1), (2, vI v2)] rfl (lt_n hN (by decide)) dX13_readRoad_74 ?_
  refine aw_aloadn (pc := 75) hX 1 rfl dX13_readRoad_75 ?_
  refine aw_gI (pc := 76) hX hy fl_X13_79 (fun _ _ => rfl) dX13_readRoad_76 (fun x15 hy => ?_)
  refine aw_iconst (pc := 79) hX 5 (by decide) dX13_readRoad_79 ?_
  refine aw_ic_ne (pc := 80) hX 84 (by decide) dX13_readRoad_80 (fun hc9 => ?_) (fun hc9 => ?_)
  · have hy := hy.f hc9
    refine aw_aloadn (pc := 84) hX 1 rfl dX13_readRoad_84 ?_
    refine aw_gR (pc := 85) hX hy fl_X13_158 (fun _ _ => rfl) dX13_readRoad_85 (fun r16 hy => ?_)
    refine aw_gR (pc := 88) hX hy fl_X13_262 (fun _ _ => rfl) dX13_readRoad_88 (fun r17 hy => ?_)
    refine aw_bipush (pc := 91) hX 7 (by decide) dX13_readRoad_91 ?_
    refine aw_iloadn (pc := 93) hX 2 rfl dX13_readRoad_93 ?_
    refine aw_imul (pc := 94) hX dX13_readRoad_94 ?_
    refine aw_iloadn (pc := 95) hX 3 rfl dX13_readRoad_95 ?_
    refine aw_iadd (pc := 96) hX dX13_readRoad_96 ?_
    refine aw_iloadn (pc := 97) hX 0 rfl dX13_readRoad_97 ?_
    refine aw_sI (pc := 98) hX hy dX13_readRoad_98 (fun h18 hy => ?_)
    refine aw_aloadn (pc := 99) hX 1 rfl dX13_readRoad_99 ?_
    refine aw_gR (pc := 100) hX hy fl_X13_158 (fun _ _ => rfl) dX13_readRoad_100 (fun r19 hy => ?_)
    refine aw_gR (pc := 103) hX hy fl_X13_262 (fun _ _ => rfl) dX13_readRoad_103 (fun r20 hy => ?_)
    refine aw_bipush (pc := 106) hX 7 (by decide) dX13_readRoad_106 ?_
    refine aw_iloadn (pc := 108) hX 3 rfl dX13_readRoad_108 ?_
    refine aw_imul (pc := 109) hX dX13_readRoad_109 ?_
    refine aw_iloadn (pc := 110) hX 2 rfl dX13_readRoad_110 ?_
    refine aw_iadd (pc := 111) hX dX13_readRoad_111 ?_
    refine aw_iloadn (pc := 112) hX 0 rfl dX13_readRoad_112 ?_
    refine aw_sI (pc := 113) hX hy dX13_readRoad_113 (fun h21 hy => ?_)
    refine aw_aloadn (pc := 114) hX 1 rfl dX13_readRoad_114 ?_
    refine aw_gR (pc := 115) hX hy fl_X13_158 (fun _ _ => rfl) dX13_readRoad_115 (fun r22 hy => ?_)
    refine aw_gR (pc := 118) hX hy fl_X13_266 (fun _ _ => rfl) dX13_readRoad_118 (fun r23 hy => ?_)
    refine aw_aloadn (pc := 121) hX 1 rfl dX13_readRoad_121 ?_
    refine aw_gR (pc := 122) hX hy fl_X13_158 (fun _ _ => rfl) dX13_readRoad_122 (fun r24 hy => ?_)
    refine aw_gI (pc := 125) hX hy fl_X13_256 (fun _ _ => rfl) dX13_readRoad_125 (fun x25 hy => ?_)
    refine aw_iloadn (pc := 128) hX 2 rfl dX13_readRoad_128 ?_
    refine aw_sI (pc := 129) hX hy dX13_readRoad_129 (fun h26 hy => ?_)
    refine aw_aloadn (pc := 130) hX 1 rfl dX13_readRoad_130 ?_
    refine aw_gR (pc := 131) hX hy fl_X13_158 (fun _ _ => rfl) dX13_readRoad_131 (fun r27 hy => ?_)
    refine aw_gR (pc := 134) hX hy fl_X13_269 (fun _ _ => rfl) dX13_readRoad_134 (fun r28 hy => ?_)
    refine aw_aloadn (pc := 137) hX 1 rfl dX13_readRoad_137 ?_
    refine aw_gR (pc := 138) hX hy fl_X13_158 (fun _ _ => rfl) dX13_readRoad_138 (fun r29 hy => ?_)
    refine aw_gI (pc := 141) hX hy fl_X13_256 (fun _ _ => rfl) dX13_readRoad_141 (fun x30 hy => ?_)
    refine aw_iloadn (pc := 144) hX 3 rfl dX13_readRoad_144 ?_
    refine aw_sI (pc := 145) hX hy dX13_readRoad_145 (fun h31 hy => ?_)
    refine aw_aloadn (pc := 146) hX 1 rfl dX13_readRoad_146 ?_
    refine aw_gR (pc := 147) hX hy fl_X13_158 (fun _ _ => rfl) dX13_readRoad_147 (fun r32 hy => ?_)
    refine aw_dup (pc := 150) hX rfl dX13_readRoad_150 ?_
    refine aw_gI (pc := 151) hX hy fl_X13_256 (fun _ _ => rfl) dX13_readRoad_151 (fun x33 hy => ?_)
    refine aw_iconst (pc := 154) hX 1 (by decide) dX13_readRoad_154 ?_
    refine aw_iadd (pc := 155) hX dX13_readRoad_155 ?_
    refine aw_pI (pc := 156) hX hy fl_X13_256 rfl (Or.inl rfl) dX13_readRoad_156 (fun h34 hy => ?_)
    exact aw_vret (pc := 159) hX hr (by decide) (by decide) dX13_readRoad_159 ⟨rfl, hy.s⟩
  · have hy := hy.t hc9
    exact aw_vret (pc := 83) hX hr (by decide) (by decide) dX13_readRoad_83 ⟨rfl, hy.s⟩
def f_X13_readRoad_55 (h : Mem) (v0 : Nat) (v1 : Int32) (v2 : Int32) : Option Mem :=
  (f_X13_flaw h v0 3).bind fun h35 => f_X13_readRoad_60 h35 v0 v1 v2
set_option maxRecDepth 100000 in
set_option maxHeartbeats 4000000 in
theorem w_X13_readRoad_55 {G : GE} {X : CX} {l : Launch} (hX : Ok G X cX13_readRoad RX13) (hN : xn X = 4) {P : Mem → Prop} (hr : Rt G X l yX13_readRoad none rm_X13_readRoad (pmV P)) (h : Mem) (v0 : Nat) (v1 : Int32) (v2 : Int32) (hy : OK (f_X13_readRoad_55 h v0 v1 v2) P) : AW G X 55 [(0, vR v0), (1, vI v1), (2, vI v2)] [] h 0 0 := by
  unfold f_X13_readRoad_55 at hy
  refine aw_aloadn (pc := 55) hX 0 rfl dX13_readRoad_55 ?_
  refine aw_iconst (pc := 56) hX 3 (by decide) dX13_readRoad_56 ?_
  refine aw_callV (pc := 57) (st := []) (a := v0) hX [vI 3] (con_X13_flaw _ G _ v0 3 hy.bd) mc_X13_flaw ml_X13_125 im_X13_flaw se_X13_flaw (by decide) hy.bd.kd rfl (rm_of hr (by decide)) (Nat.le_of_ble_eq_true rfl) rfl dX13_readRoad_57 (kmV rfl rfl (fun h35 hy => ?_))
  exact w_X13_readRoad_60 hX hN hr h35 v0 v1 v2 hy
def f_X13_readRoad (h : Mem) (v0 : Nat) : Option Mem :=
  (ck h v0 11).bind fun _ => (gR h v0 4 11).bind fun r1 => (gI h r1 3 10).bind fun x2 => (f_X13_lineBegins h v0 x2 10).bind fun h3 => (f_X13_readKnown h3 v0 1).bind fun q6 => (f_X13_knownOne q6.2 v0 1).bind fun q9 => (gI q9.2 v0 9 11).bind fun x10 => (if x10 = 5 then f_X13_readRoad_60 q9.2 v0 q6.1 q9.1 else (if q6.1 = q9.1 then f_X13_readRoad_55 q9.2 v0 q6.1 q9.1 else (gR q9.2 v0 4 11).bind fun r36 => (gR q9.2 r36 12 10).bind fun r37 => (aI q9.2 r37 ((7 * q6.1) + q9.1)).bind fun x38 => (if x38 ≤ 0 then f_X13_readRoad_60 q9.2 v0 q6.1 q9.1 else f_X13_readRoad_55 q9.2 v0 q6.1 q9.1)))
set_option maxRecDepth 100000 in
set_option maxHeartbeats 4000000 in
theorem w_X13_readRoad {G : GE} {X : CX} {l : Launch} (hX : Ok G X cX13_readRoad RX13) (hN : xn X = 4) {P : Mem → Prop} (hr : Rt G X l yX13_readRoad none rm_X13_readRoad (pmV P)) (h : Mem) (v0 : Nat) (hy : OK (f_X13_readRoad h v0) P) : AW G X 0 [(0, vR v0)] [] h 0 0 := by
  unfold f_X13_readRoad at hy
  have hkd := hy.kd
  have hy := hy.kb
  refine aw_aloadn (pc := 0) hX 0 rfl dX13_readRoad_0 ?_
  refine aw_aloadn (pc := 1) hX 0 rfl dX13_readRoad_1 ?_
  refine aw_gR (pc := 2) hX hy fl_X13_158 (fun _ _ => rfl) dX13_readRoad_2 (fun r1 hy => ?_)
  refine aw_gI (pc := 5) hX hy fl_X13_256 (fun _ _ => rfl) dX13_readRoad_5 (fun x2 hy => ?_)
  refine aw_bipush (pc := 8) hX 10 (by decide) dX13_readRoad_8 ?_
  refine aw_callV (pc := 10) (st := []) (a := v0) hX [vI x2, vI 10] (con_X13_lineBegins _ G _ v0 x2 10 hy.bd) mc_X13_lineBegins ml_X13_242 im_X13_lineBegins se_X13_lineBegins (by decide) hy.bd.kd rfl (rm_of hr (by decide)) (Nat.le_of_ble_eq_true rfl) rfl dX13_readRoad_10 (kmV rfl rfl (fun h3 hy => ?_))
  refine aw_aloadn (pc := 13) hX 0 rfl dX13_readRoad_13 ?_
  refine aw_iconst (pc := 14) hX 1 (by decide) dX13_readRoad_14 ?_
  refine aw_callV (pc := 15) (st := []) (a := v0) hX [vI 1] (con_X13_readKnown _ G _ v0 1 hy.bd) mc_X13_readKnown ml_X13_259 im_X13_readKnown se_X13_readKnown (by decide) hy.bd.kd rfl (rm_of hr (by decide)) (Nat.le_of_ble_eq_true rfl) rfl dX13_readRoad_15 (kmI rfl rfl (fun q6 hy => ?_))
  refine aw_istoren (pc := 18) hX [(1, vI q6.1), (0, vR v0)] rfl (lt_n hN (by decide)) dX13_readRoad_18 ?_
  refine aw_aloadn (pc := 19) hX 1 rfl dX13_readRoad_19 ?_
  refine aw_iconst (pc := 20) hX 1 (by decide) dX13_readRoad_20 ?_
  refine aw_callV (pc := 21) (st := []) (a := v0) hX [vI 1] (con_X13_knownOne _ G _ v0 1 hy.bd) mc_X13_knownOne ml_X13_188 im_X13_knownOne se_X13_knownOne (by decide) hy.bd.kd rfl (rm_of hr (by decide)) (Nat.le_of_ble_eq_true rfl) rfl dX13_readRoad_21 (kmI rfl rfl (fun q9 hy => ?_))
  refine aw_istoren (pc := 24) hX [(2, vI q9.1), (1, vI q6.1), (0, vR v0)] rfl (lt_n hN (by decide)) dX13_readRoad_24 ?_
  refine aw_aloadn (pc := 25) hX 2 rfl dX13_readRoad_25 ?_
  refine aw_gI (pc := 26) hX hy fl_X13_79 (fun _ _ => rfl) dX13_readRoad_26 (fun x10 hy => ?_)
  refine aw_iconst (pc := 29) hX 5 (by decide) dX13_readRoad_29 ?_
  refine aw_ic_eq (pc := 30) hX 60 (by decide) dX13_readRoad_30 (fun hc9 => ?_) (fun hc9 => ?_)
  · have hy := hy.t hc9
    refine AW.sub [2, 1, 0] rfl ?_
    exact w_X13_readRoad_60 hX hN hr q9.2 v0 q6.1 q9.1 hy
  · have hy := hy.f hc9
    refine aw_iloadn (pc := 33) hX 1 rfl dX13_readRoad_33 ?_
    refine aw_iloadn (pc := 34) hX 0 rfl dX13_readRoad_34 ?_
    refine aw_ic_eq (pc := 35) hX 55 (by decide) dX13_readRoad_35 (fun hc9 => ?_) (fun hc9 => ?_)
    · have hy := hy.t hc9
      refine AW.sub [2, 1, 0] rfl ?_
      exact w_X13_readRoad_55 hX hN hr q9.2 v0 q6.1 q9.1 hy
    · have hy := hy.f hc9
      refine aw_aloadn (pc := 38) hX 2 rfl dX13_readRoad_38 ?_
      refine aw_gR (pc := 39) hX hy fl_X13_158 (fun _ _ => rfl) dX13_readRoad_39 (fun r36 hy => ?_)
      refine aw_gR (pc := 42) hX hy fl_X13_262 (fun _ _ => rfl) dX13_readRoad_42 (fun r37 hy => ?_)
      refine aw_bipush (pc := 45) hX 7 (by decide) dX13_readRoad_45 ?_
      refine aw_iloadn (pc := 47) hX 1 rfl dX13_readRoad_47 ?_
      refine aw_imul (pc := 48) hX dX13_readRoad_48 ?_
      refine aw_iloadn (pc := 49) hX 0 rfl dX13_readRoad_49 ?_
      refine aw_iadd (pc := 50) hX dX13_readRoad_50 ?_
      refine aw_aI (pc := 51) hX hy dX13_readRoad_51 (fun x38 hy => ?_)
      refine aw_if_le (pc := 52) hX 60 (by decide) dX13_readRoad_52 (fun hc9 => ?_) (fun hc9 => ?_)
      · have hy := hy.t hc9
        refine AW.sub [2, 1, 0] rfl ?_
        exact w_X13_readRoad_60 hX hN hr q9.2 v0 q6.1 q9.1 hy
      · have hy := hy.f hc9
        refine AW.sub [2, 1, 0] rfl ?_
        exact w_X13_readRoad_55 hX hN hr q9.2 v0 q6.1 q9.1 hy
theorem con_X13_readRoad (l : Launch) (G : GE) (h : Mem) (v0 : Nat) {P : Mem → Prop} (hy : OK (f_X13_readRoad h v0) P) : Con l G yX13_readRoad cX13_readRoad 4 none rm_X13_readRoad [vR v0] h (pmV P) := Con.of (by decide) (Nat.le_of_ble_eq_true rfl) (fun X hX hr hN => w_X13_readRoad hX hN hr h v0 hy)
/-! X13_readGate -/
theorem dX13_readGate_0 : decode cX13_readGate 0 = .ok (.aload_n 0, 1) := by decide +kernel
theorem dX13_readGate_1 : decode cX13_readGate 1 = .ok (.iconst 0, 1) := by decide +kernel
theorem dX13_readGate_2 : decode cX13_readGate 2 = .ok (.iconst 1, 1) := by decide +kernel
theorem dX13_readGate_3 : decode cX13_readGate 3 = .ok (.invokevirtual 242, 3) := by decide +kernel
theorem dX13_readGate_6 : decode cX13_readGate 6 = .ok (.aload_n 0, 1) := by decide +kernel
theorem dX13_readGate_7 : decode cX13_readGate 7 = .ok (.iconst 1, 1) := by decide +kernel
theorem dX13_readGate_8 : decode cX13_readGate 8 = .ok (.invokevirtual 259, 3) := by decide +kernel
theorem dX13_readGate_11 : decode cX13_readGate 11 = .ok (.istore_n 1, 1) := by decide +kernel
theorem dX13_readGate_12 : decode cX13_readGate 12 = .ok (.aload_n 0, 1) := by decide +kernel
theorem dX13_readGate_13 : decode cX13_readGate 13 = .ok (.iconst 1, 1) := by decide +kernel
theorem dX13_readGate_14 : decode cX13_readGate 14 = .ok (.invokevirtual 188, 3) := by decide +kernel
theorem dX13_readGate_17 : decode cX13_readGate 17 = .ok (.istore_n 2, 1) := by decide +kernel
theorem dX13_readGate_18 : decode cX13_readGate 18 = .ok (.aload_n 0, 1) := by decide +kernel
theorem dX13_readGate_19 : decode cX13_readGate 19 = .ok (.getfield 79, 3) := by decide +kernel
theorem dX13_readGate_22 : decode cX13_readGate 22 = .ok (.iconst 5, 1) := by decide +kernel
theorem dX13_readGate_23 : decode cX13_readGate 23 = .ok (.if_icmp .eq 32, 3) := by decide +kernel
theorem dX13_readGate_26 : decode cX13_readGate 26 = .ok (.iload_n 1, 1) := by decide +kernel
theorem dX13_readGate_27 : decode cX13_readGate 27 = .ok (.iload_n 2, 1) := by decide +kernel
theorem dX13_readGate_28 : decode cX13_readGate 28 = .ok (.if_icmp .eq 22, 3) := by decide +kernel
theorem dX13_readGate_31 : decode cX13_readGate 31 = .ok (.aload_n 0, 1) := by decide +kernel
theorem dX13_readGate_32 : decode cX13_readGate 32 = .ok (.getfield 158, 3) := by decide +kernel
theorem dX13_readGate_35 : decode cX13_readGate 35 = .ok (.getfield 272, 3) := by decide +kernel
theorem dX13_readGate_38 : decode cX13_readGate 38 = .ok (.bipush 7, 2) := by decide +kernel
theorem dX13_readGate_40 : decode cX13_readGate 40 = .ok (.iload_n 1, 1) := by decide +kernel
theorem dX13_readGate_41 : decode cX13_readGate 41 = .ok (.imul, 1) := by decide +kernel
theorem dX13_readGate_42 : decode cX13_readGate 42 = .ok (.iload_n 2, 1) := by decide +kernel
theorem dX13_readGate_43 : decode cX13_readGate 43 = .ok (.iadd, 1) := by decide +kernel
theorem dX13_readGate_44 : decode cX13_readGate 44 = .ok (.iaload, 1) := by decide +kernel
theorem dX13_readGate_45 : decode cX13_readGate 45 = .ok (.bipush (-2), 2) := by decide +kernel
theorem dX13_readGate_47 : decode cX13_readGate 47 = .ok (.if_icmp .eq 8, 3) := by decide +kernel
theorem dX13_readGate_50 : decode cX13_readGate 50 = .ok (.aload_n 0, 1) := by decide +kernel
theorem dX13_readGate_51 : decode cX13_readGate 51 = .ok (.iconst 3, 1) := by decide +kernel
theorem dX13_readGate_52 : decode cX13_readGate 52 = .ok (.invokevirtual 125, 3) := by decide +kernel
theorem dX13_readGate_55 : decode cX13_readGate 55 = .ok (.aload_n 0, 1) := by decide +kernel
theorem dX13_readGate_56 : decode cX13_readGate 56 = .ok (.getfield 79, 3) := by decide +kernel
theorem dX13_readGate_59 : decode cX13_readGate 59 = .ok (.iconst 5, 1) := by decide +kernel
theorem dX13_readGate_60 : decode cX13_readGate 60 = .ok (.if_icmp .eq 26, 3) := by decide +kernel
theorem dX13_readGate_63 : decode cX13_readGate 63 = .ok (.aload_n 0, 1) := by decide +kernel
theorem dX13_readGate_64 : decode cX13_readGate 64 = .ok (.getfield 158, 3) := by decide +kernel
theorem dX13_readGate_67 : decode cX13_readGate 67 = .ok (.getfield 262, 3) := by decide +kernel
theorem dX13_readGate_70 : decode cX13_readGate 70 = .ok (.bipush 7, 2) := by decide +kernel
theorem dX13_readGate_72 : decode cX13_readGate 72 = .ok (.iload_n 1, 1) := by decide +kernel
theorem dX13_readGate_73 : decode cX13_readGate 73 = .ok (.imul, 1) := by decide +kernel
theorem dX13_readGate_74 : decode cX13_readGate 74 = .ok (.iload_n 2, 1) := by decide +kernel
theorem dX13_readGate_75 : decode cX13_readGate 75 = .ok (.iadd, 1) := by decide +kernel
theorem dX13_readGate_76 : decode cX13_readGate 76 = .ok (.iaload, 1) := by decide +kernel
theorem dX13_readGate_77 : decode cX13_readGate 77 = .ok (.ifCond .ne 9, 3) := by decide +kernel
theorem dX13_readGate_80 : decode cX13_readGate 80 = .ok (.aload_n 0, 1) := by decide +kernel
theorem dX13_readGate_81 : decode cX13_readGate 81 = .ok (.bipush 8, 2) := by decide +kernel
theorem dX13_readGate_83 : decode cX13_readGate 83 = .ok (.invokevirtual 125, 3) := by decide +kernel
theorem dX13_readGate_86 : decode cX13_readGate 86 = .ok (.aload_n 0, 1) := by decide +kernel
theorem dX13_readGate_87 : decode cX13_readGate 87 = .ok (.invokevirtual 118, 3) := by decide +kernel
theorem dX13_readGate_90 : decode cX13_readGate 90 = .ok (.aload_n 0, 1) := by decide +kernel
theorem dX13_readGate_91 : decode cX13_readGate 91 = .ok (.ldc_w 275, 3) := by decide +kernel
theorem dX13_readGate_94 : decode cX13_readGate 94 = .ok (.invokevirtual 121, 3) := by decide +kernel
theorem dX13_readGate_97 : decode cX13_readGate 97 = .ok (.ifCond .eq 7, 3) := by decide +kernel
theorem dX13_readGate_100 : decode cX13_readGate 100 = .ok (.iconst 0, 1) := by decide +kernel
theorem dX13_readGate_101 : decode cX13_readGate 101 = .ok (.goto 46, 3) := by decide +kernel
theorem dX13_readGate_104 : decode cX13_readGate 104 = .ok (.aload_n 0, 1) := by decide +kernel
theorem dX13_readGate_105 : decode cX13_readGate 105 = .ok (.ldc_w 277, 3) := by decide +kernel
theorem dX13_readGate_108 : decode cX13_readGate 108 = .ok (.invokevirtual 121, 3) := by decide +kernel
theorem dX13_readGate_111 : decode cX13_readGate 111 = .ok (.ifCond .eq 7, 3) := by decide +kernel
theorem dX13_readGate_114 : decode cX13_readGate 114 = .ok (.iconst 1, 1) := by decide +kernel
theorem dX13_readGate_115 : decode cX13_readGate 115 = .ok (.goto 32, 3) := by decide +kernel
theorem dX13_readGate_118 : decode cX13_readGate 118 = .ok (.aload_n 0, 1) := by decide +kernel
theorem dX13_readGate_119 : decode cX13_readGate 119 = .ok (.ldc_w 278, 3) := by decide +kernel
theorem dX13_readGate_122 : decode cX13_readGate 122 = .ok (.invokevirtual 121, 3) := by decide +kernel
theorem dX13_readGate_125 : decode cX13_readGate 125 = .ok (.ifCond .eq 7, 3) := by decide +kernel
theorem dX13_readGate_128 : decode cX13_readGate 128 = .ok (.iconst 2, 1) := by decide +kernel
theorem dX13_readGate_129 : decode cX13_readGate 129 = .ok (.goto 18, 3) := by decide +kernel
theorem dX13_readGate_132 : decode cX13_readGate 132 = .ok (.aload_n 0, 1) := by decide +kernel
theorem dX13_readGate_133 : decode cX13_readGate 133 = .ok (.ldc_w 280, 3) := by decide +kernel
theorem dX13_readGate_136 : decode cX13_readGate 136 = .ok (.invokevirtual 121, 3) := by decide +kernel
theorem dX13_readGate_139 : decode cX13_readGate 139 = .ok (.ifCond .eq 7, 3) := by decide +kernel
theorem dX13_readGate_142 : decode cX13_readGate 142 = .ok (.iconst 3, 1) := by decide +kernel
theorem dX13_readGate_143 : decode cX13_readGate 143 = .ok (.goto 4, 3) := by decide +kernel
theorem dX13_readGate_146 : decode cX13_readGate 146 = .ok (.iconst (-1), 1) := by decide +kernel
theorem dX13_readGate_147 : decode cX13_readGate 147 = .ok (.istore_n 3, 1) := by decide +kernel
theorem dX13_readGate_148 : decode cX13_readGate 148 = .ok (.iload_n 3, 1) := by decide +kernel
theorem dX13_readGate_149 : decode cX13_readGate 149 = .ok (.iconst (-1), 1) := by decide +kernel
theorem dX13_readGate_150 : decode cX13_readGate 150 = .ok (.if_icmp .ne 8, 3) := by decide +kernel
theorem dX13_readGate_153 : decode cX13_readGate 153 = .ok (.aload_n 0, 1) := by decide +kernel
theorem dX13_readGate_154 : decode cX13_readGate 154 = .ok (.iconst 1, 1) := by decide +kernel
theorem dX13_readGate_155 : decode cX13_readGate 155 = .ok (.invokevirtual 125, 3) := by decide +kernel
theorem dX13_readGate_158 : decode cX13_readGate 158 = .ok (.aload_n 0, 1) := by decide +kernel
theorem dX13_readGate_159 : decode cX13_readGate 159 = .ok (.invokevirtual 118, 3) := by decide +kernel
theorem dX13_readGate_162 : decode cX13_readGate 162 = .ok (.aload_n 0, 1) := by decide +kernel
theorem dX13_readGate_163 : decode cX13_readGate 163 = .ok (.iconst 0, 1) := by decide +kernel
theorem dX13_readGate_164 : decode cX13_readGate 164 = .ok (.invokevirtual 259, 3) := by decide +kernel
theorem dX13_readGate_167 : decode cX13_readGate 167 = .ok (.istore 4, 2) := by decide +kernel
theorem dX13_readGate_169 : decode cX13_readGate 169 = .ok (.aload_n 0, 1) := by decide +kernel
theorem dX13_readGate_170 : decode cX13_readGate 170 = .ok (.getfield 79, 3) := by decide +kernel
theorem dX13_readGate_173 : decode cX13_readGate 173 = .ok (.iconst 5, 1) := by decide +kernel
theorem dX13_readGate_174 : decode cX13_readGate 174 = .ok (.if_icmp .ne 4, 3) := by decide +kernel
theorem dX13_readGate_177 : decode cX13_readGate 177 = .ok (.return_, 1) := by decide +kernel
theorem dX13_readGate_178 : decode cX13_readGate 178 = .ok (.aload_n 0, 1) := by decide +kernel
theorem dX13_readGate_179 : decode cX13_readGate 179 = .ok (.getfield 158, 3) := by decide +kernel
theorem dX13_readGate_182 : decode cX13_readGate 182 = .ok (.getfield 272, 3) := by decide +kernel
theorem dX13_readGate_185 : decode cX13_readGate 185 = .ok (.bipush 7, 2) := by decide +kernel
theorem dX13_readGate_187 : decode cX13_readGate 187 = .ok (.iload_n 1, 1) := by decide +kernel
theorem dX13_readGate_188 : decode cX13_readGate 188 = .ok (.imul, 1) := by decide +kernel
theorem dX13_readGate_189 : decode cX13_readGate 189 = .ok (.iload_n 2, 1) := by decide +kernel
theorem dX13_readGate_190 : decode cX13_readGate 190 = .ok (.iadd, 1) := by decide +kernel
theorem dX13_readGate_191 : decode cX13_readGate 191 = .ok (.iload_n 3, 1) := by decide +kernel
theorem dX13_readGate_192 : decode cX13_readGate 192 = .ok (.iastore, 1) := by decide +kernel
theorem dX13_readGate_193 : decode cX13_readGate 193 = .ok (.aload_n 0, 1) := by decide +kernel
theorem dX13_readGate_194 : decode cX13_readGate 194 = .ok (.getfield 158, 3) := by decide +kernel
theorem dX13_readGate_197 : decode cX13_readGate 197 = .ok (.getfield 272, 3) := by decide +kernel
theorem dX13_readGate_200 : decode cX13_readGate 200 = .ok (.bipush 7, 2) := by decide +kernel
theorem dX13_readGate_202 : decode cX13_readGate 202 = .ok (.iload_n 2, 1) := by decide +kernel
theorem dX13_readGate_203 : decode cX13_readGate 203 = .ok (.imul, 1) := by decide +kernel
theorem dX13_readGate_204 : decode cX13_readGate 204 = .ok (.iload_n 1, 1) := by decide +kernel
theorem dX13_readGate_205 : decode cX13_readGate 205 = .ok (.iadd, 1) := by decide +kernel
theorem dX13_readGate_206 : decode cX13_readGate 206 = .ok (.iload_n 3, 1) := by decide +kernel
theorem dX13_readGate_207 : decode cX13_readGate 207 = .ok (.iastore, 1) := by decide +kernel
theorem dX13_readGate_208 : decode cX13_readGate 208 = .ok (.aload_n 0, 1) := by decide +kernel
theorem dX13_readGate_209 : decode cX13_readGate 209 = .ok (.getfield 158, 3) := by decide +kernel
theorem dX13_readGate_212 : decode cX13_readGate 212 = .ok (.getfield 282, 3) := by decide +kernel
theorem dX13_readGate_215 : decode cX13_readGate 215 = .ok (.bipush 7, 2) := by decide +kernel
theorem dX13_readGate_217 : decode cX13_readGate 217 = .ok (.iload_n 1, 1) := by decide +kernel
theorem dX13_readGate_218 : decode cX13_readGate 218 = .ok (.imul, 1) := by decide +kernel
theorem dX13_readGate_219 : decode cX13_readGate 219 = .ok (.iload_n 2, 1) := by decide +kernel
theorem dX13_readGate_220 : decode cX13_readGate 220 = .ok (.iadd, 1) := by decide +kernel
theorem dX13_readGate_221 : decode cX13_readGate 221 = .ok (.iload 4, 2) := by decide +kernel
theorem dX13_readGate_223 : decode cX13_readGate 223 = .ok (.iastore, 1) := by decide +kernel
theorem dX13_readGate_224 : decode cX13_readGate 224 = .ok (.aload_n 0, 1) := by decide +kernel
theorem dX13_readGate_225 : decode cX13_readGate 225 = .ok (.getfield 158, 3) := by decide +kernel
theorem dX13_readGate_228 : decode cX13_readGate 228 = .ok (.getfield 282, 3) := by decide +kernel
theorem dX13_readGate_231 : decode cX13_readGate 231 = .ok (.bipush 7, 2) := by decide +kernel
theorem dX13_readGate_233 : decode cX13_readGate 233 = .ok (.iload_n 2, 1) := by decide +kernel
theorem dX13_readGate_234 : decode cX13_readGate 234 = .ok (.imul, 1) := by decide +kernel
theorem dX13_readGate_235 : decode cX13_readGate 235 = .ok (.iload_n 1, 1) := by decide +kernel
theorem dX13_readGate_236 : decode cX13_readGate 236 = .ok (.iadd, 1) := by decide +kernel
theorem dX13_readGate_237 : decode cX13_readGate 237 = .ok (.iload 4, 2) := by decide +kernel
theorem dX13_readGate_239 : decode cX13_readGate 239 = .ok (.iastore, 1) := by decide +kernel
theorem dX13_readGate_240 : decode cX13_readGate 240 = .ok (.aload_n 0, 1) := by decide +kernel
theorem dX13_readGate_241 : decode cX13_readGate 241 = .ok (.getfield 158, 3) := by decide +kernel
theorem dX13_readGate_244 : decode cX13_readGate 244 = .ok (.dup, 1) := by decide +kernel
theorem dX13_readGate_245 : decode cX13_readGate 245 = .ok (.getfield 284, 3) := by decide +kernel
theorem dX13_readGate_248 : decode cX13_readGate 248 = .ok (.iconst 1, 1) := by decide +kernel
theorem dX13_readGate_249 : decode cX13_readGate 249 = .ok (.iadd, 1) := by decide +kernel
theorem dX13_readGate_250 : decode cX13_readGate 250 = .ok (.putfield 284, 3) := by decide +kernel
theorem dX13_readGate_253 : decode cX13_readGate 253 = .ok (.return_, 1) := by decide +kernel
abbrev rm_X13_readGate : Room := { frames := 9, cells := 0, slots := 0, locals := 219 }
def f_X13_readGate_158 (h : Mem) (v0 : Nat) (v1 : Int32) (v2 : Int32) (v3 : Int32) : Option Mem :=
  (f_X13_goesOn h v0).bind fun h15 => (f_X13_readKnown h15 v0 0).bind fun q18 => (gI q18.2 v0 9 11).bind fun x19 => (if x19 = 5 then some q18.2 else (gR q18.2 v0 4 11).bind fun r20 => (gR q18.2 r20 13 10).bind fun r21 => (sI q18.2 r21 ((7 * v1) + v2) v3).bind fun h22 => (gR h22 v0 4 11).bind fun r23 => (gR h22 r23 13 10).bind fun r24 => (sI h22 r24 ((7 * v2) + v1) v3).bind fun h25 => (gR h25 v0 4 11).bind fun r26 => (gR h25 r26 14 10).bind fun r27 => (sI h25 r27 ((7 * v1) + v2) q18.1).bind fun h28 => (gR h28 v0 4 11).bind fun r29 => (gR h28 r29 14 10).bind fun r30 => (sI h28 r30 ((7 * v2) + v1) q18.1).bind fun h31 => (gR h31 v0 4 11).bind fun r32 => (gI h31 r32 4 10).bind fun x33 => (pI h31 r32 4 10 (x33 + 1)).bind fun h34 => some h34)
set_option maxRecDepth 100000 in
set_option maxHeartbeats 4000000 in
theorem w_X13_readGate_158 {G : GE} {X : CX} {l : Launch} (hX : Ok G X cX13_readGate RX13) (hN : xn X = 5) {P : Mem → Prop} (hr : Rt G X l yX13_readGate none rm_X13_readGate (pmV P)) (h : Mem) (v0 : Nat) (v1 : Int32) (v2 : Int32) (v3 : Int32) (hy : OK (f_X13_readGate_158 h v0 v1 v2 v3) P) : AW G X 158 [(0, vR v0), (1, vI v1), (2, vI v2), (3, vI v3)] [] h 0 0 := by
  unfold f_X13_readGate_158 at hy
  refine aw_aloadn (pc := 158) hX 0 rfl dX13_readGate_158 ?_
  refine aw_callV (pc := 159) (st := []) (a := v0) hX [] (con_X13_goesOn _ G _ v0 hy.bd) mc_X13_goesOn ml_X13_118 im_X13_goesOn se_X13_goesOn (by decide) hy.bd.kd rfl (rm_of hr (by decide)) (Nat.le_of_ble_eq_true rfl) rfl dX13_readGate_159 (kmV rfl rfl (fun h15 hy => ?_))
  refine aw_aloadn (pc := 162) hX 0 rfl dX13_readGate_162 ?_
  refine aw_iconst (pc := 163) hX 0 (by decide) dX13_readGate_163 ?_
  refine aw_callV (pc := 164) (st := []) (a := v0) hX [vI 0] (con_X13_readKnown _ G _ v0 0 hy.bd) mc_X13_readKnown ml_X13_259 im_X13_readKnown se_X13_readKnown (by decide) hy.bd.kd rfl (rm_of hr (by decide)) (Nat.le_of_ble_eq_true rfl) rfl dX13_readGate_164 (kmI rfl rfl (fun q18 hy => ?_))
  refine aw_istore (pc := 167) hX [(4, vI q18.1), (0, vR v0), (1, vI v1), (2, vI v2), (3, vI v3)] rfl (lt_n hN (by decide)) dX13_readGate_167 ?_
  refine aw_aloadn (pc := 169) hX 1 rfl dX13_readGate_169 ?_
  refine aw_gI (pc := 170) hX hy fl_X13_79 (fun _ _ => rfl) dX13_readGate_170 (fun x19 hy => ?_)
  refine aw_iconst (pc := 173) hX 5 (by decide) dX13_readGate_173 ?_
  refine aw_ic_ne (pc := 174) hX 178 (by decide) dX13_readGate_174 (fun hc9 => ?_) (fun hc9 => ?_)
  · have hy := hy.f hc9
    refine aw_aloadn (pc := 178) hX 1 rfl dX13_readGate_178 ?_
    refine aw_gR (pc := 179) hX hy fl_X13_158 (fun _ _ => rfl) dX13_readGate_179 (fun r20 hy => ?_)
    refine aw_gR (pc := 182) hX hy fl_X13_272 (fun _ _ => rfl) dX13_readGate_182 (fun r21 hy => ?_)
    refine aw_bipush (pc := 185) hX 7 (by decide) dX13_readGate_185 ?_
    refine aw_iloadn (pc := 187) hX 2 rfl dX13_readGate_187 ?_
    refine aw_imul (pc := 188) hX dX13_readGate_188 ?_
    refine aw_iloadn (pc := 189) hX 3 rfl dX13_readGate_189 ?_
    refine aw_iadd (pc := 190) hX dX13_readGate_190 ?_
    refine aw_iloadn (pc := 191) hX 4 rfl dX13_readGate_191 ?_
    refine aw_sI (pc := 192) hX hy dX13_readGate_192 (fun h22 hy => ?_)
    refine aw_aloadn (pc := 193) hX 1 rfl dX13_readGate_193 ?_
    refine aw_gR (pc := 194) hX hy fl_X13_158 (fun _ _ => rfl) dX13_readGate_194 (fun r23 hy => ?_)
    refine aw_gR (pc := 197) hX hy fl_X13_272 (fun _ _ => rfl) dX13_readGate_197 (fun r24 hy => ?_)
    refine aw_bipush (pc := 200) hX 7 (by decide) dX13_readGate_200 ?_
    refine aw_iloadn (pc := 202) hX 3 rfl dX13_readGate_202 ?_
    refine aw_imul (pc := 203) hX dX13_readGate_203 ?_
    refine aw_iloadn (pc := 204) hX 2 rfl dX13_readGate_204 ?_
    refine aw_iadd (pc := 205) hX dX13_readGate_205 ?_
    refine aw_iloadn (pc := 206) hX 4 rfl dX13_readGate_206 ?_
    refine aw_sI (pc := 207) hX hy dX13_readGate_207 (fun h25 hy => ?_)
    refine aw_aloadn (pc := 208) hX 1 rfl dX13_readGate_208 ?_
    refine aw_gR (pc := 209) hX hy fl_X13_158 (fun _ _ => rfl) dX13_readGate_209 (fun r26 hy => ?_)
    refine aw_gR (pc := 212) hX hy fl_X13_282 (fun _ _ => rfl) dX13_readGate_212 (fun r27 hy => ?_)
    refine aw_bipush (pc := 215) hX 7 (by decide) dX13_readGate_215 ?_
    refine aw_iloadn (pc := 217) hX 2 rfl dX13_readGate_217 ?_
    refine aw_imul (pc := 218) hX dX13_readGate_218 ?_
    refine aw_iloadn (pc := 219) hX 3 rfl dX13_readGate_219 ?_
    refine aw_iadd (pc := 220) hX dX13_readGate_220 ?_
    refine aw_iload (pc := 221) hX 0 rfl dX13_readGate_221 ?_
    refine aw_sI (pc := 223) hX hy dX13_readGate_223 (fun h28 hy => ?_)
    refine aw_aloadn (pc := 224) hX 1 rfl dX13_readGate_224 ?_
    refine aw_gR (pc := 225) hX hy fl_X13_158 (fun _ _ => rfl) dX13_readGate_225 (fun r29 hy => ?_)
    refine aw_gR (pc := 228) hX hy fl_X13_282 (fun _ _ => rfl) dX13_readGate_228 (fun r30 hy => ?_)
    refine aw_bipush (pc := 231) hX 7 (by decide) dX13_readGate_231 ?_
    refine aw_iloadn (pc := 233) hX 3 rfl dX13_readGate_233 ?_
    refine aw_imul (pc := 234) hX dX13_readGate_234 ?_
    refine aw_iloadn (pc := 235) hX 2 rfl dX13_readGate_235 ?_
    refine aw_iadd (pc := 236) hX dX13_readGate_236 ?_
    refine aw_iload (pc := 237) hX 0 rfl dX13_readGate_237 ?_
    refine aw_sI (pc := 239) hX hy dX13_readGate_239 (fun h31 hy => ?_)
    refine aw_aloadn (pc := 240) hX 1 rfl dX13_readGate_240 ?_
    refine aw_gR (pc := 241) hX hy fl_X13_158 (fun _ _ => rfl) dX13_readGate_241 (fun r32 hy => ?_)
    refine aw_dup (pc := 244) hX rfl dX13_readGate_244 ?_
    refine aw_gI (pc := 245) hX hy fl_X13_284 (fun _ _ => rfl) dX13_readGate_245 (fun x33 hy => ?_)
    refine aw_iconst (pc := 248) hX 1 (by decide) dX13_readGate_248 ?_
    refine aw_iadd (pc := 249) hX dX13_readGate_249 ?_
    refine aw_pI (pc := 250) hX hy fl_X13_284 rfl (Or.inl rfl) dX13_readGate_250 (fun h34 hy => ?_)
    exact aw_vret (pc := 253) hX hr (by decide) (by decide) dX13_readGate_253 ⟨rfl, hy.s⟩
  · have hy := hy.t hc9
    exact aw_vret (pc := 177) hX hr (by decide) (by decide) dX13_readGate_177 ⟨rfl, hy.s⟩
def f_X13_readGate_147 (h : Mem) (v0 : Nat) (v1 : Int32) (v2 : Int32) (s0 : Int32) : Option Mem :=
  (if s0 = (-1) then (f_X13_flaw h v0 1).bind fun h35 => f_X13_readGate_158 h35 v0 v1 v2 s0 else f_X13_readGate_158 h v0 v1 v2 s0)
set_option maxRecDepth 100000 in
set_option maxHeartbeats 4000000 in
theorem w_X13_readGate_147 {G : GE} {X : CX} {l : Launch} (hX : Ok G X cX13_readGate RX13) (hN : xn X = 5) {P : Mem → Prop} (hr : Rt G X l yX13_readGate none rm_X13_readGate (pmV P)) (h : Mem) (v0 : Nat) (v1 : Int32) (v2 : Int32) (s0 : Int32) (hy : OK (f_X13_readGate_147 h v0 v1 v2 s0) P) : AW G X 147 [(0, vR v0), (1, vI v1), (2, vI v2)] [vI s0] h 0 0 := by
  unfold f_X13_readGate_147 at hy
  refine aw_istoren (pc := 147) hX [(3, vI s0), (0, vR v0), (1, vI v1), (2, vI v2)] rfl (lt_n hN (by decide)) dX13_readGate_147 ?_
  refine aw_iloadn (pc := 148) hX 0 rfl dX13_readGate_148 ?_
  refine aw_iconst (pc := 149) hX (-1) (by decide) dX13_readGate_149 ?_
  refine aw_ic_ne (pc := 150) hX 158 (by decide) dX13_readGate_150 (fun hc9 => ?_) (fun hc9 => ?_)
  · have hy := hy.f hc9
    refine AW.sub [1, 2, 3, 0] rfl ?_
    exact w_X13_readGate_158 hX hN hr h v0 v1 v2 s0 hy
  · have hy := hy.t hc9
    refine aw_aloadn (pc := 153) hX 1 rfl dX13_readGate_153 ?_
    refine aw_iconst (pc := 154) hX 1 (by decide) dX13_readGate_154 ?_
    refine aw_callV (pc := 155) (st := []) (a := v0) hX [vI 1] (con_X13_flaw _ G _ v0 1 hy.bd) mc_X13_flaw ml_X13_125 im_X13_flaw se_X13_flaw (by decide) hy.bd.kd rfl (rm_of hr (by decide)) (Nat.le_of_ble_eq_true rfl) rfl dX13_readGate_155 (kmV rfl rfl (fun h35 hy => ?_))
    refine AW.sub [1, 2, 3, 0] rfl ?_
    exact w_X13_readGate_158 hX hN hr h35 v0 v1 v2 s0 hy
def f_X13_readGate_86 (h : Mem) (v0 : Nat) (v1 : Int32) (v2 : Int32) : Option Mem :=
  (f_X13_goesOn h v0).bind fun h10 => (f_X13_isWord h10 v0 11).bind fun x11 => (if x11 = 0 then (f_X13_isWord h10 v0 12).bind fun x12 => (if x12 = 0 then (f_X13_isWord h10 v0 13).bind fun x13 => (if x13 = 0 then (f_X13_isWord h10 v0 14).bind fun x14 => (if x14 = 0 then f_X13_readGate_147 h10 v0 v1 v2 (-1) else f_X13_readGate_147 h10 v0 v1 v2 3) else f_X13_readGate_147 h10 v0 v1 v2 2) else f_X13_readGate_147 h10 v0 v1 v2 1) else f_X13_readGate_147 h10 v0 v1 v2 0)
set_option maxRecDepth 100000 in
set_option maxHeartbeats 4000000 in
theorem w_X13_readGate_86 {G : GE} {X : CX} {l : Launch} (hX : Ok G X cX13_readGate RX13) (hN : xn X = 5) {P : Mem → Prop} (hr : Rt G X l yX13_readGate none rm_X13_readGate (pmV P)) (h : Mem) (v0 : Nat) (v1 : Int32) (v2 : Int32) (hy : OK (f_X13_readGate_86 h v0 v1 v2) P) : AW G X 86 [(0, vR v0), (1, vI v1), (2, vI v2)] [] h 0 0 := by
  unfold f_X13_readGate_86 at hy
  refine aw_aloadn (pc := 86) hX 0 rfl dX13_readGate_86 ?_
  refine aw_callV (pc := 87) (st := []) (a := v0) hX [] (con_X13_goesOn _ G _ v0 hy.bd) mc_X13_goesOn ml_X13_118 im_X13_goesOn se_X13_goesOn (by decide) hy.bd.kd rfl (rm_of hr (by decide)) (Nat.le_of_ble_eq_true rfl) rfl dX13_readGate_87 (kmV rfl rfl (fun h10 hy => ?_))
  refine aw_aloadn (pc := 90) hX 0 rfl dX13_readGate_90 ?_
  refine aw_ldcsw (pc := 91) hX (tx := "strict") (k := 11) (by decide +kernel) dX13_readGate_91 ?_
  refine aw_callV (pc := 94) (st := []) (a := v0) hX [vX 11] (con_X13_isWord _ G _ v0 11 hy.bd) mc_X13_isWord ml_X13_121 im_X13_isWord se_X13_isWord (by decide) hy.bd.kd rfl (rm_of hr (by decide)) (Nat.le_of_ble_eq_true rfl) rfl dX13_readGate_94 (kpI rfl rfl (fun x11 hy => ?_))
  refine aw_if_eq (pc := 97) hX 104 (by decide) dX13_readGate_97 (fun hc9 => ?_) (fun hc9 => ?_)
  · have hy := hy.t hc9
    refine aw_aloadn (pc := 104) hX 0 rfl dX13_readGate_104 ?_
    refine aw_ldcsw (pc := 105) hX (tx := "kind") (k := 12) (by decide +kernel) dX13_readGate_105 ?_
    refine aw_callV (pc := 108) (st := []) (a := v0) hX [vX 12] (con_X13_isWord _ G _ v0 12 hy.bd) mc_X13_isWord ml_X13_121 im_X13_isWord se_X13_isWord (by decide) hy.bd.kd rfl (rm_of hr (by decide)) (Nat.le_of_ble_eq_true rfl) rfl dX13_readGate_108 (kpI rfl rfl (fun x12 hy => ?_))
    refine aw_if_eq (pc := 111) hX 118 (by decide) dX13_readGate_111 (fun hc9 => ?_) (fun hc9 => ?_)
    · have hy := hy.t hc9
      refine aw_aloadn (pc := 118) hX 0 rfl dX13_readGate_118 ?_
      refine aw_ldcsw (pc := 119) hX (tx := "deaf") (k := 13) (by decide +kernel) dX13_readGate_119 ?_
      refine aw_callV (pc := 122) (st := []) (a := v0) hX [vX 13] (con_X13_isWord _ G _ v0 13 hy.bd) mc_X13_isWord ml_X13_121 im_X13_isWord se_X13_isWord (by decide) hy.bd.kd rfl (rm_of hr (by decide)) (Nat.le_of_ble_eq_true rfl) rfl dX13_readGate_122 (kpI rfl rfl (fun x13 hy => ?_))
      refine aw_if_eq (pc := 125) hX 132 (by decide) dX13_readGate_125 (fun hc9 => ?_) (fun hc9 => ?_)
      · have hy := hy.t hc9
        refine aw_aloadn (pc := 132) hX 0 rfl dX13_readGate_132 ?_
        refine aw_ldcsw (pc := 133) hX (tx := "forgot") (k := 14) (by decide +kernel) dX13_readGate_133 ?_
        refine aw_callV (pc := 136) (st := []) (a := v0) hX [vX 14] (con_X13_isWord _ G _ v0 14 hy.bd) mc_X13_isWord ml_X13_121 im_X13_isWord se_X13_isWord (by decide) hy.bd.kd rfl (rm_of hr (by decide)) (Nat.le_of_ble_eq_true rfl) rfl dX13_readGate_136 (kpI rfl rfl (fun x14 hy => ?_))
        refine aw_if_eq (pc := 139) hX 146 (by decide) dX13_readGate_139 (fun hc9 => ?_) (fun hc9 => ?_)
        · have hy := hy.t hc9
          refine aw_iconst (pc := 146) hX (-1) (by decide) dX13_readGate_146 ?_
          exact w_X13_readGate_147 hX hN hr h10 v0 v1 v2 (-1) hy
        · have hy := hy.f hc9
          refine aw_iconst (pc := 142) hX 3 (by decide) dX13_readGate_142 ?_
          refine aw_goto (pc := 143) hX 147 (by decide) dX13_readGate_143 ?_
          exact w_X13_readGate_147 hX hN hr h10 v0 v1 v2 3 hy
      · have hy := hy.f hc9
        refine aw_iconst (pc := 128) hX 2 (by decide) dX13_readGate_128 ?_
        refine aw_goto (pc := 129) hX 147 (by decide) dX13_readGate_129 ?_
        exact w_X13_readGate_147 hX hN hr h10 v0 v1 v2 2 hy
    · have hy := hy.f hc9
      refine aw_iconst (pc := 114) hX 1 (by decide) dX13_readGate_114 ?_
      refine aw_goto (pc := 115) hX 147 (by decide) dX13_readGate_115 ?_
      exact w_X13_readGate_147 hX hN hr h10 v0 v1 v2 1 hy
  · have hy := hy.f hc9
    refine aw_iconst (pc := 100) hX 0 (by decide) dX13_readGate_100 ?_
    refine aw_goto (pc := 101) hX 147 (by decide) dX13_readGate_101 ?_
    exact w_X13_readGate_147 hX hN hr h10 v0 v1 v2 0 hy
def f_X13_readGate_55 (h : Mem) (v0 : Nat) (v1 : Int32) (v2 : Int32) : Option Mem :=
  (gI h v0 9 11).bind fun x9 => (if x9 = 5 then f_X13_readGate_86 h v0 v1 v2 else (gR h v0 4 11).bind fun r36 => (gR h r36 12 10).bind fun r37 => (aI h r37 ((7 * v1) + v2)).bind fun x38 => (if x38 = 0 then (f_X13_flaw h v0 8).bind fun h39 => f_X13_readGate_86 h39 v0 v1 v2 else f_X13_readGate_86 h v0 v1 v2))
set_option maxRecDepth 100000 in
set_option maxHeartbeats 4000000 in
theorem w_X13_readGate_55 {G : GE} {X : CX} {l : Launch} (hX : Ok G X cX13_readGate RX13) (hN : xn X = 5) {P : Mem → Prop} (hr : Rt G X l yX13_readGate none rm_X13_readGate (pmV P)) (h : Mem) (v0 : Nat) (v1 : Int32) (v2 : Int32) (hy : OK (f_X13_readGate_55 h v0 v1 v2) P) : AW G X 55 [(0, vR v0), (1, vI v1), (2, vI v2)] [] h 0 0 := by
  unfold f_X13_readGate_55 at hy
  refine aw_aloadn (pc := 55) hX 0 rfl dX13_readGate_55 ?_
  refine aw_gI (pc := 56) hX hy fl_X13_79 (fun _ _ => rfl) dX13_readGate_56 (fun x9 hy => ?_)
  refine aw_iconst (pc := 59) hX 5 (by decide) dX13_readGate_59 ?_
  refine aw_ic_eq (pc := 60) hX 86 (by decide) dX13_readGate_60 (fun hc9 => ?_) (fun hc9 => ?_)
  · have hy := hy.t hc9
    exact w_X13_readGate_86 hX hN hr h v0 v1 v2 hy
  · have hy := hy.f hc9
    refine aw_aloadn (pc := 63) hX 0 rfl dX13_readGate_63 ?_
    refine aw_gR (pc := 64) hX hy fl_X13_158 (fun _ _ => rfl) dX13_readGate_64 (fun r36 hy => ?_)
    refine aw_gR (pc := 67) hX hy fl_X13_262 (fun _ _ => rfl) dX13_readGate_67 (fun r37 hy => ?_)
    refine aw_bipush (pc := 70) hX 7 (by decide) dX13_readGate_70 ?_
    refine aw_iloadn (pc := 72) hX 1 rfl dX13_readGate_72 ?_
    refine aw_imul (pc := 73) hX dX13_readGate_73 ?_
    refine aw_iloadn (pc := 74) hX 2 rfl dX13_readGate_74 ?_
    refine aw_iadd (pc := 75) hX dX13_readGate_75 ?_
    refine aw_aI (pc := 76) hX hy dX13_readGate_76 (fun x38 hy => ?_)
    refine aw_if_ne (pc := 77) hX 86 (by decide) dX13_readGate_77 (fun hc9 => ?_) (fun hc9 => ?_)
    · have hy := hy.f hc9
      exact w_X13_readGate_86 hX hN hr h v0 v1 v2 hy
    · have hy := hy.t hc9
      refine aw_aloadn (pc := 80) hX 0 rfl dX13_readGate_80 ?_
      refine aw_bipush (pc := 81) hX 8 (by decide) dX13_readGate_81 ?_
      refine aw_callV (pc := 83) (st := []) (a := v0) hX [vI 8] (con_X13_flaw _ G _ v0 8 hy.bd) mc_X13_flaw ml_X13_125 im_X13_flaw se_X13_flaw (by decide) hy.bd.kd rfl (rm_of hr (by decide)) (Nat.le_of_ble_eq_true rfl) rfl dX13_readGate_83 (kmV rfl rfl (fun h39 hy => ?_))
      exact w_X13_readGate_86 hX hN hr h39 v0 v1 v2 hy
def f_X13_readGate_50 (h : Mem) (v0 : Nat) (v1 : Int32) (v2 : Int32) : Option Mem :=
  (f_X13_flaw h v0 3).bind fun h40 => f_X13_readGate_55 h40 v0 v1 v2
set_option maxRecDepth 100000 in
set_option maxHeartbeats 4000000 in
theorem w_X13_readGate_50 {G : GE} {X : CX} {l : Launch} (hX : Ok G X cX13_readGate RX13) (hN : xn X = 5) {P : Mem → Prop} (hr : Rt G X l yX13_readGate none rm_X13_readGate (pmV P)) (h : Mem) (v0 : Nat) (v1 : Int32) (v2 : Int32) (hy : OK (f_X13_readGate_50 h v0 v1 v2) P) : AW G X 50 [(0, vR v0), (1, vI v1), (2, vI v2)] [] h 0 0 := by
  unfold f_X13_readGate_50 at hy
  refine aw_aloadn (pc := 50) hX 0 rfl dX13_readGate_50 ?_
  refine aw_iconst (pc := 51) hX 3 (by decide) dX13_readGate_51 ?_
  refine aw_callV (pc := 52) (st := []) (a := v0) hX [vI 3] (con_X13_flaw _ G _ v0 3 hy.bd) mc_X13_flaw ml_X13_125 im_X13_flaw se_X13_flaw (by decide) hy.bd.kd rfl (rm_of hr (by decide)) (Nat.le_of_ble_eq_true rfl) rfl dX13_readGate_52 (kmV rfl rfl (fun h40 hy => ?_))
  exact w_X13_readGate_55 hX hN hr h40 v0 v1 v2 hy
def f_X13_readGate (h : Mem) (v0 : Nat) : Option Mem :=
  (ck h v0 11).bind fun _ => (f_X13_lineBegins h v0 0 1).bind fun h1 => (f_X13_readKnown h1 v0 1).bind fun q4 => (f_X13_knownOne q4.2 v0 1).bind fun q7 => (gI q7.2 v0 9 11).bind fun x8 => (if x8 = 5 then f_X13_readGate_55 q7.2 v0 q4.1 q7.1 else (if q4.1 = q7.1 then f_X13_readGate_50 q7.2 v0 q4.1 q7.1 else (gR q7.2 v0 4 11).bind fun r41 => (gR q7.2 r41 13 10).bind fun r42 => (aI q7.2 r42 ((7 * q4.1) + q7.1)).bind fun x43 => (if x43 = (-2) then f_X13_readGate_55 q7.2 v0 q4.1 q7.1 else f_X13_readGate_50 q7.2 v0 q4.1 q7.1)))
set_option maxRecDepth 100000 in
set_option maxHeartbeats 4000000 in
theorem w_X13_readGate {G : GE} {X : CX} {l : Launch} (hX : Ok G X cX13_readGate RX13) (hN : xn X = 5) {P : Mem → Prop} (hr : Rt G X l yX13_readGate none rm_X13_readGate (pmV P)) (h : Mem) (v0 : Nat) (hy : OK (f_X13_readGate h v0) P) : AW G X 0 [(0, vR v0)] [] h 0 0 := by
  unfold f_X13_readGate at hy
  have hkd := hy.kd
  have hy := hy.kb
  refine aw_aloadn (pc := 0) hX 0 rfl dX13_readGate_0 ?_
  refine aw_iconst (pc := 1) hX 0 (by decide) dX13_readGate_1 ?_
  refine aw_iconst (pc := 2) hX 1 (by decide) dX13_readGate_2 ?_
  refine aw_callV (pc := 3) (st := []) (a := v0) hX [vI 0, vI 1] (con_X13_lineBegins _ G _ v0 0 1 hy.bd) mc_X13_lineBegins ml_X13_242 im_X13_lineBegins se_X13_lineBegins (by decide) hy.bd.kd rfl (rm_of hr (by decide)) (Nat.le_of_ble_eq_true rfl) rfl dX13_readGate_3 (kmV rfl rfl (fun h1 hy => ?_))
  refine aw_aloadn (pc := 6) hX 0 rfl dX13_readGate_6 ?_
  refine aw_iconst (pc := 7) hX 1 (by decide) dX13_readGate_7 ?_
  refine aw_callV (pc := 8) (st := []) (a := v0) hX [vI 1] (con_X13_readKnown _ G _ v0 1 hy.bd) mc_X13_readKnown ml_X13_259 im_X13_readKnown se_X13_readKnown (by decide) hy.bd.kd rfl (rm_of hr (by decide)) (Nat.le_of_ble_eq_true rfl) rfl dX13_readGate_8 (kmI rfl rfl (fun q4 hy => ?_))
  refine aw_istoren (pc := 11) hX [(1, vI q4.1), (0, vR v0)] rfl (lt_n hN (by decide)) dX13_readGate_11 ?_
  refine aw_aloadn (pc := 12) hX 1 rfl dX13_readGate_12 ?_
  refine aw_iconst (pc := 13) hX 1 (by decide) dX13_readGate_13 ?_
  refine aw_callV (pc := 14) (st := []) (a := v0) hX [vI 1] (con_X13_knownOne _ G _ v0 1 hy.bd) mc_X13_knownOne ml_X13_188 im_X13_knownOne se_X13_knownOne (by decide) hy.bd.kd rfl (rm_of hr (by decide)) (Nat.le_of_ble_eq_true rfl) rfl dX13_readGate_14 (kmI rfl rfl (fun q7 hy => ?_))
  refine aw_istoren (pc := 17) hX [(2, vI q7.1), (1, vI q4.1), (0, vR v0)] rfl (lt_n hN (by decide)) dX13_readGate_17 ?_
  refine aw_aloadn (pc := 18) hX 2 rfl dX13_readGate_18 ?_
  refine aw_gI (pc := 19) hX hy fl_X13_79 (fun _ _ => rfl) dX13_readGate_19 (fun x8 hy => ?_)
  refine aw_iconst (pc := 22) hX 5 (by decide) dX13_readGate_22 ?_
  refine aw_ic_eq (pc := 23) hX 55 (by decide) dX13_readGate_23 (fun hc9 => ?_) (fun hc9 => ?_)
  · have hy := hy.t hc9
    refine AW.sub [2, 1, 0] rfl ?_
    exact w_X13_readGate_55 hX hN hr q7.2 v0 q4.1 q7.1 hy
  · have hy := hy.f hc9
    refine aw_iloadn (pc := 26) hX 1 rfl dX13_readGate_26 ?_
    refine aw_iloadn (pc := 27) hX 0 rfl dX13_readGate_27 ?_
    refine aw_ic_eq (pc := 28) hX 50 (by decide) dX13_readGate_28 (fun hc9 => ?_) (fun hc9 => ?_)
    · have hy := hy.t hc9
      refine AW.sub [2, 1, 0] rfl ?_
      exact w_X13_readGate_50 hX hN hr q7.2 v0 q4.1 q7.1 hy
    · have hy := hy.f hc9
      refine aw_aloadn (pc := 31) hX 2 rfl dX13_readGate_31 ?_
      refine aw_gR (pc := 32) hX hy fl_X13_158 (fun _ _ => rfl) dX13_readGate_32 (fun r41 hy => ?_)
      refine aw_gR (pc := 35) hX hy fl_X13_272 (fun _ _ => rfl) dX13_readGate_35 (fun r42 hy => ?_)
      refine aw_bipush (pc := 38) hX 7 (by decide) dX13_readGate_38 ?_
      refine aw_iloadn (pc := 40) hX 1 rfl dX13_readGate_40 ?_
      refine aw_imul (pc := 41) hX dX13_readGate_41 ?_
      refine aw_iloadn (pc := 42) hX 0 rfl dX13_readGate_42 ?_
      refine aw_iadd (pc := 43) hX dX13_readGate_43 ?_
      refine aw_aI (pc := 44) hX hy dX13_readGate_44 (fun x43 hy => ?_)
      refine aw_bipush (pc := 45) hX (-2) (by decide) dX13_readGate_45 ?_
      refine aw_ic_eq (pc := 47) hX 55 (by decide) dX13_readGate_47 (fun hc9 => ?_) (fun hc9 => ?_)
      · have hy := hy.t hc9
        refine AW.sub [2, 1, 0] rfl ?_
        exact w_X13_readGate_55 hX hN hr q7.2 v0 q4.1 q7.1 hy
      · have hy := hy.f hc9
        refine AW.sub [2, 1, 0] rfl ?_
        exact w_X13_readGate_50 hX hN hr q7.2 v0 q4.1 q7.1 hy
theorem con_X13_readGate (l : Launch) (G : GE) (h : Mem) (v0 : Nat) {P : Mem → Prop} (hy : OK (f_X13_readGate h v0) P) : Con l G yX13_readGate cX13_readGate 5 none rm_X13_readGate [vR v0] h (pmV P) := Con.of (by decide) (Nat.le_of_ble_eq_true rfl) (fun X hX hr hN => w_X13_readGate hX hN hr h v0 hy)
/-! X13_readInn -/
theorem dX13_readInn_0 : decode cX13_readInn 0 = .ok (.aload_n 0, 1) := by decide +kernel
theorem dX13_readInn_1 : decode cX13_readInn 1 = .ok (.aload_n 0, 1) := by decide +kernel
theorem dX13_readInn_2 : decode cX13_readInn 2 = .ok (.getfield 158, 3) := by decide +kernel
theorem dX13_readInn_5 : decode cX13_readInn 5 = .ok (.getfield 287, 3) := by decide +kernel
theorem dX13_readInn_8 : decode cX13_readInn 8 = .ok (.bipush 6, 2) := by decide +kernel
theorem dX13_readInn_10 : decode cX13_readInn 10 = .ok (.invokevirtual 242, 3) := by decide +kernel
theorem dX13_readInn_13 : decode cX13_readInn 13 = .ok (.aload_n 0, 1) := by decide +kernel
theorem dX13_readInn_14 : decode cX13_readInn 14 = .ok (.iconst 1, 1) := by decide +kernel
theorem dX13_readInn_15 : decode cX13_readInn 15 = .ok (.invokevirtual 259, 3) := by decide +kernel
theorem dX13_readInn_18 : decode cX13_readInn 18 = .ok (.istore_n 1, 1) := by decide +kernel
theorem dX13_readInn_19 : decode cX13_readInn 19 = .ok (.aload_n 0, 1) := by decide +kernel
theorem dX13_readInn_20 : decode cX13_readInn 20 = .ok (.ldc_w 290, 3) := by decide +kernel
theorem dX13_readInn_23 : decode cX13_readInn 23 = .ok (.invokevirtual 121, 3) := by decide +kernel
theorem dX13_readInn_26 : decode cX13_readInn 26 = .ok (.istore_n 2, 1) := by decide +kernel
theorem dX13_readInn_27 : decode cX13_readInn 27 = .ok (.iload_n 2, 1) := by decide +kernel
theorem dX13_readInn_28 : decode cX13_readInn 28 = .ok (.ifCond .ne 18, 3) := by decide +kernel
theorem dX13_readInn_31 : decode cX13_readInn 31 = .ok (.aload_n 0, 1) := by decide +kernel
theorem dX13_readInn_32 : decode cX13_readInn 32 = .ok (.ldc_w 292, 3) := by decide +kernel
theorem dX13_readInn_35 : decode cX13_readInn 35 = .ok (.invokevirtual 121, 3) := by decide +kernel
theorem dX13_readInn_38 : decode cX13_readInn 38 = .ok (.ifCond .ne 8, 3) := by decide +kernel
theorem dX13_readInn_41 : decode cX13_readInn 41 = .ok (.aload_n 0, 1) := by decide +kernel
theorem dX13_readInn_42 : decode cX13_readInn 42 = .ok (.iconst 1, 1) := by decide +kernel
theorem dX13_readInn_43 : decode cX13_readInn 43 = .ok (.invokevirtual 125, 3) := by decide +kernel
theorem dX13_readInn_46 : decode cX13_readInn 46 = .ok (.aload_n 0, 1) := by decide +kernel
theorem dX13_readInn_47 : decode cX13_readInn 47 = .ok (.invokevirtual 118, 3) := by decide +kernel
theorem dX13_readInn_50 : decode cX13_readInn 50 = .ok (.aload_n 0, 1) := by decide +kernel
theorem dX13_readInn_51 : decode cX13_readInn 51 = .ok (.iconst 0, 1) := by decide +kernel
theorem dX13_readInn_52 : decode cX13_readInn 52 = .ok (.invokevirtual 259, 3) := by decide +kernel
theorem dX13_readInn_55 : decode cX13_readInn 55 = .ok (.istore_n 3, 1) := by decide +kernel
theorem dX13_readInn_56 : decode cX13_readInn 56 = .ok (.aload_n 0, 1) := by decide +kernel
theorem dX13_readInn_57 : decode cX13_readInn 57 = .ok (.ldc_w 294, 3) := by decide +kernel
theorem dX13_readInn_60 : decode cX13_readInn 60 = .ok (.iconst 0, 1) := by decide +kernel
theorem dX13_readInn_61 : decode cX13_readInn 61 = .ok (.bipush 99, 2) := by decide +kernel
theorem dX13_readInn_63 : decode cX13_readInn 63 = .ok (.invokevirtual 228, 3) := by decide +kernel
theorem dX13_readInn_66 : decode cX13_readInn 66 = .ok (.istore 4, 2) := by decide +kernel
theorem dX13_readInn_68 : decode cX13_readInn 68 = .ok (.aload_n 0, 1) := by decide +kernel
theorem dX13_readInn_69 : decode cX13_readInn 69 = .ok (.getfield 79, 3) := by decide +kernel
theorem dX13_readInn_72 : decode cX13_readInn 72 = .ok (.iconst 5, 1) := by decide +kernel
theorem dX13_readInn_73 : decode cX13_readInn 73 = .ok (.if_icmp .ne 4, 3) := by decide +kernel
theorem dX13_readInn_76 : decode cX13_readInn 76 = .ok (.return_, 1) := by decide +kernel
theorem dX13_readInn_77 : decode cX13_readInn 77 = .ok (.aload_n 0, 1) := by decide +kernel
theorem dX13_readInn_78 : decode cX13_readInn 78 = .ok (.getfield 158, 3) := by decide +kernel
theorem dX13_readInn_81 : decode cX13_readInn 81 = .ok (.getfield 296, 3) := by decide +kernel
theorem dX13_readInn_84 : decode cX13_readInn 84 = .ok (.aload_n 0, 1) := by decide +kernel
theorem dX13_readInn_85 : decode cX13_readInn 85 = .ok (.getfield 158, 3) := by decide +kernel
theorem dX13_readInn_88 : decode cX13_readInn 88 = .ok (.getfield 287, 3) := by decide +kernel
theorem dX13_readInn_91 : decode cX13_readInn 91 = .ok (.iload_n 1, 1) := by decide +kernel
theorem dX13_readInn_92 : decode cX13_readInn 92 = .ok (.iastore, 1) := by decide +kernel
theorem dX13_readInn_93 : decode cX13_readInn 93 = .ok (.aload_n 0, 1) := by decide +kernel
theorem dX13_readInn_94 : decode cX13_readInn 94 = .ok (.getfield 158, 3) := by decide +kernel
theorem dX13_readInn_97 : decode cX13_readInn 97 = .ok (.getfield 299, 3) := by decide +kernel
theorem dX13_readInn_100 : decode cX13_readInn 100 = .ok (.aload_n 0, 1) := by decide +kernel
theorem dX13_readInn_101 : decode cX13_readInn 101 = .ok (.getfield 158, 3) := by decide +kernel
theorem dX13_readInn_104 : decode cX13_readInn 104 = .ok (.getfield 287, 3) := by decide +kernel
theorem dX13_readInn_107 : decode cX13_readInn 107 = .ok (.iload_n 3, 1) := by decide +kernel
theorem dX13_readInn_108 : decode cX13_readInn 108 = .ok (.iastore, 1) := by decide +kernel
theorem dX13_readInn_109 : decode cX13_readInn 109 = .ok (.aload_n 0, 1) := by decide +kernel
theorem dX13_readInn_110 : decode cX13_readInn 110 = .ok (.getfield 158, 3) := by decide +kernel
theorem dX13_readInn_113 : decode cX13_readInn 113 = .ok (.getfield 302, 3) := by decide +kernel
theorem dX13_readInn_116 : decode cX13_readInn 116 = .ok (.aload_n 0, 1) := by decide +kernel
theorem dX13_readInn_117 : decode cX13_readInn 117 = .ok (.getfield 158, 3) := by decide +kernel
theorem dX13_readInn_120 : decode cX13_readInn 120 = .ok (.getfield 287, 3) := by decide +kernel
theorem dX13_readInn_123 : decode cX13_readInn 123 = .ok (.iload_n 2, 1) := by decide +kernel
theorem dX13_readInn_124 : decode cX13_readInn 124 = .ok (.ifCond .eq 7, 3) := by decide +kernel
theorem dX13_readInn_127 : decode cX13_readInn 127 = .ok (.iconst 1, 1) := by decide +kernel
theorem dX13_readInn_128 : decode cX13_readInn 128 = .ok (.goto 4, 3) := by decide +kernel
theorem dX13_readInn_131 : decode cX13_readInn 131 = .ok (.iconst 0, 1) := by decide +kernel
theorem dX13_readInn_132 : decode cX13_readInn 132 = .ok (.iastore, 1) := by decide +kernel
theorem dX13_readInn_133 : decode cX13_readInn 133 = .ok (.aload_n 0, 1) := by decide +kernel
theorem dX13_readInn_134 : decode cX13_readInn 134 = .ok (.getfield 158, 3) := by decide +kernel
theorem dX13_readInn_137 : decode cX13_readInn 137 = .ok (.getfield 304, 3) := by decide +kernel
theorem dX13_readInn_140 : decode cX13_readInn 140 = .ok (.aload_n 0, 1) := by decide +kernel
theorem dX13_readInn_141 : decode cX13_readInn 141 = .ok (.getfield 158, 3) := by decide +kernel
theorem dX13_readInn_144 : decode cX13_readInn 144 = .ok (.getfield 287, 3) := by decide +kernel
theorem dX13_readInn_147 : decode cX13_readInn 147 = .ok (.iload 4, 2) := by decide +kernel
theorem dX13_readInn_149 : decode cX13_readInn 149 = .ok (.iastore, 1) := by decide +kernel
theorem dX13_readInn_150 : decode cX13_readInn 150 = .ok (.aload_n 0, 1) := by decide +kernel
theorem dX13_readInn_151 : decode cX13_readInn 151 = .ok (.getfield 158, 3) := by decide +kernel
theorem dX13_readInn_154 : decode cX13_readInn 154 = .ok (.dup, 1) := by decide +kernel
theorem dX13_readInn_155 : decode cX13_readInn 155 = .ok (.getfield 287, 3) := by decide +kernel
theorem dX13_readInn_158 : decode cX13_readInn 158 = .ok (.iconst 1, 1) := by decide +kernel
theorem dX13_readInn_159 : decode cX13_readInn 159 = .ok (.iadd, 1) := by decide +kernel
theorem dX13_readInn_160 : decode cX13_readInn 160 = .ok (.putfield 287, 3) := by decide +kernel
theorem dX13_readInn_163 : decode cX13_readInn 163 = .ok (.return_, 1) := by decide +kernel
abbrev rm_X13_readInn : Room := { frames := 9, cells := 0, slots := 0, locals := 219 }
def f_X13_readInn_132 (h : Mem) (v0 : Nat) (v4 : Int32) (s0 : Nat) (s1 : Int32) (s2 : Int32) : Option Mem :=
  (sI h s0 s1 s2).bind fun h30 => (gR h30 v0 4 11).bind fun r31 => (gR h30 r31 20 10).bind fun r32 => (gR h30 v0 4 11).bind fun r33 => (gI h30 r33 5 10).bind fun x34 => (sI h30 r32 x34 v4).bind fun h35 => (gR h35 v0 4 11).bind fun r36 => (gI h35 r36 5 10).bind fun x37 => (pI h35 r36 5 10 (x37 + 1)).bind fun h38 => some h38
set_option maxRecDepth 100000 in
set_option maxHeartbeats 4000000 in
theorem w_X13_readInn_132 {G : GE} {X : CX} {l : Launch} (hX : Ok G X cX13_readInn RX13) (hN : xn X = 5) {P : Mem → Prop} (hr : Rt G X l yX13_readInn none rm_X13_readInn (pmV P)) (h : Mem) (v0 : Nat) (v4 : Int32) (s0 : Nat) (s1 : Int32) (s2 : Int32) (hy : OK (f_X13_readInn_132 h v0 v4 s0 s1 s2) P) : AW G X 132 [(0, vR v0), (4, vI v4)] [vI s2, vI s1, vR s0] h 0 0 := by
  unfold f_X13_readInn_132 at hy
  refine aw_sI (pc := 132) hX hy dX13_readInn_132 (fun h30 hy => ?_)
  refine aw_aloadn (pc := 133) hX 0 rfl dX13_readInn_133 ?_
  refine aw_gR (pc := 134) hX hy fl_X13_158 (fun _ _ => rfl) dX13_readInn_134 (fun r31 hy => ?_)
  refine aw_gR (pc := 137) hX hy fl_X13_304 (fun _ _ => rfl) dX13_readInn_137 (fun r32 hy => ?_)
  refine aw_aloadn (pc := 140) hX 0 rfl dX13_readInn_140 ?_
  refine aw_gR (pc := 141) hX hy fl_X13_158 (fun _ _ => rfl) dX13_readInn_141 (fun r33 hy => ?_)
  refine aw_gI (pc := 144) hX hy fl_X13_287 (fun _ _ => rfl) dX13_readInn_144 (fun x34 hy => ?_)
  refine aw_iload (pc := 147) hX 1 rfl dX13_readInn_147 ?_
  refine aw_sI (pc := 149) hX hy dX13_readInn_149 (fun h35 hy => ?_)
  refine aw_aloadn (pc := 150) hX 0 rfl dX13_readInn_150 ?_
  refine aw_gR (pc := 151) hX hy fl_X13_158 (fun _ _ => rfl) dX13_readInn_151 (fun r36 hy => ?_)
  refine aw_dup (pc := 154) hX rfl dX13_readInn_154 ?_
  refine aw_gI (pc := 155) hX hy fl_X13_287 (fun _ _ => rfl) dX13_readInn_155 (fun x37 hy => ?_)
  refine aw_iconst (pc := 158) hX 1 (by decide) dX13_readInn_158 ?_
  refine aw_iadd (pc := 159) hX dX13_readInn_159 ?_
  refine aw_pI (pc := 160) hX hy fl_X13_287 rfl (Or.inl rfl) dX13_readInn_160 (fun h38 hy => ?_)
  exact aw_vret (pc := 163) hX hr (by decide) (by decide) dX13_readInn_163 ⟨rfl, hy.s⟩
def f_X13_readInn_46 (h : Mem) (v0 : Nat) (v1 : Int32) (v2 : Int32) : Option Mem :=
  (f_X13_goesOn h v0).bind fun h8 => (f_X13_readKnown h8 v0 0).bind fun q11 => (f_X13_readPart q11.2 v0 17 0 99).bind fun q14 => (gI q14.2 v0 9 11).bind fun x15 => (if x15 = 5 then some q14.2 else (gR q14.2 v0 4 11).bind fun r16 => (gR q14.2 r16 17 10).bind fun r17 => (gR q14.2 v0 4 11).bind fun r18 => (gI q14.2 r18 5 10).bind fun x19 => (sI q14.2 r17 x19 v1).bind fun h20 => (gR h20 v0 4 11).bind fun r21 => (gR h20 r21 18 10).bind fun r22 => (gR h20 v0 4 11).bind fun r23 => (gI h20 r23 5 10).bind fun x24 => (sI h20 r22 x24 q11.1).bind fun h25 => (gR h25 v0 4 11).bind fun r26 => (gR h25 r26 19 10).bind fun r27 => (gR h25 v0 4 11).bind fun r28 => (gI h25 r28 5 10).bind fun x29 => (if v2 = 0 then f_X13_readInn_132 h25 v0 q14.1 r27 x29 0 else f_X13_readInn_132 h25 v0 q14.1 r27 x29 1))
set_option maxRecDepth 100000 in
set_option maxHeartbeats 4000000 in
theorem w_X13_readInn_46 {G : GE} {X : CX} {l : Launch} (hX : Ok G X cX13_readInn RX13) (hN : xn X = 5) {P : Mem → Prop} (hr : Rt G X l yX13_readInn none rm_X13_readInn (pmV P)) (h : Mem) (v0 : Nat) (v1 : Int32) (v2 : Int32) (hy : OK (f_X13_readInn_46 h v0 v1 v2) P) : AW G X 46 [(0, vR v0), (1, vI v1), (2, vI v2)] [] h 0 0 := by
  unfold f_X13_readInn_46 at hy
  refine aw_aloadn (pc := 46) hX 0 rfl dX13_readInn_46 ?_
  refine aw_callV (pc := 47) (st := []) (a := v0) hX [] (con_X13_goesOn _ G _ v0 hy.bd) mc_X13_goesOn ml_X13_118 im_X13_goesOn se_X13_goesOn (by decide) hy.bd.kd rfl (rm_of hr (by decide)) (Nat.le_of_ble_eq_true rfl) rfl dX13_readInn_47 (kmV rfl rfl (fun h8 hy => ?_))
  refine aw_aloadn (pc := 50) hX 0 rfl dX13_readInn_50 ?_
  refine aw_iconst (pc := 51) hX 0 (by decide) dX13_readInn_51 ?_
  refine aw_callV (pc := 52) (st := []) (a := v0) hX [vI 0] (con_X13_readKnown _ G _ v0 0 hy.bd) mc_X13_readKnown ml_X13_259 im_X13_readKnown se_X13_readKnown (by decide) hy.bd.kd rfl (rm_of hr (by decide)) (Nat.le_of_ble_eq_true rfl) rfl dX13_readInn_52 (kmI rfl rfl (fun q11 hy => ?_))
  refine aw_istoren (pc := 55) hX [(3, vI q11.1), (0, vR v0), (1, vI v1), (2, vI v2)] rfl (lt_n hN (by decide)) dX13_readInn_55 ?_
  refine aw_aloadn (pc := 56) hX 1 rfl dX13_readInn_56 ?_
  refine aw_ldcsw (pc := 57) hX (tx := "price") (k := 17) (by decide +kernel) dX13_readInn_57 ?_
  refine aw_iconst (pc := 60) hX 0 (by decide) dX13_readInn_60 ?_
  refine aw_bipush (pc := 61) hX 99 (by decide) dX13_readInn_61 ?_
  refine aw_callV (pc := 63) (st := []) (a := v0) hX [vX 17, vI 0, vI 99] (con_X13_readPart _ G _ v0 17 0 99 hy.bd) mc_X13_readPart ml_X13_228 im_X13_readPart se_X13_readPart (by decide) hy.bd.kd rfl (rm_of hr (by decide)) (Nat.le_of_ble_eq_true rfl) rfl dX13_readInn_63 (kmI rfl rfl (fun q14 hy => ?_))
  refine aw_istore (pc := 66) hX [(4, vI q14.1), (3, vI q11.1), (0, vR v0), (1, vI v1), (2, vI v2)] rfl (lt_n hN (by decide)) dX13_readInn_66 ?_
  refine aw_aloadn (pc := 68) hX 2 rfl dX13_readInn_68 ?_
  refine aw_gI (pc := 69) hX hy fl_X13_79 (fun _ _ => rfl) dX13_readInn_69 (fun x15 hy => ?_)
  refine aw_iconst (pc := 72) hX 5 (by decide) dX13_readInn_72 ?_
  refine aw_ic_ne (pc := 73) hX 77 (by decide) dX13_readInn_73 (fun hc9 => ?_) (fun hc9 => ?_)
  · have hy := hy.f hc9
    refine aw_aloadn (pc := 77) hX 2 rfl dX13_readInn_77 ?_
    refine aw_gR (pc := 78) hX hy fl_X13_158 (fun _ _ => rfl) dX13_readInn_78 (fun r16 hy => ?_)
    refine aw_gR (pc := 81) hX hy fl_X13_296 (fun _ _ => rfl) dX13_readInn_81 (fun r17 hy => ?_)
    refine aw_aloadn (pc := 84) hX 2 rfl dX13_readInn_84 ?_
    refine aw_gR (pc := 85) hX hy fl_X13_158 (fun _ _ => rfl) dX13_readInn_85 (fun r18 hy => ?_)
    refine aw_gI (pc := 88) hX hy fl_X13_287 (fun _ _ => rfl) dX13_readInn_88 (fun x19 hy => ?_)
    refine aw_iloadn (pc := 91) hX 3 rfl dX13_readInn_91 ?_
    refine aw_sI (pc := 92) hX hy dX13_readInn_92 (fun h20 hy => ?_)
    refine aw_aloadn (pc := 93) hX 2 rfl dX13_readInn_93 ?_
    refine aw_gR (pc := 94) hX hy fl_X13_158 (fun _ _ => rfl) dX13_readInn_94 (fun r21 hy => ?_)
    refine aw_gR (pc := 97) hX hy fl_X13_299 (fun _ _ => rfl) dX13_readInn_97 (fun r22 hy => ?_)
    refine aw_aloadn (pc := 100) hX 2 rfl dX13_readInn_100 ?_
    refine aw_gR (pc := 101) hX hy fl_X13_158 (fun _ _ => rfl) dX13_readInn_101 (fun r23 hy => ?_)
    refine aw_gI (pc := 104) hX hy fl_X13_287 (fun _ _ => rfl) dX13_readInn_104 (fun x24 hy => ?_)
    refine aw_iloadn (pc := 107) hX 1 rfl dX13_readInn_107 ?_
    refine aw_sI (pc := 108) hX hy dX13_readInn_108 (fun h25 hy => ?_)
    refine aw_aloadn (pc := 109) hX 2 rfl dX13_readInn_109 ?_
    refine aw_gR (pc := 110) hX hy fl_X13_158 (fun _ _ => rfl) dX13_readInn_110 (fun r26 hy => ?_)
    refine aw_gR (pc := 113) hX hy fl_X13_302 (fun _ _ => rfl) dX13_readInn_113 (fun r27 hy => ?_)
    refine aw_aloadn (pc := 116) hX 2 rfl dX13_readInn_116 ?_
    refine aw_gR (pc := 117) hX hy fl_X13_158 (fun _ _ => rfl) dX13_readInn_117 (fun r28 hy => ?_)
    refine aw_gI (pc := 120) hX hy fl_X13_287 (fun _ _ => rfl) dX13_readInn_120 (fun x29 hy => ?_)
    refine aw_iloadn (pc := 123) hX 4 rfl dX13_readInn_123 ?_
    refine aw_if_eq (pc := 124) hX 131 (by decide) dX13_readInn_124 (fun hc9 => ?_) (fun hc9 => ?_)
    · have hy := hy.t hc9
      refine aw_iconst (pc := 131) hX 0 (by decide) dX13_readInn_131 ?_
      refine AW.sub [2, 0] rfl ?_
      exact w_X13_readInn_132 hX hN hr h25 v0 q14.1 r27 x29 0 hy
    · have hy := hy.f hc9
      refine aw_iconst (pc := 127) hX 1 (by decide) dX13_readInn_127 ?_
      refine aw_goto (pc := 128) hX 132 (by decide) dX13_readInn_128 ?_
      refine AW.sub [2, 0] rfl ?_
      exact w_X13_readInn_132 hX hN hr h25 v0 q14.1 r27 x29 1 hy
  · have hy := hy.t hc9
    exact aw_vret (pc := 76) hX hr (by decide) (by decide) dX13_readInn_76 ⟨rfl, hy.s⟩
def f_X13_readInn (h : Mem) (v0 : Nat) : Option Mem :=
  (ck h v0 11).bind fun _ => (gR h v0 4 11).bind fun r1 => (gI h r1 5 10).bind fun x2 => (f_X13_lineBegins h v0 x2 6).bind fun h3 => (f_X13_readKnown h3 v0 1).bind fun q6 => (f_X13_isWord q6.2 v0 16).bind fun x7 => (if x7 = 0 then (f_X13_isWord q6.2 v0 15).bind fun x39 => (if x39 = 0 then (f_X13_flaw q6.2 v0 1).bind fun h40 => f_X13_readInn_46 h40 v0 q6.1 x7 else f_X13_readInn_46 q6.2 v0 q6.1 x7) else f_X13_readInn_46 q6.2 v0 q6.1 x7)
set_option maxRecDepth 100000 in
set_option maxHeartbeats 4000000 in
theorem w_X13_readInn {G : GE} {X : CX} {l : Launch} (hX : Ok G X cX13_readInn RX13) (hN : xn X = 5) {P : Mem → Prop} (hr : Rt G X l yX13_readInn none rm_X13_readInn (pmV P)) (h : Mem) (v0 : Nat) (hy : OK (f_X13_readInn h v0) P) : AW G X 0 [(0, vR v0)] [] h 0 0 := by
  unfold f_X13_readInn at hy
  have hkd := hy.kd
  have hy := hy.kb
  refine aw_aloadn (pc := 0) hX 0 rfl dX13_readInn_0 ?_
  refine aw_aloadn (pc := 1) hX 0 rfl dX13_readInn_1 ?_
  refine aw_gR (pc := 2) hX hy fl_X13_158 (fun _ _ => rfl) dX13_readInn_2 (fun r1 hy => ?_)
  refine aw_gI (pc := 5) hX hy fl_X13_287 (fun _ _ => rfl) dX13_readInn_5 (fun x2 hy => ?_)
  refine aw_bipush (pc := 8) hX 6 (by decide) dX13_readInn_8 ?_
  refine aw_callV (pc := 10) (st := []) (a := v0) hX [vI x2, vI 6] (con_X13_lineBegins _ G _ v0 x2 6 hy.bd) mc_X13_lineBegins ml_X13_242 im_X13_lineBegins se_X13_lineBegins (by decide) hy.bd.kd rfl (rm_of hr (by decide)) (Nat.le_of_ble_eq_true rfl) rfl dX13_readInn_10 (kmV rfl rfl (fun h3 hy => ?_))
  refine aw_aloadn (pc := 13) hX 0 rfl dX13_readInn_13 ?_
  refine aw_iconst (pc := 14) hX 1 (by decide) dX13_readInn_14 ?_
  refine aw_callV (pc := 15) (st := []) (a := v0) hX [vI 1] (con_X13_readKnown _ G _ v0 1 hy.bd) mc_X13_readKnown ml_X13_259 im_X13_readKnown se_X13_readKnown (by decide) hy.bd.kd rfl (rm_of hr (by decide)) (Nat.le_of_ble_eq_true rfl) rfl dX13_readInn_15 (kmI rfl rfl (fun q6 hy => ?_))
  refine aw_istoren (pc := 18) hX [(1, vI q6.1), (0, vR v0)] rfl (lt_n hN (by decide)) dX13_readInn_18 ?_
  refine aw_aloadn (pc := 19) hX 1 rfl dX13_readInn_19 ?_
  refine aw_ldcsw (pc := 20) hX (tx := "forges") (k := 16) (by decide +kernel) dX13_readInn_20 ?_
  refine aw_callV (pc := 23) (st := []) (a := v0) hX [vX 16] (con_X13_isWord _ G _ v0 16 hy.bd) mc_X13_isWord ml_X13_121 im_X13_isWord se_X13_isWord (by decide) hy.bd.kd rfl (rm_of hr (by decide)) (Nat.le_of_ble_eq_true rfl) rfl dX13_readInn_23 (kpI rfl rfl (fun x7 hy => ?_))
  refine aw_istoren (pc := 26) hX [(2, vI x7), (1, vI q6.1), (0, vR v0)] rfl (lt_n hN (by decide)) dX13_readInn_26 ?_
  refine aw_iloadn (pc := 27) hX 0 rfl dX13_readInn_27 ?_
  refine aw_if_ne (pc := 28) hX 46 (by decide) dX13_readInn_28 (fun hc9 => ?_) (fun hc9 => ?_)
  · have hy := hy.f hc9
    refine AW.sub [2, 1, 0] rfl ?_
    exact w_X13_readInn_46 hX hN hr q6.2 v0 q6.1 x7 hy
  · have hy := hy.t hc9
    refine aw_aloadn (pc := 31) hX 2 rfl dX13_readInn_31 ?_
    refine aw_ldcsw (pc := 32) hX (tx := "sells") (k := 15) (by decide +kernel) dX13_readInn_32 ?_
    refine aw_callV (pc := 35) (st := []) (a := v0) hX [vX 15] (con_X13_isWord _ G _ v0 15 hy.bd) mc_X13_isWord ml_X13_121 im_X13_isWord se_X13_isWord (by decide) hy.bd.kd rfl (rm_of hr (by decide)) (Nat.le_of_ble_eq_true rfl) rfl dX13_readInn_35 (kpI rfl rfl (fun x39 hy => ?_))
    refine aw_if_ne (pc := 38) hX 46 (by decide) dX13_readInn_38 (fun hc9 => ?_) (fun hc9 => ?_)
    · have hy := hy.f hc9
      refine AW.sub [2, 1, 0] rfl ?_
      exact w_X13_readInn_46 hX hN hr q6.2 v0 q6.1 x7 hy
    · have hy := hy.t hc9
      refine aw_aloadn (pc := 41) hX 2 rfl dX13_readInn_41 ?_
      refine aw_iconst (pc := 42) hX 1 (by decide) dX13_readInn_42 ?_
      refine aw_callV (pc := 43) (st := []) (a := v0) hX [vI 1] (con_X13_flaw _ G _ v0 1 hy.bd) mc_X13_flaw ml_X13_125 im_X13_flaw se_X13_flaw (by decide) hy.bd.kd rfl (rm_of hr (by decide)) (Nat.le_of_ble_eq_true rfl) rfl dX13_readInn_43 (kmV rfl rfl (fun h40 hy => ?_))
      refine AW.sub [2, 1, 0] rfl ?_
      exact w_X13_readInn_46 hX hN hr h40 v0 q6.1 x7 hy
theorem con_X13_readInn (l : Launch) (G : GE) (h : Mem) (v0 : Nat) {P : Mem → Prop} (hy : OK (f_X13_readInn h v0) P) : Con l G yX13_readInn cX13_readInn 5 none rm_X13_readInn [vR v0] h (pmV P) := Con.of (by decide) (Nat.le_of_ble_eq_true rfl) (fun X hX hr hN => w_X13_readInn hX hN hr h v0 hy)
/-! X13_readPerson -/
theorem dX13_readPerson_0 : decode cX13_readPerson 0 = .ok (.aload_n 0, 1) := by decide +kernel
theorem dX13_readPerson_1 : decode cX13_readPerson 1 = .ok (.aload_n 0, 1) := by decide +kernel
theorem dX13_readPerson_2 : decode cX13_readPerson 2 = .ok (.getfield 158, 3) := by decide +kernel
theorem dX13_readPerson_5 : decode cX13_readPerson 5 = .ok (.getfield 306, 3) := by decide +kernel
theorem dX13_readPerson_8 : decode cX13_readPerson 8 = .ok (.iconst 4, 1) := by decide +kernel
theorem dX13_readPerson_9 : decode cX13_readPerson 9 = .ok (.invokevirtual 242, 3) := by decide +kernel
theorem dX13_readPerson_12 : decode cX13_readPerson 12 = .ok (.aload_n 0, 1) := by decide +kernel
theorem dX13_readPerson_13 : decode cX13_readPerson 13 = .ok (.invokevirtual 246, 3) := by decide +kernel
theorem dX13_readPerson_16 : decode cX13_readPerson 16 = .ok (.lstore_n 1, 1) := by decide +kernel
theorem dX13_readPerson_17 : decode cX13_readPerson 17 = .ok (.aload_n 0, 1) := by decide +kernel
theorem dX13_readPerson_18 : decode cX13_readPerson 18 = .ok (.ldc_w 309, 3) := by decide +kernel
theorem dX13_readPerson_21 : decode cX13_readPerson 21 = .ok (.invokevirtual 133, 3) := by decide +kernel
theorem dX13_readPerson_24 : decode cX13_readPerson 24 = .ok (.aload_n 0, 1) := by decide +kernel
theorem dX13_readPerson_25 : decode cX13_readPerson 25 = .ok (.iconst 1, 1) := by decide +kernel
theorem dX13_readPerson_26 : decode cX13_readPerson 26 = .ok (.invokevirtual 259, 3) := by decide +kernel
theorem dX13_readPerson_29 : decode cX13_readPerson 29 = .ok (.istore_n 3, 1) := by decide +kernel
theorem dX13_readPerson_30 : decode cX13_readPerson 30 = .ok (.aload_n 0, 1) := by decide +kernel
theorem dX13_readPerson_31 : decode cX13_readPerson 31 = .ok (.ldc_w 311, 3) := by decide +kernel
theorem dX13_readPerson_34 : decode cX13_readPerson 34 = .ok (.iconst 0, 1) := by decide +kernel
theorem dX13_readPerson_35 : decode cX13_readPerson 35 = .ok (.sipush 999, 3) := by decide +kernel
theorem dX13_readPerson_38 : decode cX13_readPerson 38 = .ok (.invokevirtual 228, 3) := by decide +kernel
theorem dX13_readPerson_41 : decode cX13_readPerson 41 = .ok (.istore 4, 2) := by decide +kernel
theorem dX13_readPerson_43 : decode cX13_readPerson 43 = .ok (.aload_n 0, 1) := by decide +kernel
theorem dX13_readPerson_44 : decode cX13_readPerson 44 = .ok (.getfield 79, 3) := by decide +kernel
theorem dX13_readPerson_47 : decode cX13_readPerson 47 = .ok (.iconst 5, 1) := by decide +kernel
theorem dX13_readPerson_48 : decode cX13_readPerson 48 = .ok (.if_icmp .ne 4, 3) := by decide +kernel
theorem dX13_readPerson_51 : decode cX13_readPerson 51 = .ok (.return_, 1) := by decide +kernel
theorem dX13_readPerson_52 : decode cX13_readPerson 52 = .ok (.aload_n 0, 1) := by decide +kernel
theorem dX13_readPerson_53 : decode cX13_readPerson 53 = .ok (.lload_n 1, 1) := by decide +kernel
theorem dX13_readPerson_54 : decode cX13_readPerson 54 = .ok (.iconst 2, 1) := by decide +kernel
theorem dX13_readPerson_55 : decode cX13_readPerson 55 = .ok (.aload_n 0, 1) := by decide +kernel
theorem dX13_readPerson_56 : decode cX13_readPerson 56 = .ok (.getfield 158, 3) := by decide +kernel
theorem dX13_readPerson_59 : decode cX13_readPerson 59 = .ok (.getfield 306, 3) := by decide +kernel
theorem dX13_readPerson_62 : decode cX13_readPerson 62 = .ok (.invokevirtual 253, 3) := by decide +kernel
theorem dX13_readPerson_65 : decode cX13_readPerson 65 = .ok (.aload_n 0, 1) := by decide +kernel
theorem dX13_readPerson_66 : decode cX13_readPerson 66 = .ok (.getfield 158, 3) := by decide +kernel
theorem dX13_readPerson_69 : decode cX13_readPerson 69 = .ok (.getfield 313, 3) := by decide +kernel
theorem dX13_readPerson_72 : decode cX13_readPerson 72 = .ok (.aload_n 0, 1) := by decide +kernel
theorem dX13_readPerson_73 : decode cX13_readPerson 73 = .ok (.getfield 158, 3) := by decide +kernel
theorem dX13_readPerson_76 : decode cX13_readPerson 76 = .ok (.getfield 306, 3) := by decide +kernel
theorem dX13_readPerson_79 : decode cX13_readPerson 79 = .ok (.iload_n 3, 1) := by decide +kernel
theorem dX13_readPerson_80 : decode cX13_readPerson 80 = .ok (.iastore, 1) := by decide +kernel
theorem dX13_readPerson_81 : decode cX13_readPerson 81 = .ok (.aload_n 0, 1) := by decide +kernel
theorem dX13_readPerson_82 : decode cX13_readPerson 82 = .ok (.getfield 158, 3) := by decide +kernel
theorem dX13_readPerson_85 : decode cX13_readPerson 85 = .ok (.getfield 315, 3) := by decide +kernel
theorem dX13_readPerson_88 : decode cX13_readPerson 88 = .ok (.aload_n 0, 1) := by decide +kernel
theorem dX13_readPerson_89 : decode cX13_readPerson 89 = .ok (.getfield 158, 3) := by decide +kernel
theorem dX13_readPerson_92 : decode cX13_readPerson 92 = .ok (.getfield 306, 3) := by decide +kernel
theorem dX13_readPerson_95 : decode cX13_readPerson 95 = .ok (.iload 4, 2) := by decide +kernel
theorem dX13_readPerson_97 : decode cX13_readPerson 97 = .ok (.iastore, 1) := by decide +kernel
theorem dX13_readPerson_98 : decode cX13_readPerson 98 = .ok (.aload_n 0, 1) := by decide +kernel
theorem dX13_readPerson_99 : decode cX13_readPerson 99 = .ok (.getfield 158, 3) := by decide +kernel
theorem dX13_readPerson_102 : decode cX13_readPerson 102 = .ok (.dup, 1) := by decide +kernel
theorem dX13_readPerson_103 : decode cX13_readPerson 103 = .ok (.getfield 306, 3) := by decide +kernel
theorem dX13_readPerson_106 : decode cX13_readPerson 106 = .ok (.iconst 1, 1) := by decide +kernel
theorem dX13_readPerson_107 : decode cX13_readPerson 107 = .ok (.iadd, 1) := by decide +kernel
theorem dX13_readPerson_108 : decode cX13_readPerson 108 = .ok (.putfield 306, 3) := by decide +kernel
theorem dX13_readPerson_111 : decode cX13_readPerson 111 = .ok (.return_, 1) := by decide +kernel
abbrev rm_X13_readPerson : Room := { frames := 9, cells := 0, slots := 0, locals := 219 }
def f_X13_readPerson (h : Mem) (v0 : Nat) : Option Mem :=
  (ck h v0 11).bind fun _ => (gR h v0 4 11).bind fun r1 => (gI h r1 6 10).bind fun x2 => (f_X13_lineBegins h v0 x2 4).bind fun h3 => (f_X13_readFresh h3 v0).bind fun q6 => (f_X13_needs q6.2 v0 18).bind fun h7 => (f_X13_readKnown h7 v0 1).bind fun q10 => (f_X13_readPart q10.2 v0 19 0 999).bind fun q13 => (gI q13.2 v0 9 11).bind fun x14 => (if x14 = 5 then some q13.2 else (gR q13.2 v0 4 11).bind fun r15 => (gI q13.2 r15 6 10).bind fun x16 => (f_X13_names q13.2 v0 q6.1 2 x16).bind fun h17 => (gR h17 v0 4 11).bind fun r18 => (gR h17 r18 21 10).bind fun r19 => (gR h17 v0 4 11).bind fun r20 => (gI h17 r20 6 10).bind fun x21 => (sI h17 r19 x21 q10.1).bind fun h22 => (gR h22 v0 4 11).bind fun r23 => (gR h22 r23 22 10).bind fun r24 => (gR h22 v0 4 11).bind fun r25 => (gI h22 r25 6 10).bind fun x26 => (sI h22 r24 x26 q13.1).bind fun h27 => (gR h27 v0 4 11).bind fun r28 => (gI h27 r28 6 10).bind fun x29 => (pI h27 r28 6 10 (x29 + 1)).bind fun h30 => some h30)
set_option maxRecDepth 100000 in
set_option maxHeartbeats 4000000 in
theorem w_X13_readPerson {G : GE} {X : CX} {l : Launch} (hX : Ok G X cX13_readPerson RX13) (hN : xn X = 5) {P : Mem → Prop} (hr : Rt G X l yX13_readPerson none rm_X13_readPerson (pmV P)) (h : Mem) (v0 : Nat) (hy : OK (f_X13_readPerson h v0) P) : AW G X 0 [(0, vR v0)] [] h 0 0 := by
  unfold f_X13_readPerson at hy
  have hkd := hy.kd
  have hy := hy.kb
  refine aw_aloadn (pc := 0) hX 0 rfl dX13_readPerson_0 ?_
  refine aw_aloadn (pc := 1) hX 0 rfl dX13_readPerson_1 ?_
  refine aw_gR (pc := 2) hX hy fl_X13_158 (fun _ _ => rfl) dX13_readPerson_2 (fun r1 hy => ?_)
  refine aw_gI (pc := 5) hX hy fl_X13_306 (fun _ _ => rfl) dX13_readPerson_5 (fun x2 hy => ?_)
  refine aw_iconst (pc := 8) hX 4 (by decide) dX13_readPerson_8 ?_
  refine aw_callV (pc := 9) (st := []) (a := v0) hX [vI x2, vI 4] (con_X13_lineBegins _ G _ v0 x2 4 hy.bd) mc_X13_lineBegins ml_X13_242 im_X13_lineBegins se_X13_lineBegins (by decide) hy.bd.kd rfl (rm_of hr (by decide)) (Nat.le_of_ble_eq_true rfl) rfl dX13_readPerson_9 (kmV rfl rfl (fun h3 hy => ?_))
  refine aw_aloadn (pc := 12) hX 0 rfl dX13_readPerson_12 ?_
  refine aw_callV (pc := 13) (st := []) (a := v0) hX [] (con_X13_readFresh _ G _ v0 hy.bd) mc_X13_readFresh ml_X13_246 im_X13_readFresh se_X13_readFresh (by decide) hy.bd.kd rfl (rm_of hr (by decide)) (Nat.le_of_ble_eq_true rfl) rfl dX13_readPerson_13 (kmL rfl rfl (fun q6 hy => ?_))
  refine aw_lstoren (pc := 16) hX [(1, vL q6.1), (0, vR v0)] rfl (lt_n hN (by decide)) dX13_readPerson_16 ?_
  refine aw_aloadn (pc := 17) hX 1 rfl dX13_readPerson_17 ?_
  refine aw_ldcsw (pc := 18) hX (tx := "at") (k := 18) (by decide +kernel) dX13_readPerson_18 ?_
  refine aw_callV (pc := 21) (st := []) (a := v0) hX [vX 18] (con_X13_needs _ G _ v0 18 hy.bd) mc_X13_needs ml_X13_133 im_X13_needs se_X13_needs (by decide) hy.bd.kd rfl (rm_of hr (by decide)) (Nat.le_of_ble_eq_true rfl) rfl dX13_readPerson_21 (kmV rfl rfl (fun h7 hy => ?_))
  refine aw_aloadn (pc := 24) hX 1 rfl dX13_readPerson_24 ?_
  refine aw_iconst (pc := 25) hX 1 (by decide) dX13_readPerson_25 ?_
  refine aw_callV (pc := 26) (st := []) (a := v0) hX [vI 1] (con_X13_readKnown _ G _ v0 1 hy.bd) mc_X13_readKnown ml_X13_259 im_X13_readKnown se_X13_readKnown (by decide) hy.bd.kd rfl (rm_of hr (by decide)) (Nat.le_of_ble_eq_true rfl) rfl dX13_readPerson_26 (kmI rfl rfl (fun q10 hy => ?_))
  refine aw_istoren (pc := 29) hX [(3, vI q10.1), (1, vL q6.1), (0, vR v0)] rfl (lt_n hN (by decide)) dX13_readPerson_29 ?_
  refine aw_aloadn (pc := 30) hX 2 rfl dX13_readPerson_30 ?_
  refine aw_ldcsw (pc := 31) hX (tx := "coins") (k := 19) (by decide +kernel) dX13_readPerson_31 ?_
  refine aw_iconst (pc := 34) hX 0 (by decide) dX13_readPerson_34 ?_
  refine aw_sipush (pc := 35) hX 999 (by decide) dX13_readPerson_35 ?_
  refine aw_callV (pc := 38) (st := []) (a := v0) hX [vX 19, vI 0, vI 999] (con_X13_readPart _ G _ v0 19 0 999 hy.bd) mc_X13_readPart ml_X13_228 im_X13_readPart se_X13_readPart (by decide) hy.bd.kd rfl (rm_of hr (by decide)) (Nat.le_of_ble_eq_true rfl) rfl dX13_readPerson_38 (kmI rfl rfl (fun q13 hy => ?_))
  refine aw_istore (pc := 41) hX [(4, vI q13.1), (3, vI q10.1), (1, vL q6.1), (0, vR v0)] rfl (lt_n hN (by decide)) dX13_readPerson_41 ?_
  refine aw_aloadn (pc := 43) hX 3 rfl dX13_readPerson_43 ?_
  refine aw_gI (pc := 44) hX hy fl_X13_79 (fun _ _ => rfl) dX13_readPerson_44 (fun x14 hy => ?_)
  refine aw_iconst (pc := 47) hX 5 (by decide) dX13_readPerson_47 ?_
  refine aw_ic_ne (pc := 48) hX 52 (by decide) dX13_readPerson_48 (fun hc9 => ?_) (fun hc9 => ?_)
  · have hy := hy.f hc9
    refine aw_aloadn (pc := 52) hX 3 rfl dX13_readPerson_52 ?_
    refine aw_lloadn (pc := 53) hX 2 rfl dX13_readPerson_53 ?_
    refine aw_iconst (pc := 54) hX 2 (by decide) dX13_readPerson_54 ?_
    refine aw_aloadn (pc := 55) hX 3 rfl dX13_readPerson_55 ?_
    refine aw_gR (pc := 56) hX hy fl_X13_158 (fun _ _ => rfl) dX13_readPerson_56 (fun r15 hy => ?_)
    refine aw_gI (pc := 59) hX hy fl_X13_306 (fun _ _ => rfl) dX13_readPerson_59 (fun x16 hy => ?_)
    refine aw_callV (pc := 62) (st := []) (a := v0) hX [vL q6.1, vI 2, vI x16] (con_X13_names _ G _ v0 q6.1 2 x16 hy.bd) mc_X13_names ml_X13_253 im_X13_names se_X13_names (by decide) hy.bd.kd rfl (rm_of hr (by decide)) (Nat.le_of_ble_eq_true rfl) rfl dX13_readPerson_62 (kmV rfl rfl (fun h17 hy => ?_))
    refine aw_aloadn (pc := 65) hX 3 rfl dX13_readPerson_65 ?_
    refine aw_gR (pc := 66) hX hy fl_X13_158 (fun _ _ => rfl) dX13_readPerson_66 (fun r18 hy => ?_)
    refine aw_gR (pc := 69) hX hy fl_X13_313 (fun _ _ => rfl) dX13_readPerson_69 (fun r19 hy => ?_)
    refine aw_aloadn (pc := 72) hX 3 rfl dX13_readPerson_72 ?_
    refine aw_gR (pc := 73) hX hy fl_X13_158 (fun _ _ => rfl) dX13_readPerson_73 (fun r20 hy => ?_)
    refine aw_gI (pc := 76) hX hy fl_X13_306 (fun _ _ => rfl) dX13_readPerson_76 (fun x21 hy => ?_)
    refine aw_iloadn (pc := 79) hX 1 rfl dX13_readPerson_79 ?_
    refine aw_sI (pc := 80) hX hy dX13_readPerson_80 (fun h22 hy => ?_)
    refine aw_aloadn (pc := 81) hX 3 rfl dX13_readPerson_81 ?_
    refine aw_gR (pc := 82) hX hy fl_X13_158 (fun _ _ => rfl) dX13_readPerson_82 (fun r23 hy => ?_)
    refine aw_gR (pc := 85) hX hy fl_X13_315 (fun _ _ => rfl) dX13_readPerson_85 (fun r24 hy => ?_)
    refine aw_aloadn (pc := 88) hX 3 rfl dX13_readPerson_88 ?_
    refine aw_gR (pc := 89) hX hy fl_X13_158 (fun _ _ => rfl) dX13_readPerson_89 (fun r25 hy => ?_)
    refine aw_gI (pc := 92) hX hy fl_X13_306 (fun _ _ => rfl) dX13_readPerson_92 (fun x26 hy => ?_)
    refine aw_iload (pc := 95) hX 0 rfl dX13_readPerson_95 ?_
    refine aw_sI (pc := 97) hX hy dX13_readPerson_97 (fun h27 hy => ?_)
    refine aw_aloadn (pc := 98) hX 3 rfl dX13_readPerson_98 ?_
    refine aw_gR (pc := 99) hX hy fl_X13_158 (fun _ _ => rfl) dX13_readPerson_99 (fun r28 hy => ?_)
    refine aw_dup (pc := 102) hX rfl dX13_readPerson_102 ?_
    refine aw_gI (pc := 103) hX hy fl_X13_306 (fun _ _ => rfl) dX13_readPerson_103 (fun x29 hy => ?_)
    refine aw_iconst (pc := 106) hX 1 (by decide) dX13_readPerson_106 ?_
    refine aw_iadd (pc := 107) hX dX13_readPerson_107 ?_
    refine aw_pI (pc := 108) hX hy fl_X13_306 rfl (Or.inl rfl) dX13_readPerson_108 (fun h30 hy => ?_)
    exact aw_vret (pc := 111) hX hr (by decide) (by decide) dX13_readPerson_111 ⟨rfl, hy.s⟩
  · have hy := hy.t hc9
    exact aw_vret (pc := 51) hX hr (by decide) (by decide) dX13_readPerson_51 ⟨rfl, hy.s⟩
theorem con_X13_readPerson (l : Launch) (G : GE) (h : Mem) (v0 : Nat) {P : Mem → Prop} (hy : OK (f_X13_readPerson h v0) P) : Con l G yX13_readPerson cX13_readPerson 5 none rm_X13_readPerson [vR v0] h (pmV P) := Con.of (by decide) (Nat.le_of_ble_eq_true rfl) (fun X hX hr hN => w_X13_readPerson hX hN hr h v0 hy)
/-! X13_readKnows -/
theorem dX13_readKnows_0 : decode cX13_readKnows 0 = .ok (.aload_n 0, 1) := by decide +kernel
theorem dX13_readKnows_1 : decode cX13_readKnows 1 = .ok (.aload_n 0, 1) := by decide +kernel
theorem dX13_readKnows_2 : decode cX13_readKnows 2 = .ok (.getfield 158, 3) := by decide +kernel
theorem dX13_readKnows_5 : decode cX13_readKnows 5 = .ok (.getfield 317, 3) := by decide +kernel
theorem dX13_readKnows_8 : decode cX13_readKnows 8 = .ok (.bipush 8, 2) := by decide +kernel
theorem dX13_readKnows_10 : decode cX13_readKnows 10 = .ok (.invokevirtual 242, 3) := by decide +kernel
theorem dX13_readKnows_13 : decode cX13_readKnows 13 = .ok (.aload_n 0, 1) := by decide +kernel
theorem dX13_readKnows_14 : decode cX13_readKnows 14 = .ok (.iconst 2, 1) := by decide +kernel
theorem dX13_readKnows_15 : decode cX13_readKnows 15 = .ok (.invokevirtual 259, 3) := by decide +kernel
theorem dX13_readKnows_18 : decode cX13_readKnows 18 = .ok (.istore_n 1, 1) := by decide +kernel
theorem dX13_readKnows_19 : decode cX13_readKnows 19 = .ok (.aload_n 0, 1) := by decide +kernel
theorem dX13_readKnows_20 : decode cX13_readKnows 20 = .ok (.iconst 0, 1) := by decide +kernel
theorem dX13_readKnows_21 : decode cX13_readKnows 21 = .ok (.invokevirtual 188, 3) := by decide +kernel
theorem dX13_readKnows_24 : decode cX13_readKnows 24 = .ok (.istore_n 2, 1) := by decide +kernel
theorem dX13_readKnows_25 : decode cX13_readKnows 25 = .ok (.aload_n 0, 1) := by decide +kernel
theorem dX13_readKnows_26 : decode cX13_readKnows 26 = .ok (.getfield 79, 3) := by decide +kernel
theorem dX13_readKnows_29 : decode cX13_readKnows 29 = .ok (.iconst 5, 1) := by decide +kernel
theorem dX13_readKnows_30 : decode cX13_readKnows 30 = .ok (.if_icmp .eq 24, 3) := by decide +kernel
theorem dX13_readKnows_33 : decode cX13_readKnows 33 = .ok (.aload_n 0, 1) := by decide +kernel
theorem dX13_readKnows_34 : decode cX13_readKnows 34 = .ok (.getfield 158, 3) := by decide +kernel
theorem dX13_readKnows_37 : decode cX13_readKnows 37 = .ok (.getfield 320, 3) := by decide +kernel
theorem dX13_readKnows_40 : decode cX13_readKnows 40 = .ok (.iload_n 1, 1) := by decide +kernel
theorem dX13_readKnows_41 : decode cX13_readKnows 41 = .ok (.iaload, 1) := by decide +kernel
theorem dX13_readKnows_42 : decode cX13_readKnows 42 = .ok (.iload_n 2, 1) := by decide +kernel
theorem dX13_readKnows_43 : decode cX13_readKnows 43 = .ok (.invokestatic 322, 3) := by decide +kernel
theorem dX13_readKnows_46 : decode cX13_readKnows 46 = .ok (.ifCond .eq 8, 3) := by decide +kernel
theorem dX13_readKnows_49 : decode cX13_readKnows 49 = .ok (.aload_n 0, 1) := by decide +kernel
theorem dX13_readKnows_50 : decode cX13_readKnows 50 = .ok (.iconst 3, 1) := by decide +kernel
theorem dX13_readKnows_51 : decode cX13_readKnows 51 = .ok (.invokevirtual 125, 3) := by decide +kernel
theorem dX13_readKnows_54 : decode cX13_readKnows 54 = .ok (.aload_n 0, 1) := by decide +kernel
theorem dX13_readKnows_55 : decode cX13_readKnows 55 = .ok (.invokevirtual 118, 3) := by decide +kernel
theorem dX13_readKnows_58 : decode cX13_readKnows 58 = .ok (.aload_n 0, 1) := by decide +kernel
theorem dX13_readKnows_59 : decode cX13_readKnows 59 = .ok (.getfield 79, 3) := by decide +kernel
theorem dX13_readKnows_62 : decode cX13_readKnows 62 = .ok (.iconst 5, 1) := by decide +kernel
theorem dX13_readKnows_63 : decode cX13_readKnows 63 = .ok (.if_icmp .ne 4, 3) := by decide +kernel
theorem dX13_readKnows_66 : decode cX13_readKnows 66 = .ok (.return_, 1) := by decide +kernel
theorem dX13_readKnows_67 : decode cX13_readKnows 67 = .ok (.aload_n 0, 1) := by decide +kernel
theorem dX13_readKnows_68 : decode cX13_readKnows 68 = .ok (.getfield 158, 3) := by decide +kernel
theorem dX13_readKnows_71 : decode cX13_readKnows 71 = .ok (.getfield 320, 3) := by decide +kernel
theorem dX13_readKnows_74 : decode cX13_readKnows 74 = .ok (.iload_n 1, 1) := by decide +kernel
theorem dX13_readKnows_75 : decode cX13_readKnows 75 = .ok (.dup2, 1) := by decide +kernel
theorem dX13_readKnows_76 : decode cX13_readKnows 76 = .ok (.iaload, 1) := by decide +kernel
theorem dX13_readKnows_77 : decode cX13_readKnows 77 = .ok (.iconst 1, 1) := by decide +kernel
theorem dX13_readKnows_78 : decode cX13_readKnows 78 = .ok (.iload_n 2, 1) := by decide +kernel
theorem dX13_readKnows_79 : decode cX13_readKnows 79 = .ok (.ishl, 1) := by decide +kernel
theorem dX13_readKnows_80 : decode cX13_readKnows 80 = .ok (.ior, 1) := by decide +kernel
theorem dX13_readKnows_81 : decode cX13_readKnows 81 = .ok (.iastore, 1) := by decide +kernel
theorem dX13_readKnows_82 : decode cX13_readKnows 82 = .ok (.aload_n 0, 1) := by decide +kernel
theorem dX13_readKnows_83 : decode cX13_readKnows 83 = .ok (.getfield 158, 3) := by decide +kernel
theorem dX13_readKnows_86 : decode cX13_readKnows 86 = .ok (.dup, 1) := by decide +kernel
theorem dX13_readKnows_87 : decode cX13_readKnows 87 = .ok (.getfield 317, 3) := by decide +kernel
theorem dX13_readKnows_90 : decode cX13_readKnows 90 = .ok (.iconst 1, 1) := by decide +kernel
theorem dX13_readKnows_91 : decode cX13_readKnows 91 = .ok (.iadd, 1) := by decide +kernel
theorem dX13_readKnows_92 : decode cX13_readKnows 92 = .ok (.putfield 317, 3) := by decide +kernel
theorem dX13_readKnows_95 : decode cX13_readKnows 95 = .ok (.return_, 1) := by decide +kernel
abbrev rm_X13_readKnows : Room := { frames := 9, cells := 0, slots := 0, locals := 219 }
def f_X13_readKnows_54 (h : Mem) (v0 : Nat) (v1 : Int32) (v2 : Int32) : Option Mem :=
  (f_X13_goesOn h v0).bind fun h11 => (gI h11 v0 9 11).bind fun x12 => (if x12 = 5 then some h11 else (gR h11 v0 4 11).bind fun r13 => (gR h11 r13 23 10).bind fun r14 => (aI h11 r14 v1).bind fun x15 => (sI h11 r14 v1 (x15 ||| ((1 : Int32) <<< (v2 &&& 31)))).bind fun h16 => (gR h16 v0 4 11).bind fun r17 => (gI h16 r17 7 10).bind fun x18 => (pI h16 r17 7 10 (x18 + 1)).bind fun h19 => some h19)
set_option maxRecDepth 100000 in
set_option maxHeartbeats 4000000 in
theorem w_X13_readKnows_54 {G : GE} {X : CX} {l : Launch} (hX : Ok G X cX13_readKnows RX13) (hN : xn X = 3) {P : Mem → Prop} (hr : Rt G X l yX13_readKnows none rm_X13_readKnows (pmV P)) (h : Mem) (v0 : Nat) (v1 : Int32) (v2 : Int32) (hy : OK (f_X13_readKnows_54 h v0 v1 v2) P) : AW G X 54 [(0, vR v0), (1, vI v1), (2, vI v2)] [] h 0 0 := by
  unfold f_X13_readKnows_54 at hy
  refine aw_aloadn (pc := 54) hX 0 rfl dX13_readKnows_54 ?_
  refine aw_callV (pc := 55) (st := []) (a := v0) hX [] (con_X13_goesOn _ G _ v0 hy.bd) mc_X13_goesOn ml_X13_118 im_X13_goesOn se_X13_goesOn (by decide) hy.bd.kd rfl (rm_of hr (by decide)) (Nat.le_of_ble_eq_true rfl) rfl dX13_readKnows_55 (kmV rfl rfl (fun h11 hy => ?_))
  refine aw_aloadn (pc := 58) hX 0 rfl dX13_readKnows_58 ?_
  refine aw_gI (pc := 59) hX hy fl_X13_79 (fun _ _ => rfl) dX13_readKnows_59 (fun x12 hy => ?_)
  refine aw_iconst (pc := 62) hX 5 (by decide) dX13_readKnows_62 ?_
  refine aw_ic_ne (pc := 63) hX 67 (by decide) dX13_readKnows_63 (fun hc9 => ?_) (fun hc9 => ?_)
  · have hy := hy.f hc9
    refine aw_aloadn (pc := 67) hX 0 rfl dX13_readKnows_67 ?_
    refine aw_gR (pc := 68) hX hy fl_X13_158 (fun _ _ => rfl) dX13_readKnows_68 (fun r13 hy => ?_)
    refine aw_gR (pc := 71) hX hy fl_X13_320 (fun _ _ => rfl) dX13_readKnows_71 (fun r14 hy => ?_)
    refine aw_iloadn (pc := 74) hX 1 rfl dX13_readKnows_74 ?_
    refine aw_dup2 (pc := 75) hX rfl rfl dX13_readKnows_75 ?_
    refine aw_aI (pc := 76) hX hy dX13_readKnows_76 (fun x15 hy => ?_)
    refine aw_iconst (pc := 77) hX 1 (by decide) dX13_readKnows_77 ?_
    refine aw_iloadn (pc := 78) hX 2 rfl dX13_readKnows_78 ?_
    refine aw_ishl (pc := 79) hX dX13_readKnows_79 ?_
    refine aw_ior (pc := 80) hX dX13_readKnows_80 ?_
    refine aw_sI (pc := 81) hX hy dX13_readKnows_81 (fun h16 hy => ?_)
    refine aw_aloadn (pc := 82) hX 0 rfl dX13_readKnows_82 ?_
    refine aw_gR (pc := 83) hX hy fl_X13_158 (fun _ _ => rfl) dX13_readKnows_83 (fun r17 hy => ?_)
    refine aw_dup (pc := 86) hX rfl dX13_readKnows_86 ?_
    refine aw_gI (pc := 87) hX hy fl_X13_317 (fun _ _ => rfl) dX13_readKnows_87 (fun x18 hy => ?_)
    refine aw_iconst (pc := 90) hX 1 (by decide) dX13_readKnows_90 ?_
    refine aw_iadd (pc := 91) hX dX13_readKnows_91 ?_
    refine aw_pI (pc := 92) hX hy fl_X13_317 rfl (Or.inl rfl) dX13_readKnows_92 (fun h19 hy => ?_)
    exact aw_vret (pc := 95) hX hr (by decide) (by decide) dX13_readKnows_95 ⟨rfl, hy.s⟩
  · have hy := hy.t hc9
    exact aw_vret (pc := 66) hX hr (by decide) (by decide) dX13_readKnows_66 ⟨rfl, hy.s⟩
def f_X13_readKnows (h : Mem) (v0 : Nat) : Option Mem :=
  (ck h v0 11).bind fun _ => (gR h v0 4 11).bind fun r1 => (gI h r1 7 10).bind fun x2 => (f_X13_lineBegins h v0 x2 8).bind fun h3 => (f_X13_readKnown h3 v0 2).bind fun q6 => (f_X13_knownOne q6.2 v0 0).bind fun q9 => (gI q9.2 v0 9 11).bind fun x10 => (if x10 = 5 then f_X13_readKnows_54 q9.2 v0 q6.1 q9.1 else (gR q9.2 v0 4 11).bind fun r20 => (gR q9.2 r20 23 10).bind fun r21 => (aI q9.2 r21 q6.1).bind fun x22 => (f_X13_bit q9.2 x22 q9.1).bind fun x23 => (if x23 = 0 then f_X13_readKnows_54 q9.2 v0 q6.1 q9.1 else (f_X13_flaw q9.2 v0 3).bind fun h24 => f_X13_readKnows_54 h24 v0 q6.1 q9.1))
set_option maxRecDepth 100000 in
set_option maxHeartbeats 4000000 in
theorem w_X13_readKnows {G : GE} {X : CX} {l : Launch} (hX : Ok G X cX13_readKnows RX13) (hN : xn X = 3) {P : Mem → Prop} (hr : Rt G X l yX13_readKnows none rm_X13_readKnows (pmV P)) (h : Mem) (v0 : Nat) (hy : OK (f_X13_readKnows h v0) P) : AW G X 0 [(0, vR v0)] [] h 0 0 := by
  unfold f_X13_readKnows at hy
  have hkd := hy.kd
  have hy := hy.kb
  refine aw_aloadn (pc := 0) hX 0 rfl dX13_readKnows_0 ?_
  refine aw_aloadn (pc := 1) hX 0 rfl dX13_readKnows_1 ?_
  refine aw_gR (pc := 2) hX hy fl_X13_158 (fun _ _ => rfl) dX13_readKnows_2 (fun r1 hy => ?_)
  refine aw_gI (pc := 5) hX hy fl_X13_317 (fun _ _ => rfl) dX13_readKnows_5 (fun x2 hy => ?_)
  refine aw_bipush (pc := 8) hX 8 (by decide) dX13_readKnows_8 ?_
  refine aw_callV (pc := 10) (st := []) (a := v0) hX [vI x2, vI 8] (con_X13_lineBegins _ G _ v0 x2 8 hy.bd) mc_X13_lineBegins ml_X13_242 im_X13_lineBegins se_X13_lineBegins (by decide) hy.bd.kd rfl (rm_of hr (by decide)) (Nat.le_of_ble_eq_true rfl) rfl dX13_readKnows_10 (kmV rfl rfl (fun h3 hy => ?_))
  refine aw_aloadn (pc := 13) hX 0 rfl dX13_readKnows_13 ?_
  refine aw_iconst (pc := 14) hX 2 (by decide) dX13_readKnows_14 ?_
  refine aw_callV (pc := 15) (st := []) (a := v0) hX [vI 2] (con_X13_readKnown _ G _ v0 2 hy.bd) mc_X13_readKnown ml_X13_259 im_X13_readKnown se_X13_readKnown (by decide) hy.bd.kd rfl (rm_of hr (by decide)) (Nat.le_of_ble_eq_true rfl) rfl dX13_readKnows_15 (kmI rfl rfl (fun q6 hy => ?_))
  refine aw_istoren (pc := 18) hX [(1, vI q6.1), (0, vR v0)] rfl (lt_n hN (by decide)) dX13_readKnows_18 ?_
  refine aw_aloadn (pc := 19) hX 1 rfl dX13_readKnows_19 ?_
  refine aw_iconst (pc := 20) hX 0 (by decide) dX13_readKnows_20 ?_
  refine aw_callV (pc := 21) (st := []) (a := v0) hX [vI 0] (con_X13_knownOne _ G _ v0 0 hy.bd) mc_X13_knownOne ml_X13_188 im_X13_knownOne se_X13_knownOne (by decide) hy.bd.kd rfl (rm_of hr (by decide)) (Nat.le_of_ble_eq_true rfl) rfl dX13_readKnows_21 (kmI rfl rfl (fun q9 hy => ?_))
  refine aw_istoren (pc := 24) hX [(2, vI q9.1), (1, vI q6.1), (0, vR v0)] rfl (lt_n hN (by decide)) dX13_readKnows_24 ?_
  refine aw_aloadn (pc := 25) hX 2 rfl dX13_readKnows_25 ?_
  refine aw_gI (pc := 26) hX hy fl_X13_79 (fun _ _ => rfl) dX13_readKnows_26 (fun x10 hy => ?_)
  refine aw_iconst (pc := 29) hX 5 (by decide) dX13_readKnows_29 ?_
  refine aw_ic_eq (pc := 30) hX 54 (by decide) dX13_readKnows_30 (fun hc9 => ?_) (fun hc9 => ?_)
  · have hy := hy.t hc9
    refine AW.sub [2, 1, 0] rfl ?_
    exact w_X13_readKnows_54 hX hN hr q9.2 v0 q6.1 q9.1 hy
  · have hy := hy.f hc9
    refine aw_aloadn (pc := 33) hX 2 rfl dX13_readKnows_33 ?_
    refine aw_gR (pc := 34) hX hy fl_X13_158 (fun _ _ => rfl) dX13_readKnows_34 (fun r20 hy => ?_)
    refine aw_gR (pc := 37) hX hy fl_X13_320 (fun _ _ => rfl) dX13_readKnows_37 (fun r21 hy => ?_)
    refine aw_iloadn (pc := 40) hX 1 rfl dX13_readKnows_40 ?_
    refine aw_aI (pc := 41) hX hy dX13_readKnows_41 (fun x22 hy => ?_)
    refine aw_iloadn (pc := 42) hX 0 rfl dX13_readKnows_42 ?_
    refine aw_callS (pc := 43) (st := []) hX [vI x22, vI q9.1] (con_X13_bit _ G _ x22 q9.1 hy.bd) mc_X13_bit ml_X13_322 st_X13_bit rfl (rm_of hr (by decide)) (Nat.le_of_ble_eq_true rfl) rfl dX13_readKnows_43 (kpI rfl rfl (fun x23 hy => ?_))
    refine aw_if_eq (pc := 46) hX 54 (by decide) dX13_readKnows_46 (fun hc9 => ?_) (fun hc9 => ?_)
    · have hy := hy.t hc9
      refine AW.sub [2, 1, 0] rfl ?_
      exact w_X13_readKnows_54 hX hN hr q9.2 v0 q6.1 q9.1 hy
    · have hy := hy.f hc9
      refine aw_aloadn (pc := 49) hX 2 rfl dX13_readKnows_49 ?_
      refine aw_iconst (pc := 50) hX 3 (by decide) dX13_readKnows_50 ?_
      refine aw_callV (pc := 51) (st := []) (a := v0) hX [vI 3] (con_X13_flaw _ G _ v0 3 hy.bd) mc_X13_flaw ml_X13_125 im_X13_flaw se_X13_flaw (by decide) hy.bd.kd rfl (rm_of hr (by decide)) (Nat.le_of_ble_eq_true rfl) rfl dX13_readKnows_51 (kmV rfl rfl (fun h24 hy => ?_))
      refine AW.sub [2, 1, 0] rfl ?_
      exact w_X13_readKnows_54 hX hN hr h24 v0 q6.1 q9.1 hy
theorem con_X13_readKnows (l : Launch) (G : GE) (h : Mem) (v0 : Nat) {P : Mem → Prop} (hy : OK (f_X13_readKnows h v0) P) : Con l G yX13_readKnows cX13_readKnows 3 none rm_X13_readKnows [vR v0] h (pmV P) := Con.of (by decide) (Nat.le_of_ble_eq_true rfl) (fun X hX hr hN => w_X13_readKnows hX hN hr h v0 hy)
/-! X13_readHeard -/
theorem dX13_readHeard_0 : decode cX13_readHeard 0 = .ok (.aload_n 0, 1) := by decide +kernel
theorem dX13_readHeard_1 : decode cX13_readHeard 1 = .ok (.aload_n 0, 1) := by decide +kernel
theorem dX13_readHeard_2 : decode cX13_readHeard 2 = .ok (.getfield 158, 3) := by decide +kernel
theorem dX13_readHeard_5 : decode cX13_readHeard 5 = .ok (.getfield 326, 3) := by decide +kernel
theorem dX13_readHeard_8 : decode cX13_readHeard 8 = .ok (.iconst 5, 1) := by decide +kernel
theorem dX13_readHeard_9 : decode cX13_readHeard 9 = .ok (.invokevirtual 242, 3) := by decide +kernel
theorem dX13_readHeard_12 : decode cX13_readHeard 12 = .ok (.aload_n 0, 1) := by decide +kernel
theorem dX13_readHeard_13 : decode cX13_readHeard 13 = .ok (.iconst 0, 1) := by decide +kernel
theorem dX13_readHeard_14 : decode cX13_readHeard 14 = .ok (.invokevirtual 259, 3) := by decide +kernel
theorem dX13_readHeard_17 : decode cX13_readHeard 17 = .ok (.istore_n 1, 1) := by decide +kernel
theorem dX13_readHeard_18 : decode cX13_readHeard 18 = .ok (.aload_n 0, 1) := by decide +kernel
theorem dX13_readHeard_19 : decode cX13_readHeard 19 = .ok (.getfield 79, 3) := by decide +kernel
theorem dX13_readHeard_22 : decode cX13_readHeard 22 = .ok (.iconst 5, 1) := by decide +kernel
theorem dX13_readHeard_23 : decode cX13_readHeard 23 = .ok (.if_icmp .ne 4, 3) := by decide +kernel
theorem dX13_readHeard_26 : decode cX13_readHeard 26 = .ok (.return_, 1) := by decide +kernel
theorem dX13_readHeard_27 : decode cX13_readHeard 27 = .ok (.aload_n 0, 1) := by decide +kernel
theorem dX13_readHeard_28 : decode cX13_readHeard 28 = .ok (.getfield 158, 3) := by decide +kernel
theorem dX13_readHeard_31 : decode cX13_readHeard 31 = .ok (.getfield 328, 3) := by decide +kernel
theorem dX13_readHeard_34 : decode cX13_readHeard 34 = .ok (.aload_n 0, 1) := by decide +kernel
theorem dX13_readHeard_35 : decode cX13_readHeard 35 = .ok (.getfield 158, 3) := by decide +kernel
theorem dX13_readHeard_38 : decode cX13_readHeard 38 = .ok (.getfield 326, 3) := by decide +kernel
theorem dX13_readHeard_41 : decode cX13_readHeard 41 = .ok (.iload_n 1, 1) := by decide +kernel
theorem dX13_readHeard_42 : decode cX13_readHeard 42 = .ok (.iastore, 1) := by decide +kernel
theorem dX13_readHeard_43 : decode cX13_readHeard 43 = .ok (.aload_n 0, 1) := by decide +kernel
theorem dX13_readHeard_44 : decode cX13_readHeard 44 = .ok (.getfield 158, 3) := by decide +kernel
theorem dX13_readHeard_47 : decode cX13_readHeard 47 = .ok (.dup, 1) := by decide +kernel
theorem dX13_readHeard_48 : decode cX13_readHeard 48 = .ok (.getfield 326, 3) := by decide +kernel
theorem dX13_readHeard_51 : decode cX13_readHeard 51 = .ok (.iconst 1, 1) := by decide +kernel
theorem dX13_readHeard_52 : decode cX13_readHeard 52 = .ok (.iadd, 1) := by decide +kernel
theorem dX13_readHeard_53 : decode cX13_readHeard 53 = .ok (.putfield 326, 3) := by decide +kernel
theorem dX13_readHeard_56 : decode cX13_readHeard 56 = .ok (.return_, 1) := by decide +kernel
abbrev rm_X13_readHeard : Room := { frames := 9, cells := 0, slots := 0, locals := 219 }
def f_X13_readHeard (h : Mem) (v0 : Nat) : Option Mem :=
  (ck h v0 11).bind fun _ => (gR h v0 4 11).bind fun r1 => (gI h r1 8 10).bind fun x2 => (f_X13_lineBegins h v0 x2 5).bind fun h3 => (f_X13_readKnown h3 v0 0).bind fun q6 => (gI q6.2 v0 9 11).bind fun x7 => (if x7 = 5 then some q6.2 else (gR q6.2 v0 4 11).bind fun r8 => (gR q6.2 r8 24 10).bind fun r9 => (gR q6.2 v0 4 11).bind fun r10 => (gI q6.2 r10 8 10).bind fun x11 => (sI q6.2 r9 x11 q6.1).bind fun h12 => (gR h12 v0 4 11).bind fun r13 => (gI h12 r13 8 10).bind fun x14 => (pI h12 r13 8 10 (x14 + 1)).bind fun h15 => some h15)
set_option maxRecDepth 100000 in
set_option maxHeartbeats 4000000 in
theorem w_X13_readHeard {G : GE} {X : CX} {l : Launch} (hX : Ok G X cX13_readHeard RX13) (hN : xn X = 2) {P : Mem → Prop} (hr : Rt G X l yX13_readHeard none rm_X13_readHeard (pmV P)) (h : Mem) (v0 : Nat) (hy : OK (f_X13_readHeard h v0) P) : AW G X 0 [(0, vR v0)] [] h 0 0 := by
  unfold f_X13_readHeard at hy
  have hkd := hy.kd
  have hy := hy.kb
  refine aw_aloadn (pc := 0) hX 0 rfl dX13_readHeard_0 ?_
  refine aw_aloadn (pc := 1) hX 0 rfl dX13_readHeard_1 ?_
  refine aw_gR (pc := 2) hX hy fl_X13_158 (fun _ _ => rfl) dX13_readHeard_2 (fun r1 hy => ?_)
  refine aw_gI (pc := 5) hX hy fl_X13_326 (fun _ _ => rfl) dX13_readHeard_5 (fun x2 hy => ?_)
  refine aw_iconst (pc := 8) hX 5 (by decide) dX13_readHeard_8 ?_
  refine aw_callV (pc := 9) (st := []) (a := v0) hX [vI x2, vI 5] (con_X13_lineBegins _ G _ v0 x2 5 hy.bd) mc_X13_lineBegins ml_X13_242 im_X13_lineBegins se_X13_lineBegins (by decide) hy.bd.kd rfl (rm_of hr (by decide)) (Nat.le_of_ble_eq_true rfl) rfl dX13_readHeard_9 (kmV rfl rfl (fun h3 hy => ?_))
  refine aw_aloadn (pc := 12) hX 0 rfl dX13_readHeard_12 ?_
  refine aw_iconst (pc := 13) hX 0 (by decide) dX13_readHeard_13 ?_
  refine aw_callV (pc := 14) (st := []) (a := v0) hX [vI 0] (con_X13_readKnown _ G _ v0 0 hy.bd) mc_X13_readKnown ml_X13_259 im_X13_readKnown se_X13_readKnown (by decide) hy.bd.kd rfl (rm_of hr (by decide)) (Nat.le_of_ble_eq_true rfl) rfl dX13_readHeard_14 (kmI rfl rfl (fun q6 hy => ?_))
  refine aw_istoren (pc := 17) hX [(1, vI q6.1), (0, vR v0)] rfl (lt_n hN (by decide)) dX13_readHeard_17 ?_
  refine aw_aloadn (pc := 18) hX 1 rfl dX13_readHeard_18 ?_
  refine aw_gI (pc := 19) hX hy fl_X13_79 (fun _ _ => rfl) dX13_readHeard_19 (fun x7 hy => ?_)
  refine aw_iconst (pc := 22) hX 5 (by decide) dX13_readHeard_22 ?_
  refine aw_ic_ne (pc := 23) hX 27 (by decide) dX13_readHeard_23 (fun hc9 => ?_) (fun hc9 => ?_)
  · have hy := hy.f hc9
    refine aw_aloadn (pc := 27) hX 1 rfl dX13_readHeard_27 ?_
    refine aw_gR (pc := 28) hX hy fl_X13_158 (fun _ _ => rfl) dX13_readHeard_28 (fun r8 hy => ?_)
    refine aw_gR (pc := 31) hX hy fl_X13_328 (fun _ _ => rfl) dX13_readHeard_31 (fun r9 hy => ?_)
    refine aw_aloadn (pc := 34) hX 1 rfl dX13_readHeard_34 ?_
    refine aw_gR (pc := 35) hX hy fl_X13_158 (fun _ _ => rfl) dX13_readHeard_35 (fun r10 hy => ?_)
    refine aw_gI (pc := 38) hX hy fl_X13_326 (fun _ _ => rfl) dX13_readHeard_38 (fun x11 hy => ?_)
    refine aw_iloadn (pc := 41) hX 0 rfl dX13_readHeard_41 ?_
    refine aw_sI (pc := 42) hX hy dX13_readHeard_42 (fun h12 hy => ?_)
    refine aw_aloadn (pc := 43) hX 1 rfl dX13_readHeard_43 ?_
    refine aw_gR (pc := 44) hX hy fl_X13_158 (fun _ _ => rfl) dX13_readHeard_44 (fun r13 hy => ?_)
    refine aw_dup (pc := 47) hX rfl dX13_readHeard_47 ?_
    refine aw_gI (pc := 48) hX hy fl_X13_326 (fun _ _ => rfl) dX13_readHeard_48 (fun x14 hy => ?_)
    refine aw_iconst (pc := 51) hX 1 (by decide) dX13_readHeard_51 ?_
    refine aw_iadd (pc := 52) hX dX13_readHeard_52 ?_
    refine aw_pI (pc := 53) hX hy fl_X13_326 rfl (Or.inl rfl) dX13_readHeard_53 (fun h15 hy => ?_)
    exact aw_vret (pc := 56) hX hr (by decide) (by decide) dX13_readHeard_56 ⟨rfl, hy.s⟩
  · have hy := hy.t hc9
    exact aw_vret (pc := 26) hX hr (by decide) (by decide) dX13_readHeard_26 ⟨rfl, hy.s⟩
theorem con_X13_readHeard (l : Launch) (G : GE) (h : Mem) (v0 : Nat) {P : Mem → Prop} (hy : OK (f_X13_readHeard h v0) P) : Con l G yX13_readHeard cX13_readHeard 2 none rm_X13_readHeard [vR v0] h (pmV P) := Con.of (by decide) (Nat.le_of_ble_eq_true rfl) (fun X hX hr hN => w_X13_readHeard hX hN hr h v0 hy)
/-! X13_readLine -/
theorem dX13_readLine_0 : decode cX13_readLine 0 = .ok (.aload_n 0, 1) := by decide +kernel
theorem dX13_readLine_1 : decode cX13_readLine 1 = .ok (.ldc 141, 2) := by decide +kernel
theorem dX13_readLine_3 : decode cX13_readLine 3 = .ok (.invokevirtual 121, 3) := by decide +kernel
theorem dX13_readLine_6 : decode cX13_readLine 6 = .ok (.ifCond .eq 10, 3) := by decide +kernel
theorem dX13_readLine_9 : decode cX13_readLine 9 = .ok (.aload_n 0, 1) := by decide +kernel
theorem dX13_readLine_10 : decode cX13_readLine 10 = .ok (.invokevirtual 200, 3) := by decide +kernel
theorem dX13_readLine_13 : decode cX13_readLine 13 = .ok (.goto 136, 3) := by decide +kernel
theorem dX13_readLine_16 : decode cX13_readLine 16 = .ok (.aload_n 0, 1) := by decide +kernel
theorem dX13_readLine_17 : decode cX13_readLine 17 = .ok (.ldc 143, 2) := by decide +kernel
theorem dX13_readLine_19 : decode cX13_readLine 19 = .ok (.invokevirtual 121, 3) := by decide +kernel
theorem dX13_readLine_22 : decode cX13_readLine 22 = .ok (.ifCond .eq 10, 3) := by decide +kernel
theorem dX13_readLine_25 : decode cX13_readLine 25 = .ok (.aload_n 0, 1) := by decide +kernel
theorem dX13_readLine_26 : decode cX13_readLine 26 = .ok (.invokevirtual 203, 3) := by decide +kernel
theorem dX13_readLine_29 : decode cX13_readLine 29 = .ok (.goto 120, 3) := by decide +kernel
theorem dX13_readLine_32 : decode cX13_readLine 32 = .ok (.aload_n 0, 1) := by decide +kernel
theorem dX13_readLine_33 : decode cX13_readLine 33 = .ok (.ldc 145, 2) := by decide +kernel
theorem dX13_readLine_35 : decode cX13_readLine 35 = .ok (.invokevirtual 121, 3) := by decide +kernel
theorem dX13_readLine_38 : decode cX13_readLine 38 = .ok (.ifCond .eq 10, 3) := by decide +kernel
theorem dX13_readLine_41 : decode cX13_readLine 41 = .ok (.aload_n 0, 1) := by decide +kernel
theorem dX13_readLine_42 : decode cX13_readLine 42 = .ok (.invokevirtual 206, 3) := by decide +kernel
theorem dX13_readLine_45 : decode cX13_readLine 45 = .ok (.goto 104, 3) := by decide +kernel
theorem dX13_readLine_48 : decode cX13_readLine 48 = .ok (.aload_n 0, 1) := by decide +kernel
theorem dX13_readLine_49 : decode cX13_readLine 49 = .ok (.ldc 146, 2) := by decide +kernel
theorem dX13_readLine_51 : decode cX13_readLine 51 = .ok (.invokevirtual 121, 3) := by decide +kernel
theorem dX13_readLine_54 : decode cX13_readLine 54 = .ok (.ifCond .eq 10, 3) := by decide +kernel
theorem dX13_readLine_57 : decode cX13_readLine 57 = .ok (.aload_n 0, 1) := by decide +kernel
theorem dX13_readLine_58 : decode cX13_readLine 58 = .ok (.invokevirtual 209, 3) := by decide +kernel
theorem dX13_readLine_61 : decode cX13_readLine 61 = .ok (.goto 88, 3) := by decide +kernel
theorem dX13_readLine_64 : decode cX13_readLine 64 = .ok (.aload_n 0, 1) := by decide +kernel
theorem dX13_readLine_65 : decode cX13_readLine 65 = .ok (.ldc 148, 2) := by decide +kernel
theorem dX13_readLine_67 : decode cX13_readLine 67 = .ok (.invokevirtual 121, 3) := by decide +kernel
theorem dX13_readLine_70 : decode cX13_readLine 70 = .ok (.ifCond .eq 10, 3) := by decide +kernel
theorem dX13_readLine_73 : decode cX13_readLine 73 = .ok (.aload_n 0, 1) := by decide +kernel
theorem dX13_readLine_74 : decode cX13_readLine 74 = .ok (.invokevirtual 212, 3) := by decide +kernel
theorem dX13_readLine_77 : decode cX13_readLine 77 = .ok (.goto 72, 3) := by decide +kernel
theorem dX13_readLine_80 : decode cX13_readLine 80 = .ok (.aload_n 0, 1) := by decide +kernel
theorem dX13_readLine_81 : decode cX13_readLine 81 = .ok (.ldc 150, 2) := by decide +kernel
theorem dX13_readLine_83 : decode cX13_readLine 83 = .ok (.invokevirtual 121, 3) := by decide +kernel
theorem dX13_readLine_86 : decode cX13_readLine 86 = .ok (.ifCond .eq 10, 3) := by decide +kernel
theorem dX13_readLine_89 : decode cX13_readLine 89 = .ok (.aload_n 0, 1) := by decide +kernel
theorem dX13_readLine_90 : decode cX13_readLine 90 = .ok (.invokevirtual 215, 3) := by decide +kernel
theorem dX13_readLine_93 : decode cX13_readLine 93 = .ok (.goto 56, 3) := by decide +kernel
theorem dX13_readLine_96 : decode cX13_readLine 96 = .ok (.aload_n 0, 1) := by decide +kernel
theorem dX13_readLine_97 : decode cX13_readLine 97 = .ok (.ldc 152, 2) := by decide +kernel
theorem dX13_readLine_99 : decode cX13_readLine 99 = .ok (.invokevirtual 121, 3) := by decide +kernel
theorem dX13_readLine_102 : decode cX13_readLine 102 = .ok (.ifCond .eq 10, 3) := by decide +kernel
theorem dX13_readLine_105 : decode cX13_readLine 105 = .ok (.aload_n 0, 1) := by decide +kernel
theorem dX13_readLine_106 : decode cX13_readLine 106 = .ok (.invokevirtual 218, 3) := by decide +kernel
theorem dX13_readLine_109 : decode cX13_readLine 109 = .ok (.goto 40, 3) := by decide +kernel
theorem dX13_readLine_112 : decode cX13_readLine 112 = .ok (.aload_n 0, 1) := by decide +kernel
theorem dX13_readLine_113 : decode cX13_readLine 113 = .ok (.ldc 154, 2) := by decide +kernel
theorem dX13_readLine_115 : decode cX13_readLine 115 = .ok (.invokevirtual 121, 3) := by decide +kernel
theorem dX13_readLine_118 : decode cX13_readLine 118 = .ok (.ifCond .eq 10, 3) := by decide +kernel
theorem dX13_readLine_121 : decode cX13_readLine 121 = .ok (.aload_n 0, 1) := by decide +kernel
theorem dX13_readLine_122 : decode cX13_readLine 122 = .ok (.invokevirtual 221, 3) := by decide +kernel
theorem dX13_readLine_125 : decode cX13_readLine 125 = .ok (.goto 24, 3) := by decide +kernel
theorem dX13_readLine_128 : decode cX13_readLine 128 = .ok (.aload_n 0, 1) := by decide +kernel
theorem dX13_readLine_129 : decode cX13_readLine 129 = .ok (.ldc 156, 2) := by decide +kernel
theorem dX13_readLine_131 : decode cX13_readLine 131 = .ok (.invokevirtual 121, 3) := by decide +kernel
theorem dX13_readLine_134 : decode cX13_readLine 134 = .ok (.ifCond .eq 10, 3) := by decide +kernel
theorem dX13_readLine_137 : decode cX13_readLine 137 = .ok (.aload_n 0, 1) := by decide +kernel
theorem dX13_readLine_138 : decode cX13_readLine 138 = .ok (.invokevirtual 224, 3) := by decide +kernel
theorem dX13_readLine_141 : decode cX13_readLine 141 = .ok (.goto 8, 3) := by decide +kernel
theorem dX13_readLine_144 : decode cX13_readLine 144 = .ok (.aload_n 0, 1) := by decide +kernel
theorem dX13_readLine_145 : decode cX13_readLine 145 = .ok (.iconst 1, 1) := by decide +kernel
theorem dX13_readLine_146 : decode cX13_readLine 146 = .ok (.invokevirtual 125, 3) := by decide +kernel
theorem dX13_readLine_149 : decode cX13_readLine 149 = .ok (.return_, 1) := by decide +kernel
abbrev rm_X13_readLine : Room := { frames := 10, cells := 0, slots := 0, locals := 243 }
def f_X13_readLine (h : Mem) (v0 : Nat) : Option Mem :=
  (ck h v0 11).bind fun _ => (f_X13_isWord h v0 0).bind fun x1 => (if x1 = 0 then (f_X13_isWord h v0 1).bind fun x2 => (if x2 = 0 then (f_X13_isWord h v0 2).bind fun x3 => (if x3 = 0 then (f_X13_isWord h v0 3).bind fun x4 => (if x4 = 0 then (f_X13_isWord h v0 4).bind fun x5 => (if x5 = 0 then (f_X13_isWord h v0 5).bind fun x6 => (if x6 = 0 then (f_X13_isWord h v0 6).bind fun x7 => (if x7 = 0 then (f_X13_isWord h v0 7).bind fun x8 => (if x8 = 0 then (f_X13_isWord h v0 8).bind fun x9 => (if x9 = 0 then (f_X13_flaw h v0 1).bind fun h10 => some h10 else (f_X13_readHeard h v0).bind fun h11 => some h11) else (f_X13_readKnows h v0).bind fun h12 => some h12) else (f_X13_readPerson h v0).bind fun h13 => some h13) else (f_X13_readInn h v0).bind fun h14 => some h14) else (f_X13_readGate h v0).bind fun h15 => some h15) else (f_X13_readRoad h v0).bind fun h16 => some h16) else (f_X13_readPlace h v0).bind fun h17 => some h17) else (f_X13_readTune h v0).bind fun h18 => some h18) else (f_X13_readTurnpike h v0).bind fun h19 => some h19)
set_option maxRecDepth 100000 in
set_option maxHeartbeats 4000000 in
theorem w_X13_readLine {G : GE} {X : CX} {l : Launch} (hX : Ok G X cX13_readLine RX13) (hN : xn X = 1) {P : Mem → Prop} (hr : Rt G X l yX13_readLine none rm_X13_readLine (pmV P)) (h : Mem) (v0 : Nat) (hy : OK (f_X13_readLine h v0) P) : AW G X 0 [(0, vR v0)] [] h 0 0 := by
  unfold f_X13_readLine at hy
  have hkd := hy.kd
  have hy := hy.kb
  refine aw_aloadn (pc := 0) hX 0 rfl dX13_readLine_0 ?_
  refine aw_ldcs (pc := 1) hX (tx := "turnpike") (k := 0) (by decide +kernel) dX13_readLine_1 ?_
  refine aw_callV (pc := 3) (st := []) (a := v0) hX [vX 0] (con_X13_isWord _ G _ v0 0 hy.bd) mc_X13_isWord ml_X13_121 im_X13_isWord se_X13_isWord (by decide) hy.bd.kd rfl (rm_of hr (by decide)) (Nat.le_of_ble_eq_true rfl) rfl dX13_readLine_3 (kpI rfl rfl (fun x1 hy => ?_))
  refine aw_if_eq (pc := 6) hX 16 (by decide) dX13_readLine_6 (fun hc9 => ?_) (fun hc9 => ?_)
  · have hy := hy.t hc9
    refine aw_aloadn (pc := 16) hX 0 rfl dX13_readLine_16 ?_
    refine aw_ldcs (pc := 17) hX (tx := "tune") (k := 1) (by decide +kernel) dX13_readLine_17 ?_
    refine aw_callV (pc := 19) (st := []) (a := v0) hX [vX 1] (con_X13_isWord _ G _ v0 1 hy.bd) mc_X13_isWord ml_X13_121 im_X13_isWord se_X13_isWord (by decide) hy.bd.kd rfl (rm_of hr (by decide)) (Nat.le_of_ble_eq_true rfl) rfl dX13_readLine_19 (kpI rfl rfl (fun x2 hy => ?_))
    refine aw_if_eq (pc := 22) hX 32 (by decide) dX13_readLine_22 (fun hc9 => ?_) (fun hc9 => ?_)
    · have hy := hy.t hc9
      refine aw_aloadn (pc := 32) hX 0 rfl dX13_readLine_32 ?_
      refine aw_ldcs (pc := 33) hX (tx := "place") (k := 2) (by decide +kernel) dX13_readLine_33 ?_
      refine aw_callV (pc := 35) (st := []) (a := v0) hX [vX 2] (con_X13_isWord _ G _ v0 2 hy.bd) mc_X13_isWord ml_X13_121 im_X13_isWord se_X13_isWord (by decide) hy.bd.kd rfl (rm_of hr (by decide)) (Nat.le_of_ble_eq_true rfl) rfl dX13_readLine_35 (kpI rfl rfl (fun x3 hy => ?_))
      refine aw_if_eq (pc := 38) hX 48 (by decide) dX13_readLine_38 (fun hc9 => ?_) (fun hc9 => ?_)
      · have hy := hy.t hc9
        refine aw_aloadn (pc := 48) hX 0 rfl dX13_readLine_48 ?_
        refine aw_ldcs (pc := 49) hX (tx := "road") (k := 3) (by decide +kernel) dX13_readLine_49 ?_
        refine aw_callV (pc := 51) (st := []) (a := v0) hX [vX 3] (con_X13_isWord _ G _ v0 3 hy.bd) mc_X13_isWord ml_X13_121 im_X13_isWord se_X13_isWord (by decide) hy.bd.kd rfl (rm_of hr (by decide)) (Nat.le_of_ble_eq_true rfl) rfl dX13_readLine_51 (kpI rfl rfl (fun x4 hy => ?_))
        refine aw_if_eq (pc := 54) hX 64 (by decide) dX13_readLine_54 (fun hc9 => ?_) (fun hc9 => ?_)
        · have hy := hy.t hc9
          refine aw_aloadn (pc := 64) hX 0 rfl dX13_readLine_64 ?_
          refine aw_ldcs (pc := 65) hX (tx := "gate") (k := 4) (by decide +kernel) dX13_readLine_65 ?_
          refine aw_callV (pc := 67) (st := []) (a := v0) hX [vX 4] (con_X13_isWord _ G _ v0 4 hy.bd) mc_X13_isWord ml_X13_121 im_X13_isWord se_X13_isWord (by decide) hy.bd.kd rfl (rm_of hr (by decide)) (Nat.le_of_ble_eq_true rfl) rfl dX13_readLine_67 (kpI rfl rfl (fun x5 hy => ?_))
          refine aw_if_eq (pc := 70) hX 80 (by decide) dX13_readLine_70 (fun hc9 => ?_) (fun hc9 => ?_)
          · have hy := hy.t hc9
            refine aw_aloadn (pc := 80) hX 0 rfl dX13_readLine_80 ?_
            refine aw_ldcs (pc := 81) hX (tx := "inn") (k := 5) (by decide +kernel) dX13_readLine_81 ?_
            refine aw_callV (pc := 83) (st := []) (a := v0) hX [vX 5] (con_X13_isWord _ G _ v0 5 hy.bd) mc_X13_isWord ml_X13_121 im_X13_isWord se_X13_isWord (by decide) hy.bd.kd rfl (rm_of hr (by decide)) (Nat.le_of_ble_eq_true rfl) rfl dX13_readLine_83 (kpI rfl rfl (fun x6 hy => ?_))
            refine aw_if_eq (pc := 86) hX 96 (by decide) dX13_readLine_86 (fun hc9 => ?_) (fun hc9 => ?_)
            · have hy := hy.t hc9
              refine aw_aloadn (pc := 96) hX 0 rfl dX13_readLine_96 ?_
              refine aw_ldcs (pc := 97) hX (tx := "person") (k := 6) (by decide +kernel) dX13_readLine_97 ?_
              refine aw_callV (pc := 99) (st := []) (a := v0) hX [vX 6] (con_X13_isWord _ G _ v0 6 hy.bd) mc_X13_isWord ml_X13_121 im_X13_isWord se_X13_isWord (by decide) hy.bd.kd rfl (rm_of hr (by decide)) (Nat.le_of_ble_eq_true rfl) rfl dX13_readLine_99 (kpI rfl rfl (fun x7 hy => ?_))
              refine aw_if_eq (pc := 102) hX 112 (by decide) dX13_readLine_102 (fun hc9 => ?_) (fun hc9 => ?_)
              · have hy := hy.t hc9
                refine aw_aloadn (pc := 112) hX 0 rfl dX13_readLine_112 ?_
                refine aw_ldcs (pc := 113) hX (tx := "knows") (k := 7) (by decide +kernel) dX13_readLine_113 ?_
                refine aw_callV (pc := 115) (st := []) (a := v0) hX [vX 7] (con_X13_isWord _ G _ v0 7 hy.bd) mc_X13_isWord ml_X13_121 im_X13_isWord se_X13_isWord (by decide) hy.bd.kd rfl (rm_of hr (by decide)) (Nat.le_of_ble_eq_true rfl) rfl dX13_readLine_115 (kpI rfl rfl (fun x8 hy => ?_))
                refine aw_if_eq (pc := 118) hX 128 (by decide) dX13_readLine_118 (fun hc9 => ?_) (fun hc9 => ?_)
                · have hy := hy.t hc9
                  refine aw_aloadn (pc := 128) hX 0 rfl dX13_readLine_128 ?_
                  refine aw_ldcs (pc := 129) hX (tx := "heard") (k := 8) (by decide +kernel) dX13_readLine_129 ?_
                  refine aw_callV (pc := 131) (st := []) (a := v0) hX [vX 8] (con_X13_isWord _ G _ v0 8 hy.bd) mc_X13_isWord ml_X13_121 im_X13_isWord se_X13_isWord (by decide) hy.bd.kd rfl (rm_of hr (by decide)) (Nat.le_of_ble_eq_true rfl) rfl dX13_readLine_131 (kpI rfl rfl (fun x9 hy => ?_))
                  refine aw_if_eq (pc := 134) hX 144 (by decide) dX13_readLine_134 (fun hc9 => ?_) (fun hc9 => ?_)
                  · have hy := hy.t hc9
                    refine aw_aloadn (pc := 144) hX 0 rfl dX13_readLine_144 ?_
                    refine aw_iconst (pc := 145) hX 1 (by decide) dX13_readLine_145 ?_
                    refine aw_callV (pc := 146) (st := []) (a := v0) hX [vI 1] (con_X13_flaw _ G _ v0 1 hy.bd) mc_X13_flaw ml_X13_125 im_X13_flaw se_X13_flaw (by decide) hy.bd.kd rfl (rm_of hr (by decide)) (Nat.le_of_ble_eq_true rfl) rfl dX13_readLine_146 (kmV rfl rfl (fun h10 hy => ?_))
                    exact aw_vret (pc := 149) hX hr (by decide) (by decide) dX13_readLine_149 ⟨rfl, hy.s⟩
                  · have hy := hy.f hc9
                    refine aw_aloadn (pc := 137) hX 0 rfl dX13_readLine_137 ?_
                    refine aw_callV (pc := 138) (st := []) (a := v0) hX [] (con_X13_readHeard _ G _ v0 hy.bd) mc_X13_readHeard ml_X13_224 im_X13_readHeard se_X13_readHeard (by decide) hy.bd.kd rfl (rm_of hr (by decide)) (Nat.le_of_ble_eq_true rfl) rfl dX13_readLine_138 (kmV rfl rfl (fun h11 hy => ?_))
                    refine aw_goto (pc := 141) hX 149 (by decide) dX13_readLine_141 ?_
                    exact aw_vret (pc := 149) hX hr (by decide) (by decide) dX13_readLine_149 ⟨rfl, hy.s⟩
                · have hy := hy.f hc9
                  refine aw_aloadn (pc := 121) hX 0 rfl dX13_readLine_121 ?_
                  refine aw_callV (pc := 122) (st := []) (a := v0) hX [] (con_X13_readKnows _ G _ v0 hy.bd) mc_X13_readKnows ml_X13_221 im_X13_readKnows se_X13_readKnows (by decide) hy.bd.kd rfl (rm_of hr (by decide)) (Nat.le_of_ble_eq_true rfl) rfl dX13_readLine_122 (kmV rfl rfl (fun h12 hy => ?_))
                  refine aw_goto (pc := 125) hX 149 (by decide) dX13_readLine_125 ?_
                  exact aw_vret (pc := 149) hX hr (by decide) (by decide) dX13_readLine_149 ⟨rfl, hy.s⟩
              · have hy := hy.f hc9
                refine aw_aloadn (pc := 105) hX 0 rfl dX13_readLine_105 ?_
                refine aw_callV (pc := 106) (st := []) (a := v0) hX [] (con_X13_readPerson _ G _ v0 hy.bd) mc_X13_readPerson ml_X13_218 im_X13_readPerson se_X13_readPerson (by decide) hy.bd.kd rfl (rm_of hr (by decide)) (Nat.le_of_ble_eq_true rfl) rfl dX13_readLine_106 (kmV rfl rfl (fun h13 hy => ?_))
                refine aw_goto (pc := 109) hX 149 (by decide) dX13_readLine_109 ?_
                exact aw_vret (pc := 149) hX hr (by decide) (by decide) dX13_readLine_149 ⟨rfl, hy.s⟩
            · have hy := hy.f hc9
              refine aw_aloadn (pc := 89) hX 0 rfl dX13_readLine_89 ?_
              refine aw_callV (pc := 90) (st := []) (a := v0) hX [] (con_X13_readInn _ G _ v0 hy.bd) mc_X13_readInn ml_X13_215 im_X13_readInn se_X13_readInn (by decide) hy.bd.kd rfl (rm_of hr (by decide)) (Nat.le_of_ble_eq_true rfl) rfl dX13_readLine_90 (kmV rfl rfl (fun h14 hy => ?_))
              refine aw_goto (pc := 93) hX 149 (by decide) dX13_readLine_93 ?_
              exact aw_vret (pc := 149) hX hr (by decide) (by decide) dX13_readLine_149 ⟨rfl, hy.s⟩
          · have hy := hy.f hc9
            refine aw_aloadn (pc := 73) hX 0 rfl dX13_readLine_73 ?_
            refine aw_callV (pc := 74) (st := []) (a := v0) hX [] (con_X13_readGate _ G _ v0 hy.bd) mc_X13_readGate ml_X13_212 im_X13_readGate se_X13_readGate (by decide) hy.bd.kd rfl (rm_of hr (by decide)) (Nat.le_of_ble_eq_true rfl) rfl dX13_readLine_74 (kmV rfl rfl (fun h15 hy => ?_))
            refine aw_goto (pc := 77) hX 149 (by decide) dX13_readLine_77 ?_
            exact aw_vret (pc := 149) hX hr (by decide) (by decide) dX13_readLine_149 ⟨rfl, hy.s⟩
        · have hy := hy.f hc9
          refine aw_aloadn (pc := 57) hX 0 rfl dX13_readLine_57 ?_
          refine aw_callV (pc := 58) (st := []) (a := v0) hX [] (con_X13_readRoad _ G _ v0 hy.bd) mc_X13_readRoad ml_X13_209 im_X13_readRoad se_X13_readRoad (by decide) hy.bd.kd rfl (rm_of hr (by decide)) (Nat.le_of_ble_eq_true rfl) rfl dX13_readLine_58 (kmV rfl rfl (fun h16 hy => ?_))
          refine aw_goto (pc := 61) hX 149 (by decide) dX13_readLine_61 ?_
          exact aw_vret (pc := 149) hX hr (by decide) (by decide) dX13_readLine_149 ⟨rfl, hy.s⟩
      · have hy := hy.f hc9
        refine aw_aloadn (pc := 41) hX 0 rfl dX13_readLine_41 ?_
        refine aw_callV (pc := 42) (st := []) (a := v0) hX [] (con_X13_readPlace _ G _ v0 hy.bd) mc_X13_readPlace ml_X13_206 im_X13_readPlace se_X13_readPlace (by decide) hy.bd.kd rfl (rm_of hr (by decide)) (Nat.le_of_ble_eq_true rfl) rfl dX13_readLine_42 (kmV rfl rfl (fun h17 hy => ?_))
        refine aw_goto (pc := 45) hX 149 (by decide) dX13_readLine_45 ?_
        exact aw_vret (pc := 149) hX hr (by decide) (by decide) dX13_readLine_149 ⟨rfl, hy.s⟩
    · have hy := hy.f hc9
      refine aw_aloadn (pc := 25) hX 0 rfl dX13_readLine_25 ?_
      refine aw_callV (pc := 26) (st := []) (a := v0) hX [] (con_X13_readTune _ G _ v0 hy.bd) mc_X13_readTune ml_X13_203 im_X13_readTune se_X13_readTune (by decide) hy.bd.kd rfl (rm_of hr (by decide)) (Nat.le_of_ble_eq_true rfl) rfl dX13_readLine_26 (kmV rfl rfl (fun h18 hy => ?_))
      refine aw_goto (pc := 29) hX 149 (by decide) dX13_readLine_29 ?_
      exact aw_vret (pc := 149) hX hr (by decide) (by decide) dX13_readLine_149 ⟨rfl, hy.s⟩
  · have hy := hy.f hc9
    refine aw_aloadn (pc := 9) hX 0 rfl dX13_readLine_9 ?_
    refine aw_callV (pc := 10) (st := []) (a := v0) hX [] (con_X13_readTurnpike _ G _ v0 hy.bd) mc_X13_readTurnpike ml_X13_200 im_X13_readTurnpike se_X13_readTurnpike (by decide) hy.bd.kd rfl (rm_of hr (by decide)) (Nat.le_of_ble_eq_true rfl) rfl dX13_readLine_10 (kmV rfl rfl (fun h19 hy => ?_))
    refine aw_goto (pc := 13) hX 149 (by decide) dX13_readLine_13 ?_
    exact aw_vret (pc := 149) hX hr (by decide) (by decide) dX13_readLine_149 ⟨rfl, hy.s⟩
theorem con_X13_readLine (l : Launch) (G : GE) (h : Mem) (v0 : Nat) {P : Mem → Prop} (hy : OK (f_X13_readLine h v0) P) : Con l G yX13_readLine cX13_readLine 1 none rm_X13_readLine [vR v0] h (pmV P) := Con.of (by decide) (Nat.le_of_ble_eq_true rfl) (fun X hX hr hN => w_X13_readLine hX hN hr h v0 hy)
/-! X13_readAll -/
theorem dX13_readAll_0 : decode cX13_readAll 0 = .ok (.iconst 1, 1) := by decide +kernel
theorem dX13_readAll_1 : decode cX13_readAll 1 = .ok (.istore_n 1, 1) := by decide +kernel
theorem dX13_readAll_2 : decode cX13_readAll 2 = .ok (.iload_n 1, 1) := by decide +kernel
theorem dX13_readAll_3 : decode cX13_readAll 3 = .ok (.ifCond .eq 15, 3) := by decide +kernel
theorem dX13_readAll_6 : decode cX13_readAll 6 = .ok (.aload_n 0, 1) := by decide +kernel
theorem dX13_readAll_7 : decode cX13_readAll 7 = .ok (.invokevirtual 191, 3) := by decide +kernel
theorem dX13_readAll_10 : decode cX13_readAll 10 = .ok (.aload_n 0, 1) := by decide +kernel
theorem dX13_readAll_11 : decode cX13_readAll 11 = .ok (.invokevirtual 194, 3) := by decide +kernel
theorem dX13_readAll_14 : decode cX13_readAll 14 = .ok (.istore_n 1, 1) := by decide +kernel
theorem dX13_readAll_15 : decode cX13_readAll 15 = .ok (.goto (-13), 3) := by decide +kernel
theorem dX13_readAll_18 : decode cX13_readAll 18 = .ok (.aload_n 0, 1) := by decide +kernel
theorem dX13_readAll_19 : decode cX13_readAll 19 = .ok (.getfield 79, 3) := by decide +kernel
theorem dX13_readAll_22 : decode cX13_readAll 22 = .ok (.iconst 1, 1) := by decide +kernel
theorem dX13_readAll_23 : decode cX13_readAll 23 = .ok (.if_icmp .eq 8, 3) := by decide +kernel
theorem dX13_readAll_26 : decode cX13_readAll 26 = .ok (.aload_n 0, 1) := by decide +kernel
theorem dX13_readAll_27 : decode cX13_readAll 27 = .ok (.iconst 1, 1) := by decide +kernel
theorem dX13_readAll_28 : decode cX13_readAll 28 = .ok (.invokevirtual 125, 3) := by decide +kernel
theorem dX13_readAll_31 : decode cX13_readAll 31 = .ok (.aload_n 0, 1) := by decide +kernel
theorem dX13_readAll_32 : decode cX13_readAll 32 = .ok (.getfield 158, 3) := by decide +kernel
theorem dX13_readAll_35 : decode cX13_readAll 35 = .ok (.getfield 197, 3) := by decide +kernel
theorem dX13_readAll_38 : decode cX13_readAll 38 = .ok (.ifCond .ne 9, 3) := by decide +kernel
theorem dX13_readAll_41 : decode cX13_readAll 41 = .ok (.aload_n 0, 1) := by decide +kernel
theorem dX13_readAll_42 : decode cX13_readAll 42 = .ok (.bipush 6, 2) := by decide +kernel
theorem dX13_readAll_44 : decode cX13_readAll 44 = .ok (.invokevirtual 125, 3) := by decide +kernel
theorem dX13_readAll_47 : decode cX13_readAll 47 = .ok (.return_, 1) := by decide +kernel
abbrev rm_X13_readAll : Room := { frames := 11, cells := 0, slots := 0, locals := 263 }
def b_X13_readAll_2 (h : Mem) (v0 : Nat) (v1 : Int32) : Option ((Int32 × Mem) ⊕ Mem) :=
  (if v1 = 0 then some (.inr h) else (f_X13_readLine h v0).bind fun h1 => (f_X13_eatsSemicolon h1 v0).bind fun q4 => some (.inl (q4.1, q4.2)))
set_option maxRecDepth 100000 in
set_option maxHeartbeats 4000000 in
theorem wb_X13_readAll_2 {G : GE} {X : CX} {l : Launch} (hX : Ok G X cX13_readAll RX13) (hN : xn X = 2) {P0 : Mem → Prop} (hr : Rt G X l yX13_readAll none rm_X13_readAll (pmV P0))  (v0 : Nat) {P : ((Int32 × Mem) ⊕ Mem) → Prop} (hc : ∀ s, P (.inl s) → AW G X 2 [(0, vR v0), (1, vI s.1)] [] s.2 0 0) (he0 : ∀ e, P (.inr e) → AW G X 18 [(0, vR v0)] [] e 0 0) (h : Mem) (v1 : Int32) (hy : OK (b_X13_readAll_2 h v0 v1) P) : AW G X 2 [(0, vR v0), (1, vI v1)] [] h 0 0 := by
  unfold b_X13_readAll_2 at hy
  refine aw_iloadn (pc := 2) hX 1 rfl dX13_readAll_2 ?_
  refine aw_if_eq (pc := 3) hX 18 (by decide) dX13_readAll_3 (fun hc9 => ?_) (fun hc9 => ?_)
  · have hy := hy.t hc9
    refine AW.sub [0] rfl ?_
    exact he0 h hy.s
  · have hy := hy.f hc9
    refine aw_aloadn (pc := 6) hX 0 rfl dX13_readAll_6 ?_
    refine aw_callV (pc := 7) (st := []) (a := v0) hX [] (con_X13_readLine _ G _ v0 hy.bd) mc_X13_readLine ml_X13_191 im_X13_readLine se_X13_readLine (by decide) hy.bd.kd rfl (rm_of hr (by decide)) (Nat.le_of_ble_eq_true rfl) rfl dX13_readAll_7 (kmV rfl rfl (fun h1 hy => ?_))
    refine aw_aloadn (pc := 10) hX 0 rfl dX13_readAll_10 ?_
    refine aw_callV (pc := 11) (st := []) (a := v0) hX [] (con_X13_eatsSemicolon _ G _ v0 hy.bd) mc_X13_eatsSemicolon ml_X13_194 im_X13_eatsSemicolon se_X13_eatsSemicolon (by decide) hy.bd.kd rfl (rm_of hr (by decide)) (Nat.le_of_ble_eq_true rfl) rfl dX13_readAll_11 (kmI rfl rfl (fun q4 hy => ?_))
    refine aw_istoren (pc := 14) hX [(1, vI q4.1), (0, vR v0)] rfl (lt_n hN (by decide)) dX13_readAll_14 ?_
    refine aw_goto (pc := 15) hX 2 (by decide) dX13_readAll_15 ?_
    refine AW.sub [1, 0] rfl ?_
    exact hc (q4.1, q4.2) hy.s
theorem wl_X13_readAll_2 {G : GE} {X : CX} {l : Launch} (hX : Ok G X cX13_readAll RX13) (hN : xn X = 2) {P0 : Mem → Prop} (hr : Rt G X l yX13_readAll none rm_X13_readAll (pmV P0)) (v0 : Nat) {P : (Mem) → Prop} (he0 : ∀ e, P e → AW G X 18 [(0, vR v0)] [] e 0 0) : ∀ (n : Nat) (s : Int32 × Mem), OK (iter (fun (s : Int32 × Mem) => b_X13_readAll_2 s.2 v0 s.1) n s) P → AW G X 2 [(0, vR v0), (1, vI s.1)] [] s.2 0 0 := by
  intro n
  induction n with
  | zero => exact fun s hy => hy.it0.elim
  | succ n ih =>
    intro s hy
    exact wb_X13_readAll_2 hX hN hr v0 (fun s hs => ih s hs) (fun e hs => he0 e hs) s.2 s.1 hy.it
def f_X13_readAll_31 (h : Mem) (v0 : Nat) : Option Mem :=
  (gR h v0 4 11).bind fun r7 => (gI h r7 2 10).bind fun x8 => (if x8 = 0 then (f_X13_flaw h v0 6).bind fun h9 => some h9 else some h)
set_option maxRecDepth 100000 in
set_option maxHeartbeats 4000000 in
theorem w_X13_readAll_31 {G : GE} {X : CX} {l : Launch} (hX : Ok G X cX13_readAll RX13) (hN : xn X = 2) {P : Mem → Prop} (hr : Rt G X l yX13_readAll none rm_X13_readAll (pmV P)) (h : Mem) (v0 : Nat) (hy : OK (f_X13_readAll_31 h v0) P) : AW G X 31 [(0, vR v0)] [] h 0 0 := by
  unfold f_X13_readAll_31 at hy
  refine aw_aloadn (pc := 31) hX 0 rfl dX13_readAll_31 ?_
  refine aw_gR (pc := 32) hX hy fl_X13_158 (fun _ _ => rfl) dX13_readAll_32 (fun r7 hy => ?_)
  refine aw_gI (pc := 35) hX hy fl_X13_197 (fun _ _ => rfl) dX13_readAll_35 (fun x8 hy => ?_)
  refine aw_if_ne (pc := 38) hX 47 (by decide) dX13_readAll_38 (fun hc9 => ?_) (fun hc9 => ?_)
  · have hy := hy.f hc9
    exact aw_vret (pc := 47) hX hr (by decide) (by decide) dX13_readAll_47 ⟨rfl, hy.s⟩
  · have hy := hy.t hc9
    refine aw_aloadn (pc := 41) hX 0 rfl dX13_readAll_41 ?_
    refine aw_bipush (pc := 42) hX 6 (by decide) dX13_readAll_42 ?_
    refine aw_callV (pc := 44) (st := []) (a := v0) hX [vI 6] (con_X13_flaw _ G _ v0 6 hy.bd) mc_X13_flaw ml_X13_125 im_X13_flaw se_X13_flaw (by decide) hy.bd.kd rfl (rm_of hr (by decide)) (Nat.le_of_ble_eq_true rfl) rfl dX13_readAll_44 (kmV rfl rfl (fun h9 hy => ?_))
    exact aw_vret (pc := 47) hX hr (by decide) (by decide) dX13_readAll_47 ⟨rfl, hy.s⟩
def f_X13_readAll (h : Mem) (v0 : Nat) : Option Mem :=
  (ck h v0 11).bind fun _ => (iter (fun (s : Int32 × Mem) => b_X13_readAll_2 s.2 v0 s.1) FU (1, h)).bind (fun q5 => (gI q5 v0 9 11).bind fun x6 => (if x6 = 1 then f_X13_readAll_31 q5 v0 else (f_X13_flaw q5 v0 1).bind fun h10 => f_X13_readAll_31 h10 v0))
set_option maxRecDepth 100000 in
set_option maxHeartbeats 4000000 in
theorem w_X13_readAll {G : GE} {X : CX} {l : Launch} (hX : Ok G X cX13_readAll RX13) (hN : xn X = 2) {P : Mem → Prop} (hr : Rt G X l yX13_readAll none rm_X13_readAll (pmV P)) (h : Mem) (v0 : Nat) (hy : OK (f_X13_readAll h v0) P) : AW G X 0 [(0, vR v0)] [] h 0 0 := by
  unfold f_X13_readAll at hy
  have hkd := hy.kd
  have hy := hy.kb
  refine aw_iconst (pc := 0) hX 1 (by decide) dX13_readAll_0 ?_
  refine aw_istoren (pc := 1) hX [(1, vI 1), (0, vR v0)] rfl (lt_n hN (by decide)) dX13_readAll_1 ?_
  refine AW.sub [1, 0] rfl ?_
  refine wl_X13_readAll_2 hX hN hr v0 ?_ FU (1, h) hy.bd
  · intro q5 hy
    refine aw_aloadn (pc := 18) hX 0 rfl dX13_readAll_18 ?_
    refine aw_gI (pc := 19) hX hy fl_X13_79 (fun _ _ => rfl) dX13_readAll_19 (fun x6 hy => ?_)
    refine aw_iconst (pc := 22) hX 1 (by decide) dX13_readAll_22 ?_
    refine aw_ic_eq (pc := 23) hX 31 (by decide) dX13_readAll_23 (fun hc9 => ?_) (fun hc9 => ?_)
    · have hy := hy.t hc9
      exact w_X13_readAll_31 hX hN hr q5 v0 hy
    · have hy := hy.f hc9
      refine aw_aloadn (pc := 26) hX 0 rfl dX13_readAll_26 ?_
      refine aw_iconst (pc := 27) hX 1 (by decide) dX13_readAll_27 ?_
      refine aw_callV (pc := 28) (st := []) (a := v0) hX [vI 1] (con_X13_flaw _ G _ v0 1 hy.bd) mc_X13_flaw ml_X13_125 im_X13_flaw se_X13_flaw (by decide) hy.bd.kd rfl (rm_of hr (by decide)) (Nat.le_of_ble_eq_true rfl) rfl dX13_readAll_28 (kmV rfl rfl (fun h10 hy => ?_))
      exact w_X13_readAll_31 hX hN hr h10 v0 hy
theorem con_X13_readAll (l : Launch) (G : GE) (h : Mem) (v0 : Nat) {P : Mem → Prop} (hy : OK (f_X13_readAll h v0) P) : Con l G yX13_readAll cX13_readAll 2 none rm_X13_readAll [vR v0] h (pmV P) := Con.of (by decide) (Nat.le_of_ble_eq_true rfl) (fun X hX hr hN => w_X13_readAll hX hN hr h v0 hy)
/-! X13_feed -/
theorem dX13_feed_0 : decode cX13_feed 0 = .ok (.aload_n 0, 1) := by decide +kernel
theorem dX13_feed_1 : decode cX13_feed 1 = .ok (.iconst 0, 1) := by decide +kernel
theorem dX13_feed_2 : decode cX13_feed 2 = .ok (.putfield 51, 3) := by decide +kernel
theorem dX13_feed_5 : decode cX13_feed 5 = .ok (.aload_n 0, 1) := by decide +kernel
theorem dX13_feed_6 : decode cX13_feed 6 = .ok (.getfield 331, 3) := by decide +kernel
theorem dX13_feed_9 : decode cX13_feed 9 = .ok (.bipush 20, 2) := by decide +kernel
theorem dX13_feed_11 : decode cX13_feed 11 = .ok (.iadd, 1) := by decide +kernel
theorem dX13_feed_12 : decode cX13_feed 12 = .ok (.sipush 1000, 3) := by decide +kernel
theorem dX13_feed_15 : decode cX13_feed 15 = .ok (.if_icmp .le 5, 3) := by decide +kernel
theorem dX13_feed_18 : decode cX13_feed 18 = .ok (.iconst (-1), 1) := by decide +kernel
theorem dX13_feed_19 : decode cX13_feed 19 = .ok (.ireturn, 1) := by decide +kernel
theorem dX13_feed_20 : decode cX13_feed 20 = .ok (.iconst 0, 1) := by decide +kernel
theorem dX13_feed_21 : decode cX13_feed 21 = .ok (.istore 6, 2) := by decide +kernel
theorem dX13_feed_23 : decode cX13_feed 23 = .ok (.iload 6, 2) := by decide +kernel
theorem dX13_feed_25 : decode cX13_feed 25 = .ok (.bipush 20, 2) := by decide +kernel
theorem dX13_feed_27 : decode cX13_feed 27 = .ok (.if_icmp .ge 90, 3) := by decide +kernel
theorem dX13_feed_30 : decode cX13_feed 30 = .ok (.iload 6, 2) := by decide +kernel
theorem dX13_feed_32 : decode cX13_feed 32 = .ok (.iconst 4, 1) := by decide +kernel
theorem dX13_feed_33 : decode cX13_feed 33 = .ok (.if_icmp .ge 7, 3) := by decide +kernel
theorem dX13_feed_36 : decode cX13_feed 36 = .ok (.iload_n 1, 1) := by decide +kernel
theorem dX13_feed_37 : decode cX13_feed 37 = .ok (.goto 39, 3) := by decide +kernel
theorem dX13_feed_40 : decode cX13_feed 40 = .ok (.iload 6, 2) := by decide +kernel
theorem dX13_feed_42 : decode cX13_feed 42 = .ok (.bipush 8, 2) := by decide +kernel
theorem dX13_feed_44 : decode cX13_feed 44 = .ok (.if_icmp .ge 7, 3) := by decide +kernel
theorem dX13_feed_47 : decode cX13_feed 47 = .ok (.iload_n 2, 1) := by decide +kernel
theorem dX13_feed_48 : decode cX13_feed 48 = .ok (.goto 28, 3) := by decide +kernel
theorem dX13_feed_51 : decode cX13_feed 51 = .ok (.iload 6, 2) := by decide +kernel
theorem dX13_feed_53 : decode cX13_feed 53 = .ok (.bipush 12, 2) := by decide +kernel
theorem dX13_feed_55 : decode cX13_feed 55 = .ok (.if_icmp .ge 7, 3) := by decide +kernel
theorem dX13_feed_58 : decode cX13_feed 58 = .ok (.iload_n 3, 1) := by decide +kernel
theorem dX13_feed_59 : decode cX13_feed 59 = .ok (.goto 17, 3) := by decide +kernel
theorem dX13_feed_62 : decode cX13_feed 62 = .ok (.iload 6, 2) := by decide +kernel
theorem dX13_feed_64 : decode cX13_feed 64 = .ok (.bipush 16, 2) := by decide +kernel
theorem dX13_feed_66 : decode cX13_feed 66 = .ok (.if_icmp .ge 8, 3) := by decide +kernel
theorem dX13_feed_69 : decode cX13_feed 69 = .ok (.iload 4, 2) := by decide +kernel
theorem dX13_feed_71 : decode cX13_feed 71 = .ok (.goto 5, 3) := by decide +kernel
theorem dX13_feed_74 : decode cX13_feed 74 = .ok (.iload 5, 2) := by decide +kernel
theorem dX13_feed_76 : decode cX13_feed 76 = .ok (.istore 7, 2) := by decide +kernel
theorem dX13_feed_78 : decode cX13_feed 78 = .ok (.aload_n 0, 1) := by decide +kernel
theorem dX13_feed_79 : decode cX13_feed 79 = .ok (.getfield 13, 3) := by decide +kernel
theorem dX13_feed_82 : decode cX13_feed 82 = .ok (.aload_n 0, 1) := by decide +kernel
theorem dX13_feed_83 : decode cX13_feed 83 = .ok (.getfield 331, 3) := by decide +kernel
theorem dX13_feed_86 : decode cX13_feed 86 = .ok (.iload 7, 2) := by decide +kernel
theorem dX13_feed_88 : decode cX13_feed 88 = .ok (.bipush 24, 2) := by decide +kernel
theorem dX13_feed_90 : decode cX13_feed 90 = .ok (.bipush 8, 2) := by decide +kernel
theorem dX13_feed_92 : decode cX13_feed 92 = .ok (.iload 6, 2) := by decide +kernel
theorem dX13_feed_94 : decode cX13_feed 94 = .ok (.iconst 4, 1) := by decide +kernel
theorem dX13_feed_95 : decode cX13_feed 95 = .ok (.irem, 1) := by decide +kernel
theorem dX13_feed_96 : decode cX13_feed 96 = .ok (.imul, 1) := by decide +kernel
theorem dX13_feed_97 : decode cX13_feed 97 = .ok (.isub, 1) := by decide +kernel
theorem dX13_feed_98 : decode cX13_feed 98 = .ok (.ishr, 1) := by decide +kernel
theorem dX13_feed_99 : decode cX13_feed 99 = .ok (.i2b, 1) := by decide +kernel
theorem dX13_feed_100 : decode cX13_feed 100 = .ok (.bastore, 1) := by decide +kernel
theorem dX13_feed_101 : decode cX13_feed 101 = .ok (.aload_n 0, 1) := by decide +kernel
theorem dX13_feed_102 : decode cX13_feed 102 = .ok (.dup, 1) := by decide +kernel
theorem dX13_feed_103 : decode cX13_feed 103 = .ok (.getfield 331, 3) := by decide +kernel
theorem dX13_feed_106 : decode cX13_feed 106 = .ok (.iconst 1, 1) := by decide +kernel
theorem dX13_feed_107 : decode cX13_feed 107 = .ok (.iadd, 1) := by decide +kernel
theorem dX13_feed_108 : decode cX13_feed 108 = .ok (.putfield 331, 3) := by decide +kernel
theorem dX13_feed_111 : decode cX13_feed 111 = .ok (.iinc 6 1, 3) := by decide +kernel
theorem dX13_feed_114 : decode cX13_feed 114 = .ok (.goto (-91), 3) := by decide +kernel
theorem dX13_feed_117 : decode cX13_feed 117 = .ok (.aload_n 0, 1) := by decide +kernel
theorem dX13_feed_118 : decode cX13_feed 118 = .ok (.getfield 331, 3) := by decide +kernel
theorem dX13_feed_121 : decode cX13_feed 121 = .ok (.ireturn, 1) := by decide +kernel
abbrev rm_X13_feed : Room := { frames := 0, cells := 0, slots := 0, locals := 0 }
def f_X13_feed_76 (h : Mem) (v0 : Nat) (v1 : Int32) (v2 : Int32) (v3 : Int32) (v4 : Int32) (v5 : Int32) (v6 : Int32) (s0 : Int32) : Option ((Int32 × Mem) ⊕ Mem) :=
  (gR h v0 5 11).bind fun r3 => (gI h v0 6 11).bind fun x4 => (irm v6 4).bind fun x5 => (sB h r3 x4 ((((s0 : Int32) >>> ((24 - (8 * x5)) &&& 31)) : Int32).toInt8.toInt32)).bind fun h6 => (gI h6 v0 6 11).bind fun x7 => (pI h6 v0 6 11 (x7 + 1)).bind fun h8 => some (.inl ((v6 + 1), h8))
set_option maxRecDepth 100000 in
set_option maxHeartbeats 4000000 in
theorem w_X13_feed_76 {G : GE} {X : CX} {l : Launch} (hX : Ok G X cX13_feed RX13) (hN : xn X = 8) {P0 : (Int32 × Mem) → Prop} (hr : Rt G X l yX13_feed (some .int) rm_X13_feed (pmI P0))  (v0 : Nat) (v1 : Int32) (v2 : Int32) (v3 : Int32) (v4 : Int32) (v5 : Int32) {P : ((Int32 × Mem) ⊕ Mem) → Prop} (hc : ∀ s, P (.inl s) → AW G X 23 [(0, vR v0), (1, vI v1), (2, vI v2), (3, vI v3), (4, vI v4), (5, vI v5), (6, vI s.1)] [] s.2 0 0) (he0 : ∀ e, P (.inr e) → AW G X 117 [(0, vR v0)] [] e 0 0) (h : Mem) (v6 : Int32) (s0 : Int32) (hy : OK (f_X13_feed_76 h v0 v1 v2 v3 v4 v5 v6 s0) P) : AW G X 76 [(0, vR v0), (1, vI v1), (2, vI v2), (3, vI v3), (4, vI v4), (5, vI v5), (6, vI v6)] [vI s0] h 0 0 := by
  unfold f_X13_feed_76 at hy
  refine aw_istore (pc := 76) hX [(7, vI s0), (0, vR v0), (1, vI v1), (2, vI v2), (3, vI v3), (4, vI v4), (5, vI v5), (6, vI v6)] rfl (lt_n hN (by decide)) dX13_feed_76 ?_
  refine aw_aloadn (pc := 78) hX 1 rfl dX13_feed_78 ?_
  refine aw_gR (pc := 79) hX hy fl_X13_13 (fun _ _ => rfl) dX13_feed_79 (fun r3 hy => ?_)
  refine aw_aloadn (pc := 82) hX 1 rfl dX13_feed_82 ?_
  refine aw_gI (pc := 83) hX hy fl_X13_331 (fun _ _ => rfl) dX13_feed_83 (fun x4 hy => ?_)
  refine aw_iload (pc := 86) hX 0 rfl dX13_feed_86 ?_
  refine aw_bipush (pc := 88) hX 24 (by decide) dX13_feed_88 ?_
  refine aw_bipush (pc := 90) hX 8 (by decide) dX13_feed_90 ?_
  refine aw_iload (pc := 92) hX 7 rfl dX13_feed_92 ?_
  refine aw_iconst (pc := 94) hX 4 (by decide) dX13_feed_94 ?_
  refine aw_irem (pc := 95) hX hy dX13_feed_95 (fun x5 hy => ?_)
  refine aw_imul (pc := 96) hX dX13_feed_96 ?_
  refine aw_isub (pc := 97) hX dX13_feed_97 ?_
  refine aw_ishr (pc := 98) hX dX13_feed_98 ?_
  refine aw_i2b (pc := 99) hX dX13_feed_99 ?_
  refine aw_sB (pc := 100) hX hy dX13_feed_100 (fun h6 hy => ?_)
  refine aw_aloadn (pc := 101) hX 1 rfl dX13_feed_101 ?_
  refine aw_dup (pc := 102) hX rfl dX13_feed_102 ?_
  refine aw_gI (pc := 103) hX hy fl_X13_331 (fun _ _ => rfl) dX13_feed_103 (fun x7 hy => ?_)
  refine aw_iconst (pc := 106) hX 1 (by decide) dX13_feed_106 ?_
  refine aw_iadd (pc := 107) hX dX13_feed_107 ?_
  refine aw_pI (pc := 108) hX hy fl_X13_331 rfl (Or.inl rfl) dX13_feed_108 (fun h8 hy => ?_)
  refine aw_iinc (pc := 111) hX 1 (by decide) 7 rfl [(6, vI (v6 + 1)), (7, vI s0), (0, vR v0), (1, vI v1), (2, vI v2), (3, vI v3), (4, vI v4), (5, vI v5)] rfl (lt_n hN (by decide)) dX13_feed_111 ?_
  refine aw_goto (pc := 114) hX 23 (by decide) dX13_feed_114 ?_
  refine AW.sub [2, 3, 4, 5, 6, 7, 0] rfl ?_
  exact hc ((v6 + 1), h8) hy.s
def b_X13_feed_23 (h : Mem) (v0 : Nat) (v1 : Int32) (v2 : Int32) (v3 : Int32) (v4 : Int32) (v5 : Int32) (v6 : Int32) : Option ((Int32 × Mem) ⊕ Mem) :=
  (if 20 ≤ v6 then some (.inr h) else (if 4 ≤ v6 then (if 8 ≤ v6 then (if 12 ≤ v6 then (if 16 ≤ v6 then f_X13_feed_76 h v0 v1 v2 v3 v4 v5 v6 v5 else f_X13_feed_76 h v0 v1 v2 v3 v4 v5 v6 v4) else f_X13_feed_76 h v0 v1 v2 v3 v4 v5 v6 v3) else f_X13_feed_76 h v0 v1 v2 v3 v4 v5 v6 v2) else f_X13_feed_76 h v0 v1 v2 v3 v4 v5 v6 v1))
set_option maxRecDepth 100000 in
set_option maxHeartbeats 4000000 in
theorem wb_X13_feed_23 {G : GE} {X : CX} {l : Launch} (hX : Ok G X cX13_feed RX13) (hN : xn X = 8) {P0 : (Int32 × Mem) → Prop} (hr : Rt G X l yX13_feed (some .int) rm_X13_feed (pmI P0))  (v0 : Nat) (v1 : Int32) (v2 : Int32) (v3 : Int32) (v4 : Int32) (v5 : Int32) {P : ((Int32 × Mem) ⊕ Mem) → Prop} (hc : ∀ s, P (.inl s) → AW G X 23 [(0, vR v0), (1, vI v1), (2, vI v2), (3, vI v3), (4, vI v4), (5, vI v5), (6, vI s.1)] [] s.2 0 0) (he0 : ∀ e, P (.inr e) → AW G X 117 [(0, vR v0)] [] e 0 0) (h : Mem) (v6 : Int32) (hy : OK (b_X13_feed_23 h v0 v1 v2 v3 v4 v5 v6) P) : AW G X 23 [(0, vR v0), (1, vI v1), (2, vI v2), (3, vI v3), (4, vI v4), (5, vI v5), (6, vI v6)] [] h 0 0 := by
  unfold b_X13_feed_23 at hy
  refine aw_iload (pc := 23) hX 6 rfl dX13_feed_23 ?_
  refine aw_bipush (pc := 25) hX 20 (by decide) dX13_feed_25 ?_
  refine aw_ic_ge (pc := 27) hX 117 (by decide) dX13_feed_27 (fun hc9 => ?_) (fun hc9 => ?_)
  · have hy := hy.t hc9
    refine AW.sub [0] rfl ?_
    exact he0 h hy.s
  · have hy := hy.f hc9
    refine aw_iload (pc := 30) hX 6 rfl dX13_feed_30 ?_
    refine aw_iconst (pc := 32) hX 4 (by decide) dX13_feed_32 ?_
    refine aw_ic_ge (pc := 33) hX 40 (by decide) dX13_feed_33 (fun hc9 => ?_) (fun hc9 => ?_)
    · have hy := hy.t hc9
      refine aw_iload (pc := 40) hX 6 rfl dX13_feed_40 ?_
      refine aw_bipush (pc := 42) hX 8 (by decide) dX13_feed_42 ?_
      refine aw_ic_ge (pc := 44) hX 51 (by decide) dX13_feed_44 (fun hc9 => ?_) (fun hc9 => ?_)
      · have hy := hy.t hc9
        refine aw_iload (pc := 51) hX 6 rfl dX13_feed_51 ?_
        refine aw_bipush (pc := 53) hX 12 (by decide) dX13_feed_53 ?_
        refine aw_ic_ge (pc := 55) hX 62 (by decide) dX13_feed_55 (fun hc9 => ?_) (fun hc9 => ?_)
        · have hy := hy.t hc9
          refine aw_iload (pc := 62) hX 6 rfl dX13_feed_62 ?_
          refine aw_bipush (pc := 64) hX 16 (by decide) dX13_feed_64 ?_
          refine aw_ic_ge (pc := 66) hX 74 (by decide) dX13_feed_66 (fun hc9 => ?_) (fun hc9 => ?_)
          · have hy := hy.t hc9
            refine aw_iload (pc := 74) hX 5 rfl dX13_feed_74 ?_
            exact w_X13_feed_76 hX hN hr _ _ _ _ _ _ hc he0 h v6 v5 hy
          · have hy := hy.f hc9
            refine aw_iload (pc := 69) hX 4 rfl dX13_feed_69 ?_
            refine aw_goto (pc := 71) hX 76 (by decide) dX13_feed_71 ?_
            exact w_X13_feed_76 hX hN hr _ _ _ _ _ _ hc he0 h v6 v4 hy
        · have hy := hy.f hc9
          refine aw_iloadn (pc := 58) hX 3 rfl dX13_feed_58 ?_
          refine aw_goto (pc := 59) hX 76 (by decide) dX13_feed_59 ?_
          exact w_X13_feed_76 hX hN hr _ _ _ _ _ _ hc he0 h v6 v3 hy
      · have hy := hy.f hc9
        refine aw_iloadn (pc := 47) hX 2 rfl dX13_feed_47 ?_
        refine aw_goto (pc := 48) hX 76 (by decide) dX13_feed_48 ?_
        exact w_X13_feed_76 hX hN hr _ _ _ _ _ _ hc he0 h v6 v2 hy
    · have hy := hy.f hc9
      refine aw_iloadn (pc := 36) hX 1 rfl dX13_feed_36 ?_
      refine aw_goto (pc := 37) hX 76 (by decide) dX13_feed_37 ?_
      exact w_X13_feed_76 hX hN hr _ _ _ _ _ _ hc he0 h v6 v1 hy
theorem wl_X13_feed_23 {G : GE} {X : CX} {l : Launch} (hX : Ok G X cX13_feed RX13) (hN : xn X = 8) {P0 : (Int32 × Mem) → Prop} (hr : Rt G X l yX13_feed (some .int) rm_X13_feed (pmI P0)) (v0 : Nat) (v1 : Int32) (v2 : Int32) (v3 : Int32) (v4 : Int32) (v5 : Int32) {P : (Mem) → Prop} (he0 : ∀ e, P e → AW G X 117 [(0, vR v0)] [] e 0 0) : ∀ (n : Nat) (s : Int32 × Mem), OK (iter (fun (s : Int32 × Mem) => b_X13_feed_23 s.2 v0 v1 v2 v3 v4 v5 s.1) n s) P → AW G X 23 [(0, vR v0), (1, vI v1), (2, vI v2), (3, vI v3), (4, vI v4), (5, vI v5), (6, vI s.1)] [] s.2 0 0 := by
  intro n
  induction n with
  | zero => exact fun s hy => hy.it0.elim
  | succ n ih =>
    intro s hy
    exact wb_X13_feed_23 hX hN hr v0 v1 v2 v3 v4 v5 (fun s hs => ih s hs) (fun e hs => he0 e hs) s.2 s.1 hy.it
def f_X13_feed (h : Mem) (v0 : Nat) (v1 : Int32) (v2 : Int32) (v3 : Int32) (v4 : Int32) (v5 : Int32) : Option (Int32 × Mem) :=
  (ck h v0 11).bind fun _ => (pI h v0 0 11 0).bind fun h1 => (gI h1 v0 6 11).bind fun x2 => (if (x2 + 20) ≤ 1000 then (iter (fun (s : Int32 × Mem) => b_X13_feed_23 s.2 v0 v1 v2 v3 v4 v5 s.1) FU (0, h1)).bind (fun q9 => (gI q9 v0 6 11).bind fun x10 => some (x10, q9)) else some ((-1), h1))
set_option maxRecDepth 100000 in
set_option maxHeartbeats 4000000 in
theorem w_X13_feed {G : GE} {X : CX} {l : Launch} (hX : Ok G X cX13_feed RX13) (hN : xn X = 8) {P : (Int32 × Mem) → Prop} (hr : Rt G X l yX13_feed (some .int) rm_X13_feed (pmI P)) (h : Mem) (v0 : Nat) (v1 : Int32) (v2 : Int32) (v3 : Int32) (v4 : Int32) (v5 : Int32) (hy : OK (f_X13_feed h v0 v1 v2 v3 v4 v5) P) : AW G X 0 [(0, vR v0), (1, vI v1), (2, vI v2), (3, vI v3), (4, vI v4), (5, vI v5)] [] h 0 0 := by
  unfold f_X13_feed at hy
  have hkd := hy.kd
  have hy := hy.kb
  refine aw_aloadn (pc := 0) hX 0 rfl dX13_feed_0 ?_
  refine aw_iconst (pc := 1) hX 0 (by decide) dX13_feed_1 ?_
  refine aw_pI (pc := 2) hX hy fl_X13_51 rfl (Or.inl rfl) dX13_feed_2 (fun h1 hy => ?_)
  refine aw_aloadn (pc := 5) hX 0 rfl dX13_feed_5 ?_
  refine aw_gI (pc := 6) hX hy fl_X13_331 (fun _ _ => rfl) dX13_feed_6 (fun x2 hy => ?_)
  refine aw_bipush (pc := 9) hX 20 (by decide) dX13_feed_9 ?_
  refine aw_iadd (pc := 11) hX dX13_feed_11 ?_
  refine aw_sipush (pc := 12) hX 1000 (by decide) dX13_feed_12 ?_
  refine aw_ic_le (pc := 15) hX 20 (by decide) dX13_feed_15 (fun hc9 => ?_) (fun hc9 => ?_)
  · have hy := hy.t hc9
    refine aw_iconst (pc := 20) hX 0 (by decide) dX13_feed_20 ?_
    refine aw_istore (pc := 21) hX [(6, vI 0), (0, vR v0), (1, vI v1), (2, vI v2), (3, vI v3), (4, vI v4), (5, vI v5)] rfl (lt_n hN (by decide)) dX13_feed_21 ?_
    refine AW.sub [1, 2, 3, 4, 5, 6, 0] rfl ?_
    refine wl_X13_feed_23 hX hN hr v0 v1 v2 v3 v4 v5 ?_ FU (0, h1) hy.bd
    · intro q9 hy
      refine aw_aloadn (pc := 117) hX 0 rfl dX13_feed_117 ?_
      refine aw_gI (pc := 118) hX hy fl_X13_331 (fun _ _ => rfl) dX13_feed_118 (fun x10 hy => ?_)
      exact aw_iret (pc := 121) hX hr (by decide) (by decide) dX13_feed_121 ⟨_, rfl, hy.s⟩
  · have hy := hy.f hc9
    refine aw_iconst (pc := 18) hX (-1) (by decide) dX13_feed_18 ?_
    exact aw_iret (pc := 19) hX hr (by decide) (by decide) dX13_feed_19 ⟨_, rfl, hy.s⟩
theorem con_X13_feed (l : Launch) (G : GE) (h : Mem) (v0 : Nat) (v1 : Int32) (v2 : Int32) (v3 : Int32) (v4 : Int32) (v5 : Int32) {P : (Int32 × Mem) → Prop} (hy : OK (f_X13_feed h v0 v1 v2 v3 v4 v5) P) : Con l G yX13_feed cX13_feed 8 (some .int) rm_X13_feed [vR v0, vI v1, vI v2, vI v3, vI v4, vI v5] h (pmI P) := Con.of (by decide) (Nat.le_of_ble_eq_true rfl) (fun X hX hr hN => w_X13_feed hX hN hr h v0 v1 v2 v3 v4 v5 hy)
