/-! X11_reachIf -/
theorem dX11_reachIf_0 : decode cX11_reachIf 0 = .ok (.aload_n 0, 1) := by decide +kernel
theorem dX11_reachIf_1 : decode cX11_reachIf 1 = .ok (.iload_n 1, 1) := by decide +kernel
theorem dX11_reachIf_2 : decode cX11_reachIf 2 = .ok (.invokevirtual 169, 3) := by decide +kernel
theorem dX11_reachIf_5 : decode cX11_reachIf 5 = .ok (.ifCond .eq 17, 3) := by decide +kernel
theorem dX11_reachIf_8 : decode cX11_reachIf 8 = .ok (.aload_n 0, 1) := by decide +kernel
theorem dX11_reachIf_9 : decode cX11_reachIf 9 = .ok (.aload_n 0, 1) := by decide +kernel
theorem dX11_reachIf_10 : decode cX11_reachIf 10 = .ok (.iload_n 1, 1) := by decide +kernel
theorem dX11_reachIf_11 : decode cX11_reachIf 11 = .ok (.iconst 0, 1) := by decide +kernel
theorem dX11_reachIf_12 : decode cX11_reachIf 12 = .ok (.iload_n 2, 1) := by decide +kernel
theorem dX11_reachIf_13 : decode cX11_reachIf 13 = .ok (.invokevirtual 215, 3) := by decide +kernel
theorem dX11_reachIf_16 : decode cX11_reachIf 16 = .ok (.invokevirtual 117, 3) := by decide +kernel
theorem dX11_reachIf_19 : decode cX11_reachIf 19 = .ok (.goto 8, 3) := by decide +kernel
theorem dX11_reachIf_22 : decode cX11_reachIf 22 = .ok (.aload_n 0, 1) := by decide +kernel
theorem dX11_reachIf_23 : decode cX11_reachIf 23 = .ok (.iconst 1, 1) := by decide +kernel
theorem dX11_reachIf_24 : decode cX11_reachIf 24 = .ok (.invokevirtual 84, 3) := by decide +kernel
theorem dX11_reachIf_27 : decode cX11_reachIf 27 = .ok (.ireturn, 1) := by decide +kernel
abbrev rm_X11_reachIf : Room := { frames := 3, cells := 0, slots := 0, locals := 74 }
def f_X11_reachIf (h : Mem) (v0 : Nat) (v1 : Int32) (v2 : Int32) : Option (Int32 × Mem) :=
  (ck h v0 9).bind fun _ => (f_X11_isPerson h v0 v1).bind fun x1 => (if x1 = 0 then (f_X11_refuse h v0 1).bind fun q4 => some (q4.1, q4.2) else (f_X11_reachBy h v0 v1 0 v2).bind fun x5 => (f_X11_answer h v0 x5).bind fun q8 => some (q8.1, q8.2))
set_option maxRecDepth 100000 in
set_option maxHeartbeats 4000000 in
theorem w_X11_reachIf {G : GE} {X : CX} {l : Launch} (hX : Ok G X cX11_reachIf RX11) (hN : xn X = 3) {P : (Int32 × Mem) → Prop} (hr : Rt G X l yX11_reachIf (some .int) rm_X11_reachIf (pmI P)) (h : Mem) (v0 : Nat) (v1 : Int32) (v2 : Int32) (hy : OK (f_X11_reachIf h v0 v1 v2) P) : AW G X 0 [(0, vR v0), (1, vI v1), (2, vI v2)] [] h 0 0 := by
  unfold f_X11_reachIf at hy
  have hkd := hy.kd
  have hy := hy.kb
  refine aw_aloadn (pc := 0) hX 0 rfl dX11_reachIf_0 ?_
  refine aw_iloadn (pc := 1) hX 1 rfl dX11_reachIf_1 ?_
  refine aw_callV (pc := 2) (st := []) (a := v0) hX [vI v1] (con_X11_isPerson _ G _ v0 v1 hy.bd) mc_X11_isPerson ml_X11_169 im_X11_isPerson se_X11_isPerson (by decide) hy.bd.kd rfl (rm_of hr (by decide)) (Nat.le_of_ble_eq_true rfl) rfl dX11_reachIf_2 (kpI rfl rfl (fun x1 hy => ?_))
  refine aw_if_eq (pc := 5) hX 22 (by decide) dX11_reachIf_5 (fun hc9 => ?_) (fun hc9 => ?_)
  · have hy := hy.t hc9
    refine aw_aloadn (pc := 22) hX 0 rfl dX11_reachIf_22 ?_
    refine aw_iconst (pc := 23) hX 1 (by decide) dX11_reachIf_23 ?_
    refine aw_callV (pc := 24) (st := []) (a := v0) hX [vI 1] (con_X11_refuse _ G _ v0 1 hy.bd) mc_X11_refuse ml_X11_84 im_X11_refuse se_X11_refuse (by decide) hy.bd.kd rfl (rm_of hr (by decide)) (Nat.le_of_ble_eq_true rfl) rfl dX11_reachIf_24 (kmI rfl rfl (fun q4 hy => ?_))
    exact aw_iret (pc := 27) hX hr (by decide) (by decide) dX11_reachIf_27 ⟨_, rfl, hy.s⟩
  · have hy := hy.f hc9
    refine aw_aloadn (pc := 8) hX 0 rfl dX11_reachIf_8 ?_
    refine aw_aloadn (pc := 9) hX 0 rfl dX11_reachIf_9 ?_
    refine aw_iloadn (pc := 10) hX 1 rfl dX11_reachIf_10 ?_
    refine aw_iconst (pc := 11) hX 0 (by decide) dX11_reachIf_11 ?_
    refine aw_iloadn (pc := 12) hX 2 rfl dX11_reachIf_12 ?_
    refine aw_callV (pc := 13) (st := [vR v0]) (a := v0) hX [vI v1, vI 0, vI v2] (con_X11_reachBy _ G _ v0 v1 0 v2 hy.bd) mc_X11_reachBy ml_X11_215 im_X11_reachBy se_X11_reachBy (by decide) hy.bd.kd rfl (rm_of hr (by decide)) (Nat.le_of_ble_eq_true rfl) rfl dX11_reachIf_13 (kpI rfl rfl (fun x5 hy => ?_))
    refine aw_callV (pc := 16) (st := []) (a := v0) hX [vI x5] (con_X11_answer _ G _ v0 x5 hy.bd) mc_X11_answer ml_X11_117 im_X11_answer se_X11_answer (by decide) hy.bd.kd rfl (rm_of hr (by decide)) (Nat.le_of_ble_eq_true rfl) rfl dX11_reachIf_16 (kmI rfl rfl (fun q8 hy => ?_))
    refine aw_goto (pc := 19) hX 27 (by decide) dX11_reachIf_19 ?_
    exact aw_iret (pc := 27) hX hr (by decide) (by decide) dX11_reachIf_27 ⟨_, rfl, hy.s⟩
theorem con_X11_reachIf (l : Launch) (G : GE) (h : Mem) (v0 : Nat) (v1 : Int32) (v2 : Int32) {P : (Int32 × Mem) → Prop} (hy : OK (f_X11_reachIf h v0 v1 v2) P) : Con l G yX11_reachIf cX11_reachIf 3 (some .int) rm_X11_reachIf [vR v0, vI v1, vI v2] h (pmI P) := Con.of (by decide) (Nat.le_of_ble_eq_true rfl) (fun X hX hr hN => w_X11_reachIf hX hN hr h v0 v1 v2 hy)
/-! X11_bestTune -/
theorem dX11_bestTune_0 : decode cX11_bestTune 0 = .ok (.aload_n 0, 1) := by decide +kernel
theorem dX11_bestTune_1 : decode cX11_bestTune 1 = .ok (.iload_n 1, 1) := by decide +kernel
theorem dX11_bestTune_2 : decode cX11_bestTune 2 = .ok (.invokevirtual 169, 3) := by decide +kernel
theorem dX11_bestTune_5 : decode cX11_bestTune 5 = .ok (.ifCond .ne 9, 3) := by decide +kernel
theorem dX11_bestTune_8 : decode cX11_bestTune 8 = .ok (.aload_n 0, 1) := by decide +kernel
theorem dX11_bestTune_9 : decode cX11_bestTune 9 = .ok (.iconst 1, 1) := by decide +kernel
theorem dX11_bestTune_10 : decode cX11_bestTune 10 = .ok (.invokevirtual 84, 3) := by decide +kernel
theorem dX11_bestTune_13 : decode cX11_bestTune 13 = .ok (.ireturn, 1) := by decide +kernel
theorem dX11_bestTune_14 : decode cX11_bestTune 14 = .ok (.bipush (-2), 2) := by decide +kernel
theorem dX11_bestTune_16 : decode cX11_bestTune 16 = .ok (.istore_n 2, 1) := by decide +kernel
theorem dX11_bestTune_17 : decode cX11_bestTune 17 = .ok (.aload_n 0, 1) := by decide +kernel
theorem dX11_bestTune_18 : decode cX11_bestTune 18 = .ok (.iload_n 1, 1) := by decide +kernel
theorem dX11_bestTune_19 : decode cX11_bestTune 19 = .ok (.iconst 0, 1) := by decide +kernel
theorem dX11_bestTune_20 : decode cX11_bestTune 20 = .ok (.aload_n 0, 1) := by decide +kernel
theorem dX11_bestTune_21 : decode cX11_bestTune 21 = .ok (.getfield 26, 3) := by decide +kernel
theorem dX11_bestTune_24 : decode cX11_bestTune 24 = .ok (.invokevirtual 135, 3) := by decide +kernel
theorem dX11_bestTune_27 : decode cX11_bestTune 27 = .ok (.invokevirtual 215, 3) := by decide +kernel
theorem dX11_bestTune_30 : decode cX11_bestTune 30 = .ok (.invokestatic 219, 3) := by decide +kernel
theorem dX11_bestTune_33 : decode cX11_bestTune 33 = .ok (.istore_n 3, 1) := by decide +kernel
theorem dX11_bestTune_34 : decode cX11_bestTune 34 = .ok (.iconst 0, 1) := by decide +kernel
theorem dX11_bestTune_35 : decode cX11_bestTune 35 = .ok (.istore 4, 2) := by decide +kernel
theorem dX11_bestTune_37 : decode cX11_bestTune 37 = .ok (.iload 4, 2) := by decide +kernel
theorem dX11_bestTune_39 : decode cX11_bestTune 39 = .ok (.aload_n 0, 1) := by decide +kernel
theorem dX11_bestTune_40 : decode cX11_bestTune 40 = .ok (.getfield 10, 3) := by decide +kernel
theorem dX11_bestTune_43 : decode cX11_bestTune 43 = .ok (.getfield 224, 3) := by decide +kernel
theorem dX11_bestTune_46 : decode cX11_bestTune 46 = .ok (.if_icmp .ge 44, 3) := by decide +kernel
theorem dX11_bestTune_49 : decode cX11_bestTune 49 = .ok (.aload_n 0, 1) := by decide +kernel
theorem dX11_bestTune_50 : decode cX11_bestTune 50 = .ok (.iload_n 1, 1) := by decide +kernel
theorem dX11_bestTune_51 : decode cX11_bestTune 51 = .ok (.iload 4, 2) := by decide +kernel
theorem dX11_bestTune_53 : decode cX11_bestTune 53 = .ok (.iconst 0, 1) := by decide +kernel
theorem dX11_bestTune_54 : decode cX11_bestTune 54 = .ok (.invokestatic 178, 3) := by decide +kernel
theorem dX11_bestTune_57 : decode cX11_bestTune 57 = .ok (.aload_n 0, 1) := by decide +kernel
theorem dX11_bestTune_58 : decode cX11_bestTune 58 = .ok (.getfield 26, 3) := by decide +kernel
theorem dX11_bestTune_61 : decode cX11_bestTune 61 = .ok (.invokevirtual 135, 3) := by decide +kernel
theorem dX11_bestTune_64 : decode cX11_bestTune 64 = .ok (.invokevirtual 215, 3) := by decide +kernel
theorem dX11_bestTune_67 : decode cX11_bestTune 67 = .ok (.invokestatic 219, 3) := by decide +kernel
theorem dX11_bestTune_70 : decode cX11_bestTune 70 = .ok (.istore 5, 2) := by decide +kernel
theorem dX11_bestTune_72 : decode cX11_bestTune 72 = .ok (.iload 5, 2) := by decide +kernel
theorem dX11_bestTune_74 : decode cX11_bestTune 74 = .ok (.iload_n 3, 1) := by decide +kernel
theorem dX11_bestTune_75 : decode cX11_bestTune 75 = .ok (.if_icmp .le 9, 3) := by decide +kernel
theorem dX11_bestTune_78 : decode cX11_bestTune 78 = .ok (.iload 5, 2) := by decide +kernel
theorem dX11_bestTune_80 : decode cX11_bestTune 80 = .ok (.istore_n 3, 1) := by decide +kernel
theorem dX11_bestTune_81 : decode cX11_bestTune 81 = .ok (.iload 4, 2) := by decide +kernel
theorem dX11_bestTune_83 : decode cX11_bestTune 83 = .ok (.istore_n 2, 1) := by decide +kernel
theorem dX11_bestTune_84 : decode cX11_bestTune 84 = .ok (.iinc 4 1, 3) := by decide +kernel
theorem dX11_bestTune_87 : decode cX11_bestTune 87 = .ok (.goto (-50), 3) := by decide +kernel
theorem dX11_bestTune_90 : decode cX11_bestTune 90 = .ok (.aload_n 0, 1) := by decide +kernel
theorem dX11_bestTune_91 : decode cX11_bestTune 91 = .ok (.iload_n 2, 1) := by decide +kernel
theorem dX11_bestTune_92 : decode cX11_bestTune 92 = .ok (.invokevirtual 117, 3) := by decide +kernel
theorem dX11_bestTune_95 : decode cX11_bestTune 95 = .ok (.ireturn, 1) := by decide +kernel
abbrev rm_X11_bestTune : Room := { frames := 3, cells := 0, slots := 0, locals := 74 }
def f_X11_bestTune_84 (h : Mem) (v0 : Nat) (v1 : Int32) (v2 : Int32) (v3 : Int32) (v4 : Int32) : Option ((Int32 × Int32 × Int32) ⊕ Int32) :=
  some (.inl (v2, v3, (v4 + 1)))
set_option maxRecDepth 100000 in
set_option maxHeartbeats 4000000 in
theorem w_X11_bestTune_84 {G : GE} {X : CX} {l : Launch} (hX : Ok G X cX11_bestTune RX11) (hN : xn X = 6) {P0 : (Int32 × Mem) → Prop} (hr : Rt G X l yX11_bestTune (some .int) rm_X11_bestTune (pmI P0)) (h : Mem)  (v0 : Nat) (v1 : Int32) {P : ((Int32 × Int32 × Int32) ⊕ Int32) → Prop} (hc : ∀ s, P (.inl s) → AW G X 37 [(0, vR v0), (1, vI v1), (2, vI s.1), (3, vI s.2.1), (4, vI s.2.2)] [] h 0 0) (he0 : ∀ e, P (.inr e) → AW G X 90 [(0, vR v0), (2, vI e)] [] h 0 0) (v2 : Int32) (v3 : Int32) (v4 : Int32) (hy : OK (f_X11_bestTune_84 h v0 v1 v2 v3 v4) P) : AW G X 84 [(0, vR v0), (1, vI v1), (2, vI v2), (3, vI v3), (4, vI v4)] [] h 0 0 := by
  unfold f_X11_bestTune_84 at hy
  refine aw_iinc (pc := 84) hX 1 (by decide) 4 rfl [(4, vI (v4 + 1)), (0, vR v0), (1, vI v1), (2, vI v2), (3, vI v3)] rfl (lt_n hN (by decide)) dX11_bestTune_84 ?_
  refine aw_goto (pc := 87) hX 37 (by decide) dX11_bestTune_87 ?_
  refine AW.sub [1, 2, 3, 4, 0] rfl ?_
  exact hc (v2, v3, (v4 + 1)) hy.s
def b_X11_bestTune_37 (h : Mem) (v0 : Nat) (v1 : Int32) (v2 : Int32) (v3 : Int32) (v4 : Int32) : Option ((Int32 × Int32 × Int32) ⊕ Int32) :=
  (gR h v0 1 9).bind fun r6 => (gI h r6 1 4).bind fun x7 => (if x7 ≤ v4 then some (.inr v2) else (f_X1_voice h v4 0).bind fun x8 => (gR h v0 3 9).bind fun r9 => (f_X2_rains h r9).bind fun x10 => (f_X11_reachBy h v0 v1 x8 x10).bind fun x11 => (f_J6_bitCount_0f7a4 h x11).bind fun x12 => (if x12 ≤ v3 then f_X11_bestTune_84 h v0 v1 v2 v3 v4 else f_X11_bestTune_84 h v0 v1 v4 x12 v4))
set_option maxRecDepth 100000 in
set_option maxHeartbeats 4000000 in
theorem wb_X11_bestTune_37 {G : GE} {X : CX} {l : Launch} (hX : Ok G X cX11_bestTune RX11) (hN : xn X = 6) {P0 : (Int32 × Mem) → Prop} (hr : Rt G X l yX11_bestTune (some .int) rm_X11_bestTune (pmI P0)) (h : Mem)  (v0 : Nat) (v1 : Int32) {P : ((Int32 × Int32 × Int32) ⊕ Int32) → Prop} (hc : ∀ s, P (.inl s) → AW G X 37 [(0, vR v0), (1, vI v1), (2, vI s.1), (3, vI s.2.1), (4, vI s.2.2)] [] h 0 0) (he0 : ∀ e, P (.inr e) → AW G X 90 [(0, vR v0), (2, vI e)] [] h 0 0) (v2 : Int32) (v3 : Int32) (v4 : Int32) (hy : OK (b_X11_bestTune_37 h v0 v1 v2 v3 v4) P) : AW G X 37 [(0, vR v0), (1, vI v1), (2, vI v2), (3, vI v3), (4, vI v4)] [] h 0 0 := by
  unfold b_X11_bestTune_37 at hy
  refine aw_iload (pc := 37) hX 4 rfl dX11_bestTune_37 ?_
  refine aw_aloadn (pc := 39) hX 0 rfl dX11_bestTune_39 ?_
  refine aw_gR (pc := 40) hX hy fl_X11_10 (fun _ _ => rfl) dX11_bestTune_40 (fun r6 hy => ?_)
  refine aw_gI (pc := 43) hX hy fl_X11_224 (fun _ _ => rfl) dX11_bestTune_43 (fun x7 hy => ?_)
  refine aw_ic_ge (pc := 46) hX 90 (by decide) dX11_bestTune_46 (fun hc9 => ?_) (fun hc9 => ?_)
  · have hy := hy.t hc9
    refine AW.sub [0, 2] rfl ?_
    exact he0 v2 hy.s
  · have hy := hy.f hc9
    refine aw_aloadn (pc := 49) hX 0 rfl dX11_bestTune_49 ?_
    refine aw_iloadn (pc := 50) hX 1 rfl dX11_bestTune_50 ?_
    refine aw_iload (pc := 51) hX 4 rfl dX11_bestTune_51 ?_
    refine aw_iconst (pc := 53) hX 0 (by decide) dX11_bestTune_53 ?_
    refine aw_callS (pc := 54) (st := [vI v1, vR v0]) hX [vI v4, vI 0] (con_X1_voice _ G _ v4 0 hy.bd) mc_X1_voice ml_X11_178 st_X1_voice rfl (rm_of hr (by decide)) (Nat.le_of_ble_eq_true rfl) rfl dX11_bestTune_54 (kpI rfl rfl (fun x8 hy => ?_))
    refine aw_aloadn (pc := 57) hX 0 rfl dX11_bestTune_57 ?_
    refine aw_gR (pc := 58) hX hy fl_X11_26 (fun _ _ => rfl) dX11_bestTune_58 (fun r9 hy => ?_)
    refine aw_callV (pc := 61) (st := [vI x8, vI v1, vR v0]) (a := r9) hX [] (con_X2_rains _ G _ r9 hy.bd) mc_X2_rains ml_X11_135 im_X2_rains se_X2_rains (by decide) hy.bd.kd rfl (rm_of hr (by decide)) (Nat.le_of_ble_eq_true rfl) rfl dX11_bestTune_61 (kpI rfl rfl (fun x10 hy => ?_))
    refine aw_callV (pc := 64) (st := []) (a := v0) hX [vI v1, vI x8, vI x10] (con_X11_reachBy _ G _ v0 v1 x8 x10 hy.bd) mc_X11_reachBy ml_X11_215 im_X11_reachBy se_X11_reachBy (by decide) hy.bd.kd rfl (rm_of hr (by decide)) (Nat.le_of_ble_eq_true rfl) rfl dX11_bestTune_64 (kpI rfl rfl (fun x11 hy => ?_))
    refine aw_callS (pc := 67) (st := []) hX [vI x11] (con_J6_bitCount_0f7a4 _ G _ x11 hy.bd) mc_J6_bitCount_0f7a4 ml_X11_219 st_J6_bitCount_0f7a4 rfl (rm_of hr (by decide)) (Nat.le_of_ble_eq_true rfl) rfl dX11_bestTune_67 (kpI rfl rfl (fun x12 hy => ?_))
    refine aw_istore (pc := 70) hX [(5, vI x12), (0, vR v0), (1, vI v1), (2, vI v2), (3, vI v3), (4, vI v4)] rfl (lt_n hN (by decide)) dX11_bestTune_70 ?_
    refine aw_iload (pc := 72) hX 0 rfl dX11_bestTune_72 ?_
    refine aw_iloadn (pc := 74) hX 4 rfl dX11_bestTune_74 ?_
    refine aw_ic_le (pc := 75) hX 84 (by decide) dX11_bestTune_75 (fun hc9 => ?_) (fun hc9 => ?_)
    · have hy := hy.t hc9
      refine AW.sub [1, 2, 3, 4, 5] rfl ?_
      exact w_X11_bestTune_84 hX hN hr _ _ _ hc he0 v2 v3 v4 hy
    · have hy := hy.f hc9
      refine aw_iload (pc := 78) hX 0 rfl dX11_bestTune_78 ?_
      refine aw_istoren (pc := 80) hX [(3, vI x12), (5, vI x12), (0, vR v0), (1, vI v1), (2, vI v2), (4, vI v4)] rfl (lt_n hN (by decide)) dX11_bestTune_80 ?_
      refine aw_iload (pc := 81) hX 5 rfl dX11_bestTune_81 ?_
      refine aw_istoren (pc := 83) hX [(2, vI v4), (3, vI x12), (5, vI x12), (0, vR v0), (1, vI v1), (4, vI v4)] rfl (lt_n hN (by decide)) dX11_bestTune_83 ?_
      refine AW.sub [3, 4, 0, 1, 5] rfl ?_
      exact w_X11_bestTune_84 hX hN hr _ _ _ hc he0 v4 x12 v4 hy
theorem wl_X11_bestTune_37 {G : GE} {X : CX} {l : Launch} (hX : Ok G X cX11_bestTune RX11) (hN : xn X = 6) {P0 : (Int32 × Mem) → Prop} (hr : Rt G X l yX11_bestTune (some .int) rm_X11_bestTune (pmI P0)) (h : Mem) (v0 : Nat) (v1 : Int32) {P : (Int32) → Prop} (he0 : ∀ e, P e → AW G X 90 [(0, vR v0), (2, vI e)] [] h 0 0) : ∀ (n : Nat) (s : Int32 × Int32 × Int32), OK (iter (fun (s : Int32 × Int32 × Int32) => b_X11_bestTune_37 h v0 v1 s.1 s.2.1 s.2.2) n s) P → AW G X 37 [(0, vR v0), (1, vI v1), (2, vI s.1), (3, vI s.2.1), (4, vI s.2.2)] [] h 0 0 := by
  intro n
  induction n with
  | zero => exact fun s hy => hy.it0.elim
  | succ n ih =>
    intro s hy
    exact wb_X11_bestTune_37 hX hN hr h v0 v1 (fun s hs => ih s hs) (fun e hs => he0 e hs) s.1 s.2.1 s.2.2 hy.it
def f_X11_bestTune (h : Mem) (v0 : Nat) (v1 : Int32) : Option (Int32 × Mem) :=
  (ck h v0 9).bind fun _ => (f_X11_isPerson h v0 v1).bind fun x1 => (if x1 = 0 then (f_X11_refuse h v0 1).bind fun q19 => some (q19.1, q19.2) else (gR h v0 3 9).bind fun r2 => (f_X2_rains h r2).bind fun x3 => (f_X11_reachBy h v0 v1 0 x3).bind fun x4 => (f_J6_bitCount_0f7a4 h x4).bind fun x5 => (iter (fun (s : Int32 × Int32 × Int32) => b_X11_bestTune_37 h v0 v1 s.1 s.2.1 s.2.2) FU ((-2), x5, 0)).bind (fun q13 => (f_X11_answer h v0 q13).bind fun q16 => some (q16.1, q16.2)))
set_option maxRecDepth 100000 in
set_option maxHeartbeats 4000000 in
theorem w_X11_bestTune {G : GE} {X : CX} {l : Launch} (hX : Ok G X cX11_bestTune RX11) (hN : xn X = 6) {P : (Int32 × Mem) → Prop} (hr : Rt G X l yX11_bestTune (some .int) rm_X11_bestTune (pmI P)) (h : Mem) (v0 : Nat) (v1 : Int32) (hy : OK (f_X11_bestTune h v0 v1) P) : AW G X 0 [(0, vR v0), (1, vI v1)] [] h 0 0 := by
  unfold f_X11_bestTune at hy
  have hkd := hy.kd
  have hy := hy.kb
  refine aw_aloadn (pc := 0) hX 0 rfl dX11_bestTune_0 ?_
  refine aw_iloadn (pc := 1) hX 1 rfl dX11_bestTune_1 ?_
  refine aw_callV (pc := 2) (st := []) (a := v0) hX [vI v1] (con_X11_isPerson _ G _ v0 v1 hy.bd) mc_X11_isPerson ml_X11_169 im_X11_isPerson se_X11_isPerson (by decide) hy.bd.kd rfl (rm_of hr (by decide)) (Nat.le_of_ble_eq_true rfl) rfl dX11_bestTune_2 (kpI rfl rfl (fun x1 hy => ?_))
  refine aw_if_ne (pc := 5) hX 14 (by decide) dX11_bestTune_5 (fun hc9 => ?_) (fun hc9 => ?_)
  · have hy := hy.f hc9
    refine aw_bipush (pc := 14) hX (-2) (by decide) dX11_bestTune_14 ?_
    refine aw_istoren (pc := 16) hX [(2, vI (-2)), (0, vR v0), (1, vI v1)] rfl (lt_n hN (by decide)) dX11_bestTune_16 ?_
    refine aw_aloadn (pc := 17) hX 1 rfl dX11_bestTune_17 ?_
    refine aw_iloadn (pc := 18) hX 2 rfl dX11_bestTune_18 ?_
    refine aw_iconst (pc := 19) hX 0 (by decide) dX11_bestTune_19 ?_
    refine aw_aloadn (pc := 20) hX 1 rfl dX11_bestTune_20 ?_
    refine aw_gR (pc := 21) hX hy fl_X11_26 (fun _ _ => rfl) dX11_bestTune_21 (fun r2 hy => ?_)
    refine aw_callV (pc := 24) (st := [vI 0, vI v1, vR v0]) (a := r2) hX [] (con_X2_rains _ G _ r2 hy.bd) mc_X2_rains ml_X11_135 im_X2_rains se_X2_rains (by decide) hy.bd.kd rfl (rm_of hr (by decide)) (Nat.le_of_ble_eq_true rfl) rfl dX11_bestTune_24 (kpI rfl rfl (fun x3 hy => ?_))
    refine aw_callV (pc := 27) (st := []) (a := v0) hX [vI v1, vI 0, vI x3] (con_X11_reachBy _ G _ v0 v1 0 x3 hy.bd) mc_X11_reachBy ml_X11_215 im_X11_reachBy se_X11_reachBy (by decide) hy.bd.kd rfl (rm_of hr (by decide)) (Nat.le_of_ble_eq_true rfl) rfl dX11_bestTune_27 (kpI rfl rfl (fun x4 hy => ?_))
    refine aw_callS (pc := 30) (st := []) hX [vI x4] (con_J6_bitCount_0f7a4 _ G _ x4 hy.bd) mc_J6_bitCount_0f7a4 ml_X11_219 st_J6_bitCount_0f7a4 rfl (rm_of hr (by decide)) (Nat.le_of_ble_eq_true rfl) rfl dX11_bestTune_30 (kpI rfl rfl (fun x5 hy => ?_))
    refine aw_istoren (pc := 33) hX [(3, vI x5), (2, vI (-2)), (0, vR v0), (1, vI v1)] rfl (lt_n hN (by decide)) dX11_bestTune_33 ?_
    refine aw_iconst (pc := 34) hX 0 (by decide) dX11_bestTune_34 ?_
    refine aw_istore (pc := 35) hX [(4, vI 0), (3, vI x5), (2, vI (-2)), (0, vR v0), (1, vI v1)] rfl (lt_n hN (by decide)) dX11_bestTune_35 ?_
    refine AW.sub [3, 4, 2, 1, 0] rfl ?_
    refine wl_X11_bestTune_37 hX hN hr _ v0 v1 ?_ FU ((-2), x5, 0) hy.bd
    · intro q13 hy
      refine aw_aloadn (pc := 90) hX 0 rfl dX11_bestTune_90 ?_
      refine aw_iloadn (pc := 91) hX 1 rfl dX11_bestTune_91 ?_
      refine aw_callV (pc := 92) (st := []) (a := v0) hX [vI q13] (con_X11_answer _ G _ v0 q13 hy.bd) mc_X11_answer ml_X11_117 im_X11_answer se_X11_answer (by decide) hy.bd.kd rfl (rm_of hr (by decide)) (Nat.le_of_ble_eq_true rfl) rfl dX11_bestTune_92 (kmI rfl rfl (fun q16 hy => ?_))
      exact aw_iret (pc := 95) hX hr (by decide) (by decide) dX11_bestTune_95 ⟨_, rfl, hy.s⟩
  · have hy := hy.t hc9
    refine aw_aloadn (pc := 8) hX 0 rfl dX11_bestTune_8 ?_
    refine aw_iconst (pc := 9) hX 1 (by decide) dX11_bestTune_9 ?_
    refine aw_callV (pc := 10) (st := []) (a := v0) hX [vI 1] (con_X11_refuse _ G _ v0 1 hy.bd) mc_X11_refuse ml_X11_84 im_X11_refuse se_X11_refuse (by decide) hy.bd.kd rfl (rm_of hr (by decide)) (Nat.le_of_ble_eq_true rfl) rfl dX11_bestTune_10 (kmI rfl rfl (fun q19 hy => ?_))
    exact aw_iret (pc := 13) hX hr (by decide) (by decide) dX11_bestTune_13 ⟨_, rfl, hy.s⟩
theorem con_X11_bestTune (l : Launch) (G : GE) (h : Mem) (v0 : Nat) (v1 : Int32) {P : (Int32 × Mem) → Prop} (hy : OK (f_X11_bestTune h v0 v1) P) : Con l G yX11_bestTune cX11_bestTune 6 (some .int) rm_X11_bestTune [vR v0, vI v1] h (pmI P) := Con.of (by decide) (Nat.le_of_ble_eq_true rfl) (fun X hX hr hN => w_X11_bestTune hX hN hr h v0 v1 hy)
/-! X11_trip -/
theorem dX11_trip_0 : decode cX11_trip 0 = .ok (.aload_n 0, 1) := by decide +kernel
theorem dX11_trip_1 : decode cX11_trip 1 = .ok (.iload_n 1, 1) := by decide +kernel
theorem dX11_trip_2 : decode cX11_trip 2 = .ok (.invokevirtual 169, 3) := by decide +kernel
theorem dX11_trip_5 : decode cX11_trip 5 = .ok (.ifCond .eq 11, 3) := by decide +kernel
theorem dX11_trip_8 : decode cX11_trip 8 = .ok (.aload_n 0, 1) := by decide +kernel
theorem dX11_trip_9 : decode cX11_trip 9 = .ok (.iload_n 2, 1) := by decide +kernel
theorem dX11_trip_10 : decode cX11_trip 10 = .ok (.invokevirtual 200, 3) := by decide +kernel
theorem dX11_trip_13 : decode cX11_trip 13 = .ok (.ifCond .ne 9, 3) := by decide +kernel
theorem dX11_trip_16 : decode cX11_trip 16 = .ok (.aload_n 0, 1) := by decide +kernel
theorem dX11_trip_17 : decode cX11_trip 17 = .ok (.iconst 1, 1) := by decide +kernel
theorem dX11_trip_18 : decode cX11_trip 18 = .ok (.invokevirtual 84, 3) := by decide +kernel
theorem dX11_trip_21 : decode cX11_trip 21 = .ok (.ireturn, 1) := by decide +kernel
theorem dX11_trip_22 : decode cX11_trip 22 = .ok (.aload_n 0, 1) := by decide +kernel
theorem dX11_trip_23 : decode cX11_trip 23 = .ok (.getfield 40, 3) := by decide +kernel
theorem dX11_trip_26 : decode cX11_trip 26 = .ok (.aload_n 0, 1) := by decide +kernel
theorem dX11_trip_27 : decode cX11_trip 27 = .ok (.getfield 10, 3) := by decide +kernel
theorem dX11_trip_30 : decode cX11_trip 30 = .ok (.aload_n 0, 1) := by decide +kernel
theorem dX11_trip_31 : decode cX11_trip 31 = .ok (.getfield 26, 3) := by decide +kernel
theorem dX11_trip_34 : decode cX11_trip 34 = .ok (.iload_n 1, 1) := by decide +kernel
theorem dX11_trip_35 : decode cX11_trip 35 = .ok (.invokevirtual 227, 3) := by decide +kernel
theorem dX11_trip_38 : decode cX11_trip 38 = .ok (.aload_n 0, 1) := by decide +kernel
theorem dX11_trip_39 : decode cX11_trip 39 = .ok (.getfield 40, 3) := by decide +kernel
theorem dX11_trip_42 : decode cX11_trip 42 = .ok (.aload_n 0, 1) := by decide +kernel
theorem dX11_trip_43 : decode cX11_trip 43 = .ok (.getfield 10, 3) := by decide +kernel
theorem dX11_trip_46 : decode cX11_trip 46 = .ok (.iload_n 2, 1) := by decide +kernel
theorem dX11_trip_47 : decode cX11_trip 47 = .ok (.invokevirtual 231, 3) := by decide +kernel
theorem dX11_trip_50 : decode cX11_trip 50 = .ok (.istore_n 3, 1) := by decide +kernel
theorem dX11_trip_51 : decode cX11_trip 51 = .ok (.aload_n 0, 1) := by decide +kernel
theorem dX11_trip_52 : decode cX11_trip 52 = .ok (.iload_n 3, 1) := by decide +kernel
theorem dX11_trip_53 : decode cX11_trip 53 = .ok (.ifCond .ge 8, 3) := by decide +kernel
theorem dX11_trip_56 : decode cX11_trip 56 = .ok (.bipush (-2), 2) := by decide +kernel
theorem dX11_trip_58 : decode cX11_trip 58 = .ok (.goto 11, 3) := by decide +kernel
theorem dX11_trip_61 : decode cX11_trip 61 = .ok (.aload_n 0, 1) := by decide +kernel
theorem dX11_trip_62 : decode cX11_trip 62 = .ok (.getfield 40, 3) := by decide +kernel
theorem dX11_trip_65 : decode cX11_trip 65 = .ok (.iload_n 3, 1) := by decide +kernel
theorem dX11_trip_66 : decode cX11_trip 66 = .ok (.invokevirtual 235, 3) := by decide +kernel
theorem dX11_trip_69 : decode cX11_trip 69 = .ok (.invokevirtual 117, 3) := by decide +kernel
theorem dX11_trip_72 : decode cX11_trip 72 = .ok (.ireturn, 1) := by decide +kernel
abbrev rm_X11_trip : Room := { frames := 3, cells := 0, slots := 0, locals := 80 }
def f_X11_trip_16 (h : Mem) (v0 : Nat) : Option (Int32 × Mem) :=
  (f_X11_refuse h v0 1).bind fun q4 => some (q4.1, q4.2)
set_option maxRecDepth 100000 in
set_option maxHeartbeats 4000000 in
theorem w_X11_trip_16 {G : GE} {X : CX} {l : Launch} (hX : Ok G X cX11_trip RX11) (hN : xn X = 4) {P : (Int32 × Mem) → Prop} (hr : Rt G X l yX11_trip (some .int) rm_X11_trip (pmI P)) (h : Mem) (v0 : Nat) (hy : OK (f_X11_trip_16 h v0) P) : AW G X 16 [(0, vR v0)] [] h 0 0 := by
  unfold f_X11_trip_16 at hy
  refine aw_aloadn (pc := 16) hX 0 rfl dX11_trip_16 ?_
  refine aw_iconst (pc := 17) hX 1 (by decide) dX11_trip_17 ?_
  refine aw_callV (pc := 18) (st := []) (a := v0) hX [vI 1] (con_X11_refuse _ G _ v0 1 hy.bd) mc_X11_refuse ml_X11_84 im_X11_refuse se_X11_refuse (by decide) hy.bd.kd rfl (rm_of hr (by decide)) (Nat.le_of_ble_eq_true rfl) rfl dX11_trip_18 (kmI rfl rfl (fun q4 hy => ?_))
  exact aw_iret (pc := 21) hX hr (by decide) (by decide) dX11_trip_21 ⟨_, rfl, hy.s⟩
def f_X11_trip_69 (h : Mem) (s0 : Nat) (s1 : Int32) : Option (Int32 × Mem) :=
  (f_X11_answer h s0 s1).bind fun q17 => some (q17.1, q17.2)
set_option maxRecDepth 100000 in
set_option maxHeartbeats 4000000 in
theorem w_X11_trip_69 {G : GE} {X : CX} {l : Launch} (hX : Ok G X cX11_trip RX11) (hN : xn X = 4) {P : (Int32 × Mem) → Prop} (hr : Rt G X l yX11_trip (some .int) rm_X11_trip (pmI P)) (h : Mem) (s0 : Nat) (s1 : Int32) (hy : OK (f_X11_trip_69 h s0 s1) P) : AW G X 69 [] [vI s1, vR s0] h 0 0 := by
  unfold f_X11_trip_69 at hy
  refine aw_callV (pc := 69) (st := []) (a := s0) hX [vI s1] (con_X11_answer _ G _ s0 s1 hy.bd) mc_X11_answer ml_X11_117 im_X11_answer se_X11_answer (by decide) hy.bd.kd rfl (rm_of hr (by decide)) (Nat.le_of_ble_eq_true rfl) rfl dX11_trip_69 (kmI rfl rfl (fun q17 hy => ?_))
  exact aw_iret (pc := 72) hX hr (by decide) (by decide) dX11_trip_72 ⟨_, rfl, hy.s⟩
def f_X11_trip (h : Mem) (v0 : Nat) (v1 : Int32) (v2 : Int32) : Option (Int32 × Mem) :=
  (ck h v0 9).bind fun _ => (f_X11_isPerson h v0 v1).bind fun x1 => (if x1 = 0 then f_X11_trip_16 h v0 else (f_X11_isPlace h v0 v2).bind fun x5 => (if x5 = 0 then f_X11_trip_16 h v0 else (gR h v0 5 9).bind fun r6 => (gR h v0 1 9).bind fun r7 => (gR h v0 3 9).bind fun r8 => (f_X8_plan h r6 r7 r8 v1).bind fun h9 => (gR h9 v0 5 9).bind fun r10 => (gR h9 v0 1 9).bind fun r11 => (f_X8_bestSet h9 r10 r11 v2).bind fun x12 => (if 0 ≤ x12 then (gR h9 v0 5 9).bind fun r13 => (f_X8_coinsOf h9 r13 x12).bind fun x14 => f_X11_trip_69 h9 v0 x14 else f_X11_trip_69 h9 v0 (-2))))
set_option maxRecDepth 100000 in
set_option maxHeartbeats 4000000 in
theorem w_X11_trip {G : GE} {X : CX} {l : Launch} (hX : Ok G X cX11_trip RX11) (hN : xn X = 4) {P : (Int32 × Mem) → Prop} (hr : Rt G X l yX11_trip (some .int) rm_X11_trip (pmI P)) (h : Mem) (v0 : Nat) (v1 : Int32) (v2 : Int32) (hy : OK (f_X11_trip h v0 v1 v2) P) : AW G X 0 [(0, vR v0), (1, vI v1), (2, vI v2)] [] h 0 0 := by
  unfold f_X11_trip at hy
  have hkd := hy.kd
  have hy := hy.kb
  refine aw_aloadn (pc := 0) hX 0 rfl dX11_trip_0 ?_
  refine aw_iloadn (pc := 1) hX 1 rfl dX11_trip_1 ?_
  refine aw_callV (pc := 2) (st := []) (a := v0) hX [vI v1] (con_X11_isPerson _ G _ v0 v1 hy.bd) mc_X11_isPerson ml_X11_169 im_X11_isPerson se_X11_isPerson (by decide) hy.bd.kd rfl (rm_of hr (by decide)) (Nat.le_of_ble_eq_true rfl) rfl dX11_trip_2 (kpI rfl rfl (fun x1 hy => ?_))
  refine aw_if_eq (pc := 5) hX 16 (by decide) dX11_trip_5 (fun hc9 => ?_) (fun hc9 => ?_)
  · have hy := hy.t hc9
    refine AW.sub [0] rfl ?_
    exact w_X11_trip_16 hX hN hr h v0 hy
  · have hy := hy.f hc9
    refine aw_aloadn (pc := 8) hX 0 rfl dX11_trip_8 ?_
    refine aw_iloadn (pc := 9) hX 2 rfl dX11_trip_9 ?_
    refine aw_callV (pc := 10) (st := []) (a := v0) hX [vI v2] (con_X11_isPlace _ G _ v0 v2 hy.bd) mc_X11_isPlace ml_X11_200 im_X11_isPlace se_X11_isPlace (by decide) hy.bd.kd rfl (rm_of hr (by decide)) (Nat.le_of_ble_eq_true rfl) rfl dX11_trip_10 (kpI rfl rfl (fun x5 hy => ?_))
    refine aw_if_ne (pc := 13) hX 22 (by decide) dX11_trip_13 (fun hc9 => ?_) (fun hc9 => ?_)
    · have hy := hy.f hc9
      refine aw_aloadn (pc := 22) hX 0 rfl dX11_trip_22 ?_
      refine aw_gR (pc := 23) hX hy fl_X11_40 (fun _ _ => rfl) dX11_trip_23 (fun r6 hy => ?_)
      refine aw_aloadn (pc := 26) hX 0 rfl dX11_trip_26 ?_
      refine aw_gR (pc := 27) hX hy fl_X11_10 (fun _ _ => rfl) dX11_trip_27 (fun r7 hy => ?_)
      refine aw_aloadn (pc := 30) hX 0 rfl dX11_trip_30 ?_
      refine aw_gR (pc := 31) hX hy fl_X11_26 (fun _ _ => rfl) dX11_trip_31 (fun r8 hy => ?_)
      refine aw_iloadn (pc := 34) hX 1 rfl dX11_trip_34 ?_
      refine aw_callV (pc := 35) (st := []) (a := r6) hX [vR r7, vR r8, vI v1] (con_X8_plan _ G _ r6 r7 r8 v1 hy.bd) mc_X8_plan ml_X11_227 im_X8_plan se_X8_plan (by decide) hy.bd.kd rfl (rm_of hr (by decide)) (Nat.le_of_ble_eq_true rfl) rfl dX11_trip_35 (kmV rfl rfl (fun h9 hy => ?_))
      refine aw_aloadn (pc := 38) hX 0 rfl dX11_trip_38 ?_
      refine aw_gR (pc := 39) hX hy fl_X11_40 (fun _ _ => rfl) dX11_trip_39 (fun r10 hy => ?_)
      refine aw_aloadn (pc := 42) hX 0 rfl dX11_trip_42 ?_
      refine aw_gR (pc := 43) hX hy fl_X11_10 (fun _ _ => rfl) dX11_trip_43 (fun r11 hy => ?_)
      refine aw_iloadn (pc := 46) hX 2 rfl dX11_trip_46 ?_
      refine aw_callV (pc := 47) (st := []) (a := r10) hX [vR r11, vI v2] (con_X8_bestSet _ G _ r10 r11 v2 hy.bd) mc_X8_bestSet ml_X11_231 im_X8_bestSet se_X8_bestSet (by decide) hy.bd.kd rfl (rm_of hr (by decide)) (Nat.le_of_ble_eq_true rfl) rfl dX11_trip_47 (kpI rfl rfl (fun x12 hy => ?_))
      refine aw_istoren (pc := 50) hX [(3, vI x12), (0, vR v0), (1, vI v1), (2, vI v2)] rfl (lt_n hN (by decide)) dX11_trip_50 ?_
      refine aw_aloadn (pc := 51) hX 1 rfl dX11_trip_51 ?_
      refine aw_iloadn (pc := 52) hX 0 rfl dX11_trip_52 ?_
      refine aw_if_ge (pc := 53) hX 61 (by decide) dX11_trip_53 (fun hc9 => ?_) (fun hc9 => ?_)
      · have hy := hy.t hc9
        refine aw_aloadn (pc := 61) hX 1 rfl dX11_trip_61 ?_
        refine aw_gR (pc := 62) hX hy fl_X11_40 (fun _ _ => rfl) dX11_trip_62 (fun r13 hy => ?_)
        refine aw_iloadn (pc := 65) hX 0 rfl dX11_trip_65 ?_
        refine aw_callV (pc := 66) (st := [vR v0]) (a := r13) hX [vI x12] (con_X8_coinsOf _ G _ r13 x12 hy.bd) mc_X8_coinsOf ml_X11_235 im_X8_coinsOf se_X8_coinsOf (by decide) hy.bd.kd rfl (rm_of hr (by decide)) (Nat.le_of_ble_eq_true rfl) rfl dX11_trip_66 (kpI rfl rfl (fun x14 hy => ?_))
        refine AW.sub [] rfl ?_
        exact w_X11_trip_69 hX hN hr h9 v0 x14 hy
      · have hy := hy.f hc9
        refine aw_bipush (pc := 56) hX (-2) (by decide) dX11_trip_56 ?_
        refine aw_goto (pc := 58) hX 69 (by decide) dX11_trip_58 ?_
        refine AW.sub [] rfl ?_
        exact w_X11_trip_69 hX hN hr h9 v0 (-2) hy
    · have hy := hy.t hc9
      refine AW.sub [0] rfl ?_
      exact w_X11_trip_16 hX hN hr h v0 hy
theorem con_X11_trip (l : Launch) (G : GE) (h : Mem) (v0 : Nat) (v1 : Int32) (v2 : Int32) {P : (Int32 × Mem) → Prop} (hy : OK (f_X11_trip h v0 v1 v2) P) : Con l G yX11_trip cX11_trip 4 (some .int) rm_X11_trip [vR v0, vI v1, vI v2] h (pmI P) := Con.of (by decide) (Nat.le_of_ble_eq_true rfl) (fun X hX hr hN => w_X11_trip hX hN hr h v0 v1 v2 hy)
/-! X11_tripInns -/
theorem dX11_tripInns_0 : decode cX11_tripInns 0 = .ok (.aload_n 0, 1) := by decide +kernel
theorem dX11_tripInns_1 : decode cX11_tripInns 1 = .ok (.iload_n 1, 1) := by decide +kernel
theorem dX11_tripInns_2 : decode cX11_tripInns 2 = .ok (.invokevirtual 169, 3) := by decide +kernel
theorem dX11_tripInns_5 : decode cX11_tripInns 5 = .ok (.ifCond .eq 11, 3) := by decide +kernel
theorem dX11_tripInns_8 : decode cX11_tripInns 8 = .ok (.aload_n 0, 1) := by decide +kernel
theorem dX11_tripInns_9 : decode cX11_tripInns 9 = .ok (.iload_n 2, 1) := by decide +kernel
theorem dX11_tripInns_10 : decode cX11_tripInns 10 = .ok (.invokevirtual 200, 3) := by decide +kernel
theorem dX11_tripInns_13 : decode cX11_tripInns 13 = .ok (.ifCond .ne 9, 3) := by decide +kernel
theorem dX11_tripInns_16 : decode cX11_tripInns 16 = .ok (.aload_n 0, 1) := by decide +kernel
theorem dX11_tripInns_17 : decode cX11_tripInns 17 = .ok (.iconst 1, 1) := by decide +kernel
theorem dX11_tripInns_18 : decode cX11_tripInns 18 = .ok (.invokevirtual 84, 3) := by decide +kernel
theorem dX11_tripInns_21 : decode cX11_tripInns 21 = .ok (.ireturn, 1) := by decide +kernel
theorem dX11_tripInns_22 : decode cX11_tripInns 22 = .ok (.aload_n 0, 1) := by decide +kernel
theorem dX11_tripInns_23 : decode cX11_tripInns 23 = .ok (.getfield 40, 3) := by decide +kernel
theorem dX11_tripInns_26 : decode cX11_tripInns 26 = .ok (.aload_n 0, 1) := by decide +kernel
theorem dX11_tripInns_27 : decode cX11_tripInns 27 = .ok (.getfield 10, 3) := by decide +kernel
theorem dX11_tripInns_30 : decode cX11_tripInns 30 = .ok (.aload_n 0, 1) := by decide +kernel
theorem dX11_tripInns_31 : decode cX11_tripInns 31 = .ok (.getfield 26, 3) := by decide +kernel
theorem dX11_tripInns_34 : decode cX11_tripInns 34 = .ok (.iload_n 1, 1) := by decide +kernel
theorem dX11_tripInns_35 : decode cX11_tripInns 35 = .ok (.invokevirtual 227, 3) := by decide +kernel
theorem dX11_tripInns_38 : decode cX11_tripInns 38 = .ok (.aload_n 0, 1) := by decide +kernel
theorem dX11_tripInns_39 : decode cX11_tripInns 39 = .ok (.aload_n 0, 1) := by decide +kernel
theorem dX11_tripInns_40 : decode cX11_tripInns 40 = .ok (.getfield 40, 3) := by decide +kernel
theorem dX11_tripInns_43 : decode cX11_tripInns 43 = .ok (.aload_n 0, 1) := by decide +kernel
theorem dX11_tripInns_44 : decode cX11_tripInns 44 = .ok (.getfield 10, 3) := by decide +kernel
theorem dX11_tripInns_47 : decode cX11_tripInns 47 = .ok (.iload_n 2, 1) := by decide +kernel
theorem dX11_tripInns_48 : decode cX11_tripInns 48 = .ok (.invokevirtual 231, 3) := by decide +kernel
theorem dX11_tripInns_51 : decode cX11_tripInns 51 = .ok (.invokevirtual 117, 3) := by decide +kernel
theorem dX11_tripInns_54 : decode cX11_tripInns 54 = .ok (.ireturn, 1) := by decide +kernel
abbrev rm_X11_tripInns : Room := { frames := 3, cells := 0, slots := 0, locals := 80 }
def f_X11_tripInns_16 (h : Mem) (v0 : Nat) : Option (Int32 × Mem) :=
  (f_X11_refuse h v0 1).bind fun q4 => some (q4.1, q4.2)
set_option maxRecDepth 100000 in
set_option maxHeartbeats 4000000 in
theorem w_X11_tripInns_16 {G : GE} {X : CX} {l : Launch} (hX : Ok G X cX11_tripInns RX11) (hN : xn X = 3) {P : (Int32 × Mem) → Prop} (hr : Rt G X l yX11_tripInns (some .int) rm_X11_tripInns (pmI P)) (h : Mem) (v0 : Nat) (hy : OK (f_X11_tripInns_16 h v0) P) : AW G X 16 [(0, vR v0)] [] h 0 0 := by
  unfold f_X11_tripInns_16 at hy
  refine aw_aloadn (pc := 16) hX 0 rfl dX11_tripInns_16 ?_
  refine aw_iconst (pc := 17) hX 1 (by decide) dX11_tripInns_17 ?_
  refine aw_callV (pc := 18) (st := []) (a := v0) hX [vI 1] (con_X11_refuse _ G _ v0 1 hy.bd) mc_X11_refuse ml_X11_84 im_X11_refuse se_X11_refuse (by decide) hy.bd.kd rfl (rm_of hr (by decide)) (Nat.le_of_ble_eq_true rfl) rfl dX11_tripInns_18 (kmI rfl rfl (fun q4 hy => ?_))
  exact aw_iret (pc := 21) hX hr (by decide) (by decide) dX11_tripInns_21 ⟨_, rfl, hy.s⟩
def f_X11_tripInns (h : Mem) (v0 : Nat) (v1 : Int32) (v2 : Int32) : Option (Int32 × Mem) :=
  (ck h v0 9).bind fun _ => (f_X11_isPerson h v0 v1).bind fun x1 => (if x1 = 0 then f_X11_tripInns_16 h v0 else (f_X11_isPlace h v0 v2).bind fun x5 => (if x5 = 0 then f_X11_tripInns_16 h v0 else (gR h v0 5 9).bind fun r6 => (gR h v0 1 9).bind fun r7 => (gR h v0 3 9).bind fun r8 => (f_X8_plan h r6 r7 r8 v1).bind fun h9 => (gR h9 v0 5 9).bind fun r10 => (gR h9 v0 1 9).bind fun r11 => (f_X8_bestSet h9 r10 r11 v2).bind fun x12 => (f_X11_answer h9 v0 x12).bind fun q15 => some (q15.1, q15.2)))
set_option maxRecDepth 100000 in
set_option maxHeartbeats 4000000 in
theorem w_X11_tripInns {G : GE} {X : CX} {l : Launch} (hX : Ok G X cX11_tripInns RX11) (hN : xn X = 3) {P : (Int32 × Mem) → Prop} (hr : Rt G X l yX11_tripInns (some .int) rm_X11_tripInns (pmI P)) (h : Mem) (v0 : Nat) (v1 : Int32) (v2 : Int32) (hy : OK (f_X11_tripInns h v0 v1 v2) P) : AW G X 0 [(0, vR v0), (1, vI v1), (2, vI v2)] [] h 0 0 := by
  unfold f_X11_tripInns at hy
  have hkd := hy.kd
  have hy := hy.kb
  refine aw_aloadn (pc := 0) hX 0 rfl dX11_tripInns_0 ?_
  refine aw_iloadn (pc := 1) hX 1 rfl dX11_tripInns_1 ?_
  refine aw_callV (pc := 2) (st := []) (a := v0) hX [vI v1] (con_X11_isPerson _ G _ v0 v1 hy.bd) mc_X11_isPerson ml_X11_169 im_X11_isPerson se_X11_isPerson (by decide) hy.bd.kd rfl (rm_of hr (by decide)) (Nat.le_of_ble_eq_true rfl) rfl dX11_tripInns_2 (kpI rfl rfl (fun x1 hy => ?_))
  refine aw_if_eq (pc := 5) hX 16 (by decide) dX11_tripInns_5 (fun hc9 => ?_) (fun hc9 => ?_)
  · have hy := hy.t hc9
    refine AW.sub [0] rfl ?_
    exact w_X11_tripInns_16 hX hN hr h v0 hy
  · have hy := hy.f hc9
    refine aw_aloadn (pc := 8) hX 0 rfl dX11_tripInns_8 ?_
    refine aw_iloadn (pc := 9) hX 2 rfl dX11_tripInns_9 ?_
    refine aw_callV (pc := 10) (st := []) (a := v0) hX [vI v2] (con_X11_isPlace _ G _ v0 v2 hy.bd) mc_X11_isPlace ml_X11_200 im_X11_isPlace se_X11_isPlace (by decide) hy.bd.kd rfl (rm_of hr (by decide)) (Nat.le_of_ble_eq_true rfl) rfl dX11_tripInns_10 (kpI rfl rfl (fun x5 hy => ?_))
    refine aw_if_ne (pc := 13) hX 22 (by decide) dX11_tripInns_13 (fun hc9 => ?_) (fun hc9 => ?_)
    · have hy := hy.f hc9
      refine aw_aloadn (pc := 22) hX 0 rfl dX11_tripInns_22 ?_
      refine aw_gR (pc := 23) hX hy fl_X11_40 (fun _ _ => rfl) dX11_tripInns_23 (fun r6 hy => ?_)
      refine aw_aloadn (pc := 26) hX 0 rfl dX11_tripInns_26 ?_
      refine aw_gR (pc := 27) hX hy fl_X11_10 (fun _ _ => rfl) dX11_tripInns_27 (fun r7 hy => ?_)
      refine aw_aloadn (pc := 30) hX 0 rfl dX11_tripInns_30 ?_
      refine aw_gR (pc := 31) hX hy fl_X11_26 (fun _ _ => rfl) dX11_tripInns_31 (fun r8 hy => ?_)
      refine aw_iloadn (pc := 34) hX 1 rfl dX11_tripInns_34 ?_
      refine aw_callV (pc := 35) (st := []) (a := r6) hX [vR r7, vR r8, vI v1] (con_X8_plan _ G _ r6 r7 r8 v1 hy.bd) mc_X8_plan ml_X11_227 im_X8_plan se_X8_plan (by decide) hy.bd.kd rfl (rm_of hr (by decide)) (Nat.le_of_ble_eq_true rfl) rfl dX11_tripInns_35 (kmV rfl rfl (fun h9 hy => ?_))
      refine aw_aloadn (pc := 38) hX 0 rfl dX11_tripInns_38 ?_
      refine aw_aloadn (pc := 39) hX 0 rfl dX11_tripInns_39 ?_
      refine aw_gR (pc := 40) hX hy fl_X11_40 (fun _ _ => rfl) dX11_tripInns_40 (fun r10 hy => ?_)
      refine aw_aloadn (pc := 43) hX 0 rfl dX11_tripInns_43 ?_
      refine aw_gR (pc := 44) hX hy fl_X11_10 (fun _ _ => rfl) dX11_tripInns_44 (fun r11 hy => ?_)
      refine aw_iloadn (pc := 47) hX 2 rfl dX11_tripInns_47 ?_
      refine aw_callV (pc := 48) (st := [vR v0]) (a := r10) hX [vR r11, vI v2] (con_X8_bestSet _ G _ r10 r11 v2 hy.bd) mc_X8_bestSet ml_X11_231 im_X8_bestSet se_X8_bestSet (by decide) hy.bd.kd rfl (rm_of hr (by decide)) (Nat.le_of_ble_eq_true rfl) rfl dX11_tripInns_48 (kpI rfl rfl (fun x12 hy => ?_))
      refine aw_callV (pc := 51) (st := []) (a := v0) hX [vI x12] (con_X11_answer _ G _ v0 x12 hy.bd) mc_X11_answer ml_X11_117 im_X11_answer se_X11_answer (by decide) hy.bd.kd rfl (rm_of hr (by decide)) (Nat.le_of_ble_eq_true rfl) rfl dX11_tripInns_51 (kmI rfl rfl (fun q15 hy => ?_))
      exact aw_iret (pc := 54) hX hr (by decide) (by decide) dX11_tripInns_54 ⟨_, rfl, hy.s⟩
    · have hy := hy.t hc9
      refine AW.sub [0] rfl ?_
      exact w_X11_tripInns_16 hX hN hr h v0 hy
theorem con_X11_tripInns (l : Launch) (G : GE) (h : Mem) (v0 : Nat) (v1 : Int32) (v2 : Int32) {P : (Int32 × Mem) → Prop} (hy : OK (f_X11_tripInns h v0 v1 v2) P) : Con l G yX11_tripInns cX11_tripInns 3 (some .int) rm_X11_tripInns [vR v0, vI v1, vI v2] h (pmI P) := Con.of (by decide) (Nat.le_of_ble_eq_true rfl) (fun X hX hr hN => w_X11_tripInns hX hN hr h v0 v1 v2 hy)
/-! X11_farReach -/
theorem dX11_farReach_0 : decode cX11_farReach 0 = .ok (.aload_n 0, 1) := by decide +kernel
theorem dX11_farReach_1 : decode cX11_farReach 1 = .ok (.iload_n 1, 1) := by decide +kernel
theorem dX11_farReach_2 : decode cX11_farReach 2 = .ok (.invokevirtual 169, 3) := by decide +kernel
theorem dX11_farReach_5 : decode cX11_farReach 5 = .ok (.ifCond .ne 9, 3) := by decide +kernel
theorem dX11_farReach_8 : decode cX11_farReach 8 = .ok (.aload_n 0, 1) := by decide +kernel
theorem dX11_farReach_9 : decode cX11_farReach 9 = .ok (.iconst 1, 1) := by decide +kernel
theorem dX11_farReach_10 : decode cX11_farReach 10 = .ok (.invokevirtual 84, 3) := by decide +kernel
theorem dX11_farReach_13 : decode cX11_farReach 13 = .ok (.ireturn, 1) := by decide +kernel
theorem dX11_farReach_14 : decode cX11_farReach 14 = .ok (.aload_n 0, 1) := by decide +kernel
theorem dX11_farReach_15 : decode cX11_farReach 15 = .ok (.getfield 40, 3) := by decide +kernel
theorem dX11_farReach_18 : decode cX11_farReach 18 = .ok (.aload_n 0, 1) := by decide +kernel
theorem dX11_farReach_19 : decode cX11_farReach 19 = .ok (.getfield 10, 3) := by decide +kernel
theorem dX11_farReach_22 : decode cX11_farReach 22 = .ok (.aload_n 0, 1) := by decide +kernel
theorem dX11_farReach_23 : decode cX11_farReach 23 = .ok (.getfield 26, 3) := by decide +kernel
theorem dX11_farReach_26 : decode cX11_farReach 26 = .ok (.iload_n 1, 1) := by decide +kernel
theorem dX11_farReach_27 : decode cX11_farReach 27 = .ok (.invokevirtual 227, 3) := by decide +kernel
theorem dX11_farReach_30 : decode cX11_farReach 30 = .ok (.aload_n 0, 1) := by decide +kernel
theorem dX11_farReach_31 : decode cX11_farReach 31 = .ok (.aload_n 0, 1) := by decide +kernel
theorem dX11_farReach_32 : decode cX11_farReach 32 = .ok (.getfield 40, 3) := by decide +kernel
theorem dX11_farReach_35 : decode cX11_farReach 35 = .ok (.aload_n 0, 1) := by decide +kernel
theorem dX11_farReach_36 : decode cX11_farReach 36 = .ok (.getfield 10, 3) := by decide +kernel
theorem dX11_farReach_39 : decode cX11_farReach 39 = .ok (.invokevirtual 238, 3) := by decide +kernel
theorem dX11_farReach_42 : decode cX11_farReach 42 = .ok (.invokevirtual 117, 3) := by decide +kernel
theorem dX11_farReach_45 : decode cX11_farReach 45 = .ok (.ireturn, 1) := by decide +kernel
abbrev rm_X11_farReach : Room := { frames := 3, cells := 0, slots := 0, locals := 80 }
def f_X11_farReach (h : Mem) (v0 : Nat) (v1 : Int32) : Option (Int32 × Mem) :=
  (ck h v0 9).bind fun _ => (f_X11_isPerson h v0 v1).bind fun x1 => (if x1 = 0 then (f_X11_refuse h v0 1).bind fun q14 => some (q14.1, q14.2) else (gR h v0 5 9).bind fun r2 => (gR h v0 1 9).bind fun r3 => (gR h v0 3 9).bind fun r4 => (f_X8_plan h r2 r3 r4 v1).bind fun h5 => (gR h5 v0 5 9).bind fun r6 => (gR h5 v0 1 9).bind fun r7 => (f_X8_placesOfAll h5 r6 r7).bind fun x8 => (f_X11_answer h5 v0 x8).bind fun q11 => some (q11.1, q11.2))
set_option maxRecDepth 100000 in
set_option maxHeartbeats 4000000 in
theorem w_X11_farReach {G : GE} {X : CX} {l : Launch} (hX : Ok G X cX11_farReach RX11) (hN : xn X = 2) {P : (Int32 × Mem) → Prop} (hr : Rt G X l yX11_farReach (some .int) rm_X11_farReach (pmI P)) (h : Mem) (v0 : Nat) (v1 : Int32) (hy : OK (f_X11_farReach h v0 v1) P) : AW G X 0 [(0, vR v0), (1, vI v1)] [] h 0 0 := by
  unfold f_X11_farReach at hy
  have hkd := hy.kd
  have hy := hy.kb
  refine aw_aloadn (pc := 0) hX 0 rfl dX11_farReach_0 ?_
  refine aw_iloadn (pc := 1) hX 1 rfl dX11_farReach_1 ?_
  refine aw_callV (pc := 2) (st := []) (a := v0) hX [vI v1] (con_X11_isPerson _ G _ v0 v1 hy.bd) mc_X11_isPerson ml_X11_169 im_X11_isPerson se_X11_isPerson (by decide) hy.bd.kd rfl (rm_of hr (by decide)) (Nat.le_of_ble_eq_true rfl) rfl dX11_farReach_2 (kpI rfl rfl (fun x1 hy => ?_))
  refine aw_if_ne (pc := 5) hX 14 (by decide) dX11_farReach_5 (fun hc9 => ?_) (fun hc9 => ?_)
  · have hy := hy.f hc9
    refine aw_aloadn (pc := 14) hX 0 rfl dX11_farReach_14 ?_
    refine aw_gR (pc := 15) hX hy fl_X11_40 (fun _ _ => rfl) dX11_farReach_15 (fun r2 hy => ?_)
    refine aw_aloadn (pc := 18) hX 0 rfl dX11_farReach_18 ?_
    refine aw_gR (pc := 19) hX hy fl_X11_10 (fun _ _ => rfl) dX11_farReach_19 (fun r3 hy => ?_)
    refine aw_aloadn (pc := 22) hX 0 rfl dX11_farReach_22 ?_
    refine aw_gR (pc := 23) hX hy fl_X11_26 (fun _ _ => rfl) dX11_farReach_23 (fun r4 hy => ?_)
    refine aw_iloadn (pc := 26) hX 1 rfl dX11_farReach_26 ?_
    refine aw_callV (pc := 27) (st := []) (a := r2) hX [vR r3, vR r4, vI v1] (con_X8_plan _ G _ r2 r3 r4 v1 hy.bd) mc_X8_plan ml_X11_227 im_X8_plan se_X8_plan (by decide) hy.bd.kd rfl (rm_of hr (by decide)) (Nat.le_of_ble_eq_true rfl) rfl dX11_farReach_27 (kmV rfl rfl (fun h5 hy => ?_))
    refine aw_aloadn (pc := 30) hX 0 rfl dX11_farReach_30 ?_
    refine aw_aloadn (pc := 31) hX 0 rfl dX11_farReach_31 ?_
    refine aw_gR (pc := 32) hX hy fl_X11_40 (fun _ _ => rfl) dX11_farReach_32 (fun r6 hy => ?_)
    refine aw_aloadn (pc := 35) hX 0 rfl dX11_farReach_35 ?_
    refine aw_gR (pc := 36) hX hy fl_X11_10 (fun _ _ => rfl) dX11_farReach_36 (fun r7 hy => ?_)
    refine aw_callV (pc := 39) (st := [vR v0]) (a := r6) hX [vR r7] (con_X8_placesOfAll _ G _ r6 r7 hy.bd) mc_X8_placesOfAll ml_X11_238 im_X8_placesOfAll se_X8_placesOfAll (by decide) hy.bd.kd rfl (rm_of hr (by decide)) (Nat.le_of_ble_eq_true rfl) rfl dX11_farReach_39 (kpI rfl rfl (fun x8 hy => ?_))
    refine aw_callV (pc := 42) (st := []) (a := v0) hX [vI x8] (con_X11_answer _ G _ v0 x8 hy.bd) mc_X11_answer ml_X11_117 im_X11_answer se_X11_answer (by decide) hy.bd.kd rfl (rm_of hr (by decide)) (Nat.le_of_ble_eq_true rfl) rfl dX11_farReach_42 (kmI rfl rfl (fun q11 hy => ?_))
    exact aw_iret (pc := 45) hX hr (by decide) (by decide) dX11_farReach_45 ⟨_, rfl, hy.s⟩
  · have hy := hy.t hc9
    refine aw_aloadn (pc := 8) hX 0 rfl dX11_farReach_8 ?_
    refine aw_iconst (pc := 9) hX 1 (by decide) dX11_farReach_9 ?_
    refine aw_callV (pc := 10) (st := []) (a := v0) hX [vI 1] (con_X11_refuse _ G _ v0 1 hy.bd) mc_X11_refuse ml_X11_84 im_X11_refuse se_X11_refuse (by decide) hy.bd.kd rfl (rm_of hr (by decide)) (Nat.le_of_ble_eq_true rfl) rfl dX11_farReach_10 (kmI rfl rfl (fun q14 hy => ?_))
    exact aw_iret (pc := 13) hX hr (by decide) (by decide) dX11_farReach_13 ⟨_, rfl, hy.s⟩
theorem con_X11_farReach (l : Launch) (G : GE) (h : Mem) (v0 : Nat) (v1 : Int32) {P : (Int32 × Mem) → Prop} (hy : OK (f_X11_farReach h v0 v1) P) : Con l G yX11_farReach cX11_farReach 2 (some .int) rm_X11_farReach [vR v0, vI v1] h (pmI P) := Con.of (by decide) (Nat.le_of_ble_eq_true rfl) (fun X hX hr hN => w_X11_farReach hX hN hr h v0 v1 hy)
/-! X11_soonest -/
theorem dX11_soonest_0 : decode cX11_soonest 0 = .ok (.aload_n 0, 1) := by decide +kernel
theorem dX11_soonest_1 : decode cX11_soonest 1 = .ok (.iload_n 1, 1) := by decide +kernel
theorem dX11_soonest_2 : decode cX11_soonest 2 = .ok (.invokevirtual 200, 3) := by decide +kernel
theorem dX11_soonest_5 : decode cX11_soonest 5 = .ok (.ifCond .ne 9, 3) := by decide +kernel
theorem dX11_soonest_8 : decode cX11_soonest 8 = .ok (.aload_n 0, 1) := by decide +kernel
theorem dX11_soonest_9 : decode cX11_soonest 9 = .ok (.iconst 1, 1) := by decide +kernel
theorem dX11_soonest_10 : decode cX11_soonest 10 = .ok (.invokevirtual 84, 3) := by decide +kernel
theorem dX11_soonest_13 : decode cX11_soonest 13 = .ok (.ireturn, 1) := by decide +kernel
theorem dX11_soonest_14 : decode cX11_soonest 14 = .ok (.bipush (-2), 2) := by decide +kernel
theorem dX11_soonest_16 : decode cX11_soonest 16 = .ok (.istore_n 2, 1) := by decide +kernel
theorem dX11_soonest_17 : decode cX11_soonest 17 = .ok (.ldc 206, 2) := by decide +kernel
theorem dX11_soonest_19 : decode cX11_soonest 19 = .ok (.istore_n 3, 1) := by decide +kernel
theorem dX11_soonest_20 : decode cX11_soonest 20 = .ok (.iconst 0, 1) := by decide +kernel
theorem dX11_soonest_21 : decode cX11_soonest 21 = .ok (.istore 4, 2) := by decide +kernel
theorem dX11_soonest_23 : decode cX11_soonest 23 = .ok (.iload 4, 2) := by decide +kernel
theorem dX11_soonest_25 : decode cX11_soonest 25 = .ok (.aload_n 0, 1) := by decide +kernel
theorem dX11_soonest_26 : decode cX11_soonest 26 = .ok (.getfield 10, 3) := by decide +kernel
theorem dX11_soonest_29 : decode cX11_soonest 29 = .ok (.getfield 241, 3) := by decide +kernel
theorem dX11_soonest_32 : decode cX11_soonest 32 = .ok (.if_icmp .ge 30, 3) := by decide +kernel
theorem dX11_soonest_35 : decode cX11_soonest 35 = .ok (.aload_n 0, 1) := by decide +kernel
theorem dX11_soonest_36 : decode cX11_soonest 36 = .ok (.iload 4, 2) := by decide +kernel
theorem dX11_soonest_38 : decode cX11_soonest 38 = .ok (.iload_n 1, 1) := by decide +kernel
theorem dX11_soonest_39 : decode cX11_soonest 39 = .ok (.invokevirtual 203, 3) := by decide +kernel
theorem dX11_soonest_42 : decode cX11_soonest 42 = .ok (.istore 5, 2) := by decide +kernel
theorem dX11_soonest_44 : decode cX11_soonest 44 = .ok (.iload 5, 2) := by decide +kernel
theorem dX11_soonest_46 : decode cX11_soonest 46 = .ok (.iload_n 3, 1) := by decide +kernel
theorem dX11_soonest_47 : decode cX11_soonest 47 = .ok (.if_icmp .ge 9, 3) := by decide +kernel
theorem dX11_soonest_50 : decode cX11_soonest 50 = .ok (.iload 5, 2) := by decide +kernel
theorem dX11_soonest_52 : decode cX11_soonest 52 = .ok (.istore_n 3, 1) := by decide +kernel
theorem dX11_soonest_53 : decode cX11_soonest 53 = .ok (.iload 4, 2) := by decide +kernel
theorem dX11_soonest_55 : decode cX11_soonest 55 = .ok (.istore_n 2, 1) := by decide +kernel
theorem dX11_soonest_56 : decode cX11_soonest 56 = .ok (.iinc 4 1, 3) := by decide +kernel
theorem dX11_soonest_59 : decode cX11_soonest 59 = .ok (.goto (-36), 3) := by decide +kernel
theorem dX11_soonest_62 : decode cX11_soonest 62 = .ok (.aload_n 0, 1) := by decide +kernel
theorem dX11_soonest_63 : decode cX11_soonest 63 = .ok (.iload_n 2, 1) := by decide +kernel
theorem dX11_soonest_64 : decode cX11_soonest 64 = .ok (.invokevirtual 117, 3) := by decide +kernel
theorem dX11_soonest_67 : decode cX11_soonest 67 = .ok (.ireturn, 1) := by decide +kernel
abbrev rm_X11_soonest : Room := { frames := 3, cells := 0, slots := 0, locals := 71 }
def f_X11_soonest_56 (h : Mem) (v0 : Nat) (v1 : Int32) (v2 : Int32) (v3 : Int32) (v4 : Int32) : Option ((Int32 × Int32 × Int32 × Mem) ⊕ ((Int32 × Mem))) :=
  some (.inl (v2, v3, (v4 + 1), h))
set_option maxRecDepth 100000 in
set_option maxHeartbeats 4000000 in
theorem w_X11_soonest_56 {G : GE} {X : CX} {l : Launch} (hX : Ok G X cX11_soonest RX11) (hN : xn X = 6) {P0 : (Int32 × Mem) → Prop} (hr : Rt G X l yX11_soonest (some .int) rm_X11_soonest (pmI P0))  (v0 : Nat) (v1 : Int32) {P : ((Int32 × Int32 × Int32 × Mem) ⊕ ((Int32 × Mem))) → Prop} (hc : ∀ s, P (.inl s) → AW G X 23 [(0, vR v0), (1, vI v1), (2, vI s.1), (3, vI s.2.1), (4, vI s.2.2.1)] [] s.2.2.2 0 0) (he0 : ∀ e, P (.inr e) → AW G X 62 [(0, vR v0), (2, vI e.1)] [] e.2 0 0) (h : Mem) (v2 : Int32) (v3 : Int32) (v4 : Int32) (hy : OK (f_X11_soonest_56 h v0 v1 v2 v3 v4) P) : AW G X 56 [(0, vR v0), (1, vI v1), (2, vI v2), (3, vI v3), (4, vI v4)] [] h 0 0 := by
  unfold f_X11_soonest_56 at hy
  refine aw_iinc (pc := 56) hX 1 (by decide) 4 rfl [(4, vI (v4 + 1)), (0, vR v0), (1, vI v1), (2, vI v2), (3, vI v3)] rfl (lt_n hN (by decide)) dX11_soonest_56 ?_
  refine aw_goto (pc := 59) hX 23 (by decide) dX11_soonest_59 ?_
  refine AW.sub [1, 2, 3, 4, 0] rfl ?_
  exact hc (v2, v3, (v4 + 1), h) hy.s
def b_X11_soonest_23 (h : Mem) (v0 : Nat) (v1 : Int32) (v2 : Int32) (v3 : Int32) (v4 : Int32) : Option ((Int32 × Int32 × Int32 × Mem) ⊕ ((Int32 × Mem))) :=
  (gR h v0 1 9).bind fun r2 => (gI h r2 6 4).bind fun x3 => (if x3 ≤ v4 then some (.inr (v2, h)) else (f_X11_minutesTo h v0 v4 v1).bind fun q6 => (if v3 ≤ q6.1 then f_X11_soonest_56 q6.2 v0 v1 v2 v3 v4 else f_X11_soonest_56 q6.2 v0 v1 v4 q6.1 v4))
set_option maxRecDepth 100000 in
set_option maxHeartbeats 4000000 in
theorem wb_X11_soonest_23 {G : GE} {X : CX} {l : Launch} (hX : Ok G X cX11_soonest RX11) (hN : xn X = 6) {P0 : (Int32 × Mem) → Prop} (hr : Rt G X l yX11_soonest (some .int) rm_X11_soonest (pmI P0))  (v0 : Nat) (v1 : Int32) {P : ((Int32 × Int32 × Int32 × Mem) ⊕ ((Int32 × Mem))) → Prop} (hc : ∀ s, P (.inl s) → AW G X 23 [(0, vR v0), (1, vI v1), (2, vI s.1), (3, vI s.2.1), (4, vI s.2.2.1)] [] s.2.2.2 0 0) (he0 : ∀ e, P (.inr e) → AW G X 62 [(0, vR v0), (2, vI e.1)] [] e.2 0 0) (h : Mem) (v2 : Int32) (v3 : Int32) (v4 : Int32) (hy : OK (b_X11_soonest_23 h v0 v1 v2 v3 v4) P) : AW G X 23 [(0, vR v0), (1, vI v1), (2, vI v2), (3, vI v3), (4, vI v4)] [] h 0 0 := by
  unfold b_X11_soonest_23 at hy
  refine aw_iload (pc := 23) hX 4 rfl dX11_soonest_23 ?_
  refine aw_aloadn (pc := 25) hX 0 rfl dX11_soonest_25 ?_
  refine aw_gR (pc := 26) hX hy fl_X11_10 (fun _ _ => rfl) dX11_soonest_26 (fun r2 hy => ?_)
  refine aw_gI (pc := 29) hX hy fl_X11_241 (fun _ _ => rfl) dX11_soonest_29 (fun x3 hy => ?_)
  refine aw_ic_ge (pc := 32) hX 62 (by decide) dX11_soonest_32 (fun hc9 => ?_) (fun hc9 => ?_)
  · have hy := hy.t hc9
    refine AW.sub [0, 2] rfl ?_
    exact he0 (v2, h) hy.s
  · have hy := hy.f hc9
    refine aw_aloadn (pc := 35) hX 0 rfl dX11_soonest_35 ?_
    refine aw_iload (pc := 36) hX 4 rfl dX11_soonest_36 ?_
    refine aw_iloadn (pc := 38) hX 1 rfl dX11_soonest_38 ?_
    refine aw_callV (pc := 39) (st := []) (a := v0) hX [vI v4, vI v1] (con_X11_minutesTo _ G _ v0 v4 v1 hy.bd) mc_X11_minutesTo ml_X11_203 im_X11_minutesTo se_X11_minutesTo (by decide) hy.bd.kd rfl (rm_of hr (by decide)) (Nat.le_of_ble_eq_true rfl) rfl dX11_soonest_39 (kmI rfl rfl (fun q6 hy => ?_))
    refine aw_istore (pc := 42) hX [(5, vI q6.1), (0, vR v0), (1, vI v1), (2, vI v2), (3, vI v3), (4, vI v4)] rfl (lt_n hN (by decide)) dX11_soonest_42 ?_
    refine aw_iload (pc := 44) hX 0 rfl dX11_soonest_44 ?_
    refine aw_iloadn (pc := 46) hX 4 rfl dX11_soonest_46 ?_
    refine aw_ic_ge (pc := 47) hX 56 (by decide) dX11_soonest_47 (fun hc9 => ?_) (fun hc9 => ?_)
    · have hy := hy.t hc9
      refine AW.sub [1, 2, 3, 4, 5] rfl ?_
      exact w_X11_soonest_56 hX hN hr _ _ hc he0 q6.2 v2 v3 v4 hy
    · have hy := hy.f hc9
      refine aw_iload (pc := 50) hX 0 rfl dX11_soonest_50 ?_
      refine aw_istoren (pc := 52) hX [(3, vI q6.1), (5, vI q6.1), (0, vR v0), (1, vI v1), (2, vI v2), (4, vI v4)] rfl (lt_n hN (by decide)) dX11_soonest_52 ?_
      refine aw_iload (pc := 53) hX 5 rfl dX11_soonest_53 ?_
      refine aw_istoren (pc := 55) hX [(2, vI v4), (3, vI q6.1), (5, vI q6.1), (0, vR v0), (1, vI v1), (4, vI v4)] rfl (lt_n hN (by decide)) dX11_soonest_55 ?_
      refine AW.sub [3, 4, 0, 1, 5] rfl ?_
      exact w_X11_soonest_56 hX hN hr _ _ hc he0 q6.2 v4 q6.1 v4 hy
theorem wl_X11_soonest_23 {G : GE} {X : CX} {l : Launch} (hX : Ok G X cX11_soonest RX11) (hN : xn X = 6) {P0 : (Int32 × Mem) → Prop} (hr : Rt G X l yX11_soonest (some .int) rm_X11_soonest (pmI P0)) (v0 : Nat) (v1 : Int32) {P : ((Int32 × Mem)) → Prop} (he0 : ∀ e, P e → AW G X 62 [(0, vR v0), (2, vI e.1)] [] e.2 0 0) : ∀ (n : Nat) (s : Int32 × Int32 × Int32 × Mem), OK (iter (fun (s : Int32 × Int32 × Int32 × Mem) => b_X11_soonest_23 s.2.2.2 v0 v1 s.1 s.2.1 s.2.2.1) n s) P → AW G X 23 [(0, vR v0), (1, vI v1), (2, vI s.1), (3, vI s.2.1), (4, vI s.2.2.1)] [] s.2.2.2 0 0 := by
  intro n
  induction n with
  | zero => exact fun s hy => hy.it0.elim
  | succ n ih =>
    intro s hy
    exact wb_X11_soonest_23 hX hN hr v0 v1 (fun s hs => ih s hs) (fun e hs => he0 e hs) s.2.2.2 s.1 s.2.1 s.2.2.1 hy.it
def f_X11_soonest (h : Mem) (v0 : Nat) (v1 : Int32) : Option (Int32 × Mem) :=
  (ck h v0 9).bind fun _ => (f_X11_isPlace h v0 v1).bind fun x1 => (if x1 = 0 then (f_X11_refuse h v0 1).bind fun q13 => some (q13.1, q13.2) else (iter (fun (s : Int32 × Int32 × Int32 × Mem) => b_X11_soonest_23 s.2.2.2 v0 v1 s.1 s.2.1 s.2.2.1) FU ((-2), 1000000, 0, h)).bind (fun q7 => (f_X11_answer q7.2 v0 q7.1).bind fun q10 => some (q10.1, q10.2)))
set_option maxRecDepth 100000 in
set_option maxHeartbeats 4000000 in
theorem w_X11_soonest {G : GE} {X : CX} {l : Launch} (hX : Ok G X cX11_soonest RX11) (hN : xn X = 6) {P : (Int32 × Mem) → Prop} (hr : Rt G X l yX11_soonest (some .int) rm_X11_soonest (pmI P)) (h : Mem) (v0 : Nat) (v1 : Int32) (hy : OK (f_X11_soonest h v0 v1) P) : AW G X 0 [(0, vR v0), (1, vI v1)] [] h 0 0 := by
  unfold f_X11_soonest at hy
  have hkd := hy.kd
  have hy := hy.kb
  refine aw_aloadn (pc := 0) hX 0 rfl dX11_soonest_0 ?_
  refine aw_iloadn (pc := 1) hX 1 rfl dX11_soonest_1 ?_
  refine aw_callV (pc := 2) (st := []) (a := v0) hX [vI v1] (con_X11_isPlace _ G _ v0 v1 hy.bd) mc_X11_isPlace ml_X11_200 im_X11_isPlace se_X11_isPlace (by decide) hy.bd.kd rfl (rm_of hr (by decide)) (Nat.le_of_ble_eq_true rfl) rfl dX11_soonest_2 (kpI rfl rfl (fun x1 hy => ?_))
  refine aw_if_ne (pc := 5) hX 14 (by decide) dX11_soonest_5 (fun hc9 => ?_) (fun hc9 => ?_)
  · have hy := hy.f hc9
    refine aw_bipush (pc := 14) hX (-2) (by decide) dX11_soonest_14 ?_
    refine aw_istoren (pc := 16) hX [(2, vI (-2)), (0, vR v0), (1, vI v1)] rfl (lt_n hN (by decide)) dX11_soonest_16 ?_
    refine aw_ldc (pc := 17) hX kc_X11_206 dX11_soonest_17 ?_
    refine aw_istoren (pc := 19) hX [(3, vI 1000000), (2, vI (-2)), (0, vR v0), (1, vI v1)] rfl (lt_n hN (by decide)) dX11_soonest_19 ?_
    refine aw_iconst (pc := 20) hX 0 (by decide) dX11_soonest_20 ?_
    refine aw_istore (pc := 21) hX [(4, vI 0), (3, vI 1000000), (2, vI (-2)), (0, vR v0), (1, vI v1)] rfl (lt_n hN (by decide)) dX11_soonest_21 ?_
    refine AW.sub [3, 4, 2, 1, 0] rfl ?_
    refine wl_X11_soonest_23 hX hN hr v0 v1 ?_ FU ((-2), 1000000, 0, h) hy.bd
    · intro q7 hy
      refine aw_aloadn (pc := 62) hX 0 rfl dX11_soonest_62 ?_
      refine aw_iloadn (pc := 63) hX 1 rfl dX11_soonest_63 ?_
      refine aw_callV (pc := 64) (st := []) (a := v0) hX [vI q7.1] (con_X11_answer _ G _ v0 q7.1 hy.bd) mc_X11_answer ml_X11_117 im_X11_answer se_X11_answer (by decide) hy.bd.kd rfl (rm_of hr (by decide)) (Nat.le_of_ble_eq_true rfl) rfl dX11_soonest_64 (kmI rfl rfl (fun q10 hy => ?_))
      exact aw_iret (pc := 67) hX hr (by decide) (by decide) dX11_soonest_67 ⟨_, rfl, hy.s⟩
  · have hy := hy.t hc9
    refine aw_aloadn (pc := 8) hX 0 rfl dX11_soonest_8 ?_
    refine aw_iconst (pc := 9) hX 1 (by decide) dX11_soonest_9 ?_
    refine aw_callV (pc := 10) (st := []) (a := v0) hX [vI 1] (con_X11_refuse _ G _ v0 1 hy.bd) mc_X11_refuse ml_X11_84 im_X11_refuse se_X11_refuse (by decide) hy.bd.kd rfl (rm_of hr (by decide)) (Nat.le_of_ble_eq_true rfl) rfl dX11_soonest_10 (kmI rfl rfl (fun q13 hy => ?_))
    exact aw_iret (pc := 13) hX hr (by decide) (by decide) dX11_soonest_13 ⟨_, rfl, hy.s⟩
theorem con_X11_soonest (l : Launch) (G : GE) (h : Mem) (v0 : Nat) (v1 : Int32) {P : (Int32 × Mem) → Prop} (hy : OK (f_X11_soonest h v0 v1) P) : Con l G yX11_soonest cX11_soonest 6 (some .int) rm_X11_soonest [vR v0, vI v1] h (pmI P) := Con.of (by decide) (Nat.le_of_ble_eq_true rfl) (fun X hX hr hN => w_X11_soonest hX hN hr h v0 v1 hy)
/-! X11_areTunes -/
theorem dX11_areTunes_0 : decode cX11_areTunes 0 = .ok (.iload_n 1, 1) := by decide +kernel
theorem dX11_areTunes_1 : decode cX11_areTunes 1 = .ok (.iconst 1, 1) := by decide +kernel
theorem dX11_areTunes_2 : decode cX11_areTunes 2 = .ok (.if_icmp .lt 20, 3) := by decide +kernel
theorem dX11_areTunes_5 : decode cX11_areTunes 5 = .ok (.iload_n 1, 1) := by decide +kernel
theorem dX11_areTunes_6 : decode cX11_areTunes 6 = .ok (.iconst 1, 1) := by decide +kernel
theorem dX11_areTunes_7 : decode cX11_areTunes 7 = .ok (.aload_n 0, 1) := by decide +kernel
theorem dX11_areTunes_8 : decode cX11_areTunes 8 = .ok (.getfield 10, 3) := by decide +kernel
theorem dX11_areTunes_11 : decode cX11_areTunes 11 = .ok (.getfield 224, 3) := by decide +kernel
theorem dX11_areTunes_14 : decode cX11_areTunes 14 = .ok (.ishl, 1) := by decide +kernel
theorem dX11_areTunes_15 : decode cX11_areTunes 15 = .ok (.if_icmp .ge 7, 3) := by decide +kernel
theorem dX11_areTunes_18 : decode cX11_areTunes 18 = .ok (.iconst 1, 1) := by decide +kernel
theorem dX11_areTunes_19 : decode cX11_areTunes 19 = .ok (.goto 4, 3) := by decide +kernel
theorem dX11_areTunes_22 : decode cX11_areTunes 22 = .ok (.iconst 0, 1) := by decide +kernel
theorem dX11_areTunes_23 : decode cX11_areTunes 23 = .ok (.ireturn, 1) := by decide +kernel
abbrev rm_X11_areTunes : Room := { frames := 0, cells := 0, slots := 0, locals := 0 }
def f_X11_areTunes_22 (h : Mem) : Option Int32 :=
  some 0
set_option maxRecDepth 100000 in
set_option maxHeartbeats 4000000 in
theorem w_X11_areTunes_22 {G : GE} {X : CX} {l : Launch} (hX : Ok G X cX11_areTunes RX11) (hN : xn X = 2) (h : Mem) {P : Int32 → Prop} (hr : Rt G X l yX11_areTunes (some .boolean) rm_X11_areTunes (ppI h P)) (hy : OK (f_X11_areTunes_22 h) P) : AW G X 22 [] [] h 0 0 := by
  unfold f_X11_areTunes_22 at hy
  refine aw_iconst (pc := 22) hX 0 (by decide) dX11_areTunes_22 ?_
  exact aw_zret (pc := 23) hX hr (by decide) (by decide) dX11_areTunes_23 (Or.inl rfl) ⟨rfl, _, rfl, hy.s⟩
def f_X11_areTunes (h : Mem) (v0 : Nat) (v1 : Int32) : Option Int32 :=
  (ck h v0 9).bind fun _ => (if v1 < 1 then f_X11_areTunes_22 h else (gR h v0 1 9).bind fun r1 => (gI h r1 1 4).bind fun x2 => (if ((1 : Int32) <<< (x2 &&& 31)) ≤ v1 then f_X11_areTunes_22 h else some 1))
set_option maxRecDepth 100000 in
set_option maxHeartbeats 4000000 in
theorem w_X11_areTunes {G : GE} {X : CX} {l : Launch} (hX : Ok G X cX11_areTunes RX11) (hN : xn X = 2) (h : Mem) {P : Int32 → Prop} (hr : Rt G X l yX11_areTunes (some .boolean) rm_X11_areTunes (ppI h P)) (v0 : Nat) (v1 : Int32) (hy : OK (f_X11_areTunes h v0 v1) P) : AW G X 0 [(0, vR v0), (1, vI v1)] [] h 0 0 := by
  unfold f_X11_areTunes at hy
  have hkd := hy.kd
  have hy := hy.kb
  refine aw_iloadn (pc := 0) hX 1 rfl dX11_areTunes_0 ?_
  refine aw_iconst (pc := 1) hX 1 (by decide) dX11_areTunes_1 ?_
  refine aw_ic_lt (pc := 2) hX 22 (by decide) dX11_areTunes_2 (fun hc9 => ?_) (fun hc9 => ?_)
  · have hy := hy.t hc9
    refine AW.sub [] rfl ?_
    exact w_X11_areTunes_22 hX hN _ hr hy
  · have hy := hy.f hc9
    refine aw_iloadn (pc := 5) hX 1 rfl dX11_areTunes_5 ?_
    refine aw_iconst (pc := 6) hX 1 (by decide) dX11_areTunes_6 ?_
    refine aw_aloadn (pc := 7) hX 0 rfl dX11_areTunes_7 ?_
    refine aw_gR (pc := 8) hX hy fl_X11_10 (fun _ _ => rfl) dX11_areTunes_8 (fun r1 hy => ?_)
    refine aw_gI (pc := 11) hX hy fl_X11_224 (fun _ _ => rfl) dX11_areTunes_11 (fun x2 hy => ?_)
    refine aw_ishl (pc := 14) hX dX11_areTunes_14 ?_
    refine aw_ic_ge (pc := 15) hX 22 (by decide) dX11_areTunes_15 (fun hc9 => ?_) (fun hc9 => ?_)
    · have hy := hy.t hc9
      refine AW.sub [] rfl ?_
      exact w_X11_areTunes_22 hX hN _ hr hy
    · have hy := hy.f hc9
      refine aw_iconst (pc := 18) hX 1 (by decide) dX11_areTunes_18 ?_
      refine aw_goto (pc := 19) hX 23 (by decide) dX11_areTunes_19 ?_
      exact aw_zret (pc := 23) hX hr (by decide) (by decide) dX11_areTunes_23 (Or.inr rfl) ⟨rfl, _, rfl, hy.s⟩
theorem con_X11_areTunes (l : Launch) (G : GE) (h : Mem) (v0 : Nat) (v1 : Int32) {P : Int32 → Prop} (hy : OK (f_X11_areTunes h v0 v1) P) : Con l G yX11_areTunes cX11_areTunes 2 (some .boolean) rm_X11_areTunes [vR v0, vI v1] h (ppI h P) := Con.of (by decide) (Nat.le_of_ble_eq_true rfl) (fun X hX hr hN => w_X11_areTunes hX hN h hr v0 v1 hy)
/-! X11_song -/
theorem dX11_song_0 : decode cX11_song 0 = .ok (.aload_n 0, 1) := by decide +kernel
theorem dX11_song_1 : decode cX11_song 1 = .ok (.iload_n 1, 1) := by decide +kernel
theorem dX11_song_2 : decode cX11_song 2 = .ok (.invokevirtual 244, 3) := by decide +kernel
theorem dX11_song_5 : decode cX11_song 5 = .ok (.ifCond .ne 9, 3) := by decide +kernel
theorem dX11_song_8 : decode cX11_song 8 = .ok (.aload_n 0, 1) := by decide +kernel
theorem dX11_song_9 : decode cX11_song 9 = .ok (.iconst 1, 1) := by decide +kernel
theorem dX11_song_10 : decode cX11_song 10 = .ok (.invokevirtual 84, 3) := by decide +kernel
theorem dX11_song_13 : decode cX11_song 13 = .ok (.ireturn, 1) := by decide +kernel
theorem dX11_song_14 : decode cX11_song 14 = .ok (.aload_n 0, 1) := by decide +kernel
theorem dX11_song_15 : decode cX11_song 15 = .ok (.getfield 47, 3) := by decide +kernel
theorem dX11_song_18 : decode cX11_song 18 = .ok (.aload_n 0, 1) := by decide +kernel
theorem dX11_song_19 : decode cX11_song 19 = .ok (.getfield 10, 3) := by decide +kernel
theorem dX11_song_22 : decode cX11_song 22 = .ok (.iload_n 1, 1) := by decide +kernel
theorem dX11_song_23 : decode cX11_song 23 = .ok (.invokevirtual 247, 3) := by decide +kernel
theorem dX11_song_26 : decode cX11_song 26 = .ok (.aload_n 0, 1) := by decide +kernel
theorem dX11_song_27 : decode cX11_song 27 = .ok (.aload_n 0, 1) := by decide +kernel
theorem dX11_song_28 : decode cX11_song 28 = .ok (.getfield 47, 3) := by decide +kernel
theorem dX11_song_31 : decode cX11_song 31 = .ok (.invokevirtual 251, 3) := by decide +kernel
theorem dX11_song_34 : decode cX11_song 34 = .ok (.invokevirtual 117, 3) := by decide +kernel
theorem dX11_song_37 : decode cX11_song 37 = .ok (.ireturn, 1) := by decide +kernel
abbrev rm_X11_song : Room := { frames := 5, cells := 0, slots := 0, locals := 134 }
def f_X11_song (h : Mem) (v0 : Nat) (v1 : Int32) : Option (Int32 × Mem) :=
  (ck h v0 9).bind fun _ => (f_X11_areTunes h v0 v1).bind fun x1 => (if x1 = 0 then (f_X11_refuse h v0 1).bind fun q12 => some (q12.1, q12.2) else (gR h v0 6 9).bind fun r2 => (gR h v0 1 9).bind fun r3 => (f_X6_compose h r2 r3 v1).bind fun h4 => (gR h4 v0 6 9).bind fun r5 => (f_X6_notes h4 r5).bind fun x6 => (f_X11_answer h4 v0 x6).bind fun q9 => some (q9.1, q9.2))
set_option maxRecDepth 100000 in
set_option maxHeartbeats 4000000 in
theorem w_X11_song {G : GE} {X : CX} {l : Launch} (hX : Ok G X cX11_song RX11) (hN : xn X = 2) {P : (Int32 × Mem) → Prop} (hr : Rt G X l yX11_song (some .int) rm_X11_song (pmI P)) (h : Mem) (v0 : Nat) (v1 : Int32) (hy : OK (f_X11_song h v0 v1) P) : AW G X 0 [(0, vR v0), (1, vI v1)] [] h 0 0 := by
  unfold f_X11_song at hy
  have hkd := hy.kd
  have hy := hy.kb
  refine aw_aloadn (pc := 0) hX 0 rfl dX11_song_0 ?_
  refine aw_iloadn (pc := 1) hX 1 rfl dX11_song_1 ?_
  refine aw_callV (pc := 2) (st := []) (a := v0) hX [vI v1] (con_X11_areTunes _ G _ v0 v1 hy.bd) mc_X11_areTunes ml_X11_244 im_X11_areTunes se_X11_areTunes (by decide) hy.bd.kd rfl (rm_of hr (by decide)) (Nat.le_of_ble_eq_true rfl) rfl dX11_song_2 (kpI rfl rfl (fun x1 hy => ?_))
  refine aw_if_ne (pc := 5) hX 14 (by decide) dX11_song_5 (fun hc9 => ?_) (fun hc9 => ?_)
  · have hy := hy.f hc9
    refine aw_aloadn (pc := 14) hX 0 rfl dX11_song_14 ?_
    refine aw_gR (pc := 15) hX hy fl_X11_47 (fun _ _ => rfl) dX11_song_15 (fun r2 hy => ?_)
    refine aw_aloadn (pc := 18) hX 0 rfl dX11_song_18 ?_
    refine aw_gR (pc := 19) hX hy fl_X11_10 (fun _ _ => rfl) dX11_song_19 (fun r3 hy => ?_)
    refine aw_iloadn (pc := 22) hX 1 rfl dX11_song_22 ?_
    refine aw_callV (pc := 23) (st := []) (a := r2) hX [vR r3, vI v1] (con_X6_compose _ G _ r2 r3 v1 hy.bd) mc_X6_compose ml_X11_247 im_X6_compose se_X6_compose (by decide) hy.bd.kd rfl (rm_of hr (by decide)) (Nat.le_of_ble_eq_true rfl) rfl dX11_song_23 (kmV rfl rfl (fun h4 hy => ?_))
    refine aw_aloadn (pc := 26) hX 0 rfl dX11_song_26 ?_
    refine aw_aloadn (pc := 27) hX 0 rfl dX11_song_27 ?_
    refine aw_gR (pc := 28) hX hy fl_X11_47 (fun _ _ => rfl) dX11_song_28 (fun r5 hy => ?_)
    refine aw_callV (pc := 31) (st := [vR v0]) (a := r5) hX [] (con_X6_notes _ G _ r5 hy.bd) mc_X6_notes ml_X11_251 im_X6_notes se_X6_notes (by decide) hy.bd.kd rfl (rm_of hr (by decide)) (Nat.le_of_ble_eq_true rfl) rfl dX11_song_31 (kpI rfl rfl (fun x6 hy => ?_))
    refine aw_callV (pc := 34) (st := []) (a := v0) hX [vI x6] (con_X11_answer _ G _ v0 x6 hy.bd) mc_X11_answer ml_X11_117 im_X11_answer se_X11_answer (by decide) hy.bd.kd rfl (rm_of hr (by decide)) (Nat.le_of_ble_eq_true rfl) rfl dX11_song_34 (kmI rfl rfl (fun q9 hy => ?_))
    exact aw_iret (pc := 37) hX hr (by decide) (by decide) dX11_song_37 ⟨_, rfl, hy.s⟩
  · have hy := hy.t hc9
    refine aw_aloadn (pc := 8) hX 0 rfl dX11_song_8 ?_
    refine aw_iconst (pc := 9) hX 1 (by decide) dX11_song_9 ?_
    refine aw_callV (pc := 10) (st := []) (a := v0) hX [vI 1] (con_X11_refuse _ G _ v0 1 hy.bd) mc_X11_refuse ml_X11_84 im_X11_refuse se_X11_refuse (by decide) hy.bd.kd rfl (rm_of hr (by decide)) (Nat.le_of_ble_eq_true rfl) rfl dX11_song_10 (kmI rfl rfl (fun q12 hy => ?_))
    exact aw_iret (pc := 13) hX hr (by decide) (by decide) dX11_song_13 ⟨_, rfl, hy.s⟩
theorem con_X11_song (l : Launch) (G : GE) (h : Mem) (v0 : Nat) (v1 : Int32) {P : (Int32 × Mem) → Prop} (hy : OK (f_X11_song h v0 v1) P) : Con l G yX11_song cX11_song 2 (some .int) rm_X11_song [vR v0, vI v1] h (pmI P) := Con.of (by decide) (Nat.le_of_ble_eq_true rfl) (fun X hX hr hN => w_X11_song hX hN hr h v0 v1 hy)
/-! X11_songAt -/
theorem dX11_songAt_0 : decode cX11_songAt 0 = .ok (.aload_n 0, 1) := by decide +kernel
theorem dX11_songAt_1 : decode cX11_songAt 1 = .ok (.iload_n 1, 1) := by decide +kernel
theorem dX11_songAt_2 : decode cX11_songAt 2 = .ok (.invokevirtual 244, 3) := by decide +kernel
theorem dX11_songAt_5 : decode cX11_songAt 5 = .ok (.ifCond .ne 9, 3) := by decide +kernel
theorem dX11_songAt_8 : decode cX11_songAt 8 = .ok (.aload_n 0, 1) := by decide +kernel
theorem dX11_songAt_9 : decode cX11_songAt 9 = .ok (.iconst 1, 1) := by decide +kernel
theorem dX11_songAt_10 : decode cX11_songAt 10 = .ok (.invokevirtual 84, 3) := by decide +kernel
theorem dX11_songAt_13 : decode cX11_songAt 13 = .ok (.ireturn, 1) := by decide +kernel
theorem dX11_songAt_14 : decode cX11_songAt 14 = .ok (.aload_n 0, 1) := by decide +kernel
theorem dX11_songAt_15 : decode cX11_songAt 15 = .ok (.getfield 47, 3) := by decide +kernel
theorem dX11_songAt_18 : decode cX11_songAt 18 = .ok (.aload_n 0, 1) := by decide +kernel
theorem dX11_songAt_19 : decode cX11_songAt 19 = .ok (.getfield 10, 3) := by decide +kernel
theorem dX11_songAt_22 : decode cX11_songAt 22 = .ok (.iload_n 1, 1) := by decide +kernel
theorem dX11_songAt_23 : decode cX11_songAt 23 = .ok (.invokevirtual 247, 3) := by decide +kernel
theorem dX11_songAt_26 : decode cX11_songAt 26 = .ok (.iload_n 2, 1) := by decide +kernel
theorem dX11_songAt_27 : decode cX11_songAt 27 = .ok (.ifCond .lt 14, 3) := by decide +kernel
theorem dX11_songAt_30 : decode cX11_songAt 30 = .ok (.iload_n 2, 1) := by decide +kernel
theorem dX11_songAt_31 : decode cX11_songAt 31 = .ok (.aload_n 0, 1) := by decide +kernel
theorem dX11_songAt_32 : decode cX11_songAt 32 = .ok (.getfield 47, 3) := by decide +kernel
theorem dX11_songAt_35 : decode cX11_songAt 35 = .ok (.invokevirtual 251, 3) := by decide +kernel
theorem dX11_songAt_38 : decode cX11_songAt 38 = .ok (.if_icmp .lt 11, 3) := by decide +kernel
theorem dX11_songAt_41 : decode cX11_songAt 41 = .ok (.aload_n 0, 1) := by decide +kernel
theorem dX11_songAt_42 : decode cX11_songAt 42 = .ok (.iconst 1, 1) := by decide +kernel
theorem dX11_songAt_43 : decode cX11_songAt 43 = .ok (.invokevirtual 84, 3) := by decide +kernel
theorem dX11_songAt_46 : decode cX11_songAt 46 = .ok (.goto 19, 3) := by decide +kernel
theorem dX11_songAt_49 : decode cX11_songAt 49 = .ok (.aload_n 0, 1) := by decide +kernel
theorem dX11_songAt_50 : decode cX11_songAt 50 = .ok (.aload_n 0, 1) := by decide +kernel
theorem dX11_songAt_51 : decode cX11_songAt 51 = .ok (.getfield 47, 3) := by decide +kernel
theorem dX11_songAt_54 : decode cX11_songAt 54 = .ok (.aload_n 0, 1) := by decide +kernel
theorem dX11_songAt_55 : decode cX11_songAt 55 = .ok (.getfield 10, 3) := by decide +kernel
theorem dX11_songAt_58 : decode cX11_songAt 58 = .ok (.iload_n 2, 1) := by decide +kernel
theorem dX11_songAt_59 : decode cX11_songAt 59 = .ok (.invokevirtual 255, 3) := by decide +kernel
theorem dX11_songAt_62 : decode cX11_songAt 62 = .ok (.invokevirtual 117, 3) := by decide +kernel
theorem dX11_songAt_65 : decode cX11_songAt 65 = .ok (.ireturn, 1) := by decide +kernel
abbrev rm_X11_songAt : Room := { frames := 5, cells := 0, slots := 0, locals := 134 }
def f_X11_songAt_41 (h : Mem) (v0 : Nat) : Option (Int32 × Mem) :=
  (f_X11_refuse h v0 1).bind fun q7 => some (q7.1, q7.2)
set_option maxRecDepth 100000 in
set_option maxHeartbeats 4000000 in
theorem w_X11_songAt_41 {G : GE} {X : CX} {l : Launch} (hX : Ok G X cX11_songAt RX11) (hN : xn X = 3) {P : (Int32 × Mem) → Prop} (hr : Rt G X l yX11_songAt (some .int) rm_X11_songAt (pmI P)) (h : Mem) (v0 : Nat) (hy : OK (f_X11_songAt_41 h v0) P) : AW G X 41 [(0, vR v0)] [] h 0 0 := by
  unfold f_X11_songAt_41 at hy
  refine aw_aloadn (pc := 41) hX 0 rfl dX11_songAt_41 ?_
  refine aw_iconst (pc := 42) hX 1 (by decide) dX11_songAt_42 ?_
  refine aw_callV (pc := 43) (st := []) (a := v0) hX [vI 1] (con_X11_refuse _ G _ v0 1 hy.bd) mc_X11_refuse ml_X11_84 im_X11_refuse se_X11_refuse (by decide) hy.bd.kd rfl (rm_of hr (by decide)) (Nat.le_of_ble_eq_true rfl) rfl dX11_songAt_43 (kmI rfl rfl (fun q7 hy => ?_))
  refine aw_goto (pc := 46) hX 65 (by decide) dX11_songAt_46 ?_
  exact aw_iret (pc := 65) hX hr (by decide) (by decide) dX11_songAt_65 ⟨_, rfl, hy.s⟩
def f_X11_songAt (h : Mem) (v0 : Nat) (v1 : Int32) (v2 : Int32) : Option (Int32 × Mem) :=
  (ck h v0 9).bind fun _ => (f_X11_areTunes h v0 v1).bind fun x1 => (if x1 = 0 then (f_X11_refuse h v0 1).bind fun q18 => some (q18.1, q18.2) else (gR h v0 6 9).bind fun r2 => (gR h v0 1 9).bind fun r3 => (f_X6_compose h r2 r3 v1).bind fun h4 => (if v2 < 0 then f_X11_songAt_41 h4 v0 else (gR h4 v0 6 9).bind fun r8 => (f_X6_notes h4 r8).bind fun x9 => (if v2 < x9 then (gR h4 v0 6 9).bind fun r10 => (gR h4 v0 1 9).bind fun r11 => (f_X6_noteAt h4 r10 r11 v2).bind fun x12 => (f_X11_answer h4 v0 x12).bind fun q15 => some (q15.1, q15.2) else f_X11_songAt_41 h4 v0)))
set_option maxRecDepth 100000 in
set_option maxHeartbeats 4000000 in
theorem w_X11_songAt {G : GE} {X : CX} {l : Launch} (hX : Ok G X cX11_songAt RX11) (hN : xn X = 3) {P : (Int32 × Mem) → Prop} (hr : Rt G X l yX11_songAt (some .int) rm_X11_songAt (pmI P)) (h : Mem) (v0 : Nat) (v1 : Int32) (v2 : Int32) (hy : OK (f_X11_songAt h v0 v1 v2) P) : AW G X 0 [(0, vR v0), (1, vI v1), (2, vI v2)] [] h 0 0 := by
  unfold f_X11_songAt at hy
  have hkd := hy.kd
  have hy := hy.kb
  refine aw_aloadn (pc := 0) hX 0 rfl dX11_songAt_0 ?_
  refine aw_iloadn (pc := 1) hX 1 rfl dX11_songAt_1 ?_
  refine aw_callV (pc := 2) (st := []) (a := v0) hX [vI v1] (con_X11_areTunes _ G _ v0 v1 hy.bd) mc_X11_areTunes ml_X11_244 im_X11_areTunes se_X11_areTunes (by decide) hy.bd.kd rfl (rm_of hr (by decide)) (Nat.le_of_ble_eq_true rfl) rfl dX11_songAt_2 (kpI rfl rfl (fun x1 hy => ?_))
  refine aw_if_ne (pc := 5) hX 14 (by decide) dX11_songAt_5 (fun hc9 => ?_) (fun hc9 => ?_)
  · have hy := hy.f hc9
    refine aw_aloadn (pc := 14) hX 0 rfl dX11_songAt_14 ?_
    refine aw_gR (pc := 15) hX hy fl_X11_47 (fun _ _ => rfl) dX11_songAt_15 (fun r2 hy => ?_)
    refine aw_aloadn (pc := 18) hX 0 rfl dX11_songAt_18 ?_
    refine aw_gR (pc := 19) hX hy fl_X11_10 (fun _ _ => rfl) dX11_songAt_19 (fun r3 hy => ?_)
    refine aw_iloadn (pc := 22) hX 1 rfl dX11_songAt_22 ?_
    refine aw_callV (pc := 23) (st := []) (a := r2) hX [vR r3, vI v1] (con_X6_compose _ G _ r2 r3 v1 hy.bd) mc_X6_compose ml_X11_247 im_X6_compose se_X6_compose (by decide) hy.bd.kd rfl (rm_of hr (by decide)) (Nat.le_of_ble_eq_true rfl) rfl dX11_songAt_23 (kmV rfl rfl (fun h4 hy => ?_))
    refine aw_iloadn (pc := 26) hX 2 rfl dX11_songAt_26 ?_
    refine aw_if_lt (pc := 27) hX 41 (by decide) dX11_songAt_27 (fun hc9 => ?_) (fun hc9 => ?_)
    · have hy := hy.t hc9
      refine AW.sub [0] rfl ?_
      exact w_X11_songAt_41 hX hN hr h4 v0 hy
    · have hy := hy.f hc9
      refine aw_iloadn (pc := 30) hX 2 rfl dX11_songAt_30 ?_
      refine aw_aloadn (pc := 31) hX 0 rfl dX11_songAt_31 ?_
      refine aw_gR (pc := 32) hX hy fl_X11_47 (fun _ _ => rfl) dX11_songAt_32 (fun r8 hy => ?_)
      refine aw_callV (pc := 35) (st := [vI v2]) (a := r8) hX [] (con_X6_notes _ G _ r8 hy.bd) mc_X6_notes ml_X11_251 im_X6_notes se_X6_notes (by decide) hy.bd.kd rfl (rm_of hr (by decide)) (Nat.le_of_ble_eq_true rfl) rfl dX11_songAt_35 (kpI rfl rfl (fun x9 hy => ?_))
      refine aw_ic_lt (pc := 38) hX 49 (by decide) dX11_songAt_38 (fun hc9 => ?_) (fun hc9 => ?_)
      · have hy := hy.t hc9
        refine aw_aloadn (pc := 49) hX 0 rfl dX11_songAt_49 ?_
        refine aw_aloadn (pc := 50) hX 0 rfl dX11_songAt_50 ?_
        refine aw_gR (pc := 51) hX hy fl_X11_47 (fun _ _ => rfl) dX11_songAt_51 (fun r10 hy => ?_)
        refine aw_aloadn (pc := 54) hX 0 rfl dX11_songAt_54 ?_
        refine aw_gR (pc := 55) hX hy fl_X11_10 (fun _ _ => rfl) dX11_songAt_55 (fun r11 hy => ?_)
        refine aw_iloadn (pc := 58) hX 2 rfl dX11_songAt_58 ?_
        refine aw_callV (pc := 59) (st := [vR v0]) (a := r10) hX [vR r11, vI v2] (con_X6_noteAt _ G _ r10 r11 v2 hy.bd) mc_X6_noteAt ml_X11_255 im_X6_noteAt se_X6_noteAt (by decide) hy.bd.kd rfl (rm_of hr (by decide)) (Nat.le_of_ble_eq_true rfl) rfl dX11_songAt_59 (kpI rfl rfl (fun x12 hy => ?_))
        refine aw_callV (pc := 62) (st := []) (a := v0) hX [vI x12] (con_X11_answer _ G _ v0 x12 hy.bd) mc_X11_answer ml_X11_117 im_X11_answer se_X11_answer (by decide) hy.bd.kd rfl (rm_of hr (by decide)) (Nat.le_of_ble_eq_true rfl) rfl dX11_songAt_62 (kmI rfl rfl (fun q15 hy => ?_))
        exact aw_iret (pc := 65) hX hr (by decide) (by decide) dX11_songAt_65 ⟨_, rfl, hy.s⟩
      · have hy := hy.f hc9
        refine AW.sub [0] rfl ?_
        exact w_X11_songAt_41 hX hN hr h4 v0 hy
  · have hy := hy.t hc9
    refine aw_aloadn (pc := 8) hX 0 rfl dX11_songAt_8 ?_
    refine aw_iconst (pc := 9) hX 1 (by decide) dX11_songAt_9 ?_
    refine aw_callV (pc := 10) (st := []) (a := v0) hX [vI 1] (con_X11_refuse _ G _ v0 1 hy.bd) mc_X11_refuse ml_X11_84 im_X11_refuse se_X11_refuse (by decide) hy.bd.kd rfl (rm_of hr (by decide)) (Nat.le_of_ble_eq_true rfl) rfl dX11_songAt_10 (kmI rfl rfl (fun q18 hy => ?_))
    exact aw_iret (pc := 13) hX hr (by decide) (by decide) dX11_songAt_13 ⟨_, rfl, hy.s⟩
theorem con_X11_songAt (l : Launch) (G : GE) (h : Mem) (v0 : Nat) (v1 : Int32) (v2 : Int32) {P : (Int32 × Mem) → Prop} (hy : OK (f_X11_songAt h v0 v1 v2) P) : Con l G yX11_songAt cX11_songAt 3 (some .int) rm_X11_songAt [vR v0, vI v1, vI v2] h (pmI P) := Con.of (by decide) (Nat.le_of_ble_eq_true rfl) (fun X hX hr hN => w_X11_songAt hX hN hr h v0 v1 v2 hy)
/-! X11_areTwoTunes -/
theorem dX11_areTwoTunes_0 : decode cX11_areTwoTunes 0 = .ok (.aload_n 0, 1) := by decide +kernel
theorem dX11_areTwoTunes_1 : decode cX11_areTwoTunes 1 = .ok (.iload_n 1, 1) := by decide +kernel
theorem dX11_areTwoTunes_2 : decode cX11_areTwoTunes 2 = .ok (.invokevirtual 129, 3) := by decide +kernel
theorem dX11_areTwoTunes_5 : decode cX11_areTwoTunes 5 = .ok (.ifCond .eq 20, 3) := by decide +kernel
theorem dX11_areTwoTunes_8 : decode cX11_areTwoTunes 8 = .ok (.aload_n 0, 1) := by decide +kernel
theorem dX11_areTwoTunes_9 : decode cX11_areTwoTunes 9 = .ok (.iload_n 2, 1) := by decide +kernel
theorem dX11_areTwoTunes_10 : decode cX11_areTwoTunes 10 = .ok (.invokevirtual 129, 3) := by decide +kernel
theorem dX11_areTwoTunes_13 : decode cX11_areTwoTunes 13 = .ok (.ifCond .eq 12, 3) := by decide +kernel
theorem dX11_areTwoTunes_16 : decode cX11_areTwoTunes 16 = .ok (.iload_n 1, 1) := by decide +kernel
theorem dX11_areTwoTunes_17 : decode cX11_areTwoTunes 17 = .ok (.iload_n 2, 1) := by decide +kernel
theorem dX11_areTwoTunes_18 : decode cX11_areTwoTunes 18 = .ok (.if_icmp .eq 7, 3) := by decide +kernel
theorem dX11_areTwoTunes_21 : decode cX11_areTwoTunes 21 = .ok (.iconst 1, 1) := by decide +kernel
theorem dX11_areTwoTunes_22 : decode cX11_areTwoTunes 22 = .ok (.goto 4, 3) := by decide +kernel
theorem dX11_areTwoTunes_25 : decode cX11_areTwoTunes 25 = .ok (.iconst 0, 1) := by decide +kernel
theorem dX11_areTwoTunes_26 : decode cX11_areTwoTunes 26 = .ok (.ireturn, 1) := by decide +kernel
abbrev rm_X11_areTwoTunes : Room := { frames := 1, cells := 0, slots := 0, locals := 21 }
def f_X11_areTwoTunes_25 (h : Mem) : Option Int32 :=
  some 0
set_option maxRecDepth 100000 in
set_option maxHeartbeats 4000000 in
theorem w_X11_areTwoTunes_25 {G : GE} {X : CX} {l : Launch} (hX : Ok G X cX11_areTwoTunes RX11) (hN : xn X = 3) (h : Mem) {P : Int32 → Prop} (hr : Rt G X l yX11_areTwoTunes (some .boolean) rm_X11_areTwoTunes (ppI h P)) (hy : OK (f_X11_areTwoTunes_25 h) P) : AW G X 25 [] [] h 0 0 := by
  unfold f_X11_areTwoTunes_25 at hy
  refine aw_iconst (pc := 25) hX 0 (by decide) dX11_areTwoTunes_25 ?_
  exact aw_zret (pc := 26) hX hr (by decide) (by decide) dX11_areTwoTunes_26 (Or.inl rfl) ⟨rfl, _, rfl, hy.s⟩
def f_X11_areTwoTunes (h : Mem) (v0 : Nat) (v1 : Int32) (v2 : Int32) : Option Int32 :=
  (ck h v0 9).bind fun _ => (f_X11_isTune h v0 v1).bind fun x1 => (if x1 = 0 then f_X11_areTwoTunes_25 h else (f_X11_isTune h v0 v2).bind fun x2 => (if x2 = 0 then f_X11_areTwoTunes_25 h else (if v1 = v2 then f_X11_areTwoTunes_25 h else some 1)))
set_option maxRecDepth 100000 in
set_option maxHeartbeats 4000000 in
theorem w_X11_areTwoTunes {G : GE} {X : CX} {l : Launch} (hX : Ok G X cX11_areTwoTunes RX11) (hN : xn X = 3) (h : Mem) {P : Int32 → Prop} (hr : Rt G X l yX11_areTwoTunes (some .boolean) rm_X11_areTwoTunes (ppI h P)) (v0 : Nat) (v1 : Int32) (v2 : Int32) (hy : OK (f_X11_areTwoTunes h v0 v1 v2) P) : AW G X 0 [(0, vR v0), (1, vI v1), (2, vI v2)] [] h 0 0 := by
  unfold f_X11_areTwoTunes at hy
  have hkd := hy.kd
  have hy := hy.kb
  refine aw_aloadn (pc := 0) hX 0 rfl dX11_areTwoTunes_0 ?_
  refine aw_iloadn (pc := 1) hX 1 rfl dX11_areTwoTunes_1 ?_
  refine aw_callV (pc := 2) (st := []) (a := v0) hX [vI v1] (con_X11_isTune _ G _ v0 v1 hy.bd) mc_X11_isTune ml_X11_129 im_X11_isTune se_X11_isTune (by decide) hy.bd.kd rfl (rm_of hr (by decide)) (Nat.le_of_ble_eq_true rfl) rfl dX11_areTwoTunes_2 (kpI rfl rfl (fun x1 hy => ?_))
  refine aw_if_eq (pc := 5) hX 25 (by decide) dX11_areTwoTunes_5 (fun hc9 => ?_) (fun hc9 => ?_)
  · have hy := hy.t hc9
    refine AW.sub [] rfl ?_
    exact w_X11_areTwoTunes_25 hX hN _ hr hy
  · have hy := hy.f hc9
    refine aw_aloadn (pc := 8) hX 0 rfl dX11_areTwoTunes_8 ?_
    refine aw_iloadn (pc := 9) hX 2 rfl dX11_areTwoTunes_9 ?_
    refine aw_callV (pc := 10) (st := []) (a := v0) hX [vI v2] (con_X11_isTune _ G _ v0 v2 hy.bd) mc_X11_isTune ml_X11_129 im_X11_isTune se_X11_isTune (by decide) hy.bd.kd rfl (rm_of hr (by decide)) (Nat.le_of_ble_eq_true rfl) rfl dX11_areTwoTunes_10 (kpI rfl rfl (fun x2 hy => ?_))
    refine aw_if_eq (pc := 13) hX 25 (by decide) dX11_areTwoTunes_13 (fun hc9 => ?_) (fun hc9 => ?_)
    · have hy := hy.t hc9
      refine AW.sub [] rfl ?_
      exact w_X11_areTwoTunes_25 hX hN _ hr hy
    · have hy := hy.f hc9
      refine aw_iloadn (pc := 16) hX 1 rfl dX11_areTwoTunes_16 ?_
      refine aw_iloadn (pc := 17) hX 2 rfl dX11_areTwoTunes_17 ?_
      refine aw_ic_eq (pc := 18) hX 25 (by decide) dX11_areTwoTunes_18 (fun hc9 => ?_) (fun hc9 => ?_)
      · have hy := hy.t hc9
        refine AW.sub [] rfl ?_
        exact w_X11_areTwoTunes_25 hX hN _ hr hy
      · have hy := hy.f hc9
        refine aw_iconst (pc := 21) hX 1 (by decide) dX11_areTwoTunes_21 ?_
        refine aw_goto (pc := 22) hX 26 (by decide) dX11_areTwoTunes_22 ?_
        exact aw_zret (pc := 26) hX hr (by decide) (by decide) dX11_areTwoTunes_26 (Or.inr rfl) ⟨rfl, _, rfl, hy.s⟩
theorem con_X11_areTwoTunes (l : Launch) (G : GE) (h : Mem) (v0 : Nat) (v1 : Int32) (v2 : Int32) {P : Int32 → Prop} (hy : OK (f_X11_areTwoTunes h v0 v1 v2) P) : Con l G yX11_areTwoTunes cX11_areTwoTunes 3 (some .boolean) rm_X11_areTwoTunes [vR v0, vI v1, vI v2] h (ppI h P) := Con.of (by decide) (Nat.le_of_ble_eq_true rfl) (fun X hX hr hN => w_X11_areTwoTunes hX hN h hr v0 v1 v2 hy)
/-! X11_overlap -/
theorem dX11_overlap_0 : decode cX11_overlap 0 = .ok (.aload_n 0, 1) := by decide +kernel
theorem dX11_overlap_1 : decode cX11_overlap 1 = .ok (.iload_n 1, 1) := by decide +kernel
theorem dX11_overlap_2 : decode cX11_overlap 2 = .ok (.iload_n 2, 1) := by decide +kernel
theorem dX11_overlap_3 : decode cX11_overlap 3 = .ok (.invokevirtual 258, 3) := by decide +kernel
theorem dX11_overlap_6 : decode cX11_overlap 6 = .ok (.ifCond .eq 19, 3) := by decide +kernel
theorem dX11_overlap_9 : decode cX11_overlap 9 = .ok (.aload_n 0, 1) := by decide +kernel
theorem dX11_overlap_10 : decode cX11_overlap 10 = .ok (.aload_n 0, 1) := by decide +kernel
theorem dX11_overlap_11 : decode cX11_overlap 11 = .ok (.getfield 10, 3) := by decide +kernel
theorem dX11_overlap_14 : decode cX11_overlap 14 = .ok (.iload_n 1, 1) := by decide +kernel
theorem dX11_overlap_15 : decode cX11_overlap 15 = .ok (.iload_n 2, 1) := by decide +kernel
theorem dX11_overlap_16 : decode cX11_overlap 16 = .ok (.invokestatic 261, 3) := by decide +kernel
theorem dX11_overlap_19 : decode cX11_overlap 19 = .ok (.invokevirtual 117, 3) := by decide +kernel
theorem dX11_overlap_22 : decode cX11_overlap 22 = .ok (.goto 8, 3) := by decide +kernel
theorem dX11_overlap_25 : decode cX11_overlap 25 = .ok (.aload_n 0, 1) := by decide +kernel
theorem dX11_overlap_26 : decode cX11_overlap 26 = .ok (.iconst 1, 1) := by decide +kernel
theorem dX11_overlap_27 : decode cX11_overlap 27 = .ok (.invokevirtual 84, 3) := by decide +kernel
theorem dX11_overlap_30 : decode cX11_overlap 30 = .ok (.ireturn, 1) := by decide +kernel
abbrev rm_X11_overlap : Room := { frames := 3, cells := 0, slots := 0, locals := 70 }
def f_X11_overlap (h : Mem) (v0 : Nat) (v1 : Int32) (v2 : Int32) : Option (Int32 × Mem) :=
  (ck h v0 9).bind fun _ => (f_X11_areTwoTunes h v0 v1 v2).bind fun x1 => (if x1 = 0 then (f_X11_refuse h v0 1).bind fun q4 => some (q4.1, q4.2) else (gR h v0 1 9).bind fun r5 => (f_X6_notesInCommon h r5 v1 v2).bind fun x6 => (f_X11_answer h v0 x6).bind fun q9 => some (q9.1, q9.2))
set_option maxRecDepth 100000 in
set_option maxHeartbeats 4000000 in
theorem w_X11_overlap {G : GE} {X : CX} {l : Launch} (hX : Ok G X cX11_overlap RX11) (hN : xn X = 3) {P : (Int32 × Mem) → Prop} (hr : Rt G X l yX11_overlap (some .int) rm_X11_overlap (pmI P)) (h : Mem) (v0 : Nat) (v1 : Int32) (v2 : Int32) (hy : OK (f_X11_overlap h v0 v1 v2) P) : AW G X 0 [(0, vR v0), (1, vI v1), (2, vI v2)] [] h 0 0 := by
  unfold f_X11_overlap at hy
  have hkd := hy.kd
  have hy := hy.kb
  refine aw_aloadn (pc := 0) hX 0 rfl dX11_overlap_0 ?_
  refine aw_iloadn (pc := 1) hX 1 rfl dX11_overlap_1 ?_
  refine aw_iloadn (pc := 2) hX 2 rfl dX11_overlap_2 ?_
  refine aw_callV (pc := 3) (st := []) (a := v0) hX [vI v1, vI v2] (con_X11_areTwoTunes _ G _ v0 v1 v2 hy.bd) mc_X11_areTwoTunes ml_X11_258 im_X11_areTwoTunes se_X11_areTwoTunes (by decide) hy.bd.kd rfl (rm_of hr (by decide)) (Nat.le_of_ble_eq_true rfl) rfl dX11_overlap_3 (kpI rfl rfl (fun x1 hy => ?_))
  refine aw_if_eq (pc := 6) hX 25 (by decide) dX11_overlap_6 (fun hc9 => ?_) (fun hc9 => ?_)
  · have hy := hy.t hc9
    refine aw_aloadn (pc := 25) hX 0 rfl dX11_overlap_25 ?_
    refine aw_iconst (pc := 26) hX 1 (by decide) dX11_overlap_26 ?_
    refine aw_callV (pc := 27) (st := []) (a := v0) hX [vI 1] (con_X11_refuse _ G _ v0 1 hy.bd) mc_X11_refuse ml_X11_84 im_X11_refuse se_X11_refuse (by decide) hy.bd.kd rfl (rm_of hr (by decide)) (Nat.le_of_ble_eq_true rfl) rfl dX11_overlap_27 (kmI rfl rfl (fun q4 hy => ?_))
    exact aw_iret (pc := 30) hX hr (by decide) (by decide) dX11_overlap_30 ⟨_, rfl, hy.s⟩
  · have hy := hy.f hc9
    refine aw_aloadn (pc := 9) hX 0 rfl dX11_overlap_9 ?_
    refine aw_aloadn (pc := 10) hX 0 rfl dX11_overlap_10 ?_
    refine aw_gR (pc := 11) hX hy fl_X11_10 (fun _ _ => rfl) dX11_overlap_11 (fun r5 hy => ?_)
    refine aw_iloadn (pc := 14) hX 1 rfl dX11_overlap_14 ?_
    refine aw_iloadn (pc := 15) hX 2 rfl dX11_overlap_15 ?_
    refine aw_callS (pc := 16) (st := [vR v0]) hX [vR r5, vI v1, vI v2] (con_X6_notesInCommon _ G _ r5 v1 v2 hy.bd) mc_X6_notesInCommon ml_X11_261 st_X6_notesInCommon rfl (rm_of hr (by decide)) (Nat.le_of_ble_eq_true rfl) rfl dX11_overlap_16 (kpI rfl rfl (fun x6 hy => ?_))
    refine aw_callV (pc := 19) (st := []) (a := v0) hX [vI x6] (con_X11_answer _ G _ v0 x6 hy.bd) mc_X11_answer ml_X11_117 im_X11_answer se_X11_answer (by decide) hy.bd.kd rfl (rm_of hr (by decide)) (Nat.le_of_ble_eq_true rfl) rfl dX11_overlap_19 (kmI rfl rfl (fun q9 hy => ?_))
    refine aw_goto (pc := 22) hX 30 (by decide) dX11_overlap_22 ?_
    exact aw_iret (pc := 30) hX hr (by decide) (by decide) dX11_overlap_30 ⟨_, rfl, hy.s⟩
theorem con_X11_overlap (l : Launch) (G : GE) (h : Mem) (v0 : Nat) (v1 : Int32) (v2 : Int32) {P : (Int32 × Mem) → Prop} (hy : OK (f_X11_overlap h v0 v1 v2) P) : Con l G yX11_overlap cX11_overlap 3 (some .int) rm_X11_overlap [vR v0, vI v1, vI v2] h (pmI P) := Con.of (by decide) (Nat.le_of_ble_eq_true rfl) (fun X hX hr hN => w_X11_overlap hX hN hr h v0 v1 v2 hy)
/-! X11_together -/
theorem dX11_together_0 : decode cX11_together 0 = .ok (.aload_n 0, 1) := by decide +kernel
theorem dX11_together_1 : decode cX11_together 1 = .ok (.iload_n 1, 1) := by decide +kernel
theorem dX11_together_2 : decode cX11_together 2 = .ok (.iload_n 2, 1) := by decide +kernel
theorem dX11_together_3 : decode cX11_together 3 = .ok (.invokevirtual 258, 3) := by decide +kernel
theorem dX11_together_6 : decode cX11_together 6 = .ok (.ifCond .eq 27, 3) := by decide +kernel
theorem dX11_together_9 : decode cX11_together 9 = .ok (.aload_n 0, 1) := by decide +kernel
theorem dX11_together_10 : decode cX11_together 10 = .ok (.aload_n 0, 1) := by decide +kernel
theorem dX11_together_11 : decode cX11_together 11 = .ok (.getfield 10, 3) := by decide +kernel
theorem dX11_together_14 : decode cX11_together 14 = .ok (.iload_n 1, 1) := by decide +kernel
theorem dX11_together_15 : decode cX11_together 15 = .ok (.iload_n 2, 1) := by decide +kernel
theorem dX11_together_16 : decode cX11_together 16 = .ok (.invokestatic 265, 3) := by decide +kernel
theorem dX11_together_19 : decode cX11_together 19 = .ok (.ifCond .eq 7, 3) := by decide +kernel
theorem dX11_together_22 : decode cX11_together 22 = .ok (.iconst 1, 1) := by decide +kernel
theorem dX11_together_23 : decode cX11_together 23 = .ok (.goto 4, 3) := by decide +kernel
theorem dX11_together_26 : decode cX11_together 26 = .ok (.iconst 0, 1) := by decide +kernel
theorem dX11_together_27 : decode cX11_together 27 = .ok (.invokevirtual 117, 3) := by decide +kernel
theorem dX11_together_30 : decode cX11_together 30 = .ok (.goto 8, 3) := by decide +kernel
theorem dX11_together_33 : decode cX11_together 33 = .ok (.aload_n 0, 1) := by decide +kernel
theorem dX11_together_34 : decode cX11_together 34 = .ok (.iconst 1, 1) := by decide +kernel
theorem dX11_together_35 : decode cX11_together 35 = .ok (.invokevirtual 84, 3) := by decide +kernel
theorem dX11_together_38 : decode cX11_together 38 = .ok (.ireturn, 1) := by decide +kernel
abbrev rm_X11_together : Room := { frames := 3, cells := 0, slots := 0, locals := 68 }
def f_X11_together_27 (h : Mem) (s0 : Nat) (s1 : Int32) : Option (Int32 × Mem) :=
  (f_X11_answer h s0 s1).bind fun q9 => some (q9.1, q9.2)
set_option maxRecDepth 100000 in
set_option maxHeartbeats 4000000 in
theorem w_X11_together_27 {G : GE} {X : CX} {l : Launch} (hX : Ok G X cX11_together RX11) (hN : xn X = 3) {P : (Int32 × Mem) → Prop} (hr : Rt G X l yX11_together (some .int) rm_X11_together (pmI P)) (h : Mem) (s0 : Nat) (s1 : Int32) (hy : OK (f_X11_together_27 h s0 s1) P) : AW G X 27 [] [vI s1, vR s0] h 0 0 := by
  unfold f_X11_together_27 at hy
  refine aw_callV (pc := 27) (st := []) (a := s0) hX [vI s1] (con_X11_answer _ G _ s0 s1 hy.bd) mc_X11_answer ml_X11_117 im_X11_answer se_X11_answer (by decide) hy.bd.kd rfl (rm_of hr (by decide)) (Nat.le_of_ble_eq_true rfl) rfl dX11_together_27 (kmI rfl rfl (fun q9 hy => ?_))
  refine aw_goto (pc := 30) hX 38 (by decide) dX11_together_30 ?_
  exact aw_iret (pc := 38) hX hr (by decide) (by decide) dX11_together_38 ⟨_, rfl, hy.s⟩
def f_X11_together (h : Mem) (v0 : Nat) (v1 : Int32) (v2 : Int32) : Option (Int32 × Mem) :=
  (ck h v0 9).bind fun _ => (f_X11_areTwoTunes h v0 v1 v2).bind fun x1 => (if x1 = 0 then (f_X11_refuse h v0 1).bind fun q4 => some (q4.1, q4.2) else (gR h v0 1 9).bind fun r5 => (f_X3_goTogether h r5 v1 v2).bind fun x6 => (if x6 = 0 then f_X11_together_27 h v0 0 else f_X11_together_27 h v0 1))
set_option maxRecDepth 100000 in
set_option maxHeartbeats 4000000 in
theorem w_X11_together {G : GE} {X : CX} {l : Launch} (hX : Ok G X cX11_together RX11) (hN : xn X = 3) {P : (Int32 × Mem) → Prop} (hr : Rt G X l yX11_together (some .int) rm_X11_together (pmI P)) (h : Mem) (v0 : Nat) (v1 : Int32) (v2 : Int32) (hy : OK (f_X11_together h v0 v1 v2) P) : AW G X 0 [(0, vR v0), (1, vI v1), (2, vI v2)] [] h 0 0 := by
  unfold f_X11_together at hy
  have hkd := hy.kd
  have hy := hy.kb
  refine aw_aloadn (pc := 0) hX 0 rfl dX11_together_0 ?_
  refine aw_iloadn (pc := 1) hX 1 rfl dX11_together_1 ?_
  refine aw_iloadn (pc := 2) hX 2 rfl dX11_together_2 ?_
  refine aw_callV (pc := 3) (st := []) (a := v0) hX [vI v1, vI v2] (con_X11_areTwoTunes _ G _ v0 v1 v2 hy.bd) mc_X11_areTwoTunes ml_X11_258 im_X11_areTwoTunes se_X11_areTwoTunes (by decide) hy.bd.kd rfl (rm_of hr (by decide)) (Nat.le_of_ble_eq_true rfl) rfl dX11_together_3 (kpI rfl rfl (fun x1 hy => ?_))
  refine aw_if_eq (pc := 6) hX 33 (by decide) dX11_together_6 (fun hc9 => ?_) (fun hc9 => ?_)
  · have hy := hy.t hc9
    refine aw_aloadn (pc := 33) hX 0 rfl dX11_together_33 ?_
    refine aw_iconst (pc := 34) hX 1 (by decide) dX11_together_34 ?_
    refine aw_callV (pc := 35) (st := []) (a := v0) hX [vI 1] (con_X11_refuse _ G _ v0 1 hy.bd) mc_X11_refuse ml_X11_84 im_X11_refuse se_X11_refuse (by decide) hy.bd.kd rfl (rm_of hr (by decide)) (Nat.le_of_ble_eq_true rfl) rfl dX11_together_35 (kmI rfl rfl (fun q4 hy => ?_))
    exact aw_iret (pc := 38) hX hr (by decide) (by decide) dX11_together_38 ⟨_, rfl, hy.s⟩
  · have hy := hy.f hc9
    refine aw_aloadn (pc := 9) hX 0 rfl dX11_together_9 ?_
    refine aw_aloadn (pc := 10) hX 0 rfl dX11_together_10 ?_
    refine aw_gR (pc := 11) hX hy fl_X11_10 (fun _ _ => rfl) dX11_together_11 (fun r5 hy => ?_)
    refine aw_iloadn (pc := 14) hX 1 rfl dX11_together_14 ?_
    refine aw_iloadn (pc := 15) hX 2 rfl dX11_together_15 ?_
    refine aw_callS (pc := 16) (st := [vR v0]) hX [vR r5, vI v1, vI v2] (con_X3_goTogether _ G _ r5 v1 v2 hy.bd) mc_X3_goTogether ml_X11_265 st_X3_goTogether rfl (rm_of hr (by decide)) (Nat.le_of_ble_eq_true rfl) rfl dX11_together_16 (kpI rfl rfl (fun x6 hy => ?_))
    refine aw_if_eq (pc := 19) hX 26 (by decide) dX11_together_19 (fun hc9 => ?_) (fun hc9 => ?_)
    · have hy := hy.t hc9
      refine aw_iconst (pc := 26) hX 0 (by decide) dX11_together_26 ?_
      refine AW.sub [] rfl ?_
      exact w_X11_together_27 hX hN hr h v0 0 hy
    · have hy := hy.f hc9
      refine aw_iconst (pc := 22) hX 1 (by decide) dX11_together_22 ?_
      refine aw_goto (pc := 23) hX 27 (by decide) dX11_together_23 ?_
      refine AW.sub [] rfl ?_
      exact w_X11_together_27 hX hN hr h v0 1 hy
theorem con_X11_together (l : Launch) (G : GE) (h : Mem) (v0 : Nat) (v1 : Int32) (v2 : Int32) {P : (Int32 × Mem) → Prop} (hy : OK (f_X11_together h v0 v1 v2) P) : Con l G yX11_together cX11_together 3 (some .int) rm_X11_together [vR v0, vI v1, vI v2] h (pmI P) := Con.of (by decide) (Nat.le_of_ble_eq_true rfl) (fun X hX hr hN => w_X11_together hX hN hr h v0 v1 v2 hy)
/-! X11_pairs -/
theorem dX11_pairs_0 : decode cX11_pairs 0 = .ok (.aload_n 0, 1) := by decide +kernel
theorem dX11_pairs_1 : decode cX11_pairs 1 = .ok (.invokevirtual 193, 3) := by decide +kernel
theorem dX11_pairs_4 : decode cX11_pairs 4 = .ok (.ifCond .eq 21, 3) := by decide +kernel
theorem dX11_pairs_7 : decode cX11_pairs 7 = .ok (.aload_n 0, 1) := by decide +kernel
theorem dX11_pairs_8 : decode cX11_pairs 8 = .ok (.aload_n 0, 1) := by decide +kernel
theorem dX11_pairs_9 : decode cX11_pairs 9 = .ok (.getfield 54, 3) := by decide +kernel
theorem dX11_pairs_12 : decode cX11_pairs 12 = .ok (.aload_n 0, 1) := by decide +kernel
theorem dX11_pairs_13 : decode cX11_pairs 13 = .ok (.getfield 10, 3) := by decide +kernel
theorem dX11_pairs_16 : decode cX11_pairs 16 = .ok (.invokevirtual 269, 3) := by decide +kernel
theorem dX11_pairs_19 : decode cX11_pairs 19 = .ok (.invokevirtual 117, 3) := by decide +kernel
theorem dX11_pairs_22 : decode cX11_pairs 22 = .ok (.goto 8, 3) := by decide +kernel
theorem dX11_pairs_25 : decode cX11_pairs 25 = .ok (.aload_n 0, 1) := by decide +kernel
theorem dX11_pairs_26 : decode cX11_pairs 26 = .ok (.iconst 1, 1) := by decide +kernel
theorem dX11_pairs_27 : decode cX11_pairs 27 = .ok (.invokevirtual 84, 3) := by decide +kernel
theorem dX11_pairs_30 : decode cX11_pairs 30 = .ok (.ireturn, 1) := by decide +kernel
abbrev rm_X11_pairs : Room := { frames := 1, cells := 0, slots := 0, locals := 21 }
def f_X11_pairs (h : Mem) (v0 : Nat) : Option (Int32 × Mem) :=
  (ck h v0 9).bind fun _ => (f_X11_isTold h v0).bind fun x1 => (if x1 = 0 then (f_X11_refuse h v0 1).bind fun q4 => some (q4.1, q4.2) else (gR h v0 7 9).bind fun r5 => (gR h v0 1 9).bind fun r6 => (f_X3_howMany h r5 r6).bind fun x7 => (f_X11_answer h v0 x7).bind fun q10 => some (q10.1, q10.2))
set_option maxRecDepth 100000 in
set_option maxHeartbeats 4000000 in
theorem w_X11_pairs {G : GE} {X : CX} {l : Launch} (hX : Ok G X cX11_pairs RX11) (hN : xn X = 1) {P : (Int32 × Mem) → Prop} (hr : Rt G X l yX11_pairs (some .int) rm_X11_pairs (pmI P)) (h : Mem) (v0 : Nat) (hy : OK (f_X11_pairs h v0) P) : AW G X 0 [(0, vR v0)] [] h 0 0 := by
  unfold f_X11_pairs at hy
  have hkd := hy.kd
  have hy := hy.kb
  refine aw_aloadn (pc := 0) hX 0 rfl dX11_pairs_0 ?_
  refine aw_callV (pc := 1) (st := []) (a := v0) hX [] (con_X11_isTold _ G _ v0 hy.bd) mc_X11_isTold ml_X11_193 im_X11_isTold se_X11_isTold (by decide) hy.bd.kd rfl (rm_of hr (by decide)) (Nat.le_of_ble_eq_true rfl) rfl dX11_pairs_1 (kpI rfl rfl (fun x1 hy => ?_))
  refine aw_if_eq (pc := 4) hX 25 (by decide) dX11_pairs_4 (fun hc9 => ?_) (fun hc9 => ?_)
  · have hy := hy.t hc9
    refine aw_aloadn (pc := 25) hX 0 rfl dX11_pairs_25 ?_
    refine aw_iconst (pc := 26) hX 1 (by decide) dX11_pairs_26 ?_
    refine aw_callV (pc := 27) (st := []) (a := v0) hX [vI 1] (con_X11_refuse _ G _ v0 1 hy.bd) mc_X11_refuse ml_X11_84 im_X11_refuse se_X11_refuse (by decide) hy.bd.kd rfl (rm_of hr (by decide)) (Nat.le_of_ble_eq_true rfl) rfl dX11_pairs_27 (kmI rfl rfl (fun q4 hy => ?_))
    exact aw_iret (pc := 30) hX hr (by decide) (by decide) dX11_pairs_30 ⟨_, rfl, hy.s⟩
  · have hy := hy.f hc9
    refine aw_aloadn (pc := 7) hX 0 rfl dX11_pairs_7 ?_
    refine aw_aloadn (pc := 8) hX 0 rfl dX11_pairs_8 ?_
    refine aw_gR (pc := 9) hX hy fl_X11_54 (fun _ _ => rfl) dX11_pairs_9 (fun r5 hy => ?_)
    refine aw_aloadn (pc := 12) hX 0 rfl dX11_pairs_12 ?_
    refine aw_gR (pc := 13) hX hy fl_X11_10 (fun _ _ => rfl) dX11_pairs_13 (fun r6 hy => ?_)
    refine aw_callV (pc := 16) (st := [vR v0]) (a := r5) hX [vR r6] (con_X3_howMany _ G _ r5 r6 hy.bd) mc_X3_howMany ml_X11_269 im_X3_howMany se_X3_howMany (by decide) hy.bd.kd rfl (rm_of hr (by decide)) (Nat.le_of_ble_eq_true rfl) rfl dX11_pairs_16 (kpI rfl rfl (fun x7 hy => ?_))
    refine aw_callV (pc := 19) (st := []) (a := v0) hX [vI x7] (con_X11_answer _ G _ v0 x7 hy.bd) mc_X11_answer ml_X11_117 im_X11_answer se_X11_answer (by decide) hy.bd.kd rfl (rm_of hr (by decide)) (Nat.le_of_ble_eq_true rfl) rfl dX11_pairs_19 (kmI rfl rfl (fun q10 hy => ?_))
    refine aw_goto (pc := 22) hX 30 (by decide) dX11_pairs_22 ?_
    exact aw_iret (pc := 30) hX hr (by decide) (by decide) dX11_pairs_30 ⟨_, rfl, hy.s⟩
theorem con_X11_pairs (l : Launch) (G : GE) (h : Mem) (v0 : Nat) {P : (Int32 × Mem) → Prop} (hy : OK (f_X11_pairs h v0) P) : Con l G yX11_pairs cX11_pairs 1 (some .int) rm_X11_pairs [vR v0] h (pmI P) := Con.of (by decide) (Nat.le_of_ble_eq_true rfl) (fun X hX hr hN => w_X11_pairs hX hN hr h v0 hy)
/-! X11_partner -/
theorem dX11_partner_0 : decode cX11_partner 0 = .ok (.aload_n 0, 1) := by decide +kernel
theorem dX11_partner_1 : decode cX11_partner 1 = .ok (.iload_n 1, 1) := by decide +kernel
theorem dX11_partner_2 : decode cX11_partner 2 = .ok (.invokevirtual 129, 3) := by decide +kernel
theorem dX11_partner_5 : decode cX11_partner 5 = .ok (.ifCond .eq 19, 3) := by decide +kernel
theorem dX11_partner_8 : decode cX11_partner 8 = .ok (.aload_n 0, 1) := by decide +kernel
theorem dX11_partner_9 : decode cX11_partner 9 = .ok (.aload_n 0, 1) := by decide +kernel
theorem dX11_partner_10 : decode cX11_partner 10 = .ok (.getfield 54, 3) := by decide +kernel
theorem dX11_partner_13 : decode cX11_partner 13 = .ok (.getfield 272, 3) := by decide +kernel
theorem dX11_partner_16 : decode cX11_partner 16 = .ok (.iload_n 1, 1) := by decide +kernel
theorem dX11_partner_17 : decode cX11_partner 17 = .ok (.iaload, 1) := by decide +kernel
theorem dX11_partner_18 : decode cX11_partner 18 = .ok (.invokevirtual 117, 3) := by decide +kernel
theorem dX11_partner_21 : decode cX11_partner 21 = .ok (.goto 8, 3) := by decide +kernel
theorem dX11_partner_24 : decode cX11_partner 24 = .ok (.aload_n 0, 1) := by decide +kernel
theorem dX11_partner_25 : decode cX11_partner 25 = .ok (.iconst 1, 1) := by decide +kernel
theorem dX11_partner_26 : decode cX11_partner 26 = .ok (.invokevirtual 84, 3) := by decide +kernel
theorem dX11_partner_29 : decode cX11_partner 29 = .ok (.ireturn, 1) := by decide +kernel
abbrev rm_X11_partner : Room := { frames := 1, cells := 0, slots := 0, locals := 21 }
def f_X11_partner (h : Mem) (v0 : Nat) (v1 : Int32) : Option (Int32 × Mem) :=
  (ck h v0 9).bind fun _ => (f_X11_isTune h v0 v1).bind fun x1 => (if x1 = 0 then (f_X11_refuse h v0 1).bind fun q4 => some (q4.1, q4.2) else (gR h v0 7 9).bind fun r5 => (gR h r5 2 2).bind fun r6 => (aI h r6 v1).bind fun x7 => (f_X11_answer h v0 x7).bind fun q10 => some (q10.1, q10.2))
set_option maxRecDepth 100000 in
set_option maxHeartbeats 4000000 in
theorem w_X11_partner {G : GE} {X : CX} {l : Launch} (hX : Ok G X cX11_partner RX11) (hN : xn X = 2) {P : (Int32 × Mem) → Prop} (hr : Rt G X l yX11_partner (some .int) rm_X11_partner (pmI P)) (h : Mem) (v0 : Nat) (v1 : Int32) (hy : OK (f_X11_partner h v0 v1) P) : AW G X 0 [(0, vR v0), (1, vI v1)] [] h 0 0 := by
  unfold f_X11_partner at hy
  have hkd := hy.kd
  have hy := hy.kb
  refine aw_aloadn (pc := 0) hX 0 rfl dX11_partner_0 ?_
  refine aw_iloadn (pc := 1) hX 1 rfl dX11_partner_1 ?_
  refine aw_callV (pc := 2) (st := []) (a := v0) hX [vI v1] (con_X11_isTune _ G _ v0 v1 hy.bd) mc_X11_isTune ml_X11_129 im_X11_isTune se_X11_isTune (by decide) hy.bd.kd rfl (rm_of hr (by decide)) (Nat.le_of_ble_eq_true rfl) rfl dX11_partner_2 (kpI rfl rfl (fun x1 hy => ?_))
  refine aw_if_eq (pc := 5) hX 24 (by decide) dX11_partner_5 (fun hc9 => ?_) (fun hc9 => ?_)
  · have hy := hy.t hc9
    refine aw_aloadn (pc := 24) hX 0 rfl dX11_partner_24 ?_
    refine aw_iconst (pc := 25) hX 1 (by decide) dX11_partner_25 ?_
    refine aw_callV (pc := 26) (st := []) (a := v0) hX [vI 1] (con_X11_refuse _ G _ v0 1 hy.bd) mc_X11_refuse ml_X11_84 im_X11_refuse se_X11_refuse (by decide) hy.bd.kd rfl (rm_of hr (by decide)) (Nat.le_of_ble_eq_true rfl) rfl dX11_partner_26 (kmI rfl rfl (fun q4 hy => ?_))
    exact aw_iret (pc := 29) hX hr (by decide) (by decide) dX11_partner_29 ⟨_, rfl, hy.s⟩
  · have hy := hy.f hc9
    refine aw_aloadn (pc := 8) hX 0 rfl dX11_partner_8 ?_
    refine aw_aloadn (pc := 9) hX 0 rfl dX11_partner_9 ?_
    refine aw_gR (pc := 10) hX hy fl_X11_54 (fun _ _ => rfl) dX11_partner_10 (fun r5 hy => ?_)
    refine aw_gR (pc := 13) hX hy fl_X11_272 (fun _ _ => rfl) dX11_partner_13 (fun r6 hy => ?_)
    refine aw_iloadn (pc := 16) hX 1 rfl dX11_partner_16 ?_
    refine aw_aI (pc := 17) hX hy dX11_partner_17 (fun x7 hy => ?_)
    refine aw_callV (pc := 18) (st := []) (a := v0) hX [vI x7] (con_X11_answer _ G _ v0 x7 hy.bd) mc_X11_answer ml_X11_117 im_X11_answer se_X11_answer (by decide) hy.bd.kd rfl (rm_of hr (by decide)) (Nat.le_of_ble_eq_true rfl) rfl dX11_partner_18 (kmI rfl rfl (fun q10 hy => ?_))
    refine aw_goto (pc := 21) hX 29 (by decide) dX11_partner_21 ?_
    exact aw_iret (pc := 29) hX hr (by decide) (by decide) dX11_partner_29 ⟨_, rfl, hy.s⟩
theorem con_X11_partner (l : Launch) (G : GE) (h : Mem) (v0 : Nat) (v1 : Int32) {P : (Int32 × Mem) → Prop} (hy : OK (f_X11_partner h v0 v1) P) : Con l G yX11_partner cX11_partner 2 (some .int) rm_X11_partner [vR v0, vI v1] h (pmI P) := Con.of (by decide) (Nat.le_of_ble_eq_true rfl) (fun X hX hr hN => w_X11_partner hX hN hr h v0 v1 hy)
/-! X11_rows -/
theorem dX11_rows_0 : decode cX11_rows 0 = .ok (.aload_n 0, 1) := by decide +kernel
theorem dX11_rows_1 : decode cX11_rows 1 = .ok (.invokevirtual 193, 3) := by decide +kernel
theorem dX11_rows_4 : decode cX11_rows 4 = .ok (.ifCond .eq 21, 3) := by decide +kernel
theorem dX11_rows_7 : decode cX11_rows 7 = .ok (.aload_n 0, 1) := by decide +kernel
theorem dX11_rows_8 : decode cX11_rows 8 = .ok (.aload_n 0, 1) := by decide +kernel
theorem dX11_rows_9 : decode cX11_rows 9 = .ok (.getfield 61, 3) := by decide +kernel
theorem dX11_rows_12 : decode cX11_rows 12 = .ok (.aload_n 0, 1) := by decide +kernel
theorem dX11_rows_13 : decode cX11_rows 13 = .ok (.getfield 10, 3) := by decide +kernel
theorem dX11_rows_16 : decode cX11_rows 16 = .ok (.invokevirtual 275, 3) := by decide +kernel
theorem dX11_rows_19 : decode cX11_rows 19 = .ok (.invokevirtual 117, 3) := by decide +kernel
theorem dX11_rows_22 : decode cX11_rows 22 = .ok (.goto 8, 3) := by decide +kernel
theorem dX11_rows_25 : decode cX11_rows 25 = .ok (.aload_n 0, 1) := by decide +kernel
theorem dX11_rows_26 : decode cX11_rows 26 = .ok (.iconst 1, 1) := by decide +kernel
theorem dX11_rows_27 : decode cX11_rows 27 = .ok (.invokevirtual 84, 3) := by decide +kernel
theorem dX11_rows_30 : decode cX11_rows 30 = .ok (.ireturn, 1) := by decide +kernel
abbrev rm_X11_rows : Room := { frames := 2, cells := 0, slots := 0, locals := 45 }
def f_X11_rows (h : Mem) (v0 : Nat) : Option (Int32 × Mem) :=
  (ck h v0 9).bind fun _ => (f_X11_isTold h v0).bind fun x1 => (if x1 = 0 then (f_X11_refuse h v0 1).bind fun q4 => some (q4.1, q4.2) else (gR h v0 8 9).bind fun r5 => (gR h v0 1 9).bind fun r6 => (f_X7_allRows h r5 r6).bind fun x7 => (f_X11_answer h v0 x7).bind fun q10 => some (q10.1, q10.2))
set_option maxRecDepth 100000 in
set_option maxHeartbeats 4000000 in
theorem w_X11_rows {G : GE} {X : CX} {l : Launch} (hX : Ok G X cX11_rows RX11) (hN : xn X = 1) {P : (Int32 × Mem) → Prop} (hr : Rt G X l yX11_rows (some .int) rm_X11_rows (pmI P)) (h : Mem) (v0 : Nat) (hy : OK (f_X11_rows h v0) P) : AW G X 0 [(0, vR v0)] [] h 0 0 := by
  unfold f_X11_rows at hy
  have hkd := hy.kd
  have hy := hy.kb
  refine aw_aloadn (pc := 0) hX 0 rfl dX11_rows_0 ?_
  refine aw_callV (pc := 1) (st := []) (a := v0) hX [] (con_X11_isTold _ G _ v0 hy.bd) mc_X11_isTold ml_X11_193 im_X11_isTold se_X11_isTold (by decide) hy.bd.kd rfl (rm_of hr (by decide)) (Nat.le_of_ble_eq_true rfl) rfl dX11_rows_1 (kpI rfl rfl (fun x1 hy => ?_))
  refine aw_if_eq (pc := 4) hX 25 (by decide) dX11_rows_4 (fun hc9 => ?_) (fun hc9 => ?_)
  · have hy := hy.t hc9
    refine aw_aloadn (pc := 25) hX 0 rfl dX11_rows_25 ?_
    refine aw_iconst (pc := 26) hX 1 (by decide) dX11_rows_26 ?_
    refine aw_callV (pc := 27) (st := []) (a := v0) hX [vI 1] (con_X11_refuse _ G _ v0 1 hy.bd) mc_X11_refuse ml_X11_84 im_X11_refuse se_X11_refuse (by decide) hy.bd.kd rfl (rm_of hr (by decide)) (Nat.le_of_ble_eq_true rfl) rfl dX11_rows_27 (kmI rfl rfl (fun q4 hy => ?_))
    exact aw_iret (pc := 30) hX hr (by decide) (by decide) dX11_rows_30 ⟨_, rfl, hy.s⟩
  · have hy := hy.f hc9
    refine aw_aloadn (pc := 7) hX 0 rfl dX11_rows_7 ?_
    refine aw_aloadn (pc := 8) hX 0 rfl dX11_rows_8 ?_
    refine aw_gR (pc := 9) hX hy fl_X11_61 (fun _ _ => rfl) dX11_rows_9 (fun r5 hy => ?_)
    refine aw_aloadn (pc := 12) hX 0 rfl dX11_rows_12 ?_
    refine aw_gR (pc := 13) hX hy fl_X11_10 (fun _ _ => rfl) dX11_rows_13 (fun r6 hy => ?_)
    refine aw_callV (pc := 16) (st := [vR v0]) (a := r5) hX [vR r6] (con_X7_allRows _ G _ r5 r6 hy.bd) mc_X7_allRows ml_X11_275 im_X7_allRows se_X7_allRows (by decide) hy.bd.kd rfl (rm_of hr (by decide)) (Nat.le_of_ble_eq_true rfl) rfl dX11_rows_16 (kpI rfl rfl (fun x7 hy => ?_))
    refine aw_callV (pc := 19) (st := []) (a := v0) hX [vI x7] (con_X11_answer _ G _ v0 x7 hy.bd) mc_X11_answer ml_X11_117 im_X11_answer se_X11_answer (by decide) hy.bd.kd rfl (rm_of hr (by decide)) (Nat.le_of_ble_eq_true rfl) rfl dX11_rows_19 (kmI rfl rfl (fun q10 hy => ?_))
    refine aw_goto (pc := 22) hX 30 (by decide) dX11_rows_22 ?_
    exact aw_iret (pc := 30) hX hr (by decide) (by decide) dX11_rows_30 ⟨_, rfl, hy.s⟩
theorem con_X11_rows (l : Launch) (G : GE) (h : Mem) (v0 : Nat) {P : (Int32 × Mem) → Prop} (hy : OK (f_X11_rows h v0) P) : Con l G yX11_rows cX11_rows 1 (some .int) rm_X11_rows [vR v0] h (pmI P) := Con.of (by decide) (Nat.le_of_ble_eq_true rfl) (fun X hX hr hN => w_X11_rows hX hN hr h v0 hy)
/-! X11_isPlaceInRow -/
theorem dX11_isPlaceInRow_0 : decode cX11_isPlaceInRow 0 = .ok (.aload_n 0, 1) := by decide +kernel
theorem dX11_isPlaceInRow_1 : decode cX11_isPlaceInRow 1 = .ok (.invokevirtual 193, 3) := by decide +kernel
theorem dX11_isPlaceInRow_4 : decode cX11_isPlaceInRow 4 = .ok (.ifCond .eq 22, 3) := by decide +kernel
theorem dX11_isPlaceInRow_7 : decode cX11_isPlaceInRow 7 = .ok (.iload_n 1, 1) := by decide +kernel
theorem dX11_isPlaceInRow_8 : decode cX11_isPlaceInRow 8 = .ok (.ifCond .lt 18, 3) := by decide +kernel
theorem dX11_isPlaceInRow_11 : decode cX11_isPlaceInRow 11 = .ok (.iload_n 1, 1) := by decide +kernel
theorem dX11_isPlaceInRow_12 : decode cX11_isPlaceInRow 12 = .ok (.aload_n 0, 1) := by decide +kernel
theorem dX11_isPlaceInRow_13 : decode cX11_isPlaceInRow 13 = .ok (.getfield 10, 3) := by decide +kernel
theorem dX11_isPlaceInRow_16 : decode cX11_isPlaceInRow 16 = .ok (.getfield 368, 3) := by decide +kernel
theorem dX11_isPlaceInRow_19 : decode cX11_isPlaceInRow 19 = .ok (.if_icmp .gt 7, 3) := by decide +kernel
theorem dX11_isPlaceInRow_22 : decode cX11_isPlaceInRow 22 = .ok (.iconst 1, 1) := by decide +kernel
theorem dX11_isPlaceInRow_23 : decode cX11_isPlaceInRow 23 = .ok (.goto 4, 3) := by decide +kernel
theorem dX11_isPlaceInRow_26 : decode cX11_isPlaceInRow 26 = .ok (.iconst 0, 1) := by decide +kernel
theorem dX11_isPlaceInRow_27 : decode cX11_isPlaceInRow 27 = .ok (.ireturn, 1) := by decide +kernel
abbrev rm_X11_isPlaceInRow : Room := { frames := 1, cells := 0, slots := 0, locals := 20 }
def f_X11_isPlaceInRow_26 (h : Mem) : Option Int32 :=
  some 0
set_option maxRecDepth 100000 in
set_option maxHeartbeats 4000000 in
theorem w_X11_isPlaceInRow_26 {G : GE} {X : CX} {l : Launch} (hX : Ok G X cX11_isPlaceInRow RX11) (hN : xn X = 2) (h : Mem) {P : Int32 → Prop} (hr : Rt G X l yX11_isPlaceInRow (some .boolean) rm_X11_isPlaceInRow (ppI h P)) (hy : OK (f_X11_isPlaceInRow_26 h) P) : AW G X 26 [] [] h 0 0 := by
  unfold f_X11_isPlaceInRow_26 at hy
  refine aw_iconst (pc := 26) hX 0 (by decide) dX11_isPlaceInRow_26 ?_
  exact aw_zret (pc := 27) hX hr (by decide) (by decide) dX11_isPlaceInRow_27 (Or.inl rfl) ⟨rfl, _, rfl, hy.s⟩
def f_X11_isPlaceInRow (h : Mem) (v0 : Nat) (v1 : Int32) : Option Int32 :=
  (ck h v0 9).bind fun _ => (f_X11_isTold h v0).bind fun x1 => (if x1 = 0 then f_X11_isPlaceInRow_26 h else (if v1 < 0 then f_X11_isPlaceInRow_26 h else (gR h v0 1 9).bind fun r2 => (gI h r2 8 4).bind fun x3 => (if x3 < v1 then f_X11_isPlaceInRow_26 h else some 1)))
set_option maxRecDepth 100000 in
set_option maxHeartbeats 4000000 in
theorem w_X11_isPlaceInRow {G : GE} {X : CX} {l : Launch} (hX : Ok G X cX11_isPlaceInRow RX11) (hN : xn X = 2) (h : Mem) {P : Int32 → Prop} (hr : Rt G X l yX11_isPlaceInRow (some .boolean) rm_X11_isPlaceInRow (ppI h P)) (v0 : Nat) (v1 : Int32) (hy : OK (f_X11_isPlaceInRow h v0 v1) P) : AW G X 0 [(0, vR v0), (1, vI v1)] [] h 0 0 := by
  unfold f_X11_isPlaceInRow at hy
  have hkd := hy.kd
  have hy := hy.kb
  refine aw_aloadn (pc := 0) hX 0 rfl dX11_isPlaceInRow_0 ?_
  refine aw_callV (pc := 1) (st := []) (a := v0) hX [] (con_X11_isTold _ G _ v0 hy.bd) mc_X11_isTold ml_X11_193 im_X11_isTold se_X11_isTold (by decide) hy.bd.kd rfl (rm_of hr (by decide)) (Nat.le_of_ble_eq_true rfl) rfl dX11_isPlaceInRow_1 (kpI rfl rfl (fun x1 hy => ?_))
  refine aw_if_eq (pc := 4) hX 26 (by decide) dX11_isPlaceInRow_4 (fun hc9 => ?_) (fun hc9 => ?_)
  · have hy := hy.t hc9
    refine AW.sub [] rfl ?_
    exact w_X11_isPlaceInRow_26 hX hN _ hr hy
  · have hy := hy.f hc9
    refine aw_iloadn (pc := 7) hX 1 rfl dX11_isPlaceInRow_7 ?_
    refine aw_if_lt (pc := 8) hX 26 (by decide) dX11_isPlaceInRow_8 (fun hc9 => ?_) (fun hc9 => ?_)
    · have hy := hy.t hc9
      refine AW.sub [] rfl ?_
      exact w_X11_isPlaceInRow_26 hX hN _ hr hy
    · have hy := hy.f hc9
      refine aw_iloadn (pc := 11) hX 1 rfl dX11_isPlaceInRow_11 ?_
      refine aw_aloadn (pc := 12) hX 0 rfl dX11_isPlaceInRow_12 ?_
      refine aw_gR (pc := 13) hX hy fl_X11_10 (fun _ _ => rfl) dX11_isPlaceInRow_13 (fun r2 hy => ?_)
      refine aw_gI (pc := 16) hX hy fl_X11_368 (fun _ _ => rfl) dX11_isPlaceInRow_16 (fun x3 hy => ?_)
      refine aw_ic_gt (pc := 19) hX 26 (by decide) dX11_isPlaceInRow_19 (fun hc9 => ?_) (fun hc9 => ?_)
      · have hy := hy.t hc9
        refine AW.sub [] rfl ?_
        exact w_X11_isPlaceInRow_26 hX hN _ hr hy
      · have hy := hy.f hc9
        refine aw_iconst (pc := 22) hX 1 (by decide) dX11_isPlaceInRow_22 ?_
        refine aw_goto (pc := 23) hX 27 (by decide) dX11_isPlaceInRow_23 ?_
        exact aw_zret (pc := 27) hX hr (by decide) (by decide) dX11_isPlaceInRow_27 (Or.inr rfl) ⟨rfl, _, rfl, hy.s⟩
theorem con_X11_isPlaceInRow (l : Launch) (G : GE) (h : Mem) (v0 : Nat) (v1 : Int32) {P : Int32 → Prop} (hy : OK (f_X11_isPlaceInRow h v0 v1) P) : Con l G yX11_isPlaceInRow cX11_isPlaceInRow 2 (some .boolean) rm_X11_isPlaceInRow [vR v0, vI v1] h (ppI h P) := Con.of (by decide) (Nat.le_of_ble_eq_true rfl) (fun X hX hr hN => w_X11_isPlaceInRow hX hN h hr v0 v1 hy)
/-! X11_could -/
theorem dX11_could_0 : decode cX11_could 0 = .ok (.aload_n 0, 1) := by decide +kernel
theorem dX11_could_1 : decode cX11_could 1 = .ok (.iload_n 1, 1) := by decide +kernel
theorem dX11_could_2 : decode cX11_could 2 = .ok (.invokevirtual 278, 3) := by decide +kernel
theorem dX11_could_5 : decode cX11_could 5 = .ok (.ifCond .eq 22, 3) := by decide +kernel
theorem dX11_could_8 : decode cX11_could 8 = .ok (.aload_n 0, 1) := by decide +kernel
theorem dX11_could_9 : decode cX11_could 9 = .ok (.aload_n 0, 1) := by decide +kernel
theorem dX11_could_10 : decode cX11_could 10 = .ok (.getfield 61, 3) := by decide +kernel
theorem dX11_could_13 : decode cX11_could 13 = .ok (.aload_n 0, 1) := by decide +kernel
theorem dX11_could_14 : decode cX11_could 14 = .ok (.getfield 10, 3) := by decide +kernel
theorem dX11_could_17 : decode cX11_could 17 = .ok (.iload_n 1, 1) := by decide +kernel
theorem dX11_could_18 : decode cX11_could 18 = .ok (.invokevirtual 281, 3) := by decide +kernel
theorem dX11_could_21 : decode cX11_could 21 = .ok (.invokevirtual 117, 3) := by decide +kernel
theorem dX11_could_24 : decode cX11_could 24 = .ok (.goto 8, 3) := by decide +kernel
theorem dX11_could_27 : decode cX11_could 27 = .ok (.aload_n 0, 1) := by decide +kernel
theorem dX11_could_28 : decode cX11_could 28 = .ok (.iconst 1, 1) := by decide +kernel
theorem dX11_could_29 : decode cX11_could 29 = .ok (.invokevirtual 84, 3) := by decide +kernel
theorem dX11_could_32 : decode cX11_could 32 = .ok (.ireturn, 1) := by decide +kernel
abbrev rm_X11_could : Room := { frames := 2, cells := 0, slots := 0, locals := 46 }
def f_X11_could (h : Mem) (v0 : Nat) (v1 : Int32) : Option (Int32 × Mem) :=
  (ck h v0 9).bind fun _ => (f_X11_isPlaceInRow h v0 v1).bind fun x1 => (if x1 = 0 then (f_X11_refuse h v0 1).bind fun q4 => some (q4.1, q4.2) else (gR h v0 8 9).bind fun r5 => (gR h v0 1 9).bind fun r6 => (f_X7_placesAt h r5 r6 v1).bind fun x7 => (f_X11_answer h v0 x7).bind fun q10 => some (q10.1, q10.2))
set_option maxRecDepth 100000 in
set_option maxHeartbeats 4000000 in
theorem w_X11_could {G : GE} {X : CX} {l : Launch} (hX : Ok G X cX11_could RX11) (hN : xn X = 2) {P : (Int32 × Mem) → Prop} (hr : Rt G X l yX11_could (some .int) rm_X11_could (pmI P)) (h : Mem) (v0 : Nat) (v1 : Int32) (hy : OK (f_X11_could h v0 v1) P) : AW G X 0 [(0, vR v0), (1, vI v1)] [] h 0 0 := by
  unfold f_X11_could at hy
  have hkd := hy.kd
  have hy := hy.kb
  refine aw_aloadn (pc := 0) hX 0 rfl dX11_could_0 ?_
  refine aw_iloadn (pc := 1) hX 1 rfl dX11_could_1 ?_
  refine aw_callV (pc := 2) (st := []) (a := v0) hX [vI v1] (con_X11_isPlaceInRow _ G _ v0 v1 hy.bd) mc_X11_isPlaceInRow ml_X11_278 im_X11_isPlaceInRow se_X11_isPlaceInRow (by decide) hy.bd.kd rfl (rm_of hr (by decide)) (Nat.le_of_ble_eq_true rfl) rfl dX11_could_2 (kpI rfl rfl (fun x1 hy => ?_))
  refine aw_if_eq (pc := 5) hX 27 (by decide) dX11_could_5 (fun hc9 => ?_) (fun hc9 => ?_)
  · have hy := hy.t hc9
    refine aw_aloadn (pc := 27) hX 0 rfl dX11_could_27 ?_
    refine aw_iconst (pc := 28) hX 1 (by decide) dX11_could_28 ?_
    refine aw_callV (pc := 29) (st := []) (a := v0) hX [vI 1] (con_X11_refuse _ G _ v0 1 hy.bd) mc_X11_refuse ml_X11_84 im_X11_refuse se_X11_refuse (by decide) hy.bd.kd rfl (rm_of hr (by decide)) (Nat.le_of_ble_eq_true rfl) rfl dX11_could_29 (kmI rfl rfl (fun q4 hy => ?_))
    exact aw_iret (pc := 32) hX hr (by decide) (by decide) dX11_could_32 ⟨_, rfl, hy.s⟩
  · have hy := hy.f hc9
    refine aw_aloadn (pc := 8) hX 0 rfl dX11_could_8 ?_
    refine aw_aloadn (pc := 9) hX 0 rfl dX11_could_9 ?_
    refine aw_gR (pc := 10) hX hy fl_X11_61 (fun _ _ => rfl) dX11_could_10 (fun r5 hy => ?_)
    refine aw_aloadn (pc := 13) hX 0 rfl dX11_could_13 ?_
    refine aw_gR (pc := 14) hX hy fl_X11_10 (fun _ _ => rfl) dX11_could_14 (fun r6 hy => ?_)
    refine aw_iloadn (pc := 17) hX 1 rfl dX11_could_17 ?_
    refine aw_callV (pc := 18) (st := [vR v0]) (a := r5) hX [vR r6, vI v1] (con_X7_placesAt _ G _ r5 r6 v1 hy.bd) mc_X7_placesAt ml_X11_281 im_X7_placesAt se_X7_placesAt (by decide) hy.bd.kd rfl (rm_of hr (by decide)) (Nat.le_of_ble_eq_true rfl) rfl dX11_could_18 (kpI rfl rfl (fun x7 hy => ?_))
    refine aw_callV (pc := 21) (st := []) (a := v0) hX [vI x7] (con_X11_answer _ G _ v0 x7 hy.bd) mc_X11_answer ml_X11_117 im_X11_answer se_X11_answer (by decide) hy.bd.kd rfl (rm_of hr (by decide)) (Nat.le_of_ble_eq_true rfl) rfl dX11_could_21 (kmI rfl rfl (fun q10 hy => ?_))
    refine aw_goto (pc := 24) hX 32 (by decide) dX11_could_24 ?_
    exact aw_iret (pc := 32) hX hr (by decide) (by decide) dX11_could_32 ⟨_, rfl, hy.s⟩
theorem con_X11_could (l : Launch) (G : GE) (h : Mem) (v0 : Nat) (v1 : Int32) {P : (Int32 × Mem) → Prop} (hy : OK (f_X11_could h v0 v1) P) : Con l G yX11_could cX11_could 2 (some .int) rm_X11_could [vR v0, vI v1] h (pmI P) := Con.of (by decide) (Nat.le_of_ble_eq_true rfl) (fun X hX hr hN => w_X11_could hX hN hr h v0 v1 hy)
/-! X11_surely -/
theorem dX11_surely_0 : decode cX11_surely 0 = .ok (.aload_n 0, 1) := by decide +kernel
theorem dX11_surely_1 : decode cX11_surely 1 = .ok (.iload_n 1, 1) := by decide +kernel
theorem dX11_surely_2 : decode cX11_surely 2 = .ok (.invokevirtual 278, 3) := by decide +kernel
theorem dX11_surely_5 : decode cX11_surely 5 = .ok (.ifCond .ne 9, 3) := by decide +kernel
theorem dX11_surely_8 : decode cX11_surely 8 = .ok (.aload_n 0, 1) := by decide +kernel
theorem dX11_surely_9 : decode cX11_surely 9 = .ok (.iconst 1, 1) := by decide +kernel
theorem dX11_surely_10 : decode cX11_surely 10 = .ok (.invokevirtual 84, 3) := by decide +kernel
theorem dX11_surely_13 : decode cX11_surely 13 = .ok (.ireturn, 1) := by decide +kernel
theorem dX11_surely_14 : decode cX11_surely 14 = .ok (.aload_n 0, 1) := by decide +kernel
theorem dX11_surely_15 : decode cX11_surely 15 = .ok (.getfield 61, 3) := by decide +kernel
theorem dX11_surely_18 : decode cX11_surely 18 = .ok (.aload_n 0, 1) := by decide +kernel
theorem dX11_surely_19 : decode cX11_surely 19 = .ok (.getfield 10, 3) := by decide +kernel
theorem dX11_surely_22 : decode cX11_surely 22 = .ok (.iload_n 1, 1) := by decide +kernel
theorem dX11_surely_23 : decode cX11_surely 23 = .ok (.invokevirtual 281, 3) := by decide +kernel
theorem dX11_surely_26 : decode cX11_surely 26 = .ok (.istore_n 2, 1) := by decide +kernel
theorem dX11_surely_27 : decode cX11_surely 27 = .ok (.aload_n 0, 1) := by decide +kernel
theorem dX11_surely_28 : decode cX11_surely 28 = .ok (.iload_n 2, 1) := by decide +kernel
theorem dX11_surely_29 : decode cX11_surely 29 = .ok (.invokestatic 219, 3) := by decide +kernel
theorem dX11_surely_32 : decode cX11_surely 32 = .ok (.iconst 1, 1) := by decide +kernel
theorem dX11_surely_33 : decode cX11_surely 33 = .ok (.if_icmp .ne 10, 3) := by decide +kernel
theorem dX11_surely_36 : decode cX11_surely 36 = .ok (.iload_n 2, 1) := by decide +kernel
theorem dX11_surely_37 : decode cX11_surely 37 = .ok (.invokestatic 284, 3) := by decide +kernel
theorem dX11_surely_40 : decode cX11_surely 40 = .ok (.goto 5, 3) := by decide +kernel
theorem dX11_surely_43 : decode cX11_surely 43 = .ok (.bipush (-2), 2) := by decide +kernel
theorem dX11_surely_45 : decode cX11_surely 45 = .ok (.invokevirtual 117, 3) := by decide +kernel
theorem dX11_surely_48 : decode cX11_surely 48 = .ok (.ireturn, 1) := by decide +kernel
abbrev rm_X11_surely : Room := { frames := 2, cells := 0, slots := 0, locals := 46 }
def f_X11_surely_45 (h : Mem) (s0 : Nat) (s1 : Int32) : Option (Int32 × Mem) :=
  (f_X11_answer h s0 s1).bind fun q8 => some (q8.1, q8.2)
set_option maxRecDepth 100000 in
set_option maxHeartbeats 4000000 in
theorem w_X11_surely_45 {G : GE} {X : CX} {l : Launch} (hX : Ok G X cX11_surely RX11) (hN : xn X = 3) {P : (Int32 × Mem) → Prop} (hr : Rt G X l yX11_surely (some .int) rm_X11_surely (pmI P)) (h : Mem) (s0 : Nat) (s1 : Int32) (hy : OK (f_X11_surely_45 h s0 s1) P) : AW G X 45 [] [vI s1, vR s0] h 0 0 := by
  unfold f_X11_surely_45 at hy
  refine aw_callV (pc := 45) (st := []) (a := s0) hX [vI s1] (con_X11_answer _ G _ s0 s1 hy.bd) mc_X11_answer ml_X11_117 im_X11_answer se_X11_answer (by decide) hy.bd.kd rfl (rm_of hr (by decide)) (Nat.le_of_ble_eq_true rfl) rfl dX11_surely_45 (kmI rfl rfl (fun q8 hy => ?_))
  exact aw_iret (pc := 48) hX hr (by decide) (by decide) dX11_surely_48 ⟨_, rfl, hy.s⟩
def f_X11_surely (h : Mem) (v0 : Nat) (v1 : Int32) : Option (Int32 × Mem) :=
  (ck h v0 9).bind fun _ => (f_X11_isPlaceInRow h v0 v1).bind fun x1 => (if x1 = 0 then (f_X11_refuse h v0 1).bind fun q12 => some (q12.1, q12.2) else (gR h v0 8 9).bind fun r2 => (gR h v0 1 9).bind fun r3 => (f_X7_placesAt h r2 r3 v1).bind fun x4 => (f_J6_bitCount_0f7a4 h x4).bind fun x5 => (if x5 = 1 then (f_J6_numberOfTrailingZeros_0f7a4 h x4).bind fun x9 => f_X11_surely_45 h v0 x9 else f_X11_surely_45 h v0 (-2)))
set_option maxRecDepth 100000 in
set_option maxHeartbeats 4000000 in
theorem w_X11_surely {G : GE} {X : CX} {l : Launch} (hX : Ok G X cX11_surely RX11) (hN : xn X = 3) {P : (Int32 × Mem) → Prop} (hr : Rt G X l yX11_surely (some .int) rm_X11_surely (pmI P)) (h : Mem) (v0 : Nat) (v1 : Int32) (hy : OK (f_X11_surely h v0 v1) P) : AW G X 0 [(0, vR v0), (1, vI v1)] [] h 0 0 := by
  unfold f_X11_surely at hy
  have hkd := hy.kd
  have hy := hy.kb
  refine aw_aloadn (pc := 0) hX 0 rfl dX11_surely_0 ?_
  refine aw_iloadn (pc := 1) hX 1 rfl dX11_surely_1 ?_
  refine aw_callV (pc := 2) (st := []) (a := v0) hX [vI v1] (con_X11_isPlaceInRow _ G _ v0 v1 hy.bd) mc_X11_isPlaceInRow ml_X11_278 im_X11_isPlaceInRow se_X11_isPlaceInRow (by decide) hy.bd.kd rfl (rm_of hr (by decide)) (Nat.le_of_ble_eq_true rfl) rfl dX11_surely_2 (kpI rfl rfl (fun x1 hy => ?_))
  refine aw_if_ne (pc := 5) hX 14 (by decide) dX11_surely_5 (fun hc9 => ?_) (fun hc9 => ?_)
  · have hy := hy.f hc9
    refine aw_aloadn (pc := 14) hX 0 rfl dX11_surely_14 ?_
    refine aw_gR (pc := 15) hX hy fl_X11_61 (fun _ _ => rfl) dX11_surely_15 (fun r2 hy => ?_)
    refine aw_aloadn (pc := 18) hX 0 rfl dX11_surely_18 ?_
    refine aw_gR (pc := 19) hX hy fl_X11_10 (fun _ _ => rfl) dX11_surely_19 (fun r3 hy => ?_)
    refine aw_iloadn (pc := 22) hX 1 rfl dX11_surely_22 ?_
    refine aw_callV (pc := 23) (st := []) (a := r2) hX [vR r3, vI v1] (con_X7_placesAt _ G _ r2 r3 v1 hy.bd) mc_X7_placesAt ml_X11_281 im_X7_placesAt se_X7_placesAt (by decide) hy.bd.kd rfl (rm_of hr (by decide)) (Nat.le_of_ble_eq_true rfl) rfl dX11_surely_23 (kpI rfl rfl (fun x4 hy => ?_))
    refine aw_istoren (pc := 26) hX [(2, vI x4), (0, vR v0), (1, vI v1)] rfl (lt_n hN (by decide)) dX11_surely_26 ?_
    refine aw_aloadn (pc := 27) hX 1 rfl dX11_surely_27 ?_
    refine aw_iloadn (pc := 28) hX 0 rfl dX11_surely_28 ?_
    refine aw_callS (pc := 29) (st := [vR v0]) hX [vI x4] (con_J6_bitCount_0f7a4 _ G _ x4 hy.bd) mc_J6_bitCount_0f7a4 ml_X11_219 st_J6_bitCount_0f7a4 rfl (rm_of hr (by decide)) (Nat.le_of_ble_eq_true rfl) rfl dX11_surely_29 (kpI rfl rfl (fun x5 hy => ?_))
    refine aw_iconst (pc := 32) hX 1 (by decide) dX11_surely_32 ?_
    refine aw_ic_ne (pc := 33) hX 43 (by decide) dX11_surely_33 (fun hc9 => ?_) (fun hc9 => ?_)
    · have hy := hy.f hc9
      refine aw_bipush (pc := 43) hX (-2) (by decide) dX11_surely_43 ?_
      refine AW.sub [] rfl ?_
      exact w_X11_surely_45 hX hN hr h v0 (-2) hy
    · have hy := hy.t hc9
      refine aw_iloadn (pc := 36) hX 0 rfl dX11_surely_36 ?_
      refine aw_callS (pc := 37) (st := [vR v0]) hX [vI x4] (con_J6_numberOfTrailingZeros_0f7a4 _ G _ x4 hy.bd) mc_J6_numberOfTrailingZeros_0f7a4 ml_X11_284 st_J6_numberOfTrailingZeros_0f7a4 rfl (rm_of hr (by decide)) (Nat.le_of_ble_eq_true rfl) rfl dX11_surely_37 (kpI rfl rfl (fun x9 hy => ?_))
      refine aw_goto (pc := 40) hX 45 (by decide) dX11_surely_40 ?_
      refine AW.sub [] rfl ?_
      exact w_X11_surely_45 hX hN hr h v0 x9 hy
  · have hy := hy.t hc9
    refine aw_aloadn (pc := 8) hX 0 rfl dX11_surely_8 ?_
    refine aw_iconst (pc := 9) hX 1 (by decide) dX11_surely_9 ?_
    refine aw_callV (pc := 10) (st := []) (a := v0) hX [vI 1] (con_X11_refuse _ G _ v0 1 hy.bd) mc_X11_refuse ml_X11_84 im_X11_refuse se_X11_refuse (by decide) hy.bd.kd rfl (rm_of hr (by decide)) (Nat.le_of_ble_eq_true rfl) rfl dX11_surely_10 (kmI rfl rfl (fun q12 hy => ?_))
    exact aw_iret (pc := 13) hX hr (by decide) (by decide) dX11_surely_13 ⟨_, rfl, hy.s⟩
theorem con_X11_surely (l : Launch) (G : GE) (h : Mem) (v0 : Nat) (v1 : Int32) {P : (Int32 × Mem) → Prop} (hy : OK (f_X11_surely h v0 v1) P) : Con l G yX11_surely cX11_surely 3 (some .int) rm_X11_surely [vR v0, vI v1] h (pmI P) := Con.of (by decide) (Nat.le_of_ble_eq_true rfl) (fun X hX hr hN => w_X11_surely hX hN hr h v0 v1 hy)
/-! X11_ask -/
theorem dX11_ask_0 : decode cX11_ask 0 = .ok (.aload_n 0, 1) := by decide +kernel
theorem dX11_ask_1 : decode cX11_ask 1 = .ok (.invokevirtual 193, 3) := by decide +kernel
theorem dX11_ask_4 : decode cX11_ask 4 = .ok (.ifCond .eq 21, 3) := by decide +kernel
theorem dX11_ask_7 : decode cX11_ask 7 = .ok (.aload_n 0, 1) := by decide +kernel
theorem dX11_ask_8 : decode cX11_ask 8 = .ok (.aload_n 0, 1) := by decide +kernel
theorem dX11_ask_9 : decode cX11_ask 9 = .ok (.getfield 61, 3) := by decide +kernel
theorem dX11_ask_12 : decode cX11_ask 12 = .ok (.aload_n 0, 1) := by decide +kernel
theorem dX11_ask_13 : decode cX11_ask 13 = .ok (.getfield 10, 3) := by decide +kernel
theorem dX11_ask_16 : decode cX11_ask 16 = .ok (.invokevirtual 287, 3) := by decide +kernel
theorem dX11_ask_19 : decode cX11_ask 19 = .ok (.invokevirtual 117, 3) := by decide +kernel
theorem dX11_ask_22 : decode cX11_ask 22 = .ok (.goto 8, 3) := by decide +kernel
theorem dX11_ask_25 : decode cX11_ask 25 = .ok (.aload_n 0, 1) := by decide +kernel
theorem dX11_ask_26 : decode cX11_ask 26 = .ok (.iconst 1, 1) := by decide +kernel
theorem dX11_ask_27 : decode cX11_ask 27 = .ok (.invokevirtual 84, 3) := by decide +kernel
theorem dX11_ask_30 : decode cX11_ask 30 = .ok (.ireturn, 1) := by decide +kernel
abbrev rm_X11_ask : Room := { frames := 3, cells := 0, slots := 0, locals := 69 }
def f_X11_ask (h : Mem) (v0 : Nat) : Option (Int32 × Mem) :=
  (ck h v0 9).bind fun _ => (f_X11_isTold h v0).bind fun x1 => (if x1 = 0 then (f_X11_refuse h v0 1).bind fun q4 => some (q4.1, q4.2) else (gR h v0 8 9).bind fun r5 => (gR h v0 1 9).bind fun r6 => (f_X7_whatToAsk h r5 r6).bind fun x7 => (f_X11_answer h v0 x7).bind fun q10 => some (q10.1, q10.2))
set_option maxRecDepth 100000 in
set_option maxHeartbeats 4000000 in
theorem w_X11_ask {G : GE} {X : CX} {l : Launch} (hX : Ok G X cX11_ask RX11) (hN : xn X = 1) {P : (Int32 × Mem) → Prop} (hr : Rt G X l yX11_ask (some .int) rm_X11_ask (pmI P)) (h : Mem) (v0 : Nat) (hy : OK (f_X11_ask h v0) P) : AW G X 0 [(0, vR v0)] [] h 0 0 := by
  unfold f_X11_ask at hy
  have hkd := hy.kd
  have hy := hy.kb
  refine aw_aloadn (pc := 0) hX 0 rfl dX11_ask_0 ?_
  refine aw_callV (pc := 1) (st := []) (a := v0) hX [] (con_X11_isTold _ G _ v0 hy.bd) mc_X11_isTold ml_X11_193 im_X11_isTold se_X11_isTold (by decide) hy.bd.kd rfl (rm_of hr (by decide)) (Nat.le_of_ble_eq_true rfl) rfl dX11_ask_1 (kpI rfl rfl (fun x1 hy => ?_))
  refine aw_if_eq (pc := 4) hX 25 (by decide) dX11_ask_4 (fun hc9 => ?_) (fun hc9 => ?_)
  · have hy := hy.t hc9
    refine aw_aloadn (pc := 25) hX 0 rfl dX11_ask_25 ?_
    refine aw_iconst (pc := 26) hX 1 (by decide) dX11_ask_26 ?_
    refine aw_callV (pc := 27) (st := []) (a := v0) hX [vI 1] (con_X11_refuse _ G _ v0 1 hy.bd) mc_X11_refuse ml_X11_84 im_X11_refuse se_X11_refuse (by decide) hy.bd.kd rfl (rm_of hr (by decide)) (Nat.le_of_ble_eq_true rfl) rfl dX11_ask_27 (kmI rfl rfl (fun q4 hy => ?_))
    exact aw_iret (pc := 30) hX hr (by decide) (by decide) dX11_ask_30 ⟨_, rfl, hy.s⟩
  · have hy := hy.f hc9
    refine aw_aloadn (pc := 7) hX 0 rfl dX11_ask_7 ?_
    refine aw_aloadn (pc := 8) hX 0 rfl dX11_ask_8 ?_
    refine aw_gR (pc := 9) hX hy fl_X11_61 (fun _ _ => rfl) dX11_ask_9 (fun r5 hy => ?_)
    refine aw_aloadn (pc := 12) hX 0 rfl dX11_ask_12 ?_
    refine aw_gR (pc := 13) hX hy fl_X11_10 (fun _ _ => rfl) dX11_ask_13 (fun r6 hy => ?_)
    refine aw_callV (pc := 16) (st := [vR v0]) (a := r5) hX [vR r6] (con_X7_whatToAsk _ G _ r5 r6 hy.bd) mc_X7_whatToAsk ml_X11_287 im_X7_whatToAsk se_X7_whatToAsk (by decide) hy.bd.kd rfl (rm_of hr (by decide)) (Nat.le_of_ble_eq_true rfl) rfl dX11_ask_16 (kpI rfl rfl (fun x7 hy => ?_))
    refine aw_callV (pc := 19) (st := []) (a := v0) hX [vI x7] (con_X11_answer _ G _ v0 x7 hy.bd) mc_X11_answer ml_X11_117 im_X11_answer se_X11_answer (by decide) hy.bd.kd rfl (rm_of hr (by decide)) (Nat.le_of_ble_eq_true rfl) rfl dX11_ask_19 (kmI rfl rfl (fun q10 hy => ?_))
    refine aw_goto (pc := 22) hX 30 (by decide) dX11_ask_22 ?_
    exact aw_iret (pc := 30) hX hr (by decide) (by decide) dX11_ask_30 ⟨_, rfl, hy.s⟩
theorem con_X11_ask (l : Launch) (G : GE) (h : Mem) (v0 : Nat) {P : (Int32 × Mem) → Prop} (hy : OK (f_X11_ask h v0) P) : Con l G yX11_ask cX11_ask 1 (some .int) rm_X11_ask [vR v0] h (pmI P) := Con.of (by decide) (Nat.le_of_ble_eq_true rfl) (fun X hX hr hN => w_X11_ask hX hN hr h v0 hy)
/-! X11_askLeaves -/
theorem dX11_askLeaves_0 : decode cX11_askLeaves 0 = .ok (.aload_n 0, 1) := by decide +kernel
theorem dX11_askLeaves_1 : decode cX11_askLeaves 1 = .ok (.invokevirtual 193, 3) := by decide +kernel
theorem dX11_askLeaves_4 : decode cX11_askLeaves 4 = .ok (.ifCond .ne 9, 3) := by decide +kernel
theorem dX11_askLeaves_7 : decode cX11_askLeaves 7 = .ok (.aload_n 0, 1) := by decide +kernel
theorem dX11_askLeaves_8 : decode cX11_askLeaves 8 = .ok (.iconst 1, 1) := by decide +kernel
theorem dX11_askLeaves_9 : decode cX11_askLeaves 9 = .ok (.invokevirtual 84, 3) := by decide +kernel
theorem dX11_askLeaves_12 : decode cX11_askLeaves 12 = .ok (.ireturn, 1) := by decide +kernel
theorem dX11_askLeaves_13 : decode cX11_askLeaves 13 = .ok (.aload_n 0, 1) := by decide +kernel
theorem dX11_askLeaves_14 : decode cX11_askLeaves 14 = .ok (.getfield 61, 3) := by decide +kernel
theorem dX11_askLeaves_17 : decode cX11_askLeaves 17 = .ok (.aload_n 0, 1) := by decide +kernel
theorem dX11_askLeaves_18 : decode cX11_askLeaves 18 = .ok (.getfield 10, 3) := by decide +kernel
theorem dX11_askLeaves_21 : decode cX11_askLeaves 21 = .ok (.invokevirtual 287, 3) := by decide +kernel
theorem dX11_askLeaves_24 : decode cX11_askLeaves 24 = .ok (.istore_n 1, 1) := by decide +kernel
theorem dX11_askLeaves_25 : decode cX11_askLeaves 25 = .ok (.aload_n 0, 1) := by decide +kernel
theorem dX11_askLeaves_26 : decode cX11_askLeaves 26 = .ok (.iload_n 1, 1) := by decide +kernel
theorem dX11_askLeaves_27 : decode cX11_askLeaves 27 = .ok (.ifCond .ge 8, 3) := by decide +kernel
theorem dX11_askLeaves_30 : decode cX11_askLeaves 30 = .ok (.bipush (-2), 2) := by decide +kernel
theorem dX11_askLeaves_32 : decode cX11_askLeaves 32 = .ok (.goto 15, 3) := by decide +kernel
theorem dX11_askLeaves_35 : decode cX11_askLeaves 35 = .ok (.aload_n 0, 1) := by decide +kernel
theorem dX11_askLeaves_36 : decode cX11_askLeaves 36 = .ok (.getfield 61, 3) := by decide +kernel
theorem dX11_askLeaves_39 : decode cX11_askLeaves 39 = .ok (.aload_n 0, 1) := by decide +kernel
theorem dX11_askLeaves_40 : decode cX11_askLeaves 40 = .ok (.getfield 10, 3) := by decide +kernel
theorem dX11_askLeaves_43 : decode cX11_askLeaves 43 = .ok (.iload_n 1, 1) := by decide +kernel
theorem dX11_askLeaves_44 : decode cX11_askLeaves 44 = .ok (.invokevirtual 290, 3) := by decide +kernel
theorem dX11_askLeaves_47 : decode cX11_askLeaves 47 = .ok (.invokevirtual 117, 3) := by decide +kernel
theorem dX11_askLeaves_50 : decode cX11_askLeaves 50 = .ok (.ireturn, 1) := by decide +kernel
abbrev rm_X11_askLeaves : Room := { frames := 3, cells := 0, slots := 0, locals := 69 }
def f_X11_askLeaves_47 (h : Mem) (s0 : Nat) (s1 : Int32) : Option (Int32 × Mem) :=
  (f_X11_answer h s0 s1).bind fun q10 => some (q10.1, q10.2)
set_option maxRecDepth 100000 in
set_option maxHeartbeats 4000000 in
theorem w_X11_askLeaves_47 {G : GE} {X : CX} {l : Launch} (hX : Ok G X cX11_askLeaves RX11) (hN : xn X = 2) {P : (Int32 × Mem) → Prop} (hr : Rt G X l yX11_askLeaves (some .int) rm_X11_askLeaves (pmI P)) (h : Mem) (s0 : Nat) (s1 : Int32) (hy : OK (f_X11_askLeaves_47 h s0 s1) P) : AW G X 47 [] [vI s1, vR s0] h 0 0 := by
  unfold f_X11_askLeaves_47 at hy
  refine aw_callV (pc := 47) (st := []) (a := s0) hX [vI s1] (con_X11_answer _ G _ s0 s1 hy.bd) mc_X11_answer ml_X11_117 im_X11_answer se_X11_answer (by decide) hy.bd.kd rfl (rm_of hr (by decide)) (Nat.le_of_ble_eq_true rfl) rfl dX11_askLeaves_47 (kmI rfl rfl (fun q10 hy => ?_))
  exact aw_iret (pc := 50) hX hr (by decide) (by decide) dX11_askLeaves_50 ⟨_, rfl, hy.s⟩
def f_X11_askLeaves (h : Mem) (v0 : Nat) : Option (Int32 × Mem) :=
  (ck h v0 9).bind fun _ => (f_X11_isTold h v0).bind fun x1 => (if x1 = 0 then (f_X11_refuse h v0 1).bind fun q13 => some (q13.1, q13.2) else (gR h v0 8 9).bind fun r2 => (gR h v0 1 9).bind fun r3 => (f_X7_whatToAsk h r2 r3).bind fun x4 => (if 0 ≤ x4 then (gR h v0 8 9).bind fun r5 => (gR h v0 1 9).bind fun r6 => (f_X7_mostLeft h r5 r6 x4).bind fun x7 => f_X11_askLeaves_47 h v0 x7 else f_X11_askLeaves_47 h v0 (-2)))
set_option maxRecDepth 100000 in
set_option maxHeartbeats 4000000 in
theorem w_X11_askLeaves {G : GE} {X : CX} {l : Launch} (hX : Ok G X cX11_askLeaves RX11) (hN : xn X = 2) {P : (Int32 × Mem) → Prop} (hr : Rt G X l yX11_askLeaves (some .int) rm_X11_askLeaves (pmI P)) (h : Mem) (v0 : Nat) (hy : OK (f_X11_askLeaves h v0) P) : AW G X 0 [(0, vR v0)] [] h 0 0 := by
  unfold f_X11_askLeaves at hy
  have hkd := hy.kd
  have hy := hy.kb
  refine aw_aloadn (pc := 0) hX 0 rfl dX11_askLeaves_0 ?_
  refine aw_callV (pc := 1) (st := []) (a := v0) hX [] (con_X11_isTold _ G _ v0 hy.bd) mc_X11_isTold ml_X11_193 im_X11_isTold se_X11_isTold (by decide) hy.bd.kd rfl (rm_of hr (by decide)) (Nat.le_of_ble_eq_true rfl) rfl dX11_askLeaves_1 (kpI rfl rfl (fun x1 hy => ?_))
  refine aw_if_ne (pc := 4) hX 13 (by decide) dX11_askLeaves_4 (fun hc9 => ?_) (fun hc9 => ?_)
  · have hy := hy.f hc9
    refine aw_aloadn (pc := 13) hX 0 rfl dX11_askLeaves_13 ?_
    refine aw_gR (pc := 14) hX hy fl_X11_61 (fun _ _ => rfl) dX11_askLeaves_14 (fun r2 hy => ?_)
    refine aw_aloadn (pc := 17) hX 0 rfl dX11_askLeaves_17 ?_
    refine aw_gR (pc := 18) hX hy fl_X11_10 (fun _ _ => rfl) dX11_askLeaves_18 (fun r3 hy => ?_)
    refine aw_callV (pc := 21) (st := []) (a := r2) hX [vR r3] (con_X7_whatToAsk _ G _ r2 r3 hy.bd) mc_X7_whatToAsk ml_X11_287 im_X7_whatToAsk se_X7_whatToAsk (by decide) hy.bd.kd rfl (rm_of hr (by decide)) (Nat.le_of_ble_eq_true rfl) rfl dX11_askLeaves_21 (kpI rfl rfl (fun x4 hy => ?_))
    refine aw_istoren (pc := 24) hX [(1, vI x4), (0, vR v0)] rfl (lt_n hN (by decide)) dX11_askLeaves_24 ?_
    refine aw_aloadn (pc := 25) hX 1 rfl dX11_askLeaves_25 ?_
    refine aw_iloadn (pc := 26) hX 0 rfl dX11_askLeaves_26 ?_
    refine aw_if_ge (pc := 27) hX 35 (by decide) dX11_askLeaves_27 (fun hc9 => ?_) (fun hc9 => ?_)
    · have hy := hy.t hc9
      refine aw_aloadn (pc := 35) hX 1 rfl dX11_askLeaves_35 ?_
      refine aw_gR (pc := 36) hX hy fl_X11_61 (fun _ _ => rfl) dX11_askLeaves_36 (fun r5 hy => ?_)
      refine aw_aloadn (pc := 39) hX 1 rfl dX11_askLeaves_39 ?_
      refine aw_gR (pc := 40) hX hy fl_X11_10 (fun _ _ => rfl) dX11_askLeaves_40 (fun r6 hy => ?_)
      refine aw_iloadn (pc := 43) hX 0 rfl dX11_askLeaves_43 ?_
      refine aw_callV (pc := 44) (st := [vR v0]) (a := r5) hX [vR r6, vI x4] (con_X7_mostLeft _ G _ r5 r6 x4 hy.bd) mc_X7_mostLeft ml_X11_290 im_X7_mostLeft se_X7_mostLeft (by decide) hy.bd.kd rfl (rm_of hr (by decide)) (Nat.le_of_ble_eq_true rfl) rfl dX11_askLeaves_44 (kpI rfl rfl (fun x7 hy => ?_))
      refine AW.sub [] rfl ?_
      exact w_X11_askLeaves_47 hX hN hr h v0 x7 hy
    · have hy := hy.f hc9
      refine aw_bipush (pc := 30) hX (-2) (by decide) dX11_askLeaves_30 ?_
      refine aw_goto (pc := 32) hX 47 (by decide) dX11_askLeaves_32 ?_
      refine AW.sub [] rfl ?_
      exact w_X11_askLeaves_47 hX hN hr h v0 (-2) hy
  · have hy := hy.t hc9
    refine aw_aloadn (pc := 7) hX 0 rfl dX11_askLeaves_7 ?_
    refine aw_iconst (pc := 8) hX 1 (by decide) dX11_askLeaves_8 ?_
    refine aw_callV (pc := 9) (st := []) (a := v0) hX [vI 1] (con_X11_refuse _ G _ v0 1 hy.bd) mc_X11_refuse ml_X11_84 im_X11_refuse se_X11_refuse (by decide) hy.bd.kd rfl (rm_of hr (by decide)) (Nat.le_of_ble_eq_true rfl) rfl dX11_askLeaves_9 (kmI rfl rfl (fun q13 hy => ?_))
    exact aw_iret (pc := 12) hX hr (by decide) (by decide) dX11_askLeaves_12 ⟨_, rfl, hy.s⟩
theorem con_X11_askLeaves (l : Launch) (G : GE) (h : Mem) (v0 : Nat) {P : (Int32 × Mem) → Prop} (hy : OK (f_X11_askLeaves h v0) P) : Con l G yX11_askLeaves cX11_askLeaves 2 (some .int) rm_X11_askLeaves [vR v0] h (pmI P) := Con.of (by decide) (Nat.le_of_ble_eq_true rfl) (fun X hX hr hN => w_X11_askLeaves hX hN hr h v0 hy)
/-! X11_suspect -/
theorem dX11_suspect_0 : decode cX11_suspect 0 = .ok (.aload_n 0, 1) := by decide +kernel
theorem dX11_suspect_1 : decode cX11_suspect 1 = .ok (.invokevirtual 193, 3) := by decide +kernel
theorem dX11_suspect_4 : decode cX11_suspect 4 = .ok (.ifCond .ne 9, 3) := by decide +kernel
theorem dX11_suspect_7 : decode cX11_suspect 7 = .ok (.aload_n 0, 1) := by decide +kernel
theorem dX11_suspect_8 : decode cX11_suspect 8 = .ok (.iconst 1, 1) := by decide +kernel
theorem dX11_suspect_9 : decode cX11_suspect 9 = .ok (.invokevirtual 84, 3) := by decide +kernel
theorem dX11_suspect_12 : decode cX11_suspect 12 = .ok (.ireturn, 1) := by decide +kernel
theorem dX11_suspect_13 : decode cX11_suspect 13 = .ok (.aload_n 0, 1) := by decide +kernel
theorem dX11_suspect_14 : decode cX11_suspect 14 = .ok (.getfield 10, 3) := by decide +kernel
theorem dX11_suspect_17 : decode cX11_suspect 17 = .ok (.invokevirtual 293, 3) := by decide +kernel
theorem dX11_suspect_20 : decode cX11_suspect 20 = .ok (.istore_n 1, 1) := by decide +kernel
theorem dX11_suspect_21 : decode cX11_suspect 21 = .ok (.iconst 0, 1) := by decide +kernel
theorem dX11_suspect_22 : decode cX11_suspect 22 = .ok (.istore_n 2, 1) := by decide +kernel
theorem dX11_suspect_23 : decode cX11_suspect 23 = .ok (.iload_n 2, 1) := by decide +kernel
theorem dX11_suspect_24 : decode cX11_suspect 24 = .ok (.aload_n 0, 1) := by decide +kernel
theorem dX11_suspect_25 : decode cX11_suspect 25 = .ok (.getfield 10, 3) := by decide +kernel
theorem dX11_suspect_28 : decode cX11_suspect 28 = .ok (.getfield 241, 3) := by decide +kernel
theorem dX11_suspect_31 : decode cX11_suspect 31 = .ok (.if_icmp .ge 31, 3) := by decide +kernel
theorem dX11_suspect_34 : decode cX11_suspect 34 = .ok (.iload_n 1, 1) := by decide +kernel
theorem dX11_suspect_35 : decode cX11_suspect 35 = .ok (.aload_n 0, 1) := by decide +kernel
theorem dX11_suspect_36 : decode cX11_suspect 36 = .ok (.getfield 26, 3) := by decide +kernel
theorem dX11_suspect_39 : decode cX11_suspect 39 = .ok (.iload_n 2, 1) := by decide +kernel
theorem dX11_suspect_40 : decode cX11_suspect 40 = .ok (.iconst 2, 1) := by decide +kernel
theorem dX11_suspect_41 : decode cX11_suspect 41 = .ok (.invokevirtual 172, 3) := by decide +kernel
theorem dX11_suspect_44 : decode cX11_suspect 44 = .ok (.iconst (-1), 1) := by decide +kernel
theorem dX11_suspect_45 : decode cX11_suspect 45 = .ok (.ixor, 1) := by decide +kernel
theorem dX11_suspect_46 : decode cX11_suspect 46 = .ok (.iand, 1) := by decide +kernel
theorem dX11_suspect_47 : decode cX11_suspect 47 = .ok (.ifCond .ne 9, 3) := by decide +kernel
theorem dX11_suspect_50 : decode cX11_suspect 50 = .ok (.aload_n 0, 1) := by decide +kernel
theorem dX11_suspect_51 : decode cX11_suspect 51 = .ok (.iload_n 2, 1) := by decide +kernel
theorem dX11_suspect_52 : decode cX11_suspect 52 = .ok (.invokevirtual 117, 3) := by decide +kernel
theorem dX11_suspect_55 : decode cX11_suspect 55 = .ok (.ireturn, 1) := by decide +kernel
theorem dX11_suspect_56 : decode cX11_suspect 56 = .ok (.iinc 2 1, 3) := by decide +kernel
theorem dX11_suspect_59 : decode cX11_suspect 59 = .ok (.goto (-36), 3) := by decide +kernel
theorem dX11_suspect_62 : decode cX11_suspect 62 = .ok (.aload_n 0, 1) := by decide +kernel
theorem dX11_suspect_63 : decode cX11_suspect 63 = .ok (.bipush (-2), 2) := by decide +kernel
theorem dX11_suspect_65 : decode cX11_suspect 65 = .ok (.invokevirtual 117, 3) := by decide +kernel
theorem dX11_suspect_68 : decode cX11_suspect 68 = .ok (.ireturn, 1) := by decide +kernel
abbrev rm_X11_suspect : Room := { frames := 1, cells := 0, slots := 0, locals := 22 }
def b_X11_suspect_23 (h : Mem) (v0 : Nat) (v1 : Int32) (v2 : Int32) : Option (Int32 ⊕ (Int32 ⊕ Unit)) :=
  (gR h v0 1 9).bind fun r4 => (gI h r4 6 4).bind fun x5 => (if x5 ≤ v2 then some (.inr (.inr ())) else (gR h v0 3 9).bind fun r6 => (f_X2_of h r6 v2 2).bind fun x7 => (if (v1 &&& (x7 ^^^ (-1))) = 0 then some (.inr (.inl v2)) else some (.inl (v2 + 1))))
set_option maxRecDepth 100000 in
set_option maxHeartbeats 4000000 in
theorem wb_X11_suspect_23 {G : GE} {X : CX} {l : Launch} (hX : Ok G X cX11_suspect RX11) (hN : xn X = 3) {P0 : (Int32 × Mem) → Prop} (hr : Rt G X l yX11_suspect (some .int) rm_X11_suspect (pmI P0)) (h : Mem)  (v0 : Nat) (v1 : Int32) {P : (Int32 ⊕ (Int32 ⊕ Unit)) → Prop} (hc : ∀ s, P (.inl s) → AW G X 23 [(0, vR v0), (1, vI v1), (2, vI s)] [] h 0 0) (he0 : ∀ e, P (.inr (.inl e)) → AW G X 50 [(0, vR v0), (2, vI e)] [] h 0 0) (he1 : ∀ e, P (.inr (.inr e)) → AW G X 62 [(0, vR v0)] [] h 0 0) (v2 : Int32) (hy : OK (b_X11_suspect_23 h v0 v1 v2) P) : AW G X 23 [(0, vR v0), (1, vI v1), (2, vI v2)] [] h 0 0 := by
  unfold b_X11_suspect_23 at hy
  refine aw_iloadn (pc := 23) hX 2 rfl dX11_suspect_23 ?_
  refine aw_aloadn (pc := 24) hX 0 rfl dX11_suspect_24 ?_
  refine aw_gR (pc := 25) hX hy fl_X11_10 (fun _ _ => rfl) dX11_suspect_25 (fun r4 hy => ?_)
  refine aw_gI (pc := 28) hX hy fl_X11_241 (fun _ _ => rfl) dX11_suspect_28 (fun x5 hy => ?_)
  refine aw_ic_ge (pc := 31) hX 62 (by decide) dX11_suspect_31 (fun hc9 => ?_) (fun hc9 => ?_)
  · have hy := hy.t hc9
    refine AW.sub [0] rfl ?_
    exact he1 () hy.s
  · have hy := hy.f hc9
    refine aw_iloadn (pc := 34) hX 1 rfl dX11_suspect_34 ?_
    refine aw_aloadn (pc := 35) hX 0 rfl dX11_suspect_35 ?_
    refine aw_gR (pc := 36) hX hy fl_X11_26 (fun _ _ => rfl) dX11_suspect_36 (fun r6 hy => ?_)
    refine aw_iloadn (pc := 39) hX 2 rfl dX11_suspect_39 ?_
    refine aw_iconst (pc := 40) hX 2 (by decide) dX11_suspect_40 ?_
    refine aw_callV (pc := 41) (st := [vI v1]) (a := r6) hX [vI v2, vI 2] (con_X2_of _ G _ r6 v2 2 hy.bd) mc_X2_of ml_X11_172 im_X2_of se_X2_of (by decide) hy.bd.kd rfl (rm_of hr (by decide)) (Nat.le_of_ble_eq_true rfl) rfl dX11_suspect_41 (kpI rfl rfl (fun x7 hy => ?_))
    refine aw_iconst (pc := 44) hX (-1) (by decide) dX11_suspect_44 ?_
    refine aw_ixor (pc := 45) hX dX11_suspect_45 ?_
    refine aw_iand (pc := 46) hX dX11_suspect_46 ?_
    refine aw_if_ne (pc := 47) hX 56 (by decide) dX11_suspect_47 (fun hc9 => ?_) (fun hc9 => ?_)
    · have hy := hy.f hc9
      refine aw_iinc (pc := 56) hX 1 (by decide) 2 rfl [(2, vI (v2 + 1)), (0, vR v0), (1, vI v1)] rfl (lt_n hN (by decide)) dX11_suspect_56 ?_
      refine aw_goto (pc := 59) hX 23 (by decide) dX11_suspect_59 ?_
      refine AW.sub [1, 2, 0] rfl ?_
      exact hc (v2 + 1) hy.s
    · have hy := hy.t hc9
      refine AW.sub [0, 2] rfl ?_
      exact he0 v2 hy.s
theorem wl_X11_suspect_23 {G : GE} {X : CX} {l : Launch} (hX : Ok G X cX11_suspect RX11) (hN : xn X = 3) {P0 : (Int32 × Mem) → Prop} (hr : Rt G X l yX11_suspect (some .int) rm_X11_suspect (pmI P0)) (h : Mem) (v0 : Nat) (v1 : Int32) {P : (Int32 ⊕ Unit) → Prop} (he0 : ∀ e, P (.inl e) → AW G X 50 [(0, vR v0), (2, vI e)] [] h 0 0) (he1 : ∀ e, P (.inr e) → AW G X 62 [(0, vR v0)] [] h 0 0) : ∀ (n : Nat) (s : Int32), OK (iter (fun (s : Int32) => b_X11_suspect_23 h v0 v1 s) n s) P → AW G X 23 [(0, vR v0), (1, vI v1), (2, vI s)] [] h 0 0 := by
  intro n
  induction n with
  | zero => exact fun s hy => hy.it0.elim
  | succ n ih =>
    intro s hy
    exact wb_X11_suspect_23 hX hN hr h v0 v1 (fun s hs => ih s hs) (fun e hs => he0 e hs) (fun e hs => he1 e hs) s hy.it
def f_X11_suspect (h : Mem) (v0 : Nat) : Option (Int32 × Mem) :=
  (ck h v0 9).bind fun _ => (f_X11_isTold h v0).bind fun x1 => (if x1 = 0 then (f_X11_refuse h v0 1).bind fun q19 => some (q19.1, q19.2) else (gR h v0 1 9).bind fun r2 => (f_X5_heardAsBits h r2).bind fun x3 => (iter (fun (s : Int32) => b_X11_suspect_23 h v0 x3 s) FU 0).bind (Sum.elim (fun e9 => (f_X11_answer h v0 e9).bind fun q12 => some (q12.1, q12.2)) (fun e13 => (f_X11_answer h v0 (-2)).bind fun q16 => some (q16.1, q16.2))))
set_option maxRecDepth 100000 in
set_option maxHeartbeats 4000000 in
theorem w_X11_suspect {G : GE} {X : CX} {l : Launch} (hX : Ok G X cX11_suspect RX11) (hN : xn X = 3) {P : (Int32 × Mem) → Prop} (hr : Rt G X l yX11_suspect (some .int) rm_X11_suspect (pmI P)) (h : Mem) (v0 : Nat) (hy : OK (f_X11_suspect h v0) P) : AW G X 0 [(0, vR v0)] [] h 0 0 := by
  unfold f_X11_suspect at hy
  have hkd := hy.kd
  have hy := hy.kb
  refine aw_aloadn (pc := 0) hX 0 rfl dX11_suspect_0 ?_
  refine aw_callV (pc := 1) (st := []) (a := v0) hX [] (con_X11_isTold _ G _ v0 hy.bd) mc_X11_isTold ml_X11_193 im_X11_isTold se_X11_isTold (by decide) hy.bd.kd rfl (rm_of hr (by decide)) (Nat.le_of_ble_eq_true rfl) rfl dX11_suspect_1 (kpI rfl rfl (fun x1 hy => ?_))
  refine aw_if_ne (pc := 4) hX 13 (by decide) dX11_suspect_4 (fun hc9 => ?_) (fun hc9 => ?_)
  · have hy := hy.f hc9
    refine aw_aloadn (pc := 13) hX 0 rfl dX11_suspect_13 ?_
    refine aw_gR (pc := 14) hX hy fl_X11_10 (fun _ _ => rfl) dX11_suspect_14 (fun r2 hy => ?_)
    refine aw_callV (pc := 17) (st := []) (a := r2) hX [] (con_X5_heardAsBits _ G _ r2 hy.bd) mc_X5_heardAsBits ml_X11_293 im_X5_heardAsBits se_X5_heardAsBits (by decide) hy.bd.kd rfl (rm_of hr (by decide)) (Nat.le_of_ble_eq_true rfl) rfl dX11_suspect_17 (kpI rfl rfl (fun x3 hy => ?_))
    refine aw_istoren (pc := 20) hX [(1, vI x3), (0, vR v0)] rfl (lt_n hN (by decide)) dX11_suspect_20 ?_
    refine aw_iconst (pc := 21) hX 0 (by decide) dX11_suspect_21 ?_
    refine aw_istoren (pc := 22) hX [(2, vI 0), (1, vI x3), (0, vR v0)] rfl (lt_n hN (by decide)) dX11_suspect_22 ?_
    refine AW.sub [2, 1, 0] rfl ?_
    refine wl_X11_suspect_23 hX hN hr _ v0 x3 ?_ ?_ FU 0 hy.bd
    · intro e9 hy
      refine aw_aloadn (pc := 50) hX 0 rfl dX11_suspect_50 ?_
      refine aw_iloadn (pc := 51) hX 1 rfl dX11_suspect_51 ?_
      refine aw_callV (pc := 52) (st := []) (a := v0) hX [vI e9] (con_X11_answer _ G _ v0 e9 hy.bd) mc_X11_answer ml_X11_117 im_X11_answer se_X11_answer (by decide) hy.bd.kd rfl (rm_of hr (by decide)) (Nat.le_of_ble_eq_true rfl) rfl dX11_suspect_52 (kmI rfl rfl (fun q12 hy => ?_))
      exact aw_iret (pc := 55) hX hr (by decide) (by decide) dX11_suspect_55 ⟨_, rfl, hy.s⟩
    · intro e13 hy
      refine aw_aloadn (pc := 62) hX 0 rfl dX11_suspect_62 ?_
      refine aw_bipush (pc := 63) hX (-2) (by decide) dX11_suspect_63 ?_
      refine aw_callV (pc := 65) (st := []) (a := v0) hX [vI (-2)] (con_X11_answer _ G _ v0 (-2) hy.bd) mc_X11_answer ml_X11_117 im_X11_answer se_X11_answer (by decide) hy.bd.kd rfl (rm_of hr (by decide)) (Nat.le_of_ble_eq_true rfl) rfl dX11_suspect_65 (kmI rfl rfl (fun q16 hy => ?_))
      exact aw_iret (pc := 68) hX hr (by decide) (by decide) dX11_suspect_68 ⟨_, rfl, hy.s⟩
  · have hy := hy.t hc9
    refine aw_aloadn (pc := 7) hX 0 rfl dX11_suspect_7 ?_
    refine aw_iconst (pc := 8) hX 1 (by decide) dX11_suspect_8 ?_
    refine aw_callV (pc := 9) (st := []) (a := v0) hX [vI 1] (con_X11_refuse _ G _ v0 1 hy.bd) mc_X11_refuse ml_X11_84 im_X11_refuse se_X11_refuse (by decide) hy.bd.kd rfl (rm_of hr (by decide)) (Nat.le_of_ble_eq_true rfl) rfl dX11_suspect_9 (kmI rfl rfl (fun q19 hy => ?_))
    exact aw_iret (pc := 12) hX hr (by decide) (by decide) dX11_suspect_12 ⟨_, rfl, hy.s⟩
theorem con_X11_suspect (l : Launch) (G : GE) (h : Mem) (v0 : Nat) {P : (Int32 × Mem) → Prop} (hy : OK (f_X11_suspect h v0) P) : Con l G yX11_suspect cX11_suspect 3 (some .int) rm_X11_suspect [vR v0] h (pmI P) := Con.of (by decide) (Nat.le_of_ble_eq_true rfl) (fun X hX hr hN => w_X11_suspect hX hN hr h v0 hy)
/-! X11_isMany -/
theorem dX11_isMany_0 : decode cX11_isMany 0 = .ok (.iload_n 0, 1) := by decide +kernel
theorem dX11_isMany_1 : decode cX11_isMany 1 = .ok (.ifCond .lt 13, 3) := by decide +kernel
theorem dX11_isMany_4 : decode cX11_isMany 4 = .ok (.iload_n 0, 1) := by decide +kernel
theorem dX11_isMany_5 : decode cX11_isMany 5 = .ok (.bipush 99, 2) := by decide +kernel
theorem dX11_isMany_7 : decode cX11_isMany 7 = .ok (.if_icmp .gt 7, 3) := by decide +kernel
theorem dX11_isMany_10 : decode cX11_isMany 10 = .ok (.iconst 1, 1) := by decide +kernel
theorem dX11_isMany_11 : decode cX11_isMany 11 = .ok (.goto 4, 3) := by decide +kernel
theorem dX11_isMany_14 : decode cX11_isMany 14 = .ok (.iconst 0, 1) := by decide +kernel
theorem dX11_isMany_15 : decode cX11_isMany 15 = .ok (.ireturn, 1) := by decide +kernel
abbrev rm_X11_isMany : Room := { frames := 0, cells := 0, slots := 0, locals := 0 }
def f_X11_isMany_14 (h : Mem) : Option Int32 :=
  some 0
set_option maxRecDepth 100000 in
set_option maxHeartbeats 4000000 in
theorem w_X11_isMany_14 {G : GE} {X : CX} {l : Launch} (hX : Ok G X cX11_isMany RX11) (hN : xn X = 1) (h : Mem) {P : Int32 → Prop} (hr : Rt G X l yX11_isMany (some .boolean) rm_X11_isMany (ppI h P)) (hy : OK (f_X11_isMany_14 h) P) : AW G X 14 [] [] h 0 0 := by
  unfold f_X11_isMany_14 at hy
  refine aw_iconst (pc := 14) hX 0 (by decide) dX11_isMany_14 ?_
  exact aw_zret (pc := 15) hX hr (by decide) (by decide) dX11_isMany_15 (Or.inl rfl) ⟨rfl, _, rfl, hy.s⟩
def f_X11_isMany (h : Mem) (v0 : Int32) : Option Int32 :=
  (if v0 < 0 then f_X11_isMany_14 h else (if 99 < v0 then f_X11_isMany_14 h else some 1))
set_option maxRecDepth 100000 in
set_option maxHeartbeats 4000000 in
theorem w_X11_isMany {G : GE} {X : CX} {l : Launch} (hX : Ok G X cX11_isMany RX11) (hN : xn X = 1) (h : Mem) {P : Int32 → Prop} (hr : Rt G X l yX11_isMany (some .boolean) rm_X11_isMany (ppI h P)) (v0 : Int32) (hy : OK (f_X11_isMany h v0) P) : AW G X 0 [(0, vI v0)] [] h 0 0 := by
  unfold f_X11_isMany at hy
  refine aw_iloadn (pc := 0) hX 0 rfl dX11_isMany_0 ?_
  refine aw_if_lt (pc := 1) hX 14 (by decide) dX11_isMany_1 (fun hc9 => ?_) (fun hc9 => ?_)
  · have hy := hy.t hc9
    refine AW.sub [] rfl ?_
    exact w_X11_isMany_14 hX hN _ hr hy
  · have hy := hy.f hc9
    refine aw_iloadn (pc := 4) hX 0 rfl dX11_isMany_4 ?_
    refine aw_bipush (pc := 5) hX 99 (by decide) dX11_isMany_5 ?_
    refine aw_ic_gt (pc := 7) hX 14 (by decide) dX11_isMany_7 (fun hc9 => ?_) (fun hc9 => ?_)
    · have hy := hy.t hc9
      refine AW.sub [] rfl ?_
      exact w_X11_isMany_14 hX hN _ hr hy
    · have hy := hy.f hc9
      refine aw_iconst (pc := 10) hX 1 (by decide) dX11_isMany_10 ?_
      refine aw_goto (pc := 11) hX 15 (by decide) dX11_isMany_11 ?_
      exact aw_zret (pc := 15) hX hr (by decide) (by decide) dX11_isMany_15 (Or.inr rfl) ⟨rfl, _, rfl, hy.s⟩
theorem con_X11_isMany (l : Launch) (G : GE) (h : Mem) (v0 : Int32) {P : Int32 → Prop} (hy : OK (f_X11_isMany h v0) P) : Con l G yX11_isMany cX11_isMany 1 (some .boolean) rm_X11_isMany [vI v0] h (ppI h P) := Con.of (by decide) (Nat.le_of_ble_eq_true rfl) (fun X hX hr hN => w_X11_isMany hX hN h hr v0 hy)
/-! X11_sells -/
theorem dX11_sells_0 : decode cX11_sells 0 = .ok (.aload_n 0, 1) := by decide +kernel
theorem dX11_sells_1 : decode cX11_sells 1 = .ok (.aload_n 0, 1) := by decide +kernel
theorem dX11_sells_2 : decode cX11_sells 2 = .ok (.invokevirtual 193, 3) := by decide +kernel
theorem dX11_sells_5 : decode cX11_sells 5 = .ok (.ifCond .eq 7, 3) := by decide +kernel
theorem dX11_sells_8 : decode cX11_sells 8 = .ok (.iconst 0, 1) := by decide +kernel
theorem dX11_sells_9 : decode cX11_sells 9 = .ok (.goto 4, 3) := by decide +kernel
theorem dX11_sells_12 : decode cX11_sells 12 = .ok (.iconst 1, 1) := by decide +kernel
theorem dX11_sells_13 : decode cX11_sells 13 = .ok (.putfield 123, 3) := by decide +kernel
theorem dX11_sells_16 : decode cX11_sells 16 = .ok (.aload_n 0, 1) := by decide +kernel
theorem dX11_sells_17 : decode cX11_sells 17 = .ok (.getfield 123, 3) := by decide +kernel
theorem dX11_sells_20 : decode cX11_sells 20 = .ok (.ifCond .ne 29, 3) := by decide +kernel
theorem dX11_sells_23 : decode cX11_sells 23 = .ok (.iload_n 1, 1) := by decide +kernel
theorem dX11_sells_24 : decode cX11_sells 24 = .ok (.invokestatic 296, 3) := by decide +kernel
theorem dX11_sells_27 : decode cX11_sells 27 = .ok (.ifCond .eq 17, 3) := by decide +kernel
theorem dX11_sells_30 : decode cX11_sells 30 = .ok (.iload_n 2, 1) := by decide +kernel
theorem dX11_sells_31 : decode cX11_sells 31 = .ok (.invokestatic 299, 3) := by decide +kernel
theorem dX11_sells_34 : decode cX11_sells 34 = .ok (.ifCond .eq 10, 3) := by decide +kernel
theorem dX11_sells_37 : decode cX11_sells 37 = .ok (.iload_n 3, 1) := by decide +kernel
theorem dX11_sells_38 : decode cX11_sells 38 = .ok (.invokestatic 299, 3) := by decide +kernel
theorem dX11_sells_41 : decode cX11_sells 41 = .ok (.ifCond .ne 8, 3) := by decide +kernel
theorem dX11_sells_44 : decode cX11_sells 44 = .ok (.aload_n 0, 1) := by decide +kernel
theorem dX11_sells_45 : decode cX11_sells 45 = .ok (.iconst 2, 1) := by decide +kernel
theorem dX11_sells_46 : decode cX11_sells 46 = .ok (.putfield 123, 3) := by decide +kernel
theorem dX11_sells_49 : decode cX11_sells 49 = .ok (.aload_n 0, 1) := by decide +kernel
theorem dX11_sells_50 : decode cX11_sells 50 = .ok (.getfield 123, 3) := by decide +kernel
theorem dX11_sells_53 : decode cX11_sells 53 = .ok (.ifCond .eq 7, 3) := by decide +kernel
theorem dX11_sells_56 : decode cX11_sells 56 = .ok (.sipush (-1000), 3) := by decide +kernel
theorem dX11_sells_59 : decode cX11_sells 59 = .ok (.ireturn, 1) := by decide +kernel
theorem dX11_sells_60 : decode cX11_sells 60 = .ok (.iload 4, 2) := by decide +kernel
theorem dX11_sells_62 : decode cX11_sells 62 = .ok (.ifCond .eq 12, 3) := by decide +kernel
theorem dX11_sells_65 : decode cX11_sells 65 = .ok (.iload_n 1, 1) := by decide +kernel
theorem dX11_sells_66 : decode cX11_sells 66 = .ok (.iload_n 3, 1) := by decide +kernel
theorem dX11_sells_67 : decode cX11_sells 67 = .ok (.iload_n 2, 1) := by decide +kernel
theorem dX11_sells_68 : decode cX11_sells 68 = .ok (.invokestatic 304, 3) := by decide +kernel
theorem dX11_sells_71 : decode cX11_sells 71 = .ok (.goto 9, 3) := by decide +kernel
theorem dX11_sells_74 : decode cX11_sells 74 = .ok (.iload_n 1, 1) := by decide +kernel
theorem dX11_sells_75 : decode cX11_sells 75 = .ok (.iload_n 2, 1) := by decide +kernel
theorem dX11_sells_76 : decode cX11_sells 76 = .ok (.iload_n 3, 1) := by decide +kernel
theorem dX11_sells_77 : decode cX11_sells 77 = .ok (.invokestatic 304, 3) := by decide +kernel
theorem dX11_sells_80 : decode cX11_sells 80 = .ok (.ireturn, 1) := by decide +kernel
abbrev rm_X11_sells : Room := { frames := 1, cells := 0, slots := 0, locals := 23 }
def f_X11_sells_49 (h : Mem) (v0 : Nat) (v1 : Int32) (v2 : Int32) (v3 : Int32) (v4 : Int32) : Option (Int32 × Mem) :=
  (gI h v0 0 9).bind fun x4 => (if x4 = 0 then (if v4 = 0 then (f_X9_share h v1 v2 v3).bind fun x5 => some (x5, h) else (f_X9_share h v1 v3 v2).bind fun x6 => some (x6, h)) else some ((-1000), h))
set_option maxRecDepth 100000 in
set_option maxHeartbeats 4000000 in
theorem w_X11_sells_49 {G : GE} {X : CX} {l : Launch} (hX : Ok G X cX11_sells RX11) (hN : xn X = 5) {P : (Int32 × Mem) → Prop} (hr : Rt G X l yX11_sells (some .int) rm_X11_sells (pmI P)) (h : Mem) (v0 : Nat) (v1 : Int32) (v2 : Int32) (v3 : Int32) (v4 : Int32) (hy : OK (f_X11_sells_49 h v0 v1 v2 v3 v4) P) : AW G X 49 [(0, vR v0), (1, vI v1), (2, vI v2), (3, vI v3), (4, vI v4)] [] h 0 0 := by
  unfold f_X11_sells_49 at hy
  refine aw_aloadn (pc := 49) hX 0 rfl dX11_sells_49 ?_
  refine aw_gI (pc := 50) hX hy fl_X11_123 (fun _ _ => rfl) dX11_sells_50 (fun x4 hy => ?_)
  refine aw_if_eq (pc := 53) hX 60 (by decide) dX11_sells_53 (fun hc9 => ?_) (fun hc9 => ?_)
  · have hy := hy.t hc9
    refine aw_iload (pc := 60) hX 4 rfl dX11_sells_60 ?_
    refine aw_if_eq (pc := 62) hX 74 (by decide) dX11_sells_62 (fun hc9 => ?_) (fun hc9 => ?_)
    · have hy := hy.t hc9
      refine aw_iloadn (pc := 74) hX 1 rfl dX11_sells_74 ?_
      refine aw_iloadn (pc := 75) hX 2 rfl dX11_sells_75 ?_
      refine aw_iloadn (pc := 76) hX 3 rfl dX11_sells_76 ?_
      refine aw_callS (pc := 77) (st := []) hX [vI v1, vI v2, vI v3] (con_X9_share _ G _ v1 v2 v3 hy.bd) mc_X9_share ml_X11_304 st_X9_share rfl (rm_of hr (by decide)) (Nat.le_of_ble_eq_true rfl) rfl dX11_sells_77 (kpI rfl rfl (fun x5 hy => ?_))
      exact aw_iret (pc := 80) hX hr (by decide) (by decide) dX11_sells_80 ⟨_, rfl, hy.s⟩
    · have hy := hy.f hc9
      refine aw_iloadn (pc := 65) hX 1 rfl dX11_sells_65 ?_
      refine aw_iloadn (pc := 66) hX 3 rfl dX11_sells_66 ?_
      refine aw_iloadn (pc := 67) hX 2 rfl dX11_sells_67 ?_
      refine aw_callS (pc := 68) (st := []) hX [vI v1, vI v3, vI v2] (con_X9_share _ G _ v1 v3 v2 hy.bd) mc_X9_share ml_X11_304 st_X9_share rfl (rm_of hr (by decide)) (Nat.le_of_ble_eq_true rfl) rfl dX11_sells_68 (kpI rfl rfl (fun x6 hy => ?_))
      refine aw_goto (pc := 71) hX 80 (by decide) dX11_sells_71 ?_
      exact aw_iret (pc := 80) hX hr (by decide) (by decide) dX11_sells_80 ⟨_, rfl, hy.s⟩
  · have hy := hy.f hc9
    refine aw_sipush (pc := 56) hX (-1000) (by decide) dX11_sells_56 ?_
    exact aw_iret (pc := 59) hX hr (by decide) (by decide) dX11_sells_59 ⟨_, rfl, hy.s⟩
def f_X11_sells_44 (h : Mem) (v0 : Nat) (v1 : Int32) (v2 : Int32) (v3 : Int32) (v4 : Int32) : Option (Int32 × Mem) :=
  (pI h v0 0 9 2).bind fun h8 => f_X11_sells_49 h8 v0 v1 v2 v3 v4
set_option maxRecDepth 100000 in
set_option maxHeartbeats 4000000 in
theorem w_X11_sells_44 {G : GE} {X : CX} {l : Launch} (hX : Ok G X cX11_sells RX11) (hN : xn X = 5) {P : (Int32 × Mem) → Prop} (hr : Rt G X l yX11_sells (some .int) rm_X11_sells (pmI P)) (h : Mem) (v0 : Nat) (v1 : Int32) (v2 : Int32) (v3 : Int32) (v4 : Int32) (hy : OK (f_X11_sells_44 h v0 v1 v2 v3 v4) P) : AW G X 44 [(0, vR v0), (1, vI v1), (2, vI v2), (3, vI v3), (4, vI v4)] [] h 0 0 := by
  unfold f_X11_sells_44 at hy
  refine aw_aloadn (pc := 44) hX 0 rfl dX11_sells_44 ?_
  refine aw_iconst (pc := 45) hX 2 (by decide) dX11_sells_45 ?_
  refine aw_pI (pc := 46) hX hy fl_X11_123 rfl (Or.inl rfl) dX11_sells_46 (fun h8 hy => ?_)
  exact w_X11_sells_49 hX hN hr h8 v0 v1 v2 v3 v4 hy
def f_X11_sells_13 (h : Mem) (v0 : Nat) (v1 : Int32) (v2 : Int32) (v3 : Int32) (v4 : Int32) (s0 : Nat) (s1 : Int32) : Option (Int32 × Mem) :=
  (pI h s0 0 9 s1).bind fun h2 => (gI h2 v0 0 9).bind fun x3 => (if x3 = 0 then (f_X11_isMany h2 v1).bind fun x7 => (if x7 = 0 then f_X11_sells_44 h2 v0 v1 v2 v3 v4 else (f_X9_isPrice h2 v2).bind fun x9 => (if x9 = 0 then f_X11_sells_44 h2 v0 v1 v2 v3 v4 else (f_X9_isPrice h2 v3).bind fun x10 => (if x10 = 0 then f_X11_sells_44 h2 v0 v1 v2 v3 v4 else f_X11_sells_49 h2 v0 v1 v2 v3 v4))) else f_X11_sells_49 h2 v0 v1 v2 v3 v4)
set_option maxRecDepth 100000 in
set_option maxHeartbeats 4000000 in
theorem w_X11_sells_13 {G : GE} {X : CX} {l : Launch} (hX : Ok G X cX11_sells RX11) (hN : xn X = 5) {P : (Int32 × Mem) → Prop} (hr : Rt G X l yX11_sells (some .int) rm_X11_sells (pmI P)) (h : Mem) (v0 : Nat) (v1 : Int32) (v2 : Int32) (v3 : Int32) (v4 : Int32) (s0 : Nat) (s1 : Int32) (hy : OK (f_X11_sells_13 h v0 v1 v2 v3 v4 s0 s1) P) : AW G X 13 [(0, vR v0), (1, vI v1), (2, vI v2), (3, vI v3), (4, vI v4)] [vI s1, vR s0] h 0 0 := by
  unfold f_X11_sells_13 at hy
  refine aw_pI (pc := 13) hX hy fl_X11_123 rfl (Or.inl rfl) dX11_sells_13 (fun h2 hy => ?_)
  refine aw_aloadn (pc := 16) hX 0 rfl dX11_sells_16 ?_
  refine aw_gI (pc := 17) hX hy fl_X11_123 (fun _ _ => rfl) dX11_sells_17 (fun x3 hy => ?_)
  refine aw_if_ne (pc := 20) hX 49 (by decide) dX11_sells_20 (fun hc9 => ?_) (fun hc9 => ?_)
  · have hy := hy.f hc9
    exact w_X11_sells_49 hX hN hr h2 v0 v1 v2 v3 v4 hy
  · have hy := hy.t hc9
    refine aw_iloadn (pc := 23) hX 1 rfl dX11_sells_23 ?_
    refine aw_callS (pc := 24) (st := []) hX [vI v1] (con_X11_isMany _ G _ v1 hy.bd) mc_X11_isMany ml_X11_296 st_X11_isMany rfl (rm_of hr (by decide)) (Nat.le_of_ble_eq_true rfl) rfl dX11_sells_24 (kpI rfl rfl (fun x7 hy => ?_))
    refine aw_if_eq (pc := 27) hX 44 (by decide) dX11_sells_27 (fun hc9 => ?_) (fun hc9 => ?_)
    · have hy := hy.t hc9
      exact w_X11_sells_44 hX hN hr h2 v0 v1 v2 v3 v4 hy
    · have hy := hy.f hc9
      refine aw_iloadn (pc := 30) hX 2 rfl dX11_sells_30 ?_
      refine aw_callS (pc := 31) (st := []) hX [vI v2] (con_X9_isPrice _ G _ v2 hy.bd) mc_X9_isPrice ml_X11_299 st_X9_isPrice rfl (rm_of hr (by decide)) (Nat.le_of_ble_eq_true rfl) rfl dX11_sells_31 (kpI rfl rfl (fun x9 hy => ?_))
      refine aw_if_eq (pc := 34) hX 44 (by decide) dX11_sells_34 (fun hc9 => ?_) (fun hc9 => ?_)
      · have hy := hy.t hc9
        exact w_X11_sells_44 hX hN hr h2 v0 v1 v2 v3 v4 hy
      · have hy := hy.f hc9
        refine aw_iloadn (pc := 37) hX 3 rfl dX11_sells_37 ?_
        refine aw_callS (pc := 38) (st := []) hX [vI v3] (con_X9_isPrice _ G _ v3 hy.bd) mc_X9_isPrice ml_X11_299 st_X9_isPrice rfl (rm_of hr (by decide)) (Nat.le_of_ble_eq_true rfl) rfl dX11_sells_38 (kpI rfl rfl (fun x10 hy => ?_))
        refine aw_if_ne (pc := 41) hX 49 (by decide) dX11_sells_41 (fun hc9 => ?_) (fun hc9 => ?_)
        · have hy := hy.f hc9
          exact w_X11_sells_49 hX hN hr h2 v0 v1 v2 v3 v4 hy
        · have hy := hy.t hc9
          exact w_X11_sells_44 hX hN hr h2 v0 v1 v2 v3 v4 hy
def f_X11_sells (h : Mem) (v0 : Nat) (v1 : Int32) (v2 : Int32) (v3 : Int32) (v4 : Int32) : Option (Int32 × Mem) :=
  (ck h v0 9).bind fun _ => (f_X11_isTold h v0).bind fun x1 => (if x1 = 0 then f_X11_sells_13 h v0 v1 v2 v3 v4 v0 1 else f_X11_sells_13 h v0 v1 v2 v3 v4 v0 0)
set_option maxRecDepth 100000 in
set_option maxHeartbeats 4000000 in
theorem w_X11_sells {G : GE} {X : CX} {l : Launch} (hX : Ok G X cX11_sells RX11) (hN : xn X = 5) {P : (Int32 × Mem) → Prop} (hr : Rt G X l yX11_sells (some .int) rm_X11_sells (pmI P)) (h : Mem) (v0 : Nat) (v1 : Int32) (v2 : Int32) (v3 : Int32) (v4 : Int32) (hy : OK (f_X11_sells h v0 v1 v2 v3 v4) P) : AW G X 0 [(0, vR v0), (1, vI v1), (2, vI v2), (3, vI v3), (4, vI v4)] [] h 0 0 := by
  unfold f_X11_sells at hy
  have hkd := hy.kd
  have hy := hy.kb
  refine aw_aloadn (pc := 0) hX 0 rfl dX11_sells_0 ?_
  refine aw_aloadn (pc := 1) hX 0 rfl dX11_sells_1 ?_
  refine aw_callV (pc := 2) (st := [vR v0]) (a := v0) hX [] (con_X11_isTold _ G _ v0 hy.bd) mc_X11_isTold ml_X11_193 im_X11_isTold se_X11_isTold (by decide) hy.bd.kd rfl (rm_of hr (by decide)) (Nat.le_of_ble_eq_true rfl) rfl dX11_sells_2 (kpI rfl rfl (fun x1 hy => ?_))
  refine aw_if_eq (pc := 5) hX 12 (by decide) dX11_sells_5 (fun hc9 => ?_) (fun hc9 => ?_)
  · have hy := hy.t hc9
    refine aw_iconst (pc := 12) hX 1 (by decide) dX11_sells_12 ?_
    exact w_X11_sells_13 hX hN hr h v0 v1 v2 v3 v4 v0 1 hy
  · have hy := hy.f hc9
    refine aw_iconst (pc := 8) hX 0 (by decide) dX11_sells_8 ?_
    refine aw_goto (pc := 9) hX 13 (by decide) dX11_sells_9 ?_
    exact w_X11_sells_13 hX hN hr h v0 v1 v2 v3 v4 v0 0 hy
theorem con_X11_sells (l : Launch) (G : GE) (h : Mem) (v0 : Nat) (v1 : Int32) (v2 : Int32) (v3 : Int32) (v4 : Int32) {P : (Int32 × Mem) → Prop} (hy : OK (f_X11_sells h v0 v1 v2 v3 v4) P) : Con l G yX11_sells cX11_sells 5 (some .int) rm_X11_sells [vR v0, vI v1, vI v2, vI v3, vI v4] h (pmI P) := Con.of (by decide) (Nat.le_of_ble_eq_true rfl) (fun X hX hr hN => w_X11_sells hX hN hr h v0 v1 v2 v3 v4 hy)
/-! X11_rests -/
theorem dX11_rests_0 : decode cX11_rests 0 = .ok (.aload_n 0, 1) := by decide +kernel
theorem dX11_rests_1 : decode cX11_rests 1 = .ok (.invokevirtual 193, 3) := by decide +kernel
theorem dX11_rests_4 : decode cX11_rests 4 = .ok (.ifCond .ne 9, 3) := by decide +kernel
theorem dX11_rests_7 : decode cX11_rests 7 = .ok (.aload_n 0, 1) := by decide +kernel
theorem dX11_rests_8 : decode cX11_rests 8 = .ok (.iconst 1, 1) := by decide +kernel
theorem dX11_rests_9 : decode cX11_rests 9 = .ok (.invokevirtual 84, 3) := by decide +kernel
theorem dX11_rests_12 : decode cX11_rests 12 = .ok (.ireturn, 1) := by decide +kernel
theorem dX11_rests_13 : decode cX11_rests 13 = .ok (.iload_n 1, 1) := by decide +kernel
theorem dX11_rests_14 : decode cX11_rests 14 = .ok (.invokestatic 296, 3) := by decide +kernel
theorem dX11_rests_17 : decode cX11_rests 17 = .ok (.ifCond .eq 14, 3) := by decide +kernel
theorem dX11_rests_20 : decode cX11_rests 20 = .ok (.aload_n 0, 1) := by decide +kernel
theorem dX11_rests_21 : decode cX11_rests 21 = .ok (.iload_n 1, 1) := by decide +kernel
theorem dX11_rests_22 : decode cX11_rests 22 = .ok (.invokestatic 308, 3) := by decide +kernel
theorem dX11_rests_25 : decode cX11_rests 25 = .ok (.invokevirtual 117, 3) := by decide +kernel
theorem dX11_rests_28 : decode cX11_rests 28 = .ok (.goto 8, 3) := by decide +kernel
theorem dX11_rests_31 : decode cX11_rests 31 = .ok (.aload_n 0, 1) := by decide +kernel
theorem dX11_rests_32 : decode cX11_rests 32 = .ok (.iconst 2, 1) := by decide +kernel
theorem dX11_rests_33 : decode cX11_rests 33 = .ok (.invokevirtual 84, 3) := by decide +kernel
theorem dX11_rests_36 : decode cX11_rests 36 = .ok (.ireturn, 1) := by decide +kernel
abbrev rm_X11_rests : Room := { frames := 3, cells := 0, slots := 0, locals := 70 }
def f_X11_rests (h : Mem) (v0 : Nat) (v1 : Int32) : Option (Int32 × Mem) :=
  (ck h v0 9).bind fun _ => (f_X11_isTold h v0).bind fun x1 => (if x1 = 0 then (f_X11_refuse h v0 1).bind fun q12 => some (q12.1, q12.2) else (f_X11_isMany h v1).bind fun x2 => (if x2 = 0 then (f_X11_refuse h v0 2).bind fun q5 => some (q5.1, q5.2) else (f_X9_countRests h v1).bind fun x6 => (f_X11_answer h v0 x6).bind fun q9 => some (q9.1, q9.2)))
set_option maxRecDepth 100000 in
set_option maxHeartbeats 4000000 in
theorem w_X11_rests {G : GE} {X : CX} {l : Launch} (hX : Ok G X cX11_rests RX11) (hN : xn X = 2) {P : (Int32 × Mem) → Prop} (hr : Rt G X l yX11_rests (some .int) rm_X11_rests (pmI P)) (h : Mem) (v0 : Nat) (v1 : Int32) (hy : OK (f_X11_rests h v0 v1) P) : AW G X 0 [(0, vR v0), (1, vI v1)] [] h 0 0 := by
  unfold f_X11_rests at hy
  have hkd := hy.kd
  have hy := hy.kb
  refine aw_aloadn (pc := 0) hX 0 rfl dX11_rests_0 ?_
  refine aw_callV (pc := 1) (st := []) (a := v0) hX [] (con_X11_isTold _ G _ v0 hy.bd) mc_X11_isTold ml_X11_193 im_X11_isTold se_X11_isTold (by decide) hy.bd.kd rfl (rm_of hr (by decide)) (Nat.le_of_ble_eq_true rfl) rfl dX11_rests_1 (kpI rfl rfl (fun x1 hy => ?_))
  refine aw_if_ne (pc := 4) hX 13 (by decide) dX11_rests_4 (fun hc9 => ?_) (fun hc9 => ?_)
  · have hy := hy.f hc9
    refine aw_iloadn (pc := 13) hX 1 rfl dX11_rests_13 ?_
    refine aw_callS (pc := 14) (st := []) hX [vI v1] (con_X11_isMany _ G _ v1 hy.bd) mc_X11_isMany ml_X11_296 st_X11_isMany rfl (rm_of hr (by decide)) (Nat.le_of_ble_eq_true rfl) rfl dX11_rests_14 (kpI rfl rfl (fun x2 hy => ?_))
    refine aw_if_eq (pc := 17) hX 31 (by decide) dX11_rests_17 (fun hc9 => ?_) (fun hc9 => ?_)
    · have hy := hy.t hc9
      refine aw_aloadn (pc := 31) hX 0 rfl dX11_rests_31 ?_
      refine aw_iconst (pc := 32) hX 2 (by decide) dX11_rests_32 ?_
      refine aw_callV (pc := 33) (st := []) (a := v0) hX [vI 2] (con_X11_refuse _ G _ v0 2 hy.bd) mc_X11_refuse ml_X11_84 im_X11_refuse se_X11_refuse (by decide) hy.bd.kd rfl (rm_of hr (by decide)) (Nat.le_of_ble_eq_true rfl) rfl dX11_rests_33 (kmI rfl rfl (fun q5 hy => ?_))
      exact aw_iret (pc := 36) hX hr (by decide) (by decide) dX11_rests_36 ⟨_, rfl, hy.s⟩
    · have hy := hy.f hc9
      refine aw_aloadn (pc := 20) hX 0 rfl dX11_rests_20 ?_
      refine aw_iloadn (pc := 21) hX 1 rfl dX11_rests_21 ?_
      refine aw_callS (pc := 22) (st := [vR v0]) hX [vI v1] (con_X9_countRests _ G _ v1 hy.bd) mc_X9_countRests ml_X11_308 st_X9_countRests rfl (rm_of hr (by decide)) (Nat.le_of_ble_eq_true rfl) rfl dX11_rests_22 (kpI rfl rfl (fun x6 hy => ?_))
      refine aw_callV (pc := 25) (st := []) (a := v0) hX [vI x6] (con_X11_answer _ G _ v0 x6 hy.bd) mc_X11_answer ml_X11_117 im_X11_answer se_X11_answer (by decide) hy.bd.kd rfl (rm_of hr (by decide)) (Nat.le_of_ble_eq_true rfl) rfl dX11_rests_25 (kmI rfl rfl (fun q9 hy => ?_))
      refine aw_goto (pc := 28) hX 36 (by decide) dX11_rests_28 ?_
      exact aw_iret (pc := 36) hX hr (by decide) (by decide) dX11_rests_36 ⟨_, rfl, hy.s⟩
  · have hy := hy.t hc9
    refine aw_aloadn (pc := 7) hX 0 rfl dX11_rests_7 ?_
    refine aw_iconst (pc := 8) hX 1 (by decide) dX11_rests_8 ?_
    refine aw_callV (pc := 9) (st := []) (a := v0) hX [vI 1] (con_X11_refuse _ G _ v0 1 hy.bd) mc_X11_refuse ml_X11_84 im_X11_refuse se_X11_refuse (by decide) hy.bd.kd rfl (rm_of hr (by decide)) (Nat.le_of_ble_eq_true rfl) rfl dX11_rests_9 (kmI rfl rfl (fun q12 hy => ?_))
    exact aw_iret (pc := 12) hX hr (by decide) (by decide) dX11_rests_12 ⟨_, rfl, hy.s⟩
theorem con_X11_rests (l : Launch) (G : GE) (h : Mem) (v0 : Nat) (v1 : Int32) {P : (Int32 × Mem) → Prop} (hy : OK (f_X11_rests h v0 v1) P) : Con l G yX11_rests cX11_rests 2 (some .int) rm_X11_rests [vR v0, vI v1] h (pmI P) := Con.of (by decide) (Nat.le_of_ble_eq_true rfl) (fun X hX hr hN => w_X11_rests hX hN hr h v0 v1 hy)
/-! X11_rest -/
theorem dX11_rest_0 : decode cX11_rest 0 = .ok (.aload_n 0, 1) := by decide +kernel
theorem dX11_rest_1 : decode cX11_rest 1 = .ok (.invokevirtual 193, 3) := by decide +kernel
theorem dX11_rest_4 : decode cX11_rest 4 = .ok (.ifCond .ne 9, 3) := by decide +kernel
theorem dX11_rest_7 : decode cX11_rest 7 = .ok (.aload_n 0, 1) := by decide +kernel
theorem dX11_rest_8 : decode cX11_rest 8 = .ok (.iconst 1, 1) := by decide +kernel
theorem dX11_rest_9 : decode cX11_rest 9 = .ok (.invokevirtual 84, 3) := by decide +kernel
theorem dX11_rest_12 : decode cX11_rest 12 = .ok (.ireturn, 1) := by decide +kernel
theorem dX11_rest_13 : decode cX11_rest 13 = .ok (.iload_n 1, 1) := by decide +kernel
theorem dX11_rest_14 : decode cX11_rest 14 = .ok (.invokestatic 296, 3) := by decide +kernel
theorem dX11_rest_17 : decode cX11_rest 17 = .ok (.ifCond .eq 14, 3) := by decide +kernel
theorem dX11_rest_20 : decode cX11_rest 20 = .ok (.aload_n 0, 1) := by decide +kernel
theorem dX11_rest_21 : decode cX11_rest 21 = .ok (.iload_n 1, 1) := by decide +kernel
theorem dX11_rest_22 : decode cX11_rest 22 = .ok (.invokestatic 311, 3) := by decide +kernel
theorem dX11_rest_25 : decode cX11_rest 25 = .ok (.invokevirtual 117, 3) := by decide +kernel
theorem dX11_rest_28 : decode cX11_rest 28 = .ok (.goto 8, 3) := by decide +kernel
theorem dX11_rest_31 : decode cX11_rest 31 = .ok (.aload_n 0, 1) := by decide +kernel
theorem dX11_rest_32 : decode cX11_rest 32 = .ok (.iconst 2, 1) := by decide +kernel
theorem dX11_rest_33 : decode cX11_rest 33 = .ok (.invokevirtual 84, 3) := by decide +kernel
theorem dX11_rest_36 : decode cX11_rest 36 = .ok (.ireturn, 1) := by decide +kernel
abbrev rm_X11_rest : Room := { frames := 3, cells := 0, slots := 0, locals := 69 }
def f_X11_rest (h : Mem) (v0 : Nat) (v1 : Int32) : Option (Int32 × Mem) :=
  (ck h v0 9).bind fun _ => (f_X11_isTold h v0).bind fun x1 => (if x1 = 0 then (f_X11_refuse h v0 1).bind fun q12 => some (q12.1, q12.2) else (f_X11_isMany h v1).bind fun x2 => (if x2 = 0 then (f_X11_refuse h v0 2).bind fun q5 => some (q5.1, q5.2) else (f_X9_firstRest h v1).bind fun x6 => (f_X11_answer h v0 x6).bind fun q9 => some (q9.1, q9.2)))
set_option maxRecDepth 100000 in
set_option maxHeartbeats 4000000 in
theorem w_X11_rest {G : GE} {X : CX} {l : Launch} (hX : Ok G X cX11_rest RX11) (hN : xn X = 2) {P : (Int32 × Mem) → Prop} (hr : Rt G X l yX11_rest (some .int) rm_X11_rest (pmI P)) (h : Mem) (v0 : Nat) (v1 : Int32) (hy : OK (f_X11_rest h v0 v1) P) : AW G X 0 [(0, vR v0), (1, vI v1)] [] h 0 0 := by
  unfold f_X11_rest at hy
  have hkd := hy.kd
  have hy := hy.kb
  refine aw_aloadn (pc := 0) hX 0 rfl dX11_rest_0 ?_
  refine aw_callV (pc := 1) (st := []) (a := v0) hX [] (con_X11_isTold _ G _ v0 hy.bd) mc_X11_isTold ml_X11_193 im_X11_isTold se_X11_isTold (by decide) hy.bd.kd rfl (rm_of hr (by decide)) (Nat.le_of_ble_eq_true rfl) rfl dX11_rest_1 (kpI rfl rfl (fun x1 hy => ?_))
  refine aw_if_ne (pc := 4) hX 13 (by decide) dX11_rest_4 (fun hc9 => ?_) (fun hc9 => ?_)
  · have hy := hy.f hc9
    refine aw_iloadn (pc := 13) hX 1 rfl dX11_rest_13 ?_
    refine aw_callS (pc := 14) (st := []) hX [vI v1] (con_X11_isMany _ G _ v1 hy.bd) mc_X11_isMany ml_X11_296 st_X11_isMany rfl (rm_of hr (by decide)) (Nat.le_of_ble_eq_true rfl) rfl dX11_rest_14 (kpI rfl rfl (fun x2 hy => ?_))
    refine aw_if_eq (pc := 17) hX 31 (by decide) dX11_rest_17 (fun hc9 => ?_) (fun hc9 => ?_)
    · have hy := hy.t hc9
      refine aw_aloadn (pc := 31) hX 0 rfl dX11_rest_31 ?_
      refine aw_iconst (pc := 32) hX 2 (by decide) dX11_rest_32 ?_
      refine aw_callV (pc := 33) (st := []) (a := v0) hX [vI 2] (con_X11_refuse _ G _ v0 2 hy.bd) mc_X11_refuse ml_X11_84 im_X11_refuse se_X11_refuse (by decide) hy.bd.kd rfl (rm_of hr (by decide)) (Nat.le_of_ble_eq_true rfl) rfl dX11_rest_33 (kmI rfl rfl (fun q5 hy => ?_))
      exact aw_iret (pc := 36) hX hr (by decide) (by decide) dX11_rest_36 ⟨_, rfl, hy.s⟩
    · have hy := hy.f hc9
      refine aw_aloadn (pc := 20) hX 0 rfl dX11_rest_20 ?_
      refine aw_iloadn (pc := 21) hX 1 rfl dX11_rest_21 ?_
      refine aw_callS (pc := 22) (st := [vR v0]) hX [vI v1] (con_X9_firstRest _ G _ v1 hy.bd) mc_X9_firstRest ml_X11_311 st_X9_firstRest rfl (rm_of hr (by decide)) (Nat.le_of_ble_eq_true rfl) rfl dX11_rest_22 (kpI rfl rfl (fun x6 hy => ?_))
      refine aw_callV (pc := 25) (st := []) (a := v0) hX [vI x6] (con_X11_answer _ G _ v0 x6 hy.bd) mc_X11_answer ml_X11_117 im_X11_answer se_X11_answer (by decide) hy.bd.kd rfl (rm_of hr (by decide)) (Nat.le_of_ble_eq_true rfl) rfl dX11_rest_25 (kmI rfl rfl (fun q9 hy => ?_))
      refine aw_goto (pc := 28) hX 36 (by decide) dX11_rest_28 ?_
      exact aw_iret (pc := 36) hX hr (by decide) (by decide) dX11_rest_36 ⟨_, rfl, hy.s⟩
  · have hy := hy.t hc9
    refine aw_aloadn (pc := 7) hX 0 rfl dX11_rest_7 ?_
    refine aw_iconst (pc := 8) hX 1 (by decide) dX11_rest_8 ?_
    refine aw_callV (pc := 9) (st := []) (a := v0) hX [vI 1] (con_X11_refuse _ G _ v0 1 hy.bd) mc_X11_refuse ml_X11_84 im_X11_refuse se_X11_refuse (by decide) hy.bd.kd rfl (rm_of hr (by decide)) (Nat.le_of_ble_eq_true rfl) rfl dX11_rest_9 (kmI rfl rfl (fun q12 hy => ?_))
    exact aw_iret (pc := 12) hX hr (by decide) (by decide) dX11_rest_12 ⟨_, rfl, hy.s⟩
theorem con_X11_rest (l : Launch) (G : GE) (h : Mem) (v0 : Nat) (v1 : Int32) {P : (Int32 × Mem) → Prop} (hy : OK (f_X11_rest h v0 v1) P) : Con l G yX11_rest cX11_rest 2 (some .int) rm_X11_rest [vR v0, vI v1] h (pmI P) := Con.of (by decide) (Nat.le_of_ble_eq_true rfl) (fun X hX hr hN => w_X11_rest hX hN hr h v0 v1 hy)
/-! X11_isAllowed -/
theorem dX11_isAllowed_0 : decode cX11_isAllowed 0 = .ok (.aload_n 0, 1) := by decide +kernel
theorem dX11_isAllowed_1 : decode cX11_isAllowed 1 = .ok (.iload_n 1, 1) := by decide +kernel
theorem dX11_isAllowed_2 : decode cX11_isAllowed 2 = .ok (.putfield 123, 3) := by decide +kernel
theorem dX11_isAllowed_5 : decode cX11_isAllowed 5 = .ok (.iload_n 1, 1) := by decide +kernel
theorem dX11_isAllowed_6 : decode cX11_isAllowed 6 = .ok (.ifCond .ne 7, 3) := by decide +kernel
theorem dX11_isAllowed_9 : decode cX11_isAllowed 9 = .ok (.iconst 1, 1) := by decide +kernel
theorem dX11_isAllowed_10 : decode cX11_isAllowed 10 = .ok (.goto 4, 3) := by decide +kernel
theorem dX11_isAllowed_13 : decode cX11_isAllowed 13 = .ok (.iconst 0, 1) := by decide +kernel
theorem dX11_isAllowed_14 : decode cX11_isAllowed 14 = .ok (.ireturn, 1) := by decide +kernel
abbrev rm_X11_isAllowed : Room := { frames := 0, cells := 0, slots := 0, locals := 0 }
def f_X11_isAllowed (h : Mem) (v0 : Nat) (v1 : Int32) : Option (Int32 × Mem) :=
  (ck h v0 9).bind fun _ => (pI h v0 0 9 v1).bind fun h1 => (if v1 = 0 then some (1, h1) else some (0, h1))
set_option maxRecDepth 100000 in
set_option maxHeartbeats 4000000 in
theorem w_X11_isAllowed {G : GE} {X : CX} {l : Launch} (hX : Ok G X cX11_isAllowed RX11) (hN : xn X = 2) {P : (Int32 × Mem) → Prop} (hr : Rt G X l yX11_isAllowed (some .boolean) rm_X11_isAllowed (pmI P)) (h : Mem) (v0 : Nat) (v1 : Int32) (hy : OK (f_X11_isAllowed h v0 v1) P) : AW G X 0 [(0, vR v0), (1, vI v1)] [] h 0 0 := by
  unfold f_X11_isAllowed at hy
  have hkd := hy.kd
  have hy := hy.kb
  refine aw_aloadn (pc := 0) hX 0 rfl dX11_isAllowed_0 ?_
  refine aw_iloadn (pc := 1) hX 1 rfl dX11_isAllowed_1 ?_
  refine aw_pI (pc := 2) hX hy fl_X11_123 rfl (Or.inl rfl) dX11_isAllowed_2 (fun h1 hy => ?_)
  refine aw_iloadn (pc := 5) hX 1 rfl dX11_isAllowed_5 ?_
  refine aw_if_ne (pc := 6) hX 13 (by decide) dX11_isAllowed_6 (fun hc9 => ?_) (fun hc9 => ?_)
  · have hy := hy.f hc9
    refine aw_iconst (pc := 13) hX 0 (by decide) dX11_isAllowed_13 ?_
    exact aw_zret (pc := 14) hX hr (by decide) (by decide) dX11_isAllowed_14 (Or.inl rfl) ⟨_, rfl, hy.s⟩
  · have hy := hy.t hc9
    refine aw_iconst (pc := 9) hX 1 (by decide) dX11_isAllowed_9 ?_
    refine aw_goto (pc := 10) hX 14 (by decide) dX11_isAllowed_10 ?_
    exact aw_zret (pc := 14) hX hr (by decide) (by decide) dX11_isAllowed_14 (Or.inr rfl) ⟨_, rfl, hy.s⟩
theorem con_X11_isAllowed (l : Launch) (G : GE) (h : Mem) (v0 : Nat) (v1 : Int32) {P : (Int32 × Mem) → Prop} (hy : OK (f_X11_isAllowed h v0 v1) P) : Con l G yX11_isAllowed cX11_isAllowed 2 (some .boolean) rm_X11_isAllowed [vR v0, vI v1] h (pmI P) := Con.of (by decide) (Nat.le_of_ble_eq_true rfl) (fun X hX hr hN => w_X11_isAllowed hX hN hr h v0 v1 hy)
/-! X11_letDaysPass -/
theorem dX11_letDaysPass_0 : decode cX11_letDaysPass 0 = .ok (.iload_n 3, 1) := by decide +kernel
theorem dX11_letDaysPass_1 : decode cX11_letDaysPass 1 = .ok (.ifCond .lt 22, 3) := by decide +kernel
theorem dX11_letDaysPass_4 : decode cX11_letDaysPass 4 = .ok (.iload_n 3, 1) := by decide +kernel
theorem dX11_letDaysPass_5 : decode cX11_letDaysPass 5 = .ok (.ldc_w 384, 3) := by decide +kernel
theorem dX11_letDaysPass_8 : decode cX11_letDaysPass 8 = .ok (.if_icmp .ge 15, 3) := by decide +kernel
theorem dX11_letDaysPass_11 : decode cX11_letDaysPass 11 = .ok (.iload 4, 2) := by decide +kernel
theorem dX11_letDaysPass_13 : decode cX11_letDaysPass 13 = .ok (.ifCond .lt 10, 3) := by decide +kernel
theorem dX11_letDaysPass_16 : decode cX11_letDaysPass 16 = .ok (.iload 4, 2) := by decide +kernel
theorem dX11_letDaysPass_18 : decode cX11_letDaysPass 18 = .ok (.bipush 90, 2) := by decide +kernel
theorem dX11_letDaysPass_20 : decode cX11_letDaysPass 20 = .ok (.if_icmp .le 9, 3) := by decide +kernel
theorem dX11_letDaysPass_23 : decode cX11_letDaysPass 23 = .ok (.aload_n 0, 1) := by decide +kernel
theorem dX11_letDaysPass_24 : decode cX11_letDaysPass 24 = .ok (.iconst 2, 1) := by decide +kernel
theorem dX11_letDaysPass_25 : decode cX11_letDaysPass 25 = .ok (.invokevirtual 334, 3) := by decide +kernel
theorem dX11_letDaysPass_28 : decode cX11_letDaysPass 28 = .ok (.ireturn, 1) := by decide +kernel
theorem dX11_letDaysPass_29 : decode cX11_letDaysPass 29 = .ok (.aload_n 0, 1) := by decide +kernel
theorem dX11_letDaysPass_30 : decode cX11_letDaysPass 30 = .ok (.getfield 10, 3) := by decide +kernel
theorem dX11_letDaysPass_33 : decode cX11_letDaysPass 33 = .ok (.getfield 356, 3) := by decide +kernel
theorem dX11_letDaysPass_36 : decode cX11_letDaysPass 36 = .ok (.ifCond .ne 10, 3) := by decide +kernel
theorem dX11_letDaysPass_39 : decode cX11_letDaysPass 39 = .ok (.aload_n 0, 1) := by decide +kernel
theorem dX11_letDaysPass_40 : decode cX11_letDaysPass 40 = .ok (.bipush 6, 2) := by decide +kernel
theorem dX11_letDaysPass_42 : decode cX11_letDaysPass 42 = .ok (.invokevirtual 334, 3) := by decide +kernel
theorem dX11_letDaysPass_45 : decode cX11_letDaysPass 45 = .ok (.ireturn, 1) := by decide +kernel
theorem dX11_letDaysPass_46 : decode cX11_letDaysPass 46 = .ok (.aload_n 0, 1) := by decide +kernel
theorem dX11_letDaysPass_47 : decode cX11_letDaysPass 47 = .ok (.getfield 68, 3) := by decide +kernel
theorem dX11_letDaysPass_50 : decode cX11_letDaysPass 50 = .ok (.aload_n 0, 1) := by decide +kernel
theorem dX11_letDaysPass_51 : decode cX11_letDaysPass 51 = .ok (.getfield 26, 3) := by decide +kernel
theorem dX11_letDaysPass_54 : decode cX11_letDaysPass 54 = .ok (.iload_n 1, 1) := by decide +kernel
theorem dX11_letDaysPass_55 : decode cX11_letDaysPass 55 = .ok (.iconst 0, 1) := by decide +kernel
theorem dX11_letDaysPass_56 : decode cX11_letDaysPass 56 = .ok (.invokevirtual 172, 3) := by decide +kernel
theorem dX11_letDaysPass_59 : decode cX11_letDaysPass 59 = .ok (.iload_n 2, 1) := by decide +kernel
theorem dX11_letDaysPass_60 : decode cX11_letDaysPass 60 = .ok (.iload_n 3, 1) := by decide +kernel
theorem dX11_letDaysPass_61 : decode cX11_letDaysPass 61 = .ok (.invokevirtual 385, 3) := by decide +kernel
theorem dX11_letDaysPass_64 : decode cX11_letDaysPass 64 = .ok (.aload_n 0, 1) := by decide +kernel
theorem dX11_letDaysPass_65 : decode cX11_letDaysPass 65 = .ok (.getfield 68, 3) := by decide +kernel
theorem dX11_letDaysPass_68 : decode cX11_letDaysPass 68 = .ok (.aload_n 0, 1) := by decide +kernel
theorem dX11_letDaysPass_69 : decode cX11_letDaysPass 69 = .ok (.getfield 10, 3) := by decide +kernel
theorem dX11_letDaysPass_72 : decode cX11_letDaysPass 72 = .ok (.aload_n 0, 1) := by decide +kernel
theorem dX11_letDaysPass_73 : decode cX11_letDaysPass 73 = .ok (.getfield 26, 3) := by decide +kernel
theorem dX11_letDaysPass_76 : decode cX11_letDaysPass 76 = .ok (.iload_n 1, 1) := by decide +kernel
theorem dX11_letDaysPass_77 : decode cX11_letDaysPass 77 = .ok (.invokevirtual 186, 3) := by decide +kernel
theorem dX11_letDaysPass_80 : decode cX11_letDaysPass 80 = .ok (.iload 4, 2) := by decide +kernel
theorem dX11_letDaysPass_82 : decode cX11_letDaysPass 82 = .ok (.invokevirtual 387, 3) := by decide +kernel
theorem dX11_letDaysPass_85 : decode cX11_letDaysPass 85 = .ok (.aload_n 0, 1) := by decide +kernel
theorem dX11_letDaysPass_86 : decode cX11_letDaysPass 86 = .ok (.iconst 0, 1) := by decide +kernel
theorem dX11_letDaysPass_87 : decode cX11_letDaysPass 87 = .ok (.invokevirtual 334, 3) := by decide +kernel
theorem dX11_letDaysPass_90 : decode cX11_letDaysPass 90 = .ok (.ireturn, 1) := by decide +kernel
abbrev rm_X11_letDaysPass : Room := { frames := 2, cells := 0, slots := 0, locals := 49 }
def f_X11_letDaysPass_23 (h : Mem) (v0 : Nat) : Option (Int32 × Mem) :=
  (f_X11_isAllowed h v0 2).bind fun q3 => retZ q3.1 (q3.1, q3.2)
set_option maxRecDepth 100000 in
set_option maxHeartbeats 4000000 in
theorem w_X11_letDaysPass_23 {G : GE} {X : CX} {l : Launch} (hX : Ok G X cX11_letDaysPass RX11) (hN : xn X = 5) {P : (Int32 × Mem) → Prop} (hr : Rt G X l yX11_letDaysPass (some .boolean) rm_X11_letDaysPass (pmI P)) (h : Mem) (v0 : Nat) (hy : OK (f_X11_letDaysPass_23 h v0) P) : AW G X 23 [(0, vR v0)] [] h 0 0 := by
  unfold f_X11_letDaysPass_23 at hy
  refine aw_aloadn (pc := 23) hX 0 rfl dX11_letDaysPass_23 ?_
  refine aw_iconst (pc := 24) hX 2 (by decide) dX11_letDaysPass_24 ?_
  refine aw_callV (pc := 25) (st := []) (a := v0) hX [vI 2] (con_X11_isAllowed _ G _ v0 2 hy.bd) mc_X11_isAllowed ml_X11_334 im_X11_isAllowed se_X11_isAllowed (by decide) hy.bd.kd rfl (rm_of hr (by decide)) (Nat.le_of_ble_eq_true rfl) rfl dX11_letDaysPass_25 (kmI rfl rfl (fun q3 hy => ?_))
  exact aw_zret (pc := 28) hX hr (by decide) (by decide) dX11_letDaysPass_28 hy.rz.1 ⟨_, rfl, hy.rz.2⟩
def f_X11_letDaysPass (h : Mem) (v0 : Nat) (v1 : Int32) (v2 : Int32) (v3 : Int32) (v4 : Int32) : Option (Int32 × Mem) :=
  (ck h v0 9).bind fun _ => (if v3 < 0 then f_X11_letDaysPass_23 h v0 else (if 65537 ≤ v3 then f_X11_letDaysPass_23 h v0 else (if v4 < 0 then f_X11_letDaysPass_23 h v0 else (if v4 ≤ 90 then (gR h v0 1 9).bind fun r4 => (gI h r4 3 4).bind fun x5 => (if x5 = 0 then (f_X11_isAllowed h v0 6).bind fun q20 => retZ q20.1 (q20.1, q20.2) else (gR h v0 9 9).bind fun r6 => (gR h v0 3 9).bind fun r7 => (f_X2_of h r7 v1 0).bind fun x8 => (f_X0_begin h r6 x8 v2 v3).bind fun h9 => (gR h9 v0 9 9).bind fun r10 => (gR h9 v0 1 9).bind fun r11 => (gR h9 v0 3 9).bind fun r12 => (f_X2_voices h9 r12 v1).bind fun x13 => (f_X0_pass h9 r10 r11 x13 v4).bind fun h14 => (f_X11_isAllowed h14 v0 0).bind fun q17 => retZ q17.1 (q17.1, q17.2)) else f_X11_letDaysPass_23 h v0))))
set_option maxRecDepth 100000 in
set_option maxHeartbeats 4000000 in
theorem w_X11_letDaysPass {G : GE} {X : CX} {l : Launch} (hX : Ok G X cX11_letDaysPass RX11) (hN : xn X = 5) {P : (Int32 × Mem) → Prop} (hr : Rt G X l yX11_letDaysPass (some .boolean) rm_X11_letDaysPass (pmI P)) (h : Mem) (v0 : Nat) (v1 : Int32) (v2 : Int32) (v3 : Int32) (v4 : Int32) (hy : OK (f_X11_letDaysPass h v0 v1 v2 v3 v4) P) : AW G X 0 [(0, vR v0), (1, vI v1), (2, vI v2), (3, vI v3), (4, vI v4)] [] h 0 0 := by
  unfold f_X11_letDaysPass at hy
  have hkd := hy.kd
  have hy := hy.kb
  refine aw_iloadn (pc := 0) hX 3 rfl dX11_letDaysPass_0 ?_
  refine aw_if_lt (pc := 1) hX 23 (by decide) dX11_letDaysPass_1 (fun hc9 => ?_) (fun hc9 => ?_)
  · have hy := hy.t hc9
    refine AW.sub [0] rfl ?_
    exact w_X11_letDaysPass_23 hX hN hr h v0 hy
  · have hy := hy.f hc9
    refine aw_iloadn (pc := 4) hX 3 rfl dX11_letDaysPass_4 ?_
    refine aw_ldcw (pc := 5) hX kc_X11_384 dX11_letDaysPass_5 ?_
    refine aw_ic_ge (pc := 8) hX 23 (by decide) dX11_letDaysPass_8 (fun hc9 => ?_) (fun hc9 => ?_)
    · have hy := hy.t hc9
      refine AW.sub [0] rfl ?_
      exact w_X11_letDaysPass_23 hX hN hr h v0 hy
    · have hy := hy.f hc9
      refine aw_iload (pc := 11) hX 4 rfl dX11_letDaysPass_11 ?_
      refine aw_if_lt (pc := 13) hX 23 (by decide) dX11_letDaysPass_13 (fun hc9 => ?_) (fun hc9 => ?_)
      · have hy := hy.t hc9
        refine AW.sub [0] rfl ?_
        exact w_X11_letDaysPass_23 hX hN hr h v0 hy
      · have hy := hy.f hc9
        refine aw_iload (pc := 16) hX 4 rfl dX11_letDaysPass_16 ?_
        refine aw_bipush (pc := 18) hX 90 (by decide) dX11_letDaysPass_18 ?_
        refine aw_ic_le (pc := 20) hX 29 (by decide) dX11_letDaysPass_20 (fun hc9 => ?_) (fun hc9 => ?_)
        · have hy := hy.t hc9
          refine aw_aloadn (pc := 29) hX 0 rfl dX11_letDaysPass_29 ?_
          refine aw_gR (pc := 30) hX hy fl_X11_10 (fun _ _ => rfl) dX11_letDaysPass_30 (fun r4 hy => ?_)
          refine aw_gI (pc := 33) hX hy fl_X11_356 (fun _ _ => rfl) dX11_letDaysPass_33 (fun x5 hy => ?_)
          refine aw_if_ne (pc := 36) hX 46 (by decide) dX11_letDaysPass_36 (fun hc9 => ?_) (fun hc9 => ?_)
          · have hy := hy.f hc9
            refine aw_aloadn (pc := 46) hX 0 rfl dX11_letDaysPass_46 ?_
            refine aw_gR (pc := 47) hX hy fl_X11_68 (fun _ _ => rfl) dX11_letDaysPass_47 (fun r6 hy => ?_)
            refine aw_aloadn (pc := 50) hX 0 rfl dX11_letDaysPass_50 ?_
            refine aw_gR (pc := 51) hX hy fl_X11_26 (fun _ _ => rfl) dX11_letDaysPass_51 (fun r7 hy => ?_)
            refine aw_iloadn (pc := 54) hX 1 rfl dX11_letDaysPass_54 ?_
            refine aw_iconst (pc := 55) hX 0 (by decide) dX11_letDaysPass_55 ?_
            refine aw_callV (pc := 56) (st := [vR r6]) (a := r7) hX [vI v1, vI 0] (con_X2_of _ G _ r7 v1 0 hy.bd) mc_X2_of ml_X11_172 im_X2_of se_X2_of (by decide) hy.bd.kd rfl (rm_of hr (by decide)) (Nat.le_of_ble_eq_true rfl) rfl dX11_letDaysPass_56 (kpI rfl rfl (fun x8 hy => ?_))
            refine aw_iloadn (pc := 59) hX 2 rfl dX11_letDaysPass_59 ?_
            refine aw_iloadn (pc := 60) hX 3 rfl dX11_letDaysPass_60 ?_
            refine aw_callV (pc := 61) (st := []) (a := r6) hX [vI x8, vI v2, vI v3] (con_X0_begin _ G _ r6 x8 v2 v3 hy.bd) mc_X0_begin ml_X11_385 im_X0_begin se_X0_begin (by decide) hy.bd.kd rfl (rm_of hr (by decide)) (Nat.le_of_ble_eq_true rfl) rfl dX11_letDaysPass_61 (kmV rfl rfl (fun h9 hy => ?_))
            refine aw_aloadn (pc := 64) hX 0 rfl dX11_letDaysPass_64 ?_
            refine aw_gR (pc := 65) hX hy fl_X11_68 (fun _ _ => rfl) dX11_letDaysPass_65 (fun r10 hy => ?_)
            refine aw_aloadn (pc := 68) hX 0 rfl dX11_letDaysPass_68 ?_
            refine aw_gR (pc := 69) hX hy fl_X11_10 (fun _ _ => rfl) dX11_letDaysPass_69 (fun r11 hy => ?_)
            refine aw_aloadn (pc := 72) hX 0 rfl dX11_letDaysPass_72 ?_
            refine aw_gR (pc := 73) hX hy fl_X11_26 (fun _ _ => rfl) dX11_letDaysPass_73 (fun r12 hy => ?_)
            refine aw_iloadn (pc := 76) hX 1 rfl dX11_letDaysPass_76 ?_
            refine aw_callV (pc := 77) (st := [vR r11, vR r10]) (a := r12) hX [vI v1] (con_X2_voices _ G _ r12 v1 hy.bd) mc_X2_voices ml_X11_186 im_X2_voices se_X2_voices (by decide) hy.bd.kd rfl (rm_of hr (by decide)) (Nat.le_of_ble_eq_true rfl) rfl dX11_letDaysPass_77 (kpI rfl rfl (fun x13 hy => ?_))
            refine aw_iload (pc := 80) hX 4 rfl dX11_letDaysPass_80 ?_
            refine aw_callV (pc := 82) (st := []) (a := r10) hX [vR r11, vI x13, vI v4] (con_X0_pass _ G _ r10 r11 x13 v4 hy.bd) mc_X0_pass ml_X11_387 im_X0_pass se_X0_pass (by decide) hy.bd.kd rfl (rm_of hr (by decide)) (Nat.le_of_ble_eq_true rfl) rfl dX11_letDaysPass_82 (kmV rfl rfl (fun h14 hy => ?_))
            refine aw_aloadn (pc := 85) hX 0 rfl dX11_letDaysPass_85 ?_
            refine aw_iconst (pc := 86) hX 0 (by decide) dX11_letDaysPass_86 ?_
            refine aw_callV (pc := 87) (st := []) (a := v0) hX [vI 0] (con_X11_isAllowed _ G _ v0 0 hy.bd) mc_X11_isAllowed ml_X11_334 im_X11_isAllowed se_X11_isAllowed (by decide) hy.bd.kd rfl (rm_of hr (by decide)) (Nat.le_of_ble_eq_true rfl) rfl dX11_letDaysPass_87 (kmI rfl rfl (fun q17 hy => ?_))
            exact aw_zret (pc := 90) hX hr (by decide) (by decide) dX11_letDaysPass_90 hy.rz.1 ⟨_, rfl, hy.rz.2⟩
          · have hy := hy.t hc9
            refine aw_aloadn (pc := 39) hX 0 rfl dX11_letDaysPass_39 ?_
            refine aw_bipush (pc := 40) hX 6 (by decide) dX11_letDaysPass_40 ?_
            refine aw_callV (pc := 42) (st := []) (a := v0) hX [vI 6] (con_X11_isAllowed _ G _ v0 6 hy.bd) mc_X11_isAllowed ml_X11_334 im_X11_isAllowed se_X11_isAllowed (by decide) hy.bd.kd rfl (rm_of hr (by decide)) (Nat.le_of_ble_eq_true rfl) rfl dX11_letDaysPass_42 (kmI rfl rfl (fun q20 hy => ?_))
            exact aw_zret (pc := 45) hX hr (by decide) (by decide) dX11_letDaysPass_45 hy.rz.1 ⟨_, rfl, hy.rz.2⟩
        · have hy := hy.f hc9
          refine AW.sub [0] rfl ?_
          exact w_X11_letDaysPass_23 hX hN hr h v0 hy
theorem con_X11_letDaysPass (l : Launch) (G : GE) (h : Mem) (v0 : Nat) (v1 : Int32) (v2 : Int32) (v3 : Int32) (v4 : Int32) {P : (Int32 × Mem) → Prop} (hy : OK (f_X11_letDaysPass h v0 v1 v2 v3 v4) P) : Con l G yX11_letDaysPass cX11_letDaysPass 5 (some .boolean) rm_X11_letDaysPass [vR v0, vI v1, vI v2, vI v3, vI v4] h (pmI P) := Con.of (by decide) (Nat.le_of_ble_eq_true rfl) (fun X hX hr hN => w_X11_letDaysPass hX hN hr h v0 v1 v2 v3 v4 hy)
/-! X11_roams -/
theorem dX11_roams_0 : decode cX11_roams 0 = .ok (.aload_n 0, 1) := by decide +kernel
theorem dX11_roams_1 : decode cX11_roams 1 = .ok (.iload_n 1, 1) := by decide +kernel
theorem dX11_roams_2 : decode cX11_roams 2 = .ok (.invokevirtual 169, 3) := by decide +kernel
theorem dX11_roams_5 : decode cX11_roams 5 = .ok (.ifCond .ne 9, 3) := by decide +kernel
theorem dX11_roams_8 : decode cX11_roams 8 = .ok (.aload_n 0, 1) := by decide +kernel
theorem dX11_roams_9 : decode cX11_roams 9 = .ok (.iconst 1, 1) := by decide +kernel
theorem dX11_roams_10 : decode cX11_roams 10 = .ok (.invokevirtual 84, 3) := by decide +kernel
theorem dX11_roams_13 : decode cX11_roams 13 = .ok (.ireturn, 1) := by decide +kernel
theorem dX11_roams_14 : decode cX11_roams 14 = .ok (.aload_n 0, 1) := by decide +kernel
theorem dX11_roams_15 : decode cX11_roams 15 = .ok (.iload_n 1, 1) := by decide +kernel
theorem dX11_roams_16 : decode cX11_roams 16 = .ok (.iconst (-1), 1) := by decide +kernel
theorem dX11_roams_17 : decode cX11_roams 17 = .ok (.iload_n 2, 1) := by decide +kernel
theorem dX11_roams_18 : decode cX11_roams 18 = .ok (.iload_n 3, 1) := by decide +kernel
theorem dX11_roams_19 : decode cX11_roams 19 = .ok (.invokevirtual 314, 3) := by decide +kernel
theorem dX11_roams_22 : decode cX11_roams 22 = .ok (.ifCond .eq 17, 3) := by decide +kernel
theorem dX11_roams_25 : decode cX11_roams 25 = .ok (.aload_n 0, 1) := by decide +kernel
theorem dX11_roams_26 : decode cX11_roams 26 = .ok (.aload_n 0, 1) := by decide +kernel
theorem dX11_roams_27 : decode cX11_roams 27 = .ok (.getfield 68, 3) := by decide +kernel
theorem dX11_roams_30 : decode cX11_roams 30 = .ok (.getfield 318, 3) := by decide +kernel
theorem dX11_roams_33 : decode cX11_roams 33 = .ok (.invokevirtual 117, 3) := by decide +kernel
theorem dX11_roams_36 : decode cX11_roams 36 = .ok (.goto 4, 3) := by decide +kernel
theorem dX11_roams_39 : decode cX11_roams 39 = .ok (.iconst (-1), 1) := by decide +kernel
theorem dX11_roams_40 : decode cX11_roams 40 = .ok (.ireturn, 1) := by decide +kernel
abbrev rm_X11_roams : Room := { frames := 3, cells := 0, slots := 0, locals := 73 }
def f_X11_roams (h : Mem) (v0 : Nat) (v1 : Int32) (v2 : Int32) (v3 : Int32) : Option (Int32 × Mem) :=
  (ck h v0 9).bind fun _ => (f_X11_isPerson h v0 v1).bind fun x1 => (if x1 = 0 then (f_X11_refuse h v0 1).bind fun q12 => some (q12.1, q12.2) else (f_X11_letDaysPass h v0 v1 (-1) v2 v3).bind fun q4 => (if q4.1 = 0 then some ((-1), q4.2) else (gR q4.2 v0 9 9).bind fun r5 => (gI q4.2 r5 2 0).bind fun x6 => (f_X11_answer q4.2 v0 x6).bind fun q9 => some (q9.1, q9.2)))
set_option maxRecDepth 100000 in
set_option maxHeartbeats 4000000 in
theorem w_X11_roams {G : GE} {X : CX} {l : Launch} (hX : Ok G X cX11_roams RX11) (hN : xn X = 4) {P : (Int32 × Mem) → Prop} (hr : Rt G X l yX11_roams (some .int) rm_X11_roams (pmI P)) (h : Mem) (v0 : Nat) (v1 : Int32) (v2 : Int32) (v3 : Int32) (hy : OK (f_X11_roams h v0 v1 v2 v3) P) : AW G X 0 [(0, vR v0), (1, vI v1), (2, vI v2), (3, vI v3)] [] h 0 0 := by
  unfold f_X11_roams at hy
  have hkd := hy.kd
  have hy := hy.kb
  refine aw_aloadn (pc := 0) hX 0 rfl dX11_roams_0 ?_
  refine aw_iloadn (pc := 1) hX 1 rfl dX11_roams_1 ?_
  refine aw_callV (pc := 2) (st := []) (a := v0) hX [vI v1] (con_X11_isPerson _ G _ v0 v1 hy.bd) mc_X11_isPerson ml_X11_169 im_X11_isPerson se_X11_isPerson (by decide) hy.bd.kd rfl (rm_of hr (by decide)) (Nat.le_of_ble_eq_true rfl) rfl dX11_roams_2 (kpI rfl rfl (fun x1 hy => ?_))
  refine aw_if_ne (pc := 5) hX 14 (by decide) dX11_roams_5 (fun hc9 => ?_) (fun hc9 => ?_)
  · have hy := hy.f hc9
    refine aw_aloadn (pc := 14) hX 0 rfl dX11_roams_14 ?_
    refine aw_iloadn (pc := 15) hX 1 rfl dX11_roams_15 ?_
    refine aw_iconst (pc := 16) hX (-1) (by decide) dX11_roams_16 ?_
    refine aw_iloadn (pc := 17) hX 2 rfl dX11_roams_17 ?_
    refine aw_iloadn (pc := 18) hX 3 rfl dX11_roams_18 ?_
    refine aw_callV (pc := 19) (st := []) (a := v0) hX [vI v1, vI (-1), vI v2, vI v3] (con_X11_letDaysPass _ G _ v0 v1 (-1) v2 v3 hy.bd) mc_X11_letDaysPass ml_X11_314 im_X11_letDaysPass se_X11_letDaysPass (by decide) hy.bd.kd rfl (rm_of hr (by decide)) (Nat.le_of_ble_eq_true rfl) rfl dX11_roams_19 (kmI rfl rfl (fun q4 hy => ?_))
    refine aw_if_eq (pc := 22) hX 39 (by decide) dX11_roams_22 (fun hc9 => ?_) (fun hc9 => ?_)
    · have hy := hy.t hc9
      refine aw_iconst (pc := 39) hX (-1) (by decide) dX11_roams_39 ?_
      exact aw_iret (pc := 40) hX hr (by decide) (by decide) dX11_roams_40 ⟨_, rfl, hy.s⟩
    · have hy := hy.f hc9
      refine aw_aloadn (pc := 25) hX 0 rfl dX11_roams_25 ?_
      refine aw_aloadn (pc := 26) hX 0 rfl dX11_roams_26 ?_
      refine aw_gR (pc := 27) hX hy fl_X11_68 (fun _ _ => rfl) dX11_roams_27 (fun r5 hy => ?_)
      refine aw_gI (pc := 30) hX hy fl_X11_318 (fun _ _ => rfl) dX11_roams_30 (fun x6 hy => ?_)
      refine aw_callV (pc := 33) (st := []) (a := v0) hX [vI x6] (con_X11_answer _ G _ v0 x6 hy.bd) mc_X11_answer ml_X11_117 im_X11_answer se_X11_answer (by decide) hy.bd.kd rfl (rm_of hr (by decide)) (Nat.le_of_ble_eq_true rfl) rfl dX11_roams_33 (kmI rfl rfl (fun q9 hy => ?_))
      refine aw_goto (pc := 36) hX 40 (by decide) dX11_roams_36 ?_
      exact aw_iret (pc := 40) hX hr (by decide) (by decide) dX11_roams_40 ⟨_, rfl, hy.s⟩
  · have hy := hy.t hc9
    refine aw_aloadn (pc := 8) hX 0 rfl dX11_roams_8 ?_
    refine aw_iconst (pc := 9) hX 1 (by decide) dX11_roams_9 ?_
    refine aw_callV (pc := 10) (st := []) (a := v0) hX [vI 1] (con_X11_refuse _ G _ v0 1 hy.bd) mc_X11_refuse ml_X11_84 im_X11_refuse se_X11_refuse (by decide) hy.bd.kd rfl (rm_of hr (by decide)) (Nat.le_of_ble_eq_true rfl) rfl dX11_roams_10 (kmI rfl rfl (fun q12 hy => ?_))
    exact aw_iret (pc := 13) hX hr (by decide) (by decide) dX11_roams_13 ⟨_, rfl, hy.s⟩
theorem con_X11_roams (l : Launch) (G : GE) (h : Mem) (v0 : Nat) (v1 : Int32) (v2 : Int32) (v3 : Int32) {P : (Int32 × Mem) → Prop} (hy : OK (f_X11_roams h v0 v1 v2 v3) P) : Con l G yX11_roams cX11_roams 4 (some .int) rm_X11_roams [vR v0, vI v1, vI v2, vI v3] h (pmI P) := Con.of (by decide) (Nat.le_of_ble_eq_true rfl) (fun X hX hr hN => w_X11_roams hX hN hr h v0 v1 v2 v3 hy)
/-! X11_roamed -/
theorem dX11_roamed_0 : decode cX11_roamed 0 = .ok (.aload_n 0, 1) := by decide +kernel
theorem dX11_roamed_1 : decode cX11_roamed 1 = .ok (.iload_n 1, 1) := by decide +kernel
theorem dX11_roamed_2 : decode cX11_roamed 2 = .ok (.invokevirtual 169, 3) := by decide +kernel
theorem dX11_roamed_5 : decode cX11_roamed 5 = .ok (.ifCond .ne 9, 3) := by decide +kernel
theorem dX11_roamed_8 : decode cX11_roamed 8 = .ok (.aload_n 0, 1) := by decide +kernel
theorem dX11_roamed_9 : decode cX11_roamed 9 = .ok (.iconst 1, 1) := by decide +kernel
theorem dX11_roamed_10 : decode cX11_roamed 10 = .ok (.invokevirtual 84, 3) := by decide +kernel
theorem dX11_roamed_13 : decode cX11_roamed 13 = .ok (.ireturn, 1) := by decide +kernel
theorem dX11_roamed_14 : decode cX11_roamed 14 = .ok (.aload_n 0, 1) := by decide +kernel
theorem dX11_roamed_15 : decode cX11_roamed 15 = .ok (.iload_n 1, 1) := by decide +kernel
theorem dX11_roamed_16 : decode cX11_roamed 16 = .ok (.iconst (-1), 1) := by decide +kernel
theorem dX11_roamed_17 : decode cX11_roamed 17 = .ok (.iload_n 2, 1) := by decide +kernel
theorem dX11_roamed_18 : decode cX11_roamed 18 = .ok (.iload_n 3, 1) := by decide +kernel
theorem dX11_roamed_19 : decode cX11_roamed 19 = .ok (.invokevirtual 314, 3) := by decide +kernel
theorem dX11_roamed_22 : decode cX11_roamed 22 = .ok (.ifCond .eq 17, 3) := by decide +kernel
theorem dX11_roamed_25 : decode cX11_roamed 25 = .ok (.aload_n 0, 1) := by decide +kernel
theorem dX11_roamed_26 : decode cX11_roamed 26 = .ok (.aload_n 0, 1) := by decide +kernel
theorem dX11_roamed_27 : decode cX11_roamed 27 = .ok (.getfield 68, 3) := by decide +kernel
theorem dX11_roamed_30 : decode cX11_roamed 30 = .ok (.getfield 321, 3) := by decide +kernel
theorem dX11_roamed_33 : decode cX11_roamed 33 = .ok (.invokevirtual 117, 3) := by decide +kernel
theorem dX11_roamed_36 : decode cX11_roamed 36 = .ok (.goto 4, 3) := by decide +kernel
theorem dX11_roamed_39 : decode cX11_roamed 39 = .ok (.iconst (-1), 1) := by decide +kernel
theorem dX11_roamed_40 : decode cX11_roamed 40 = .ok (.ireturn, 1) := by decide +kernel
abbrev rm_X11_roamed : Room := { frames := 3, cells := 0, slots := 0, locals := 73 }
def f_X11_roamed (h : Mem) (v0 : Nat) (v1 : Int32) (v2 : Int32) (v3 : Int32) : Option (Int32 × Mem) :=
  (ck h v0 9).bind fun _ => (f_X11_isPerson h v0 v1).bind fun x1 => (if x1 = 0 then (f_X11_refuse h v0 1).bind fun q12 => some (q12.1, q12.2) else (f_X11_letDaysPass h v0 v1 (-1) v2 v3).bind fun q4 => (if q4.1 = 0 then some ((-1), q4.2) else (gR q4.2 v0 9 9).bind fun r5 => (gI q4.2 r5 3 0).bind fun x6 => (f_X11_answer q4.2 v0 x6).bind fun q9 => some (q9.1, q9.2)))
set_option maxRecDepth 100000 in
set_option maxHeartbeats 4000000 in
theorem w_X11_roamed {G : GE} {X : CX} {l : Launch} (hX : Ok G X cX11_roamed RX11) (hN : xn X = 4) {P : (Int32 × Mem) → Prop} (hr : Rt G X l yX11_roamed (some .int) rm_X11_roamed (pmI P)) (h : Mem) (v0 : Nat) (v1 : Int32) (v2 : Int32) (v3 : Int32) (hy : OK (f_X11_roamed h v0 v1 v2 v3) P) : AW G X 0 [(0, vR v0), (1, vI v1), (2, vI v2), (3, vI v3)] [] h 0 0 := by
  unfold f_X11_roamed at hy
  have hkd := hy.kd
  have hy := hy.kb
  refine aw_aloadn (pc := 0) hX 0 rfl dX11_roamed_0 ?_
  refine aw_iloadn (pc := 1) hX 1 rfl dX11_roamed_1 ?_
  refine aw_callV (pc := 2) (st := []) (a := v0) hX [vI v1] (con_X11_isPerson _ G _ v0 v1 hy.bd) mc_X11_isPerson ml_X11_169 im_X11_isPerson se_X11_isPerson (by decide) hy.bd.kd rfl (rm_of hr (by decide)) (Nat.le_of_ble_eq_true rfl) rfl dX11_roamed_2 (kpI rfl rfl (fun x1 hy => ?_))
  refine aw_if_ne (pc := 5) hX 14 (by decide) dX11_roamed_5 (fun hc9 => ?_) (fun hc9 => ?_)
  · have hy := hy.f hc9
    refine aw_aloadn (pc := 14) hX 0 rfl dX11_roamed_14 ?_
    refine aw_iloadn (pc := 15) hX 1 rfl dX11_roamed_15 ?_
    refine aw_iconst (pc := 16) hX (-1) (by decide) dX11_roamed_16 ?_
    refine aw_iloadn (pc := 17) hX 2 rfl dX11_roamed_17 ?_
    refine aw_iloadn (pc := 18) hX 3 rfl dX11_roamed_18 ?_
    refine aw_callV (pc := 19) (st := []) (a := v0) hX [vI v1, vI (-1), vI v2, vI v3] (con_X11_letDaysPass _ G _ v0 v1 (-1) v2 v3 hy.bd) mc_X11_letDaysPass ml_X11_314 im_X11_letDaysPass se_X11_letDaysPass (by decide) hy.bd.kd rfl (rm_of hr (by decide)) (Nat.le_of_ble_eq_true rfl) rfl dX11_roamed_19 (kmI rfl rfl (fun q4 hy => ?_))
    refine aw_if_eq (pc := 22) hX 39 (by decide) dX11_roamed_22 (fun hc9 => ?_) (fun hc9 => ?_)
    · have hy := hy.t hc9
      refine aw_iconst (pc := 39) hX (-1) (by decide) dX11_roamed_39 ?_
      exact aw_iret (pc := 40) hX hr (by decide) (by decide) dX11_roamed_40 ⟨_, rfl, hy.s⟩
    · have hy := hy.f hc9
      refine aw_aloadn (pc := 25) hX 0 rfl dX11_roamed_25 ?_
      refine aw_aloadn (pc := 26) hX 0 rfl dX11_roamed_26 ?_
      refine aw_gR (pc := 27) hX hy fl_X11_68 (fun _ _ => rfl) dX11_roamed_27 (fun r5 hy => ?_)
      refine aw_gI (pc := 30) hX hy fl_X11_321 (fun _ _ => rfl) dX11_roamed_30 (fun x6 hy => ?_)
      refine aw_callV (pc := 33) (st := []) (a := v0) hX [vI x6] (con_X11_answer _ G _ v0 x6 hy.bd) mc_X11_answer ml_X11_117 im_X11_answer se_X11_answer (by decide) hy.bd.kd rfl (rm_of hr (by decide)) (Nat.le_of_ble_eq_true rfl) rfl dX11_roamed_33 (kmI rfl rfl (fun q9 hy => ?_))
      refine aw_goto (pc := 36) hX 40 (by decide) dX11_roamed_36 ?_
      exact aw_iret (pc := 40) hX hr (by decide) (by decide) dX11_roamed_40 ⟨_, rfl, hy.s⟩
  · have hy := hy.t hc9
    refine aw_aloadn (pc := 8) hX 0 rfl dX11_roamed_8 ?_
    refine aw_iconst (pc := 9) hX 1 (by decide) dX11_roamed_9 ?_
    refine aw_callV (pc := 10) (st := []) (a := v0) hX [vI 1] (con_X11_refuse _ G _ v0 1 hy.bd) mc_X11_refuse ml_X11_84 im_X11_refuse se_X11_refuse (by decide) hy.bd.kd rfl (rm_of hr (by decide)) (Nat.le_of_ble_eq_true rfl) rfl dX11_roamed_10 (kmI rfl rfl (fun q12 hy => ?_))
    exact aw_iret (pc := 13) hX hr (by decide) (by decide) dX11_roamed_13 ⟨_, rfl, hy.s⟩
theorem con_X11_roamed (l : Launch) (G : GE) (h : Mem) (v0 : Nat) (v1 : Int32) (v2 : Int32) (v3 : Int32) {P : (Int32 × Mem) → Prop} (hy : OK (f_X11_roamed h v0 v1 v2 v3) P) : Con l G yX11_roamed cX11_roamed 4 (some .int) rm_X11_roamed [vR v0, vI v1, vI v2, vI v3] h (pmI P) := Con.of (by decide) (Nat.le_of_ble_eq_true rfl) (fun X hX hr hN => w_X11_roamed hX hN hr h v0 v1 v2 v3 hy)
/-! X11_roamsTo -/
theorem dX11_roamsTo_0 : decode cX11_roamsTo 0 = .ok (.aload_n 0, 1) := by decide +kernel
theorem dX11_roamsTo_1 : decode cX11_roamsTo 1 = .ok (.iload_n 1, 1) := by decide +kernel
theorem dX11_roamsTo_2 : decode cX11_roamsTo 2 = .ok (.invokevirtual 169, 3) := by decide +kernel
theorem dX11_roamsTo_5 : decode cX11_roamsTo 5 = .ok (.ifCond .eq 11, 3) := by decide +kernel
theorem dX11_roamsTo_8 : decode cX11_roamsTo 8 = .ok (.aload_n 0, 1) := by decide +kernel
theorem dX11_roamsTo_9 : decode cX11_roamsTo 9 = .ok (.iload_n 2, 1) := by decide +kernel
theorem dX11_roamsTo_10 : decode cX11_roamsTo 10 = .ok (.invokevirtual 200, 3) := by decide +kernel
theorem dX11_roamsTo_13 : decode cX11_roamsTo 13 = .ok (.ifCond .ne 9, 3) := by decide +kernel
theorem dX11_roamsTo_16 : decode cX11_roamsTo 16 = .ok (.aload_n 0, 1) := by decide +kernel
theorem dX11_roamsTo_17 : decode cX11_roamsTo 17 = .ok (.iconst 1, 1) := by decide +kernel
theorem dX11_roamsTo_18 : decode cX11_roamsTo 18 = .ok (.invokevirtual 84, 3) := by decide +kernel
theorem dX11_roamsTo_21 : decode cX11_roamsTo 21 = .ok (.ireturn, 1) := by decide +kernel
theorem dX11_roamsTo_22 : decode cX11_roamsTo 22 = .ok (.aload_n 0, 1) := by decide +kernel
theorem dX11_roamsTo_23 : decode cX11_roamsTo 23 = .ok (.iload_n 1, 1) := by decide +kernel
theorem dX11_roamsTo_24 : decode cX11_roamsTo 24 = .ok (.iload_n 2, 1) := by decide +kernel
theorem dX11_roamsTo_25 : decode cX11_roamsTo 25 = .ok (.iload_n 3, 1) := by decide +kernel
theorem dX11_roamsTo_26 : decode cX11_roamsTo 26 = .ok (.iload 4, 2) := by decide +kernel
theorem dX11_roamsTo_28 : decode cX11_roamsTo 28 = .ok (.invokevirtual 314, 3) := by decide +kernel
theorem dX11_roamsTo_31 : decode cX11_roamsTo 31 = .ok (.ifCond .eq 17, 3) := by decide +kernel
theorem dX11_roamsTo_34 : decode cX11_roamsTo 34 = .ok (.aload_n 0, 1) := by decide +kernel
theorem dX11_roamsTo_35 : decode cX11_roamsTo 35 = .ok (.aload_n 0, 1) := by decide +kernel
theorem dX11_roamsTo_36 : decode cX11_roamsTo 36 = .ok (.getfield 68, 3) := by decide +kernel
theorem dX11_roamsTo_39 : decode cX11_roamsTo 39 = .ok (.getfield 324, 3) := by decide +kernel
theorem dX11_roamsTo_42 : decode cX11_roamsTo 42 = .ok (.invokevirtual 117, 3) := by decide +kernel
theorem dX11_roamsTo_45 : decode cX11_roamsTo 45 = .ok (.goto 4, 3) := by decide +kernel
theorem dX11_roamsTo_48 : decode cX11_roamsTo 48 = .ok (.iconst (-1), 1) := by decide +kernel
theorem dX11_roamsTo_49 : decode cX11_roamsTo 49 = .ok (.ireturn, 1) := by decide +kernel
abbrev rm_X11_roamsTo : Room := { frames := 3, cells := 0, slots := 0, locals := 73 }
def f_X11_roamsTo_16 (h : Mem) (v0 : Nat) : Option (Int32 × Mem) :=
  (f_X11_refuse h v0 1).bind fun q4 => some (q4.1, q4.2)
set_option maxRecDepth 100000 in
set_option maxHeartbeats 4000000 in
theorem w_X11_roamsTo_16 {G : GE} {X : CX} {l : Launch} (hX : Ok G X cX11_roamsTo RX11) (hN : xn X = 5) {P : (Int32 × Mem) → Prop} (hr : Rt G X l yX11_roamsTo (some .int) rm_X11_roamsTo (pmI P)) (h : Mem) (v0 : Nat) (hy : OK (f_X11_roamsTo_16 h v0) P) : AW G X 16 [(0, vR v0)] [] h 0 0 := by
  unfold f_X11_roamsTo_16 at hy
  refine aw_aloadn (pc := 16) hX 0 rfl dX11_roamsTo_16 ?_
  refine aw_iconst (pc := 17) hX 1 (by decide) dX11_roamsTo_17 ?_
  refine aw_callV (pc := 18) (st := []) (a := v0) hX [vI 1] (con_X11_refuse _ G _ v0 1 hy.bd) mc_X11_refuse ml_X11_84 im_X11_refuse se_X11_refuse (by decide) hy.bd.kd rfl (rm_of hr (by decide)) (Nat.le_of_ble_eq_true rfl) rfl dX11_roamsTo_18 (kmI rfl rfl (fun q4 hy => ?_))
  exact aw_iret (pc := 21) hX hr (by decide) (by decide) dX11_roamsTo_21 ⟨_, rfl, hy.s⟩
def f_X11_roamsTo (h : Mem) (v0 : Nat) (v1 : Int32) (v2 : Int32) (v3 : Int32) (v4 : Int32) : Option (Int32 × Mem) :=
  (ck h v0 9).bind fun _ => (f_X11_isPerson h v0 v1).bind fun x1 => (if x1 = 0 then f_X11_roamsTo_16 h v0 else (f_X11_isPlace h v0 v2).bind fun x5 => (if x5 = 0 then f_X11_roamsTo_16 h v0 else (f_X11_letDaysPass h v0 v1 v2 v3 v4).bind fun q8 => (if q8.1 = 0 then some ((-1), q8.2) else (gR q8.2 v0 9 9).bind fun r9 => (gI q8.2 r9 4 0).bind fun x10 => (f_X11_answer q8.2 v0 x10).bind fun q13 => some (q13.1, q13.2))))
set_option maxRecDepth 100000 in
set_option maxHeartbeats 4000000 in
theorem w_X11_roamsTo {G : GE} {X : CX} {l : Launch} (hX : Ok G X cX11_roamsTo RX11) (hN : xn X = 5) {P : (Int32 × Mem) → Prop} (hr : Rt G X l yX11_roamsTo (some .int) rm_X11_roamsTo (pmI P)) (h : Mem) (v0 : Nat) (v1 : Int32) (v2 : Int32) (v3 : Int32) (v4 : Int32) (hy : OK (f_X11_roamsTo h v0 v1 v2 v3 v4) P) : AW G X 0 [(0, vR v0), (1, vI v1), (2, vI v2), (3, vI v3), (4, vI v4)] [] h 0 0 := by
  unfold f_X11_roamsTo at hy
  have hkd := hy.kd
  have hy := hy.kb
  refine aw_aloadn (pc := 0) hX 0 rfl dX11_roamsTo_0 ?_
  refine aw_iloadn (pc := 1) hX 1 rfl dX11_roamsTo_1 ?_
  refine aw_callV (pc := 2) (st := []) (a := v0) hX [vI v1] (con_X11_isPerson _ G _ v0 v1 hy.bd) mc_X11_isPerson ml_X11_169 im_X11_isPerson se_X11_isPerson (by decide) hy.bd.kd rfl (rm_of hr (by decide)) (Nat.le_of_ble_eq_true rfl) rfl dX11_roamsTo_2 (kpI rfl rfl (fun x1 hy => ?_))
  refine aw_if_eq (pc := 5) hX 16 (by decide) dX11_roamsTo_5 (fun hc9 => ?_) (fun hc9 => ?_)
  · have hy := hy.t hc9
    refine AW.sub [0] rfl ?_
    exact w_X11_roamsTo_16 hX hN hr h v0 hy
  · have hy := hy.f hc9
    refine aw_aloadn (pc := 8) hX 0 rfl dX11_roamsTo_8 ?_
    refine aw_iloadn (pc := 9) hX 2 rfl dX11_roamsTo_9 ?_
    refine aw_callV (pc := 10) (st := []) (a := v0) hX [vI v2] (con_X11_isPlace _ G _ v0 v2 hy.bd) mc_X11_isPlace ml_X11_200 im_X11_isPlace se_X11_isPlace (by decide) hy.bd.kd rfl (rm_of hr (by decide)) (Nat.le_of_ble_eq_true rfl) rfl dX11_roamsTo_10 (kpI rfl rfl (fun x5 hy => ?_))
    refine aw_if_ne (pc := 13) hX 22 (by decide) dX11_roamsTo_13 (fun hc9 => ?_) (fun hc9 => ?_)
    · have hy := hy.f hc9
      refine aw_aloadn (pc := 22) hX 0 rfl dX11_roamsTo_22 ?_
      refine aw_iloadn (pc := 23) hX 1 rfl dX11_roamsTo_23 ?_
      refine aw_iloadn (pc := 24) hX 2 rfl dX11_roamsTo_24 ?_
      refine aw_iloadn (pc := 25) hX 3 rfl dX11_roamsTo_25 ?_
      refine aw_iload (pc := 26) hX 4 rfl dX11_roamsTo_26 ?_
      refine aw_callV (pc := 28) (st := []) (a := v0) hX [vI v1, vI v2, vI v3, vI v4] (con_X11_letDaysPass _ G _ v0 v1 v2 v3 v4 hy.bd) mc_X11_letDaysPass ml_X11_314 im_X11_letDaysPass se_X11_letDaysPass (by decide) hy.bd.kd rfl (rm_of hr (by decide)) (Nat.le_of_ble_eq_true rfl) rfl dX11_roamsTo_28 (kmI rfl rfl (fun q8 hy => ?_))
      refine aw_if_eq (pc := 31) hX 48 (by decide) dX11_roamsTo_31 (fun hc9 => ?_) (fun hc9 => ?_)
      · have hy := hy.t hc9
        refine aw_iconst (pc := 48) hX (-1) (by decide) dX11_roamsTo_48 ?_
        exact aw_iret (pc := 49) hX hr (by decide) (by decide) dX11_roamsTo_49 ⟨_, rfl, hy.s⟩
      · have hy := hy.f hc9
        refine aw_aloadn (pc := 34) hX 0 rfl dX11_roamsTo_34 ?_
        refine aw_aloadn (pc := 35) hX 0 rfl dX11_roamsTo_35 ?_
        refine aw_gR (pc := 36) hX hy fl_X11_68 (fun _ _ => rfl) dX11_roamsTo_36 (fun r9 hy => ?_)
        refine aw_gI (pc := 39) hX hy fl_X11_324 (fun _ _ => rfl) dX11_roamsTo_39 (fun x10 hy => ?_)
        refine aw_callV (pc := 42) (st := []) (a := v0) hX [vI x10] (con_X11_answer _ G _ v0 x10 hy.bd) mc_X11_answer ml_X11_117 im_X11_answer se_X11_answer (by decide) hy.bd.kd rfl (rm_of hr (by decide)) (Nat.le_of_ble_eq_true rfl) rfl dX11_roamsTo_42 (kmI rfl rfl (fun q13 hy => ?_))
        refine aw_goto (pc := 45) hX 49 (by decide) dX11_roamsTo_45 ?_
        exact aw_iret (pc := 49) hX hr (by decide) (by decide) dX11_roamsTo_49 ⟨_, rfl, hy.s⟩
    · have hy := hy.t hc9
      refine AW.sub [0] rfl ?_
      exact w_X11_roamsTo_16 hX hN hr h v0 hy
theorem con_X11_roamsTo (l : Launch) (G : GE) (h : Mem) (v0 : Nat) (v1 : Int32) (v2 : Int32) (v3 : Int32) (v4 : Int32) {P : (Int32 × Mem) → Prop} (hy : OK (f_X11_roamsTo h v0 v1 v2 v3 v4) P) : Con l G yX11_roamsTo cX11_roamsTo 5 (some .int) rm_X11_roamsTo [vR v0, vI v1, vI v2, vI v3, vI v4] h (pmI P) := Con.of (by decide) (Nat.le_of_ble_eq_true rfl) (fun X hX hr hN => w_X11_roamsTo hX hN hr h v0 v1 v2 v3 v4 hy)
/-! X11_go -/
theorem dX11_go_0 : decode cX11_go 0 = .ok (.aload_n 0, 1) := by decide +kernel
theorem dX11_go_1 : decode cX11_go 1 = .ok (.iload_n 1, 1) := by decide +kernel
theorem dX11_go_2 : decode cX11_go 2 = .ok (.invokevirtual 169, 3) := by decide +kernel
theorem dX11_go_5 : decode cX11_go 5 = .ok (.ifCond .eq 11, 3) := by decide +kernel
theorem dX11_go_8 : decode cX11_go 8 = .ok (.aload_n 0, 1) := by decide +kernel
theorem dX11_go_9 : decode cX11_go 9 = .ok (.iload_n 2, 1) := by decide +kernel
theorem dX11_go_10 : decode cX11_go 10 = .ok (.invokevirtual 200, 3) := by decide +kernel
theorem dX11_go_13 : decode cX11_go 13 = .ok (.ifCond .ne 9, 3) := by decide +kernel
theorem dX11_go_16 : decode cX11_go 16 = .ok (.aload_n 0, 1) := by decide +kernel
theorem dX11_go_17 : decode cX11_go 17 = .ok (.iconst 1, 1) := by decide +kernel
theorem dX11_go_18 : decode cX11_go 18 = .ok (.invokevirtual 84, 3) := by decide +kernel
theorem dX11_go_21 : decode cX11_go 21 = .ok (.ireturn, 1) := by decide +kernel
theorem dX11_go_22 : decode cX11_go 22 = .ok (.aload_n 0, 1) := by decide +kernel
theorem dX11_go_23 : decode cX11_go 23 = .ok (.aload_n 0, 1) := by decide +kernel
theorem dX11_go_24 : decode cX11_go 24 = .ok (.getfield 26, 3) := by decide +kernel
theorem dX11_go_27 : decode cX11_go 27 = .ok (.iload_n 1, 1) := by decide +kernel
theorem dX11_go_28 : decode cX11_go 28 = .ok (.iconst 0, 1) := by decide +kernel
theorem dX11_go_29 : decode cX11_go 29 = .ok (.invokevirtual 172, 3) := by decide +kernel
theorem dX11_go_32 : decode cX11_go 32 = .ok (.iload_n 2, 1) := by decide +kernel
theorem dX11_go_33 : decode cX11_go 33 = .ok (.invokevirtual 175, 3) := by decide +kernel
theorem dX11_go_36 : decode cX11_go 36 = .ok (.istore_n 3, 1) := by decide +kernel
theorem dX11_go_37 : decode cX11_go 37 = .ok (.iload_n 3, 1) := by decide +kernel
theorem dX11_go_38 : decode cX11_go 38 = .ok (.ifCond .lt 29, 3) := by decide +kernel
theorem dX11_go_41 : decode cX11_go 41 = .ok (.aload_n 0, 1) := by decide +kernel
theorem dX11_go_42 : decode cX11_go 42 = .ok (.getfield 10, 3) := by decide +kernel
theorem dX11_go_45 : decode cX11_go 45 = .ok (.iload_n 3, 1) := by decide +kernel
theorem dX11_go_46 : decode cX11_go 46 = .ok (.aload_n 0, 1) := by decide +kernel
theorem dX11_go_47 : decode cX11_go 47 = .ok (.getfield 26, 3) := by decide +kernel
theorem dX11_go_50 : decode cX11_go 50 = .ok (.iload_n 1, 1) := by decide +kernel
theorem dX11_go_51 : decode cX11_go 51 = .ok (.invokevirtual 186, 3) := by decide +kernel
theorem dX11_go_54 : decode cX11_go 54 = .ok (.aload_n 0, 1) := by decide +kernel
theorem dX11_go_55 : decode cX11_go 55 = .ok (.getfield 26, 3) := by decide +kernel
theorem dX11_go_58 : decode cX11_go 58 = .ok (.invokevirtual 135, 3) := by decide +kernel
theorem dX11_go_61 : decode cX11_go 61 = .ok (.invokestatic 182, 3) := by decide +kernel
theorem dX11_go_64 : decode cX11_go 64 = .ok (.ifCond .ne 9, 3) := by decide +kernel
theorem dX11_go_67 : decode cX11_go 67 = .ok (.aload_n 0, 1) := by decide +kernel
theorem dX11_go_68 : decode cX11_go 68 = .ok (.iconst 5, 1) := by decide +kernel
theorem dX11_go_69 : decode cX11_go 69 = .ok (.invokevirtual 84, 3) := by decide +kernel
theorem dX11_go_72 : decode cX11_go 72 = .ok (.ireturn, 1) := by decide +kernel
theorem dX11_go_73 : decode cX11_go 73 = .ok (.aload_n 0, 1) := by decide +kernel
theorem dX11_go_74 : decode cX11_go 74 = .ok (.getfield 26, 3) := by decide +kernel
theorem dX11_go_77 : decode cX11_go 77 = .ok (.invokevirtual 327, 3) := by decide +kernel
theorem dX11_go_80 : decode cX11_go 80 = .ok (.aload_n 0, 1) := by decide +kernel
theorem dX11_go_81 : decode cX11_go 81 = .ok (.getfield 26, 3) := by decide +kernel
theorem dX11_go_84 : decode cX11_go 84 = .ok (.iload_n 1, 1) := by decide +kernel
theorem dX11_go_85 : decode cX11_go 85 = .ok (.iconst 0, 1) := by decide +kernel
theorem dX11_go_86 : decode cX11_go 86 = .ok (.iload_n 2, 1) := by decide +kernel
theorem dX11_go_87 : decode cX11_go 87 = .ok (.invokevirtual 330, 3) := by decide +kernel
theorem dX11_go_90 : decode cX11_go 90 = .ok (.aload_n 0, 1) := by decide +kernel
theorem dX11_go_91 : decode cX11_go 91 = .ok (.getfield 26, 3) := by decide +kernel
theorem dX11_go_94 : decode cX11_go 94 = .ok (.iload_n 1, 1) := by decide +kernel
theorem dX11_go_95 : decode cX11_go 95 = .ok (.iconst 4, 1) := by decide +kernel
theorem dX11_go_96 : decode cX11_go 96 = .ok (.aload_n 0, 1) := by decide +kernel
theorem dX11_go_97 : decode cX11_go 97 = .ok (.getfield 26, 3) := by decide +kernel
theorem dX11_go_100 : decode cX11_go 100 = .ok (.iload_n 1, 1) := by decide +kernel
theorem dX11_go_101 : decode cX11_go 101 = .ok (.iconst 4, 1) := by decide +kernel
theorem dX11_go_102 : decode cX11_go 102 = .ok (.invokevirtual 172, 3) := by decide +kernel
theorem dX11_go_105 : decode cX11_go 105 = .ok (.aload_n 0, 1) := by decide +kernel
theorem dX11_go_106 : decode cX11_go 106 = .ok (.getfield 10, 3) := by decide +kernel
theorem dX11_go_109 : decode cX11_go 109 = .ok (.getfield 151, 3) := by decide +kernel
theorem dX11_go_112 : decode cX11_go 112 = .ok (.iload_n 3, 1) := by decide +kernel
theorem dX11_go_113 : decode cX11_go 113 = .ok (.iaload, 1) := by decide +kernel
theorem dX11_go_114 : decode cX11_go 114 = .ok (.iadd, 1) := by decide +kernel
theorem dX11_go_115 : decode cX11_go 115 = .ok (.invokevirtual 330, 3) := by decide +kernel
theorem dX11_go_118 : decode cX11_go 118 = .ok (.aload_n 0, 1) := by decide +kernel
theorem dX11_go_119 : decode cX11_go 119 = .ok (.aload_n 0, 1) := by decide +kernel
theorem dX11_go_120 : decode cX11_go 120 = .ok (.getfield 26, 3) := by decide +kernel
theorem dX11_go_123 : decode cX11_go 123 = .ok (.iload_n 1, 1) := by decide +kernel
theorem dX11_go_124 : decode cX11_go 124 = .ok (.iconst 4, 1) := by decide +kernel
theorem dX11_go_125 : decode cX11_go 125 = .ok (.invokevirtual 172, 3) := by decide +kernel
theorem dX11_go_128 : decode cX11_go 128 = .ok (.invokevirtual 117, 3) := by decide +kernel
theorem dX11_go_131 : decode cX11_go 131 = .ok (.ireturn, 1) := by decide +kernel
abbrev rm_X11_go : Room := { frames := 3, cells := 0, slots := 0, locals := 80 }
def f_X11_go_16 (h : Mem) (v0 : Nat) : Option (Int32 × Mem) :=
  (f_X11_refuse h v0 1).bind fun q4 => some (q4.1, q4.2)
set_option maxRecDepth 100000 in
set_option maxHeartbeats 4000000 in
theorem w_X11_go_16 {G : GE} {X : CX} {l : Launch} (hX : Ok G X cX11_go RX11) (hN : xn X = 4) {P : (Int32 × Mem) → Prop} (hr : Rt G X l yX11_go (some .int) rm_X11_go (pmI P)) (h : Mem) (v0 : Nat) (hy : OK (f_X11_go_16 h v0) P) : AW G X 16 [(0, vR v0)] [] h 0 0 := by
  unfold f_X11_go_16 at hy
  refine aw_aloadn (pc := 16) hX 0 rfl dX11_go_16 ?_
  refine aw_iconst (pc := 17) hX 1 (by decide) dX11_go_17 ?_
  refine aw_callV (pc := 18) (st := []) (a := v0) hX [vI 1] (con_X11_refuse _ G _ v0 1 hy.bd) mc_X11_refuse ml_X11_84 im_X11_refuse se_X11_refuse (by decide) hy.bd.kd rfl (rm_of hr (by decide)) (Nat.le_of_ble_eq_true rfl) rfl dX11_go_18 (kmI rfl rfl (fun q4 hy => ?_))
  exact aw_iret (pc := 21) hX hr (by decide) (by decide) dX11_go_21 ⟨_, rfl, hy.s⟩
def f_X11_go_67 (h : Mem) (v0 : Nat) : Option (Int32 × Mem) :=
  (f_X11_refuse h v0 5).bind fun q11 => some (q11.1, q11.2)
set_option maxRecDepth 100000 in
set_option maxHeartbeats 4000000 in
theorem w_X11_go_67 {G : GE} {X : CX} {l : Launch} (hX : Ok G X cX11_go RX11) (hN : xn X = 4) {P : (Int32 × Mem) → Prop} (hr : Rt G X l yX11_go (some .int) rm_X11_go (pmI P)) (h : Mem) (v0 : Nat) (hy : OK (f_X11_go_67 h v0) P) : AW G X 67 [(0, vR v0)] [] h 0 0 := by
  unfold f_X11_go_67 at hy
  refine aw_aloadn (pc := 67) hX 0 rfl dX11_go_67 ?_
  refine aw_iconst (pc := 68) hX 5 (by decide) dX11_go_68 ?_
  refine aw_callV (pc := 69) (st := []) (a := v0) hX [vI 5] (con_X11_refuse _ G _ v0 5 hy.bd) mc_X11_refuse ml_X11_84 im_X11_refuse se_X11_refuse (by decide) hy.bd.kd rfl (rm_of hr (by decide)) (Nat.le_of_ble_eq_true rfl) rfl dX11_go_69 (kmI rfl rfl (fun q11 hy => ?_))
  exact aw_iret (pc := 72) hX hr (by decide) (by decide) dX11_go_72 ⟨_, rfl, hy.s⟩
def f_X11_go (h : Mem) (v0 : Nat) (v1 : Int32) (v2 : Int32) : Option (Int32 × Mem) :=
  (ck h v0 9).bind fun _ => (f_X11_isPerson h v0 v1).bind fun x1 => (if x1 = 0 then f_X11_go_16 h v0 else (f_X11_isPlace h v0 v2).bind fun x5 => (if x5 = 0 then f_X11_go_16 h v0 else (gR h v0 3 9).bind fun r6 => (f_X2_of h r6 v1 0).bind fun x7 => (f_X11_roadOf h v0 x7 v2).bind fun x8 => (if x8 < 0 then f_X11_go_67 h v0 else (gR h v0 1 9).bind fun r12 => (gR h v0 3 9).bind fun r13 => (f_X2_voices h r13 v1).bind fun x14 => (gR h v0 3 9).bind fun r15 => (f_X2_rains h r15).bind fun x16 => (f_X1_isOpen h r12 x8 x14 x16).bind fun x17 => (if x17 = 0 then f_X11_go_67 h v0 else (gR h v0 3 9).bind fun r18 => (f_X2_keep h r18).bind fun h19 => (gR h19 v0 3 9).bind fun r20 => (f_X2_set h19 r20 v1 0 v2).bind fun h21 => (gR h21 v0 3 9).bind fun r22 => (gR h21 v0 3 9).bind fun r23 => (f_X2_of h21 r23 v1 4).bind fun x24 => (gR h21 v0 1 9).bind fun r25 => (gR h21 r25 12 4).bind fun r26 => (aI h21 r26 x8).bind fun x27 => (f_X2_set h21 r22 v1 4 (x24 + x27)).bind fun h28 => (gR h28 v0 3 9).bind fun r29 => (f_X2_of h28 r29 v1 4).bind fun x30 => (f_X11_answer h28 v0 x30).bind fun q33 => some (q33.1, q33.2)))))
set_option maxRecDepth 100000 in
set_option maxHeartbeats 4000000 in
theorem w_X11_go {G : GE} {X : CX} {l : Launch} (hX : Ok G X cX11_go RX11) (hN : xn X = 4) {P : (Int32 × Mem) → Prop} (hr : Rt G X l yX11_go (some .int) rm_X11_go (pmI P)) (h : Mem) (v0 : Nat) (v1 : Int32) (v2 : Int32) (hy : OK (f_X11_go h v0 v1 v2) P) : AW G X 0 [(0, vR v0), (1, vI v1), (2, vI v2)] [] h 0 0 := by
  unfold f_X11_go at hy
  have hkd := hy.kd
  have hy := hy.kb
  refine aw_aloadn (pc := 0) hX 0 rfl dX11_go_0 ?_
  refine aw_iloadn (pc := 1) hX 1 rfl dX11_go_1 ?_
  refine aw_callV (pc := 2) (st := []) (a := v0) hX [vI v1] (con_X11_isPerson _ G _ v0 v1 hy.bd) mc_X11_isPerson ml_X11_169 im_X11_isPerson se_X11_isPerson (by decide) hy.bd.kd rfl (rm_of hr (by decide)) (Nat.le_of_ble_eq_true rfl) rfl dX11_go_2 (kpI rfl rfl (fun x1 hy => ?_))
  refine aw_if_eq (pc := 5) hX 16 (by decide) dX11_go_5 (fun hc9 => ?_) (fun hc9 => ?_)
  · have hy := hy.t hc9
    refine AW.sub [0] rfl ?_
    exact w_X11_go_16 hX hN hr h v0 hy
  · have hy := hy.f hc9
    refine aw_aloadn (pc := 8) hX 0 rfl dX11_go_8 ?_
    refine aw_iloadn (pc := 9) hX 2 rfl dX11_go_9 ?_
    refine aw_callV (pc := 10) (st := []) (a := v0) hX [vI v2] (con_X11_isPlace _ G _ v0 v2 hy.bd) mc_X11_isPlace ml_X11_200 im_X11_isPlace se_X11_isPlace (by decide) hy.bd.kd rfl (rm_of hr (by decide)) (Nat.le_of_ble_eq_true rfl) rfl dX11_go_10 (kpI rfl rfl (fun x5 hy => ?_))
    refine aw_if_ne (pc := 13) hX 22 (by decide) dX11_go_13 (fun hc9 => ?_) (fun hc9 => ?_)
    · have hy := hy.f hc9
      refine aw_aloadn (pc := 22) hX 0 rfl dX11_go_22 ?_
      refine aw_aloadn (pc := 23) hX 0 rfl dX11_go_23 ?_
      refine aw_gR (pc := 24) hX hy fl_X11_26 (fun _ _ => rfl) dX11_go_24 (fun r6 hy => ?_)
      refine aw_iloadn (pc := 27) hX 1 rfl dX11_go_27 ?_
      refine aw_iconst (pc := 28) hX 0 (by decide) dX11_go_28 ?_
      refine aw_callV (pc := 29) (st := [vR v0]) (a := r6) hX [vI v1, vI 0] (con_X2_of _ G _ r6 v1 0 hy.bd) mc_X2_of ml_X11_172 im_X2_of se_X2_of (by decide) hy.bd.kd rfl (rm_of hr (by decide)) (Nat.le_of_ble_eq_true rfl) rfl dX11_go_29 (kpI rfl rfl (fun x7 hy => ?_))
      refine aw_iloadn (pc := 32) hX 2 rfl dX11_go_32 ?_
      refine aw_callV (pc := 33) (st := []) (a := v0) hX [vI x7, vI v2] (con_X11_roadOf _ G _ v0 x7 v2 hy.bd) mc_X11_roadOf ml_X11_175 im_X11_roadOf se_X11_roadOf (by decide) hy.bd.kd rfl (rm_of hr (by decide)) (Nat.le_of_ble_eq_true rfl) rfl dX11_go_33 (kpI rfl rfl (fun x8 hy => ?_))
      refine aw_istoren (pc := 36) hX [(3, vI x8), (0, vR v0), (1, vI v1), (2, vI v2)] rfl (lt_n hN (by decide)) dX11_go_36 ?_
      refine aw_iloadn (pc := 37) hX 0 rfl dX11_go_37 ?_
      refine aw_if_lt (pc := 38) hX 67 (by decide) dX11_go_38 (fun hc9 => ?_) (fun hc9 => ?_)
      · have hy := hy.t hc9
        refine AW.sub [1] rfl ?_
        exact w_X11_go_67 hX hN hr h v0 hy
      · have hy := hy.f hc9
        refine aw_aloadn (pc := 41) hX 1 rfl dX11_go_41 ?_
        refine aw_gR (pc := 42) hX hy fl_X11_10 (fun _ _ => rfl) dX11_go_42 (fun r12 hy => ?_)
        refine aw_iloadn (pc := 45) hX 0 rfl dX11_go_45 ?_
        refine aw_aloadn (pc := 46) hX 1 rfl dX11_go_46 ?_
        refine aw_gR (pc := 47) hX hy fl_X11_26 (fun _ _ => rfl) dX11_go_47 (fun r13 hy => ?_)
        refine aw_iloadn (pc := 50) hX 2 rfl dX11_go_50 ?_
        refine aw_callV (pc := 51) (st := [vI x8, vR r12]) (a := r13) hX [vI v1] (con_X2_voices _ G _ r13 v1 hy.bd) mc_X2_voices ml_X11_186 im_X2_voices se_X2_voices (by decide) hy.bd.kd rfl (rm_of hr (by decide)) (Nat.le_of_ble_eq_true rfl) rfl dX11_go_51 (kpI rfl rfl (fun x14 hy => ?_))
        refine aw_aloadn (pc := 54) hX 1 rfl dX11_go_54 ?_
        refine aw_gR (pc := 55) hX hy fl_X11_26 (fun _ _ => rfl) dX11_go_55 (fun r15 hy => ?_)
        refine aw_callV (pc := 58) (st := [vI x14, vI x8, vR r12]) (a := r15) hX [] (con_X2_rains _ G _ r15 hy.bd) mc_X2_rains ml_X11_135 im_X2_rains se_X2_rains (by decide) hy.bd.kd rfl (rm_of hr (by decide)) (Nat.le_of_ble_eq_true rfl) rfl dX11_go_58 (kpI rfl rfl (fun x16 hy => ?_))
        refine aw_callS (pc := 61) (st := []) hX [vR r12, vI x8, vI x14, vI x16] (con_X1_isOpen _ G _ r12 x8 x14 x16 hy.bd) mc_X1_isOpen ml_X11_182 st_X1_isOpen rfl (rm_of hr (by decide)) (Nat.le_of_ble_eq_true rfl) rfl dX11_go_61 (kpI rfl rfl (fun x17 hy => ?_))
        refine aw_if_ne (pc := 64) hX 73 (by decide) dX11_go_64 (fun hc9 => ?_) (fun hc9 => ?_)
        · have hy := hy.f hc9
          refine aw_aloadn (pc := 73) hX 1 rfl dX11_go_73 ?_
          refine aw_gR (pc := 74) hX hy fl_X11_26 (fun _ _ => rfl) dX11_go_74 (fun r18 hy => ?_)
          refine aw_callV (pc := 77) (st := []) (a := r18) hX [] (con_X2_keep _ G _ r18 hy.bd) mc_X2_keep ml_X11_327 im_X2_keep se_X2_keep (by decide) hy.bd.kd rfl (rm_of hr (by decide)) (Nat.le_of_ble_eq_true rfl) rfl dX11_go_77 (kmV rfl rfl (fun h19 hy => ?_))
          refine aw_aloadn (pc := 80) hX 1 rfl dX11_go_80 ?_
          refine aw_gR (pc := 81) hX hy fl_X11_26 (fun _ _ => rfl) dX11_go_81 (fun r20 hy => ?_)
          refine aw_iloadn (pc := 84) hX 2 rfl dX11_go_84 ?_
          refine aw_iconst (pc := 85) hX 0 (by decide) dX11_go_85 ?_
          refine aw_iloadn (pc := 86) hX 3 rfl dX11_go_86 ?_
          refine aw_callV (pc := 87) (st := []) (a := r20) hX [vI v1, vI 0, vI v2] (con_X2_set _ G _ r20 v1 0 v2 hy.bd) mc_X2_set ml_X11_330 im_X2_set se_X2_set (by decide) hy.bd.kd rfl (rm_of hr (by decide)) (Nat.le_of_ble_eq_true rfl) rfl dX11_go_87 (kmV rfl rfl (fun h21 hy => ?_))
          refine aw_aloadn (pc := 90) hX 1 rfl dX11_go_90 ?_
          refine aw_gR (pc := 91) hX hy fl_X11_26 (fun _ _ => rfl) dX11_go_91 (fun r22 hy => ?_)
          refine aw_iloadn (pc := 94) hX 2 rfl dX11_go_94 ?_
          refine aw_iconst (pc := 95) hX 4 (by decide) dX11_go_95 ?_
          refine aw_aloadn (pc := 96) hX 1 rfl dX11_go_96 ?_
          refine aw_gR (pc := 97) hX hy fl_X11_26 (fun _ _ => rfl) dX11_go_97 (fun r23 hy => ?_)
          refine aw_iloadn (pc := 100) hX 2 rfl dX11_go_100 ?_
          refine aw_iconst (pc := 101) hX 4 (by decide) dX11_go_101 ?_
          refine aw_callV (pc := 102) (st := [vI 4, vI v1, vR r22]) (a := r23) hX [vI v1, vI 4] (con_X2_of _ G _ r23 v1 4 hy.bd) mc_X2_of ml_X11_172 im_X2_of se_X2_of (by decide) hy.bd.kd rfl (rm_of hr (by decide)) (Nat.le_of_ble_eq_true rfl) rfl dX11_go_102 (kpI rfl rfl (fun x24 hy => ?_))
          refine aw_aloadn (pc := 105) hX 1 rfl dX11_go_105 ?_
          refine aw_gR (pc := 106) hX hy fl_X11_10 (fun _ _ => rfl) dX11_go_106 (fun r25 hy => ?_)
          refine aw_gR (pc := 109) hX hy fl_X11_151 (fun _ _ => rfl) dX11_go_109 (fun r26 hy => ?_)
          refine aw_iloadn (pc := 112) hX 0 rfl dX11_go_112 ?_
          refine aw_aI (pc := 113) hX hy dX11_go_113 (fun x27 hy => ?_)
          refine aw_iadd (pc := 114) hX dX11_go_114 ?_
          refine aw_callV (pc := 115) (st := []) (a := r22) hX [vI v1, vI 4, vI (x24 + x27)] (con_X2_set _ G _ r22 v1 4 (x24 + x27) hy.bd) mc_X2_set ml_X11_330 im_X2_set se_X2_set (by decide) hy.bd.kd rfl (rm_of hr (by decide)) (Nat.le_of_ble_eq_true rfl) rfl dX11_go_115 (kmV rfl rfl (fun h28 hy => ?_))
          refine aw_aloadn (pc := 118) hX 1 rfl dX11_go_118 ?_
          refine aw_aloadn (pc := 119) hX 1 rfl dX11_go_119 ?_
          refine aw_gR (pc := 120) hX hy fl_X11_26 (fun _ _ => rfl) dX11_go_120 (fun r29 hy => ?_)
          refine aw_iloadn (pc := 123) hX 2 rfl dX11_go_123 ?_
          refine aw_iconst (pc := 124) hX 4 (by decide) dX11_go_124 ?_
          refine aw_callV (pc := 125) (st := [vR v0]) (a := r29) hX [vI v1, vI 4] (con_X2_of _ G _ r29 v1 4 hy.bd) mc_X2_of ml_X11_172 im_X2_of se_X2_of (by decide) hy.bd.kd rfl (rm_of hr (by decide)) (Nat.le_of_ble_eq_true rfl) rfl dX11_go_125 (kpI rfl rfl (fun x30 hy => ?_))
          refine aw_callV (pc := 128) (st := []) (a := v0) hX [vI x30] (con_X11_answer _ G _ v0 x30 hy.bd) mc_X11_answer ml_X11_117 im_X11_answer se_X11_answer (by decide) hy.bd.kd rfl (rm_of hr (by decide)) (Nat.le_of_ble_eq_true rfl) rfl dX11_go_128 (kmI rfl rfl (fun q33 hy => ?_))
          exact aw_iret (pc := 131) hX hr (by decide) (by decide) dX11_go_131 ⟨_, rfl, hy.s⟩
        · have hy := hy.t hc9
          refine AW.sub [1] rfl ?_
          exact w_X11_go_67 hX hN hr h v0 hy
    · have hy := hy.t hc9
      refine AW.sub [0] rfl ?_
      exact w_X11_go_16 hX hN hr h v0 hy
theorem con_X11_go (l : Launch) (G : GE) (h : Mem) (v0 : Nat) (v1 : Int32) (v2 : Int32) {P : (Int32 × Mem) → Prop} (hy : OK (f_X11_go h v0 v1 v2) P) : Con l G yX11_go cX11_go 4 (some .int) rm_X11_go [vR v0, vI v1, vI v2] h (pmI P) := Con.of (by decide) (Nat.le_of_ble_eq_true rfl) (fun X hX hr hN => w_X11_go hX hN hr h v0 v1 v2 hy)
/-! X11_buy -/
theorem dX11_buy_0 : decode cX11_buy 0 = .ok (.aload_n 0, 1) := by decide +kernel
theorem dX11_buy_1 : decode cX11_buy 1 = .ok (.iload_n 1, 1) := by decide +kernel
theorem dX11_buy_2 : decode cX11_buy 2 = .ok (.invokevirtual 169, 3) := by decide +kernel
theorem dX11_buy_5 : decode cX11_buy 5 = .ok (.ifCond .eq 11, 3) := by decide +kernel
theorem dX11_buy_8 : decode cX11_buy 8 = .ok (.aload_n 0, 1) := by decide +kernel
theorem dX11_buy_9 : decode cX11_buy 9 = .ok (.iload_n 2, 1) := by decide +kernel
theorem dX11_buy_10 : decode cX11_buy 10 = .ok (.invokevirtual 163, 3) := by decide +kernel
theorem dX11_buy_13 : decode cX11_buy 13 = .ok (.ifCond .ne 9, 3) := by decide +kernel
theorem dX11_buy_16 : decode cX11_buy 16 = .ok (.aload_n 0, 1) := by decide +kernel
theorem dX11_buy_17 : decode cX11_buy 17 = .ok (.iconst 1, 1) := by decide +kernel
theorem dX11_buy_18 : decode cX11_buy 18 = .ok (.invokevirtual 84, 3) := by decide +kernel
theorem dX11_buy_21 : decode cX11_buy 21 = .ok (.ireturn, 1) := by decide +kernel
theorem dX11_buy_22 : decode cX11_buy 22 = .ok (.aload_n 0, 1) := by decide +kernel
theorem dX11_buy_23 : decode cX11_buy 23 = .ok (.getfield 10, 3) := by decide +kernel
theorem dX11_buy_26 : decode cX11_buy 26 = .ok (.iload_n 2, 1) := by decide +kernel
theorem dX11_buy_27 : decode cX11_buy 27 = .ok (.iconst 2, 1) := by decide +kernel
theorem dX11_buy_28 : decode cX11_buy 28 = .ok (.invokevirtual 166, 3) := by decide +kernel
theorem dX11_buy_31 : decode cX11_buy 31 = .ok (.iconst 1, 1) := by decide +kernel
theorem dX11_buy_32 : decode cX11_buy 32 = .ok (.if_icmp .ne 7, 3) := by decide +kernel
theorem dX11_buy_35 : decode cX11_buy 35 = .ok (.iconst 3, 1) := by decide +kernel
theorem dX11_buy_36 : decode cX11_buy 36 = .ok (.goto 4, 3) := by decide +kernel
theorem dX11_buy_39 : decode cX11_buy 39 = .ok (.iconst 2, 1) := by decide +kernel
theorem dX11_buy_40 : decode cX11_buy 40 = .ok (.istore_n 3, 1) := by decide +kernel
theorem dX11_buy_41 : decode cX11_buy 41 = .ok (.iconst 1, 1) := by decide +kernel
theorem dX11_buy_42 : decode cX11_buy 42 = .ok (.aload_n 0, 1) := by decide +kernel
theorem dX11_buy_43 : decode cX11_buy 43 = .ok (.getfield 10, 3) := by decide +kernel
theorem dX11_buy_46 : decode cX11_buy 46 = .ok (.iload_n 2, 1) := by decide +kernel
theorem dX11_buy_47 : decode cX11_buy 47 = .ok (.iconst 1, 1) := by decide +kernel
theorem dX11_buy_48 : decode cX11_buy 48 = .ok (.invokevirtual 166, 3) := by decide +kernel
theorem dX11_buy_51 : decode cX11_buy 51 = .ok (.ishl, 1) := by decide +kernel
theorem dX11_buy_52 : decode cX11_buy 52 = .ok (.istore 4, 2) := by decide +kernel
theorem dX11_buy_54 : decode cX11_buy 54 = .ok (.aload_n 0, 1) := by decide +kernel
theorem dX11_buy_55 : decode cX11_buy 55 = .ok (.getfield 26, 3) := by decide +kernel
theorem dX11_buy_58 : decode cX11_buy 58 = .ok (.iload_n 1, 1) := by decide +kernel
theorem dX11_buy_59 : decode cX11_buy 59 = .ok (.iconst 0, 1) := by decide +kernel
theorem dX11_buy_60 : decode cX11_buy 60 = .ok (.invokevirtual 172, 3) := by decide +kernel
theorem dX11_buy_63 : decode cX11_buy 63 = .ok (.aload_n 0, 1) := by decide +kernel
theorem dX11_buy_64 : decode cX11_buy 64 = .ok (.getfield 10, 3) := by decide +kernel
theorem dX11_buy_67 : decode cX11_buy 67 = .ok (.iload_n 2, 1) := by decide +kernel
theorem dX11_buy_68 : decode cX11_buy 68 = .ok (.iconst 0, 1) := by decide +kernel
theorem dX11_buy_69 : decode cX11_buy 69 = .ok (.invokevirtual 166, 3) := by decide +kernel
theorem dX11_buy_72 : decode cX11_buy 72 = .ok (.if_icmp .ne 18, 3) := by decide +kernel
theorem dX11_buy_75 : decode cX11_buy 75 = .ok (.aload_n 0, 1) := by decide +kernel
theorem dX11_buy_76 : decode cX11_buy 76 = .ok (.getfield 26, 3) := by decide +kernel
theorem dX11_buy_79 : decode cX11_buy 79 = .ok (.iload_n 1, 1) := by decide +kernel
theorem dX11_buy_80 : decode cX11_buy 80 = .ok (.iload_n 3, 1) := by decide +kernel
theorem dX11_buy_81 : decode cX11_buy 81 = .ok (.invokevirtual 172, 3) := by decide +kernel
theorem dX11_buy_84 : decode cX11_buy 84 = .ok (.iload 4, 2) := by decide +kernel
theorem dX11_buy_86 : decode cX11_buy 86 = .ok (.iand, 1) := by decide +kernel
theorem dX11_buy_87 : decode cX11_buy 87 = .ok (.ifCond .eq 9, 3) := by decide +kernel
theorem dX11_buy_90 : decode cX11_buy 90 = .ok (.aload_n 0, 1) := by decide +kernel
theorem dX11_buy_91 : decode cX11_buy 91 = .ok (.iconst 5, 1) := by decide +kernel
theorem dX11_buy_92 : decode cX11_buy 92 = .ok (.invokevirtual 84, 3) := by decide +kernel
theorem dX11_buy_95 : decode cX11_buy 95 = .ok (.ireturn, 1) := by decide +kernel
theorem dX11_buy_96 : decode cX11_buy 96 = .ok (.aload_n 0, 1) := by decide +kernel
theorem dX11_buy_97 : decode cX11_buy 97 = .ok (.getfield 26, 3) := by decide +kernel
theorem dX11_buy_100 : decode cX11_buy 100 = .ok (.iload_n 1, 1) := by decide +kernel
theorem dX11_buy_101 : decode cX11_buy 101 = .ok (.iconst 1, 1) := by decide +kernel
theorem dX11_buy_102 : decode cX11_buy 102 = .ok (.invokevirtual 172, 3) := by decide +kernel
theorem dX11_buy_105 : decode cX11_buy 105 = .ok (.aload_n 0, 1) := by decide +kernel
theorem dX11_buy_106 : decode cX11_buy 106 = .ok (.getfield 10, 3) := by decide +kernel
theorem dX11_buy_109 : decode cX11_buy 109 = .ok (.iload_n 2, 1) := by decide +kernel
theorem dX11_buy_110 : decode cX11_buy 110 = .ok (.iconst 3, 1) := by decide +kernel
theorem dX11_buy_111 : decode cX11_buy 111 = .ok (.invokevirtual 166, 3) := by decide +kernel
theorem dX11_buy_114 : decode cX11_buy 114 = .ok (.isub, 1) := by decide +kernel
theorem dX11_buy_115 : decode cX11_buy 115 = .ok (.istore 5, 2) := by decide +kernel
theorem dX11_buy_117 : decode cX11_buy 117 = .ok (.iload 5, 2) := by decide +kernel
theorem dX11_buy_119 : decode cX11_buy 119 = .ok (.ifCond .ge 10, 3) := by decide +kernel
theorem dX11_buy_122 : decode cX11_buy 122 = .ok (.aload_n 0, 1) := by decide +kernel
theorem dX11_buy_123 : decode cX11_buy 123 = .ok (.bipush 6, 2) := by decide +kernel
theorem dX11_buy_125 : decode cX11_buy 125 = .ok (.invokevirtual 84, 3) := by decide +kernel
theorem dX11_buy_128 : decode cX11_buy 128 = .ok (.ireturn, 1) := by decide +kernel
theorem dX11_buy_129 : decode cX11_buy 129 = .ok (.aload_n 0, 1) := by decide +kernel
theorem dX11_buy_130 : decode cX11_buy 130 = .ok (.getfield 26, 3) := by decide +kernel
theorem dX11_buy_133 : decode cX11_buy 133 = .ok (.invokevirtual 327, 3) := by decide +kernel
theorem dX11_buy_136 : decode cX11_buy 136 = .ok (.aload_n 0, 1) := by decide +kernel
theorem dX11_buy_137 : decode cX11_buy 137 = .ok (.getfield 26, 3) := by decide +kernel
theorem dX11_buy_140 : decode cX11_buy 140 = .ok (.iload_n 1, 1) := by decide +kernel
theorem dX11_buy_141 : decode cX11_buy 141 = .ok (.iconst 1, 1) := by decide +kernel
theorem dX11_buy_142 : decode cX11_buy 142 = .ok (.iload 5, 2) := by decide +kernel
theorem dX11_buy_144 : decode cX11_buy 144 = .ok (.invokevirtual 330, 3) := by decide +kernel
theorem dX11_buy_147 : decode cX11_buy 147 = .ok (.aload_n 0, 1) := by decide +kernel
theorem dX11_buy_148 : decode cX11_buy 148 = .ok (.getfield 26, 3) := by decide +kernel
theorem dX11_buy_151 : decode cX11_buy 151 = .ok (.iload_n 1, 1) := by decide +kernel
theorem dX11_buy_152 : decode cX11_buy 152 = .ok (.iload_n 3, 1) := by decide +kernel
theorem dX11_buy_153 : decode cX11_buy 153 = .ok (.aload_n 0, 1) := by decide +kernel
theorem dX11_buy_154 : decode cX11_buy 154 = .ok (.getfield 26, 3) := by decide +kernel
theorem dX11_buy_157 : decode cX11_buy 157 = .ok (.iload_n 1, 1) := by decide +kernel
theorem dX11_buy_158 : decode cX11_buy 158 = .ok (.iload_n 3, 1) := by decide +kernel
theorem dX11_buy_159 : decode cX11_buy 159 = .ok (.invokevirtual 172, 3) := by decide +kernel
theorem dX11_buy_162 : decode cX11_buy 162 = .ok (.iload 4, 2) := by decide +kernel
theorem dX11_buy_164 : decode cX11_buy 164 = .ok (.ior, 1) := by decide +kernel
theorem dX11_buy_165 : decode cX11_buy 165 = .ok (.invokevirtual 330, 3) := by decide +kernel
theorem dX11_buy_168 : decode cX11_buy 168 = .ok (.aload_n 0, 1) := by decide +kernel
theorem dX11_buy_169 : decode cX11_buy 169 = .ok (.iload 5, 2) := by decide +kernel
theorem dX11_buy_171 : decode cX11_buy 171 = .ok (.invokevirtual 117, 3) := by decide +kernel
theorem dX11_buy_174 : decode cX11_buy 174 = .ok (.ireturn, 1) := by decide +kernel
abbrev rm_X11_buy : Room := { frames := 2, cells := 0, slots := 0, locals := 80 }
def f_X11_buy_16 (h : Mem) (v0 : Nat) : Option (Int32 × Mem) :=
  (f_X11_refuse h v0 1).bind fun q4 => some (q4.1, q4.2)
set_option maxRecDepth 100000 in
set_option maxHeartbeats 4000000 in
theorem w_X11_buy_16 {G : GE} {X : CX} {l : Launch} (hX : Ok G X cX11_buy RX11) (hN : xn X = 6) {P : (Int32 × Mem) → Prop} (hr : Rt G X l yX11_buy (some .int) rm_X11_buy (pmI P)) (h : Mem) (v0 : Nat) (hy : OK (f_X11_buy_16 h v0) P) : AW G X 16 [(0, vR v0)] [] h 0 0 := by
  unfold f_X11_buy_16 at hy
  refine aw_aloadn (pc := 16) hX 0 rfl dX11_buy_16 ?_
  refine aw_iconst (pc := 17) hX 1 (by decide) dX11_buy_17 ?_
  refine aw_callV (pc := 18) (st := []) (a := v0) hX [vI 1] (con_X11_refuse _ G _ v0 1 hy.bd) mc_X11_refuse ml_X11_84 im_X11_refuse se_X11_refuse (by decide) hy.bd.kd rfl (rm_of hr (by decide)) (Nat.le_of_ble_eq_true rfl) rfl dX11_buy_18 (kmI rfl rfl (fun q4 hy => ?_))
  exact aw_iret (pc := 21) hX hr (by decide) (by decide) dX11_buy_21 ⟨_, rfl, hy.s⟩
def f_X11_buy_90 (h : Mem) (v0 : Nat) : Option (Int32 × Mem) :=
  (f_X11_refuse h v0 5).bind fun q16 => some (q16.1, q16.2)
set_option maxRecDepth 100000 in
set_option maxHeartbeats 4000000 in
theorem w_X11_buy_90 {G : GE} {X : CX} {l : Launch} (hX : Ok G X cX11_buy RX11) (hN : xn X = 6) {P : (Int32 × Mem) → Prop} (hr : Rt G X l yX11_buy (some .int) rm_X11_buy (pmI P)) (h : Mem) (v0 : Nat) (hy : OK (f_X11_buy_90 h v0) P) : AW G X 90 [(0, vR v0)] [] h 0 0 := by
  unfold f_X11_buy_90 at hy
  refine aw_aloadn (pc := 90) hX 0 rfl dX11_buy_90 ?_
  refine aw_iconst (pc := 91) hX 5 (by decide) dX11_buy_91 ?_
  refine aw_callV (pc := 92) (st := []) (a := v0) hX [vI 5] (con_X11_refuse _ G _ v0 5 hy.bd) mc_X11_refuse ml_X11_84 im_X11_refuse se_X11_refuse (by decide) hy.bd.kd rfl (rm_of hr (by decide)) (Nat.le_of_ble_eq_true rfl) rfl dX11_buy_92 (kmI rfl rfl (fun q16 hy => ?_))
  exact aw_iret (pc := 95) hX hr (by decide) (by decide) dX11_buy_95 ⟨_, rfl, hy.s⟩
def f_X11_buy_40 (h : Mem) (v0 : Nat) (v1 : Int32) (v2 : Int32) (s0 : Int32) : Option (Int32 × Mem) :=
  (gR h v0 1 9).bind fun r8 => (f_X5_innPart h r8 v2 1).bind fun x9 => (gR h v0 3 9).bind fun r10 => (f_X2_of h r10 v1 0).bind fun x11 => (gR h v0 1 9).bind fun r12 => (f_X5_innPart h r12 v2 0).bind fun x13 => (if x11 = x13 then (gR h v0 3 9).bind fun r17 => (f_X2_of h r17 v1 s0).bind fun x18 => (if (x18 &&& ((1 : Int32) <<< (x9 &&& 31))) = 0 then (gR h v0 3 9).bind fun r19 => (f_X2_of h r19 v1 1).bind fun x20 => (gR h v0 1 9).bind fun r21 => (f_X5_innPart h r21 v2 3).bind fun x22 => (if 0 ≤ (x20 - x22) then (gR h v0 3 9).bind fun r23 => (f_X2_keep h r23).bind fun h24 => (gR h24 v0 3 9).bind fun r25 => (f_X2_set h24 r25 v1 1 (x20 - x22)).bind fun h26 => (gR h26 v0 3 9).bind fun r27 => (gR h26 v0 3 9).bind fun r28 => (f_X2_of h26 r28 v1 s0).bind fun x29 => (f_X2_set h26 r27 v1 s0 (x29 ||| ((1 : Int32) <<< (x9 &&& 31)))).bind fun h30 => (f_X11_answer h30 v0 (x20 - x22)).bind fun q33 => some (q33.1, q33.2) else (f_X11_refuse h v0 6).bind fun q36 => some (q36.1, q36.2)) else f_X11_buy_90 h v0) else f_X11_buy_90 h v0)
set_option maxRecDepth 100000 in
set_option maxHeartbeats 4000000 in
theorem w_X11_buy_40 {G : GE} {X : CX} {l : Launch} (hX : Ok G X cX11_buy RX11) (hN : xn X = 6) {P : (Int32 × Mem) → Prop} (hr : Rt G X l yX11_buy (some .int) rm_X11_buy (pmI P)) (h : Mem) (v0 : Nat) (v1 : Int32) (v2 : Int32) (s0 : Int32) (hy : OK (f_X11_buy_40 h v0 v1 v2 s0) P) : AW G X 40 [(0, vR v0), (1, vI v1), (2, vI v2)] [vI s0] h 0 0 := by
  unfold f_X11_buy_40 at hy
  refine aw_istoren (pc := 40) hX [(3, vI s0), (0, vR v0), (1, vI v1), (2, vI v2)] rfl (lt_n hN (by decide)) dX11_buy_40 ?_
  refine aw_iconst (pc := 41) hX 1 (by decide) dX11_buy_41 ?_
  refine aw_aloadn (pc := 42) hX 1 rfl dX11_buy_42 ?_
  refine aw_gR (pc := 43) hX hy fl_X11_10 (fun _ _ => rfl) dX11_buy_43 (fun r8 hy => ?_)
  refine aw_iloadn (pc := 46) hX 3 rfl dX11_buy_46 ?_
  refine aw_iconst (pc := 47) hX 1 (by decide) dX11_buy_47 ?_
  refine aw_callV (pc := 48) (st := [vI 1]) (a := r8) hX [vI v2, vI 1] (con_X5_innPart _ G _ r8 v2 1 hy.bd) mc_X5_innPart ml_X11_166 im_X5_innPart se_X5_innPart (by decide) hy.bd.kd rfl (rm_of hr (by decide)) (Nat.le_of_ble_eq_true rfl) rfl dX11_buy_48 (kpI rfl rfl (fun x9 hy => ?_))
  refine aw_ishl (pc := 51) hX dX11_buy_51 ?_
  refine aw_istore (pc := 52) hX [(4, vI ((1 : Int32) <<< (x9 &&& 31))), (3, vI s0), (0, vR v0), (1, vI v1), (2, vI v2)] rfl (lt_n hN (by decide)) dX11_buy_52 ?_
  refine aw_aloadn (pc := 54) hX 2 rfl dX11_buy_54 ?_
  refine aw_gR (pc := 55) hX hy fl_X11_26 (fun _ _ => rfl) dX11_buy_55 (fun r10 hy => ?_)
  refine aw_iloadn (pc := 58) hX 3 rfl dX11_buy_58 ?_
  refine aw_iconst (pc := 59) hX 0 (by decide) dX11_buy_59 ?_
  refine aw_callV (pc := 60) (st := []) (a := r10) hX [vI v1, vI 0] (con_X2_of _ G _ r10 v1 0 hy.bd) mc_X2_of ml_X11_172 im_X2_of se_X2_of (by decide) hy.bd.kd rfl (rm_of hr (by decide)) (Nat.le_of_ble_eq_true rfl) rfl dX11_buy_60 (kpI rfl rfl (fun x11 hy => ?_))
  refine aw_aloadn (pc := 63) hX 2 rfl dX11_buy_63 ?_
  refine aw_gR (pc := 64) hX hy fl_X11_10 (fun _ _ => rfl) dX11_buy_64 (fun r12 hy => ?_)
  refine aw_iloadn (pc := 67) hX 4 rfl dX11_buy_67 ?_
  refine aw_iconst (pc := 68) hX 0 (by decide) dX11_buy_68 ?_
  refine aw_callV (pc := 69) (st := [vI x11]) (a := r12) hX [vI v2, vI 0] (con_X5_innPart _ G _ r12 v2 0 hy.bd) mc_X5_innPart ml_X11_166 im_X5_innPart se_X5_innPart (by decide) hy.bd.kd rfl (rm_of hr (by decide)) (Nat.le_of_ble_eq_true rfl) rfl dX11_buy_69 (kpI rfl rfl (fun x13 hy => ?_))
  refine aw_ic_ne (pc := 72) hX 90 (by decide) dX11_buy_72 (fun hc9 => ?_) (fun hc9 => ?_)
  · have hy := hy.f hc9
    refine AW.sub [2] rfl ?_
    exact w_X11_buy_90 hX hN hr h v0 hy
  · have hy := hy.t hc9
    refine aw_aloadn (pc := 75) hX 2 rfl dX11_buy_75 ?_
    refine aw_gR (pc := 76) hX hy fl_X11_26 (fun _ _ => rfl) dX11_buy_76 (fun r17 hy => ?_)
    refine aw_iloadn (pc := 79) hX 3 rfl dX11_buy_79 ?_
    refine aw_iloadn (pc := 80) hX 1 rfl dX11_buy_80 ?_
    refine aw_callV (pc := 81) (st := []) (a := r17) hX [vI v1, vI s0] (con_X2_of _ G _ r17 v1 s0 hy.bd) mc_X2_of ml_X11_172 im_X2_of se_X2_of (by decide) hy.bd.kd rfl (rm_of hr (by decide)) (Nat.le_of_ble_eq_true rfl) rfl dX11_buy_81 (kpI rfl rfl (fun x18 hy => ?_))
    refine aw_iload (pc := 84) hX 0 rfl dX11_buy_84 ?_
    refine aw_iand (pc := 86) hX dX11_buy_86 ?_
    refine aw_if_eq (pc := 87) hX 96 (by decide) dX11_buy_87 (fun hc9 => ?_) (fun hc9 => ?_)
    · have hy := hy.t hc9
      refine aw_aloadn (pc := 96) hX 2 rfl dX11_buy_96 ?_
      refine aw_gR (pc := 97) hX hy fl_X11_26 (fun _ _ => rfl) dX11_buy_97 (fun r19 hy => ?_)
      refine aw_iloadn (pc := 100) hX 3 rfl dX11_buy_100 ?_
      refine aw_iconst (pc := 101) hX 1 (by decide) dX11_buy_101 ?_
      refine aw_callV (pc := 102) (st := []) (a := r19) hX [vI v1, vI 1] (con_X2_of _ G _ r19 v1 1 hy.bd) mc_X2_of ml_X11_172 im_X2_of se_X2_of (by decide) hy.bd.kd rfl (rm_of hr (by decide)) (Nat.le_of_ble_eq_true rfl) rfl dX11_buy_102 (kpI rfl rfl (fun x20 hy => ?_))
      refine aw_aloadn (pc := 105) hX 2 rfl dX11_buy_105 ?_
      refine aw_gR (pc := 106) hX hy fl_X11_10 (fun _ _ => rfl) dX11_buy_106 (fun r21 hy => ?_)
      refine aw_iloadn (pc := 109) hX 4 rfl dX11_buy_109 ?_
      refine aw_iconst (pc := 110) hX 3 (by decide) dX11_buy_110 ?_
      refine aw_callV (pc := 111) (st := [vI x20]) (a := r21) hX [vI v2, vI 3] (con_X5_innPart _ G _ r21 v2 3 hy.bd) mc_X5_innPart ml_X11_166 im_X5_innPart se_X5_innPart (by decide) hy.bd.kd rfl (rm_of hr (by decide)) (Nat.le_of_ble_eq_true rfl) rfl dX11_buy_111 (kpI rfl rfl (fun x22 hy => ?_))
      refine aw_isub (pc := 114) hX dX11_buy_114 ?_
      refine aw_istore (pc := 115) hX [(5, vI (x20 - x22)), (4, vI ((1 : Int32) <<< (x9 &&& 31))), (3, vI s0), (0, vR v0), (1, vI v1), (2, vI v2)] rfl (lt_n hN (by decide)) dX11_buy_115 ?_
      refine aw_iload (pc := 117) hX 0 rfl dX11_buy_117 ?_
      refine aw_if_ge (pc := 119) hX 129 (by decide) dX11_buy_119 (fun hc9 => ?_) (fun hc9 => ?_)
      · have hy := hy.t hc9
        refine aw_aloadn (pc := 129) hX 3 rfl dX11_buy_129 ?_
        refine aw_gR (pc := 130) hX hy fl_X11_26 (fun _ _ => rfl) dX11_buy_130 (fun r23 hy => ?_)
        refine aw_callV (pc := 133) (st := []) (a := r23) hX [] (con_X2_keep _ G _ r23 hy.bd) mc_X2_keep ml_X11_327 im_X2_keep se_X2_keep (by decide) hy.bd.kd rfl (rm_of hr (by decide)) (Nat.le_of_ble_eq_true rfl) rfl dX11_buy_133 (kmV rfl rfl (fun h24 hy => ?_))
        refine aw_aloadn (pc := 136) hX 3 rfl dX11_buy_136 ?_
        refine aw_gR (pc := 137) hX hy fl_X11_26 (fun _ _ => rfl) dX11_buy_137 (fun r25 hy => ?_)
        refine aw_iloadn (pc := 140) hX 4 rfl dX11_buy_140 ?_
        refine aw_iconst (pc := 141) hX 1 (by decide) dX11_buy_141 ?_
        refine aw_iload (pc := 142) hX 0 rfl dX11_buy_142 ?_
        refine aw_callV (pc := 144) (st := []) (a := r25) hX [vI v1, vI 1, vI (x20 - x22)] (con_X2_set _ G _ r25 v1 1 (x20 - x22) hy.bd) mc_X2_set ml_X11_330 im_X2_set se_X2_set (by decide) hy.bd.kd rfl (rm_of hr (by decide)) (Nat.le_of_ble_eq_true rfl) rfl dX11_buy_144 (kmV rfl rfl (fun h26 hy => ?_))
        refine aw_aloadn (pc := 147) hX 3 rfl dX11_buy_147 ?_
        refine aw_gR (pc := 148) hX hy fl_X11_26 (fun _ _ => rfl) dX11_buy_148 (fun r27 hy => ?_)
        refine aw_iloadn (pc := 151) hX 4 rfl dX11_buy_151 ?_
        refine aw_iloadn (pc := 152) hX 2 rfl dX11_buy_152 ?_
        refine aw_aloadn (pc := 153) hX 3 rfl dX11_buy_153 ?_
        refine aw_gR (pc := 154) hX hy fl_X11_26 (fun _ _ => rfl) dX11_buy_154 (fun r28 hy => ?_)
        refine aw_iloadn (pc := 157) hX 4 rfl dX11_buy_157 ?_
        refine aw_iloadn (pc := 158) hX 2 rfl dX11_buy_158 ?_
        refine aw_callV (pc := 159) (st := [vI s0, vI v1, vR r27]) (a := r28) hX [vI v1, vI s0] (con_X2_of _ G _ r28 v1 s0 hy.bd) mc_X2_of ml_X11_172 im_X2_of se_X2_of (by decide) hy.bd.kd rfl (rm_of hr (by decide)) (Nat.le_of_ble_eq_true rfl) rfl dX11_buy_159 (kpI rfl rfl (fun x29 hy => ?_))
        refine aw_iload (pc := 162) hX 1 rfl dX11_buy_162 ?_
        refine aw_ior (pc := 164) hX dX11_buy_164 ?_
        refine aw_callV (pc := 165) (st := []) (a := r27) hX [vI v1, vI s0, vI (x29 ||| ((1 : Int32) <<< (x9 &&& 31)))] (con_X2_set _ G _ r27 v1 s0 (x29 ||| ((1 : Int32) <<< (x9 &&& 31))) hy.bd) mc_X2_set ml_X11_330 im_X2_set se_X2_set (by decide) hy.bd.kd rfl (rm_of hr (by decide)) (Nat.le_of_ble_eq_true rfl) rfl dX11_buy_165 (kmV rfl rfl (fun h30 hy => ?_))
        refine aw_aloadn (pc := 168) hX 3 rfl dX11_buy_168 ?_
        refine aw_iload (pc := 169) hX 0 rfl dX11_buy_169 ?_
        refine aw_callV (pc := 171) (st := []) (a := v0) hX [vI (x20 - x22)] (con_X11_answer _ G _ v0 (x20 - x22) hy.bd) mc_X11_answer ml_X11_117 im_X11_answer se_X11_answer (by decide) hy.bd.kd rfl (rm_of hr (by decide)) (Nat.le_of_ble_eq_true rfl) rfl dX11_buy_171 (kmI rfl rfl (fun q33 hy => ?_))
        exact aw_iret (pc := 174) hX hr (by decide) (by decide) dX11_buy_174 ⟨_, rfl, hy.s⟩
      · have hy := hy.f hc9
        refine aw_aloadn (pc := 122) hX 3 rfl dX11_buy_122 ?_
        refine aw_bipush (pc := 123) hX 6 (by decide) dX11_buy_123 ?_
        refine aw_callV (pc := 125) (st := []) (a := v0) hX [vI 6] (con_X11_refuse _ G _ v0 6 hy.bd) mc_X11_refuse ml_X11_84 im_X11_refuse se_X11_refuse (by decide) hy.bd.kd rfl (rm_of hr (by decide)) (Nat.le_of_ble_eq_true rfl) rfl dX11_buy_125 (kmI rfl rfl (fun q36 hy => ?_))
        exact aw_iret (pc := 128) hX hr (by decide) (by decide) dX11_buy_128 ⟨_, rfl, hy.s⟩
    · have hy := hy.f hc9
      refine AW.sub [2] rfl ?_
      exact w_X11_buy_90 hX hN hr h v0 hy
def f_X11_buy (h : Mem) (v0 : Nat) (v1 : Int32) (v2 : Int32) : Option (Int32 × Mem) :=
  (ck h v0 9).bind fun _ => (f_X11_isPerson h v0 v1).bind fun x1 => (if x1 = 0 then f_X11_buy_16 h v0 else (f_X11_isInn h v0 v2).bind fun x5 => (if x5 = 0 then f_X11_buy_16 h v0 else (gR h v0 1 9).bind fun r6 => (f_X5_innPart h r6 v2 2).bind fun x7 => (if x7 = 1 then f_X11_buy_40 h v0 v1 v2 3 else f_X11_buy_40 h v0 v1 v2 2)))
set_option maxRecDepth 100000 in
set_option maxHeartbeats 4000000 in
theorem w_X11_buy {G : GE} {X : CX} {l : Launch} (hX : Ok G X cX11_buy RX11) (hN : xn X = 6) {P : (Int32 × Mem) → Prop} (hr : Rt G X l yX11_buy (some .int) rm_X11_buy (pmI P)) (h : Mem) (v0 : Nat) (v1 : Int32) (v2 : Int32) (hy : OK (f_X11_buy h v0 v1 v2) P) : AW G X 0 [(0, vR v0), (1, vI v1), (2, vI v2)] [] h 0 0 := by
  unfold f_X11_buy at hy
  have hkd := hy.kd
  have hy := hy.kb
  refine aw_aloadn (pc := 0) hX 0 rfl dX11_buy_0 ?_
  refine aw_iloadn (pc := 1) hX 1 rfl dX11_buy_1 ?_
  refine aw_callV (pc := 2) (st := []) (a := v0) hX [vI v1] (con_X11_isPerson _ G _ v0 v1 hy.bd) mc_X11_isPerson ml_X11_169 im_X11_isPerson se_X11_isPerson (by decide) hy.bd.kd rfl (rm_of hr (by decide)) (Nat.le_of_ble_eq_true rfl) rfl dX11_buy_2 (kpI rfl rfl (fun x1 hy => ?_))
  refine aw_if_eq (pc := 5) hX 16 (by decide) dX11_buy_5 (fun hc9 => ?_) (fun hc9 => ?_)
  · have hy := hy.t hc9
    refine AW.sub [0] rfl ?_
    exact w_X11_buy_16 hX hN hr h v0 hy
  · have hy := hy.f hc9
    refine aw_aloadn (pc := 8) hX 0 rfl dX11_buy_8 ?_
    refine aw_iloadn (pc := 9) hX 2 rfl dX11_buy_9 ?_
    refine aw_callV (pc := 10) (st := []) (a := v0) hX [vI v2] (con_X11_isInn _ G _ v0 v2 hy.bd) mc_X11_isInn ml_X11_163 im_X11_isInn se_X11_isInn (by decide) hy.bd.kd rfl (rm_of hr (by decide)) (Nat.le_of_ble_eq_true rfl) rfl dX11_buy_10 (kpI rfl rfl (fun x5 hy => ?_))
    refine aw_if_ne (pc := 13) hX 22 (by decide) dX11_buy_13 (fun hc9 => ?_) (fun hc9 => ?_)
    · have hy := hy.f hc9
      refine aw_aloadn (pc := 22) hX 0 rfl dX11_buy_22 ?_
      refine aw_gR (pc := 23) hX hy fl_X11_10 (fun _ _ => rfl) dX11_buy_23 (fun r6 hy => ?_)
      refine aw_iloadn (pc := 26) hX 2 rfl dX11_buy_26 ?_
      refine aw_iconst (pc := 27) hX 2 (by decide) dX11_buy_27 ?_
      refine aw_callV (pc := 28) (st := []) (a := r6) hX [vI v2, vI 2] (con_X5_innPart _ G _ r6 v2 2 hy.bd) mc_X5_innPart ml_X11_166 im_X5_innPart se_X5_innPart (by decide) hy.bd.kd rfl (rm_of hr (by decide)) (Nat.le_of_ble_eq_true rfl) rfl dX11_buy_28 (kpI rfl rfl (fun x7 hy => ?_))
      refine aw_iconst (pc := 31) hX 1 (by decide) dX11_buy_31 ?_
      refine aw_ic_ne (pc := 32) hX 39 (by decide) dX11_buy_32 (fun hc9 => ?_) (fun hc9 => ?_)
      · have hy := hy.f hc9
        refine aw_iconst (pc := 39) hX 2 (by decide) dX11_buy_39 ?_
        exact w_X11_buy_40 hX hN hr h v0 v1 v2 2 hy
      · have hy := hy.t hc9
        refine aw_iconst (pc := 35) hX 3 (by decide) dX11_buy_35 ?_
        refine aw_goto (pc := 36) hX 40 (by decide) dX11_buy_36 ?_
        exact w_X11_buy_40 hX hN hr h v0 v1 v2 3 hy
    · have hy := hy.t hc9
      refine AW.sub [0] rfl ?_
      exact w_X11_buy_16 hX hN hr h v0 hy
theorem con_X11_buy (l : Launch) (G : GE) (h : Mem) (v0 : Nat) (v1 : Int32) (v2 : Int32) {P : (Int32 × Mem) → Prop} (hy : OK (f_X11_buy h v0 v1 v2) P) : Con l G yX11_buy cX11_buy 6 (some .int) rm_X11_buy [vR v0, vI v1, vI v2] h (pmI P) := Con.of (by decide) (Nat.le_of_ble_eq_true rfl) (fun X hX hr hN => w_X11_buy hX hN hr h v0 v1 v2 hy)
