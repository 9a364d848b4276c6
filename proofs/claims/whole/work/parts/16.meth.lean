/-! X11_teach -/
theorem dX11_teach_0 : decode cX11_teach 0 = .ok (.aload_n 0, 1) := by decide +kernel
theorem dX11_teach_1 : decode cX11_teach 1 = .ok (.iload_n 1, 1) := by decide +kernel
theorem dX11_teach_2 : decode cX11_teach 2 = .ok (.invokevirtual 169, 3) := by decide +kernel
theorem dX11_teach_5 : decode cX11_teach 5 = .ok (.ifCond .eq 24, 3) := by decide +kernel
theorem dX11_teach_8 : decode cX11_teach 8 = .ok (.aload_n 0, 1) := by decide +kernel
theorem dX11_teach_9 : decode cX11_teach 9 = .ok (.iload_n 2, 1) := by decide +kernel
theorem dX11_teach_10 : decode cX11_teach 10 = .ok (.invokevirtual 169, 3) := by decide +kernel
theorem dX11_teach_13 : decode cX11_teach 13 = .ok (.ifCond .eq 16, 3) := by decide +kernel
theorem dX11_teach_16 : decode cX11_teach 16 = .ok (.iload_n 1, 1) := by decide +kernel
theorem dX11_teach_17 : decode cX11_teach 17 = .ok (.iload_n 2, 1) := by decide +kernel
theorem dX11_teach_18 : decode cX11_teach 18 = .ok (.if_icmp .eq 11, 3) := by decide +kernel
theorem dX11_teach_21 : decode cX11_teach 21 = .ok (.aload_n 0, 1) := by decide +kernel
theorem dX11_teach_22 : decode cX11_teach 22 = .ok (.iload_n 3, 1) := by decide +kernel
theorem dX11_teach_23 : decode cX11_teach 23 = .ok (.invokevirtual 129, 3) := by decide +kernel
theorem dX11_teach_26 : decode cX11_teach 26 = .ok (.ifCond .ne 9, 3) := by decide +kernel
theorem dX11_teach_29 : decode cX11_teach 29 = .ok (.aload_n 0, 1) := by decide +kernel
theorem dX11_teach_30 : decode cX11_teach 30 = .ok (.iconst 1, 1) := by decide +kernel
theorem dX11_teach_31 : decode cX11_teach 31 = .ok (.invokevirtual 334, 3) := by decide +kernel
theorem dX11_teach_34 : decode cX11_teach 34 = .ok (.ireturn, 1) := by decide +kernel
theorem dX11_teach_35 : decode cX11_teach 35 = .ok (.iconst 1, 1) := by decide +kernel
theorem dX11_teach_36 : decode cX11_teach 36 = .ok (.iload_n 3, 1) := by decide +kernel
theorem dX11_teach_37 : decode cX11_teach 37 = .ok (.ishl, 1) := by decide +kernel
theorem dX11_teach_38 : decode cX11_teach 38 = .ok (.istore 4, 2) := by decide +kernel
theorem dX11_teach_40 : decode cX11_teach 40 = .ok (.aload_n 0, 1) := by decide +kernel
theorem dX11_teach_41 : decode cX11_teach 41 = .ok (.getfield 26, 3) := by decide +kernel
theorem dX11_teach_44 : decode cX11_teach 44 = .ok (.iload_n 1, 1) := by decide +kernel
theorem dX11_teach_45 : decode cX11_teach 45 = .ok (.iconst 0, 1) := by decide +kernel
theorem dX11_teach_46 : decode cX11_teach 46 = .ok (.invokevirtual 172, 3) := by decide +kernel
theorem dX11_teach_49 : decode cX11_teach 49 = .ok (.aload_n 0, 1) := by decide +kernel
theorem dX11_teach_50 : decode cX11_teach 50 = .ok (.getfield 26, 3) := by decide +kernel
theorem dX11_teach_53 : decode cX11_teach 53 = .ok (.iload_n 2, 1) := by decide +kernel
theorem dX11_teach_54 : decode cX11_teach 54 = .ok (.iconst 0, 1) := by decide +kernel
theorem dX11_teach_55 : decode cX11_teach 55 = .ok (.invokevirtual 172, 3) := by decide +kernel
theorem dX11_teach_58 : decode cX11_teach 58 = .ok (.if_icmp .ne 7, 3) := by decide +kernel
theorem dX11_teach_61 : decode cX11_teach 61 = .ok (.iconst 1, 1) := by decide +kernel
theorem dX11_teach_62 : decode cX11_teach 62 = .ok (.goto 4, 3) := by decide +kernel
theorem dX11_teach_65 : decode cX11_teach 65 = .ok (.iconst 0, 1) := by decide +kernel
theorem dX11_teach_66 : decode cX11_teach 66 = .ok (.istore 5, 2) := by decide +kernel
theorem dX11_teach_68 : decode cX11_teach 68 = .ok (.iload 5, 2) := by decide +kernel
theorem dX11_teach_70 : decode cX11_teach 70 = .ok (.ifCond .eq 33, 3) := by decide +kernel
theorem dX11_teach_73 : decode cX11_teach 73 = .ok (.aload_n 0, 1) := by decide +kernel
theorem dX11_teach_74 : decode cX11_teach 74 = .ok (.getfield 26, 3) := by decide +kernel
theorem dX11_teach_77 : decode cX11_teach 77 = .ok (.iload_n 1, 1) := by decide +kernel
theorem dX11_teach_78 : decode cX11_teach 78 = .ok (.iconst 2, 1) := by decide +kernel
theorem dX11_teach_79 : decode cX11_teach 79 = .ok (.invokevirtual 172, 3) := by decide +kernel
theorem dX11_teach_82 : decode cX11_teach 82 = .ok (.iload 4, 2) := by decide +kernel
theorem dX11_teach_84 : decode cX11_teach 84 = .ok (.iand, 1) := by decide +kernel
theorem dX11_teach_85 : decode cX11_teach 85 = .ok (.ifCond .eq 18, 3) := by decide +kernel
theorem dX11_teach_88 : decode cX11_teach 88 = .ok (.aload_n 0, 1) := by decide +kernel
theorem dX11_teach_89 : decode cX11_teach 89 = .ok (.getfield 26, 3) := by decide +kernel
theorem dX11_teach_92 : decode cX11_teach 92 = .ok (.iload_n 2, 1) := by decide +kernel
theorem dX11_teach_93 : decode cX11_teach 93 = .ok (.iconst 2, 1) := by decide +kernel
theorem dX11_teach_94 : decode cX11_teach 94 = .ok (.invokevirtual 172, 3) := by decide +kernel
theorem dX11_teach_97 : decode cX11_teach 97 = .ok (.iload 4, 2) := by decide +kernel
theorem dX11_teach_99 : decode cX11_teach 99 = .ok (.iand, 1) := by decide +kernel
theorem dX11_teach_100 : decode cX11_teach 100 = .ok (.ifCond .eq 9, 3) := by decide +kernel
theorem dX11_teach_103 : decode cX11_teach 103 = .ok (.aload_n 0, 1) := by decide +kernel
theorem dX11_teach_104 : decode cX11_teach 104 = .ok (.iconst 5, 1) := by decide +kernel
theorem dX11_teach_105 : decode cX11_teach 105 = .ok (.invokevirtual 334, 3) := by decide +kernel
theorem dX11_teach_108 : decode cX11_teach 108 = .ok (.ireturn, 1) := by decide +kernel
theorem dX11_teach_109 : decode cX11_teach 109 = .ok (.aload_n 0, 1) := by decide +kernel
theorem dX11_teach_110 : decode cX11_teach 110 = .ok (.getfield 26, 3) := by decide +kernel
theorem dX11_teach_113 : decode cX11_teach 113 = .ok (.invokevirtual 327, 3) := by decide +kernel
theorem dX11_teach_116 : decode cX11_teach 116 = .ok (.aload_n 0, 1) := by decide +kernel
theorem dX11_teach_117 : decode cX11_teach 117 = .ok (.getfield 26, 3) := by decide +kernel
theorem dX11_teach_120 : decode cX11_teach 120 = .ok (.iload_n 2, 1) := by decide +kernel
theorem dX11_teach_121 : decode cX11_teach 121 = .ok (.iconst 2, 1) := by decide +kernel
theorem dX11_teach_122 : decode cX11_teach 122 = .ok (.aload_n 0, 1) := by decide +kernel
theorem dX11_teach_123 : decode cX11_teach 123 = .ok (.getfield 26, 3) := by decide +kernel
theorem dX11_teach_126 : decode cX11_teach 126 = .ok (.iload_n 2, 1) := by decide +kernel
theorem dX11_teach_127 : decode cX11_teach 127 = .ok (.iconst 2, 1) := by decide +kernel
theorem dX11_teach_128 : decode cX11_teach 128 = .ok (.invokevirtual 172, 3) := by decide +kernel
theorem dX11_teach_131 : decode cX11_teach 131 = .ok (.iload 4, 2) := by decide +kernel
theorem dX11_teach_133 : decode cX11_teach 133 = .ok (.ior, 1) := by decide +kernel
theorem dX11_teach_134 : decode cX11_teach 134 = .ok (.invokevirtual 330, 3) := by decide +kernel
theorem dX11_teach_137 : decode cX11_teach 137 = .ok (.aload_n 0, 1) := by decide +kernel
theorem dX11_teach_138 : decode cX11_teach 138 = .ok (.iconst 0, 1) := by decide +kernel
theorem dX11_teach_139 : decode cX11_teach 139 = .ok (.invokevirtual 334, 3) := by decide +kernel
theorem dX11_teach_142 : decode cX11_teach 142 = .ok (.ireturn, 1) := by decide +kernel
abbrev rm_X11_teach : Room := { frames := 2, cells := 0, slots := 0, locals := 80 }
def f_X11_teach_29 (h : Mem) (v0 : Nat) : Option (Int32 × Mem) :=
  (f_X11_isAllowed h v0 1).bind fun q4 => retZ q4.1 (q4.1, q4.2)
set_option maxRecDepth 100000 in
set_option maxHeartbeats 4000000 in
theorem w_X11_teach_29 {G : GE} {X : CX} {l : Launch} (hX : Ok G X cX11_teach RX11) (hN : xn X = 6) {P : (Int32 × Mem) → Prop} (hr : Rt G X l yX11_teach (some .boolean) rm_X11_teach (pmI P)) (h : Mem) (v0 : Nat) (hy : OK (f_X11_teach_29 h v0) P) : AW G X 29 [(0, vR v0)] [] h 0 0 := by
  unfold f_X11_teach_29 at hy
  refine aw_aloadn (pc := 29) hX 0 rfl dX11_teach_29 ?_
  refine aw_iconst (pc := 30) hX 1 (by decide) dX11_teach_30 ?_
  refine aw_callV (pc := 31) (st := []) (a := v0) hX [vI 1] (con_X11_isAllowed _ G _ v0 1 hy.bd) mc_X11_isAllowed ml_X11_334 im_X11_isAllowed se_X11_isAllowed (by decide) hy.bd.kd rfl (rm_of hr (by decide)) (Nat.le_of_ble_eq_true rfl) rfl dX11_teach_31 (kmI rfl rfl (fun q4 hy => ?_))
  exact aw_zret (pc := 34) hX hr (by decide) (by decide) dX11_teach_34 hy.rz.1 ⟨_, rfl, hy.rz.2⟩
def f_X11_teach_103 (h : Mem) (v0 : Nat) : Option (Int32 × Mem) :=
  (f_X11_isAllowed h v0 5).bind fun q13 => retZ q13.1 (q13.1, q13.2)
set_option maxRecDepth 100000 in
set_option maxHeartbeats 4000000 in
theorem w_X11_teach_103 {G : GE} {X : CX} {l : Launch} (hX : Ok G X cX11_teach RX11) (hN : xn X = 6) {P : (Int32 × Mem) → Prop} (hr : Rt G X l yX11_teach (some .boolean) rm_X11_teach (pmI P)) (h : Mem) (v0 : Nat) (hy : OK (f_X11_teach_103 h v0) P) : AW G X 103 [(0, vR v0)] [] h 0 0 := by
  unfold f_X11_teach_103 at hy
  refine aw_aloadn (pc := 103) hX 0 rfl dX11_teach_103 ?_
  refine aw_iconst (pc := 104) hX 5 (by decide) dX11_teach_104 ?_
  refine aw_callV (pc := 105) (st := []) (a := v0) hX [vI 5] (con_X11_isAllowed _ G _ v0 5 hy.bd) mc_X11_isAllowed ml_X11_334 im_X11_isAllowed se_X11_isAllowed (by decide) hy.bd.kd rfl (rm_of hr (by decide)) (Nat.le_of_ble_eq_true rfl) rfl dX11_teach_105 (kmI rfl rfl (fun q13 hy => ?_))
  exact aw_zret (pc := 108) hX hr (by decide) (by decide) dX11_teach_108 hy.rz.1 ⟨_, rfl, hy.rz.2⟩
def f_X11_teach_66 (h : Mem) (v0 : Nat) (v1 : Int32) (v2 : Int32) (v4 : Int32) (s0 : Int32) : Option (Int32 × Mem) :=
  (if s0 = 0 then f_X11_teach_103 h v0 else (gR h v0 3 9).bind fun r14 => (f_X2_of h r14 v1 2).bind fun x15 => (if (x15 &&& v4) = 0 then f_X11_teach_103 h v0 else (gR h v0 3 9).bind fun r16 => (f_X2_of h r16 v2 2).bind fun x17 => (if (x17 &&& v4) = 0 then (gR h v0 3 9).bind fun r18 => (f_X2_keep h r18).bind fun h19 => (gR h19 v0 3 9).bind fun r20 => (gR h19 v0 3 9).bind fun r21 => (f_X2_of h19 r21 v2 2).bind fun x22 => (f_X2_set h19 r20 v2 2 (x22 ||| v4)).bind fun h23 => (f_X11_isAllowed h23 v0 0).bind fun q26 => retZ q26.1 (q26.1, q26.2) else f_X11_teach_103 h v0)))
set_option maxRecDepth 100000 in
set_option maxHeartbeats 4000000 in
theorem w_X11_teach_66 {G : GE} {X : CX} {l : Launch} (hX : Ok G X cX11_teach RX11) (hN : xn X = 6) {P : (Int32 × Mem) → Prop} (hr : Rt G X l yX11_teach (some .boolean) rm_X11_teach (pmI P)) (h : Mem) (v0 : Nat) (v1 : Int32) (v2 : Int32) (v4 : Int32) (s0 : Int32) (hy : OK (f_X11_teach_66 h v0 v1 v2 v4 s0) P) : AW G X 66 [(0, vR v0), (1, vI v1), (2, vI v2), (4, vI v4)] [vI s0] h 0 0 := by
  unfold f_X11_teach_66 at hy
  refine aw_istore (pc := 66) hX [(5, vI s0), (0, vR v0), (1, vI v1), (2, vI v2), (4, vI v4)] rfl (lt_n hN (by decide)) dX11_teach_66 ?_
  refine aw_iload (pc := 68) hX 0 rfl dX11_teach_68 ?_
  refine aw_if_eq (pc := 70) hX 103 (by decide) dX11_teach_70 (fun hc9 => ?_) (fun hc9 => ?_)
  · have hy := hy.t hc9
    refine AW.sub [1] rfl ?_
    exact w_X11_teach_103 hX hN hr h v0 hy
  · have hy := hy.f hc9
    refine aw_aloadn (pc := 73) hX 1 rfl dX11_teach_73 ?_
    refine aw_gR (pc := 74) hX hy fl_X11_26 (fun _ _ => rfl) dX11_teach_74 (fun r14 hy => ?_)
    refine aw_iloadn (pc := 77) hX 2 rfl dX11_teach_77 ?_
    refine aw_iconst (pc := 78) hX 2 (by decide) dX11_teach_78 ?_
    refine aw_callV (pc := 79) (st := []) (a := r14) hX [vI v1, vI 2] (con_X2_of _ G _ r14 v1 2 hy.bd) mc_X2_of ml_X11_172 im_X2_of se_X2_of (by decide) hy.bd.kd rfl (rm_of hr (by decide)) (Nat.le_of_ble_eq_true rfl) rfl dX11_teach_79 (kpI rfl rfl (fun x15 hy => ?_))
    refine aw_iload (pc := 82) hX 4 rfl dX11_teach_82 ?_
    refine aw_iand (pc := 84) hX dX11_teach_84 ?_
    refine aw_if_eq (pc := 85) hX 103 (by decide) dX11_teach_85 (fun hc9 => ?_) (fun hc9 => ?_)
    · have hy := hy.t hc9
      refine AW.sub [1] rfl ?_
      exact w_X11_teach_103 hX hN hr h v0 hy
    · have hy := hy.f hc9
      refine aw_aloadn (pc := 88) hX 1 rfl dX11_teach_88 ?_
      refine aw_gR (pc := 89) hX hy fl_X11_26 (fun _ _ => rfl) dX11_teach_89 (fun r16 hy => ?_)
      refine aw_iloadn (pc := 92) hX 3 rfl dX11_teach_92 ?_
      refine aw_iconst (pc := 93) hX 2 (by decide) dX11_teach_93 ?_
      refine aw_callV (pc := 94) (st := []) (a := r16) hX [vI v2, vI 2] (con_X2_of _ G _ r16 v2 2 hy.bd) mc_X2_of ml_X11_172 im_X2_of se_X2_of (by decide) hy.bd.kd rfl (rm_of hr (by decide)) (Nat.le_of_ble_eq_true rfl) rfl dX11_teach_94 (kpI rfl rfl (fun x17 hy => ?_))
      refine aw_iload (pc := 97) hX 4 rfl dX11_teach_97 ?_
      refine aw_iand (pc := 99) hX dX11_teach_99 ?_
      refine aw_if_eq (pc := 100) hX 109 (by decide) dX11_teach_100 (fun hc9 => ?_) (fun hc9 => ?_)
      · have hy := hy.t hc9
        refine aw_aloadn (pc := 109) hX 1 rfl dX11_teach_109 ?_
        refine aw_gR (pc := 110) hX hy fl_X11_26 (fun _ _ => rfl) dX11_teach_110 (fun r18 hy => ?_)
        refine aw_callV (pc := 113) (st := []) (a := r18) hX [] (con_X2_keep _ G _ r18 hy.bd) mc_X2_keep ml_X11_327 im_X2_keep se_X2_keep (by decide) hy.bd.kd rfl (rm_of hr (by decide)) (Nat.le_of_ble_eq_true rfl) rfl dX11_teach_113 (kmV rfl rfl (fun h19 hy => ?_))
        refine aw_aloadn (pc := 116) hX 1 rfl dX11_teach_116 ?_
        refine aw_gR (pc := 117) hX hy fl_X11_26 (fun _ _ => rfl) dX11_teach_117 (fun r20 hy => ?_)
        refine aw_iloadn (pc := 120) hX 3 rfl dX11_teach_120 ?_
        refine aw_iconst (pc := 121) hX 2 (by decide) dX11_teach_121 ?_
        refine aw_aloadn (pc := 122) hX 1 rfl dX11_teach_122 ?_
        refine aw_gR (pc := 123) hX hy fl_X11_26 (fun _ _ => rfl) dX11_teach_123 (fun r21 hy => ?_)
        refine aw_iloadn (pc := 126) hX 3 rfl dX11_teach_126 ?_
        refine aw_iconst (pc := 127) hX 2 (by decide) dX11_teach_127 ?_
        refine aw_callV (pc := 128) (st := [vI 2, vI v2, vR r20]) (a := r21) hX [vI v2, vI 2] (con_X2_of _ G _ r21 v2 2 hy.bd) mc_X2_of ml_X11_172 im_X2_of se_X2_of (by decide) hy.bd.kd rfl (rm_of hr (by decide)) (Nat.le_of_ble_eq_true rfl) rfl dX11_teach_128 (kpI rfl rfl (fun x22 hy => ?_))
        refine aw_iload (pc := 131) hX 4 rfl dX11_teach_131 ?_
        refine aw_ior (pc := 133) hX dX11_teach_133 ?_
        refine aw_callV (pc := 134) (st := []) (a := r20) hX [vI v2, vI 2, vI (x22 ||| v4)] (con_X2_set _ G _ r20 v2 2 (x22 ||| v4) hy.bd) mc_X2_set ml_X11_330 im_X2_set se_X2_set (by decide) hy.bd.kd rfl (rm_of hr (by decide)) (Nat.le_of_ble_eq_true rfl) rfl dX11_teach_134 (kmV rfl rfl (fun h23 hy => ?_))
        refine aw_aloadn (pc := 137) hX 1 rfl dX11_teach_137 ?_
        refine aw_iconst (pc := 138) hX 0 (by decide) dX11_teach_138 ?_
        refine aw_callV (pc := 139) (st := []) (a := v0) hX [vI 0] (con_X11_isAllowed _ G _ v0 0 hy.bd) mc_X11_isAllowed ml_X11_334 im_X11_isAllowed se_X11_isAllowed (by decide) hy.bd.kd rfl (rm_of hr (by decide)) (Nat.le_of_ble_eq_true rfl) rfl dX11_teach_139 (kmI rfl rfl (fun q26 hy => ?_))
        exact aw_zret (pc := 142) hX hr (by decide) (by decide) dX11_teach_142 hy.rz.1 ⟨_, rfl, hy.rz.2⟩
      · have hy := hy.f hc9
        refine AW.sub [1] rfl ?_
        exact w_X11_teach_103 hX hN hr h v0 hy
def f_X11_teach (h : Mem) (v0 : Nat) (v1 : Int32) (v2 : Int32) (v3 : Int32) : Option (Int32 × Mem) :=
  (ck h v0 9).bind fun _ => (f_X11_isPerson h v0 v1).bind fun x1 => (if x1 = 0 then f_X11_teach_29 h v0 else (f_X11_isPerson h v0 v2).bind fun x5 => (if x5 = 0 then f_X11_teach_29 h v0 else (if v1 = v2 then f_X11_teach_29 h v0 else (f_X11_isTune h v0 v3).bind fun x6 => (if x6 = 0 then f_X11_teach_29 h v0 else (gR h v0 3 9).bind fun r7 => (f_X2_of h r7 v1 0).bind fun x8 => (gR h v0 3 9).bind fun r9 => (f_X2_of h r9 v2 0).bind fun x10 => (if x8 = x10 then f_X11_teach_66 h v0 v1 v2 ((1 : Int32) <<< (v3 &&& 31)) 1 else f_X11_teach_66 h v0 v1 v2 ((1 : Int32) <<< (v3 &&& 31)) 0)))))
set_option maxRecDepth 100000 in
set_option maxHeartbeats 4000000 in
theorem w_X11_teach {G : GE} {X : CX} {l : Launch} (hX : Ok G X cX11_teach RX11) (hN : xn X = 6) {P : (Int32 × Mem) → Prop} (hr : Rt G X l yX11_teach (some .boolean) rm_X11_teach (pmI P)) (h : Mem) (v0 : Nat) (v1 : Int32) (v2 : Int32) (v3 : Int32) (hy : OK (f_X11_teach h v0 v1 v2 v3) P) : AW G X 0 [(0, vR v0), (1, vI v1), (2, vI v2), (3, vI v3)] [] h 0 0 := by
  unfold f_X11_teach at hy
  have hkd := hy.kd
  have hy := hy.kb
  refine aw_aloadn (pc := 0) hX 0 rfl dX11_teach_0 ?_
  refine aw_iloadn (pc := 1) hX 1 rfl dX11_teach_1 ?_
  refine aw_callV (pc := 2) (st := []) (a := v0) hX [vI v1] (con_X11_isPerson _ G _ v0 v1 hy.bd) mc_X11_isPerson ml_X11_169 im_X11_isPerson se_X11_isPerson (by decide) hy.bd.kd rfl (rm_of hr (by decide)) (Nat.le_of_ble_eq_true rfl) rfl dX11_teach_2 (kpI rfl rfl (fun x1 hy => ?_))
  refine aw_if_eq (pc := 5) hX 29 (by decide) dX11_teach_5 (fun hc9 => ?_) (fun hc9 => ?_)
  · have hy := hy.t hc9
    refine AW.sub [0] rfl ?_
    exact w_X11_teach_29 hX hN hr h v0 hy
  · have hy := hy.f hc9
    refine aw_aloadn (pc := 8) hX 0 rfl dX11_teach_8 ?_
    refine aw_iloadn (pc := 9) hX 2 rfl dX11_teach_9 ?_
    refine aw_callV (pc := 10) (st := []) (a := v0) hX [vI v2] (con_X11_isPerson _ G _ v0 v2 hy.bd) mc_X11_isPerson ml_X11_169 im_X11_isPerson se_X11_isPerson (by decide) hy.bd.kd rfl (rm_of hr (by decide)) (Nat.le_of_ble_eq_true rfl) rfl dX11_teach_10 (kpI rfl rfl (fun x5 hy => ?_))
    refine aw_if_eq (pc := 13) hX 29 (by decide) dX11_teach_13 (fun hc9 => ?_) (fun hc9 => ?_)
    · have hy := hy.t hc9
      refine AW.sub [0] rfl ?_
      exact w_X11_teach_29 hX hN hr h v0 hy
    · have hy := hy.f hc9
      refine aw_iloadn (pc := 16) hX 1 rfl dX11_teach_16 ?_
      refine aw_iloadn (pc := 17) hX 2 rfl dX11_teach_17 ?_
      refine aw_ic_eq (pc := 18) hX 29 (by decide) dX11_teach_18 (fun hc9 => ?_) (fun hc9 => ?_)
      · have hy := hy.t hc9
        refine AW.sub [0] rfl ?_
        exact w_X11_teach_29 hX hN hr h v0 hy
      · have hy := hy.f hc9
        refine aw_aloadn (pc := 21) hX 0 rfl dX11_teach_21 ?_
        refine aw_iloadn (pc := 22) hX 3 rfl dX11_teach_22 ?_
        refine aw_callV (pc := 23) (st := []) (a := v0) hX [vI v3] (con_X11_isTune _ G _ v0 v3 hy.bd) mc_X11_isTune ml_X11_129 im_X11_isTune se_X11_isTune (by decide) hy.bd.kd rfl (rm_of hr (by decide)) (Nat.le_of_ble_eq_true rfl) rfl dX11_teach_23 (kpI rfl rfl (fun x6 hy => ?_))
        refine aw_if_ne (pc := 26) hX 35 (by decide) dX11_teach_26 (fun hc9 => ?_) (fun hc9 => ?_)
        · have hy := hy.f hc9
          refine aw_iconst (pc := 35) hX 1 (by decide) dX11_teach_35 ?_
          refine aw_iloadn (pc := 36) hX 3 rfl dX11_teach_36 ?_
          refine aw_ishl (pc := 37) hX dX11_teach_37 ?_
          refine aw_istore (pc := 38) hX [(4, vI ((1 : Int32) <<< (v3 &&& 31))), (0, vR v0), (1, vI v1), (2, vI v2), (3, vI v3)] rfl (lt_n hN (by decide)) dX11_teach_38 ?_
          refine aw_aloadn (pc := 40) hX 1 rfl dX11_teach_40 ?_
          refine aw_gR (pc := 41) hX hy fl_X11_26 (fun _ _ => rfl) dX11_teach_41 (fun r7 hy => ?_)
          refine aw_iloadn (pc := 44) hX 2 rfl dX11_teach_44 ?_
          refine aw_iconst (pc := 45) hX 0 (by decide) dX11_teach_45 ?_
          refine aw_callV (pc := 46) (st := []) (a := r7) hX [vI v1, vI 0] (con_X2_of _ G _ r7 v1 0 hy.bd) mc_X2_of ml_X11_172 im_X2_of se_X2_of (by decide) hy.bd.kd rfl (rm_of hr (by decide)) (Nat.le_of_ble_eq_true rfl) rfl dX11_teach_46 (kpI rfl rfl (fun x8 hy => ?_))
          refine aw_aloadn (pc := 49) hX 1 rfl dX11_teach_49 ?_
          refine aw_gR (pc := 50) hX hy fl_X11_26 (fun _ _ => rfl) dX11_teach_50 (fun r9 hy => ?_)
          refine aw_iloadn (pc := 53) hX 3 rfl dX11_teach_53 ?_
          refine aw_iconst (pc := 54) hX 0 (by decide) dX11_teach_54 ?_
          refine aw_callV (pc := 55) (st := [vI x8]) (a := r9) hX [vI v2, vI 0] (con_X2_of _ G _ r9 v2 0 hy.bd) mc_X2_of ml_X11_172 im_X2_of se_X2_of (by decide) hy.bd.kd rfl (rm_of hr (by decide)) (Nat.le_of_ble_eq_true rfl) rfl dX11_teach_55 (kpI rfl rfl (fun x10 hy => ?_))
          refine aw_ic_ne (pc := 58) hX 65 (by decide) dX11_teach_58 (fun hc9 => ?_) (fun hc9 => ?_)
          · have hy := hy.f hc9
            refine aw_iconst (pc := 65) hX 0 (by decide) dX11_teach_65 ?_
            refine AW.sub [1, 2, 3, 0] rfl ?_
            exact w_X11_teach_66 hX hN hr h v0 v1 v2 ((1 : Int32) <<< (v3 &&& 31)) 0 hy
          · have hy := hy.t hc9
            refine aw_iconst (pc := 61) hX 1 (by decide) dX11_teach_61 ?_
            refine aw_goto (pc := 62) hX 66 (by decide) dX11_teach_62 ?_
            refine AW.sub [1, 2, 3, 0] rfl ?_
            exact w_X11_teach_66 hX hN hr h v0 v1 v2 ((1 : Int32) <<< (v3 &&& 31)) 1 hy
        · have hy := hy.t hc9
          refine AW.sub [0] rfl ?_
          exact w_X11_teach_29 hX hN hr h v0 hy
theorem con_X11_teach (l : Launch) (G : GE) (h : Mem) (v0 : Nat) (v1 : Int32) (v2 : Int32) (v3 : Int32) {P : (Int32 × Mem) → Prop} (hy : OK (f_X11_teach h v0 v1 v2 v3) P) : Con l G yX11_teach cX11_teach 6 (some .boolean) rm_X11_teach [vR v0, vI v1, vI v2, vI v3] h (pmI P) := Con.of (by decide) (Nat.le_of_ble_eq_true rfl) (fun X hX hr hN => w_X11_teach hX hN hr h v0 v1 v2 v3 hy)
/-! X11_rain -/
theorem dX11_rain_0 : decode cX11_rain 0 = .ok (.aload_n 0, 1) := by decide +kernel
theorem dX11_rain_1 : decode cX11_rain 1 = .ok (.invokevirtual 193, 3) := by decide +kernel
theorem dX11_rain_4 : decode cX11_rain 4 = .ok (.ifCond .ne 9, 3) := by decide +kernel
theorem dX11_rain_7 : decode cX11_rain 7 = .ok (.aload_n 0, 1) := by decide +kernel
theorem dX11_rain_8 : decode cX11_rain 8 = .ok (.iconst 1, 1) := by decide +kernel
theorem dX11_rain_9 : decode cX11_rain 9 = .ok (.invokevirtual 334, 3) := by decide +kernel
theorem dX11_rain_12 : decode cX11_rain 12 = .ok (.ireturn, 1) := by decide +kernel
theorem dX11_rain_13 : decode cX11_rain 13 = .ok (.aload_n 0, 1) := by decide +kernel
theorem dX11_rain_14 : decode cX11_rain 14 = .ok (.getfield 26, 3) := by decide +kernel
theorem dX11_rain_17 : decode cX11_rain 17 = .ok (.invokevirtual 135, 3) := by decide +kernel
theorem dX11_rain_20 : decode cX11_rain 20 = .ok (.iload_n 1, 1) := by decide +kernel
theorem dX11_rain_21 : decode cX11_rain 21 = .ok (.if_icmp .ne 9, 3) := by decide +kernel
theorem dX11_rain_24 : decode cX11_rain 24 = .ok (.aload_n 0, 1) := by decide +kernel
theorem dX11_rain_25 : decode cX11_rain 25 = .ok (.iconst 5, 1) := by decide +kernel
theorem dX11_rain_26 : decode cX11_rain 26 = .ok (.invokevirtual 334, 3) := by decide +kernel
theorem dX11_rain_29 : decode cX11_rain 29 = .ok (.ireturn, 1) := by decide +kernel
theorem dX11_rain_30 : decode cX11_rain 30 = .ok (.aload_n 0, 1) := by decide +kernel
theorem dX11_rain_31 : decode cX11_rain 31 = .ok (.getfield 26, 3) := by decide +kernel
theorem dX11_rain_34 : decode cX11_rain 34 = .ok (.invokevirtual 327, 3) := by decide +kernel
theorem dX11_rain_37 : decode cX11_rain 37 = .ok (.aload_n 0, 1) := by decide +kernel
theorem dX11_rain_38 : decode cX11_rain 38 = .ok (.getfield 26, 3) := by decide +kernel
theorem dX11_rain_41 : decode cX11_rain 41 = .ok (.iload_n 1, 1) := by decide +kernel
theorem dX11_rain_42 : decode cX11_rain 42 = .ok (.invokevirtual 337, 3) := by decide +kernel
theorem dX11_rain_45 : decode cX11_rain 45 = .ok (.aload_n 0, 1) := by decide +kernel
theorem dX11_rain_46 : decode cX11_rain 46 = .ok (.iconst 0, 1) := by decide +kernel
theorem dX11_rain_47 : decode cX11_rain 47 = .ok (.invokevirtual 334, 3) := by decide +kernel
theorem dX11_rain_50 : decode cX11_rain 50 = .ok (.ireturn, 1) := by decide +kernel
abbrev rm_X11_rain : Room := { frames := 2, cells := 0, slots := 0, locals := 80 }
def f_X11_rain (h : Mem) (v0 : Nat) (v1 : Int32) : Option (Int32 × Mem) :=
  (ck h v0 9).bind fun _ => (f_X11_isTold h v0).bind fun x1 => (if x1 = 0 then (f_X11_isAllowed h v0 1).bind fun q16 => retZ q16.1 (q16.1, q16.2) else (gR h v0 3 9).bind fun r2 => (f_X2_rains h r2).bind fun x3 => (if x3 = v1 then (f_X11_isAllowed h v0 5).bind fun q13 => retZ q13.1 (q13.1, q13.2) else (gR h v0 3 9).bind fun r4 => (f_X2_keep h r4).bind fun h5 => (gR h5 v0 3 9).bind fun r6 => (f_X2_setRain h5 r6 v1).bind fun h7 => (f_X11_isAllowed h7 v0 0).bind fun q10 => retZ q10.1 (q10.1, q10.2)))
set_option maxRecDepth 100000 in
set_option maxHeartbeats 4000000 in
theorem w_X11_rain {G : GE} {X : CX} {l : Launch} (hX : Ok G X cX11_rain RX11) (hN : xn X = 2) {P : (Int32 × Mem) → Prop} (hr : Rt G X l yX11_rain (some .boolean) rm_X11_rain (pmI P)) (h : Mem) (v0 : Nat) (v1 : Int32) (hy : OK (f_X11_rain h v0 v1) P) : AW G X 0 [(0, vR v0), (1, vI v1)] [] h 0 0 := by
  unfold f_X11_rain at hy
  have hkd := hy.kd
  have hy := hy.kb
  refine aw_aloadn (pc := 0) hX 0 rfl dX11_rain_0 ?_
  refine aw_callV (pc := 1) (st := []) (a := v0) hX [] (con_X11_isTold _ G _ v0 hy.bd) mc_X11_isTold ml_X11_193 im_X11_isTold se_X11_isTold (by decide) hy.bd.kd rfl (rm_of hr (by decide)) (Nat.le_of_ble_eq_true rfl) rfl dX11_rain_1 (kpI rfl rfl (fun x1 hy => ?_))
  refine aw_if_ne (pc := 4) hX 13 (by decide) dX11_rain_4 (fun hc9 => ?_) (fun hc9 => ?_)
  · have hy := hy.f hc9
    refine aw_aloadn (pc := 13) hX 0 rfl dX11_rain_13 ?_
    refine aw_gR (pc := 14) hX hy fl_X11_26 (fun _ _ => rfl) dX11_rain_14 (fun r2 hy => ?_)
    refine aw_callV (pc := 17) (st := []) (a := r2) hX [] (con_X2_rains _ G _ r2 hy.bd) mc_X2_rains ml_X11_135 im_X2_rains se_X2_rains (by decide) hy.bd.kd rfl (rm_of hr (by decide)) (Nat.le_of_ble_eq_true rfl) rfl dX11_rain_17 (kpI rfl rfl (fun x3 hy => ?_))
    refine aw_iloadn (pc := 20) hX 1 rfl dX11_rain_20 ?_
    refine aw_ic_ne (pc := 21) hX 30 (by decide) dX11_rain_21 (fun hc9 => ?_) (fun hc9 => ?_)
    · have hy := hy.f hc9
      refine aw_aloadn (pc := 30) hX 0 rfl dX11_rain_30 ?_
      refine aw_gR (pc := 31) hX hy fl_X11_26 (fun _ _ => rfl) dX11_rain_31 (fun r4 hy => ?_)
      refine aw_callV (pc := 34) (st := []) (a := r4) hX [] (con_X2_keep _ G _ r4 hy.bd) mc_X2_keep ml_X11_327 im_X2_keep se_X2_keep (by decide) hy.bd.kd rfl (rm_of hr (by decide)) (Nat.le_of_ble_eq_true rfl) rfl dX11_rain_34 (kmV rfl rfl (fun h5 hy => ?_))
      refine aw_aloadn (pc := 37) hX 0 rfl dX11_rain_37 ?_
      refine aw_gR (pc := 38) hX hy fl_X11_26 (fun _ _ => rfl) dX11_rain_38 (fun r6 hy => ?_)
      refine aw_iloadn (pc := 41) hX 1 rfl dX11_rain_41 ?_
      refine aw_callV (pc := 42) (st := []) (a := r6) hX [vI v1] (con_X2_setRain _ G _ r6 v1 hy.bd) mc_X2_setRain ml_X11_337 im_X2_setRain se_X2_setRain (by decide) hy.bd.kd rfl (rm_of hr (by decide)) (Nat.le_of_ble_eq_true rfl) rfl dX11_rain_42 (kmV rfl rfl (fun h7 hy => ?_))
      refine aw_aloadn (pc := 45) hX 0 rfl dX11_rain_45 ?_
      refine aw_iconst (pc := 46) hX 0 (by decide) dX11_rain_46 ?_
      refine aw_callV (pc := 47) (st := []) (a := v0) hX [vI 0] (con_X11_isAllowed _ G _ v0 0 hy.bd) mc_X11_isAllowed ml_X11_334 im_X11_isAllowed se_X11_isAllowed (by decide) hy.bd.kd rfl (rm_of hr (by decide)) (Nat.le_of_ble_eq_true rfl) rfl dX11_rain_47 (kmI rfl rfl (fun q10 hy => ?_))
      exact aw_zret (pc := 50) hX hr (by decide) (by decide) dX11_rain_50 hy.rz.1 ⟨_, rfl, hy.rz.2⟩
    · have hy := hy.t hc9
      refine aw_aloadn (pc := 24) hX 0 rfl dX11_rain_24 ?_
      refine aw_iconst (pc := 25) hX 5 (by decide) dX11_rain_25 ?_
      refine aw_callV (pc := 26) (st := []) (a := v0) hX [vI 5] (con_X11_isAllowed _ G _ v0 5 hy.bd) mc_X11_isAllowed ml_X11_334 im_X11_isAllowed se_X11_isAllowed (by decide) hy.bd.kd rfl (rm_of hr (by decide)) (Nat.le_of_ble_eq_true rfl) rfl dX11_rain_26 (kmI rfl rfl (fun q13 hy => ?_))
      exact aw_zret (pc := 29) hX hr (by decide) (by decide) dX11_rain_29 hy.rz.1 ⟨_, rfl, hy.rz.2⟩
  · have hy := hy.t hc9
    refine aw_aloadn (pc := 7) hX 0 rfl dX11_rain_7 ?_
    refine aw_iconst (pc := 8) hX 1 (by decide) dX11_rain_8 ?_
    refine aw_callV (pc := 9) (st := []) (a := v0) hX [vI 1] (con_X11_isAllowed _ G _ v0 1 hy.bd) mc_X11_isAllowed ml_X11_334 im_X11_isAllowed se_X11_isAllowed (by decide) hy.bd.kd rfl (rm_of hr (by decide)) (Nat.le_of_ble_eq_true rfl) rfl dX11_rain_9 (kmI rfl rfl (fun q16 hy => ?_))
    exact aw_zret (pc := 12) hX hr (by decide) (by decide) dX11_rain_12 hy.rz.1 ⟨_, rfl, hy.rz.2⟩
theorem con_X11_rain (l : Launch) (G : GE) (h : Mem) (v0 : Nat) (v1 : Int32) {P : (Int32 × Mem) → Prop} (hy : OK (f_X11_rain h v0 v1) P) : Con l G yX11_rain cX11_rain 2 (some .boolean) rm_X11_rain [vR v0, vI v1] h (pmI P) := Con.of (by decide) (Nat.le_of_ble_eq_true rfl) (fun X hX hr hN => w_X11_rain hX hN hr h v0 v1 hy)
/-! X11_undo -/
theorem dX11_undo_0 : decode cX11_undo 0 = .ok (.aload_n 0, 1) := by decide +kernel
theorem dX11_undo_1 : decode cX11_undo 1 = .ok (.aload_n 0, 1) := by decide +kernel
theorem dX11_undo_2 : decode cX11_undo 2 = .ok (.getfield 26, 3) := by decide +kernel
theorem dX11_undo_5 : decode cX11_undo 5 = .ok (.invokevirtual 341, 3) := by decide +kernel
theorem dX11_undo_8 : decode cX11_undo 8 = .ok (.ifCond .eq 7, 3) := by decide +kernel
theorem dX11_undo_11 : decode cX11_undo 11 = .ok (.iconst 0, 1) := by decide +kernel
theorem dX11_undo_12 : decode cX11_undo 12 = .ok (.goto 5, 3) := by decide +kernel
theorem dX11_undo_15 : decode cX11_undo 15 = .ok (.bipush 6, 2) := by decide +kernel
theorem dX11_undo_17 : decode cX11_undo 17 = .ok (.invokevirtual 334, 3) := by decide +kernel
theorem dX11_undo_20 : decode cX11_undo 20 = .ok (.ireturn, 1) := by decide +kernel
abbrev rm_X11_undo : Room := { frames := 2, cells := 0, slots := 0, locals := 80 }
def f_X11_undo_17 (h : Mem) (s0 : Nat) (s1 : Int32) : Option (Int32 × Mem) :=
  (f_X11_isAllowed h s0 s1).bind fun q7 => retZ q7.1 (q7.1, q7.2)
set_option maxRecDepth 100000 in
set_option maxHeartbeats 4000000 in
theorem w_X11_undo_17 {G : GE} {X : CX} {l : Launch} (hX : Ok G X cX11_undo RX11) (hN : xn X = 1) {P : (Int32 × Mem) → Prop} (hr : Rt G X l yX11_undo (some .boolean) rm_X11_undo (pmI P)) (h : Mem) (s0 : Nat) (s1 : Int32) (hy : OK (f_X11_undo_17 h s0 s1) P) : AW G X 17 [] [vI s1, vR s0] h 0 0 := by
  unfold f_X11_undo_17 at hy
  refine aw_callV (pc := 17) (st := []) (a := s0) hX [vI s1] (con_X11_isAllowed _ G _ s0 s1 hy.bd) mc_X11_isAllowed ml_X11_334 im_X11_isAllowed se_X11_isAllowed (by decide) hy.bd.kd rfl (rm_of hr (by decide)) (Nat.le_of_ble_eq_true rfl) rfl dX11_undo_17 (kmI rfl rfl (fun q7 hy => ?_))
  exact aw_zret (pc := 20) hX hr (by decide) (by decide) dX11_undo_20 hy.rz.1 ⟨_, rfl, hy.rz.2⟩
def f_X11_undo (h : Mem) (v0 : Nat) : Option (Int32 × Mem) :=
  (ck h v0 9).bind fun _ => (gR h v0 3 9).bind fun r1 => (f_X2_takeBack h r1).bind fun q4 => (if q4.1 = 0 then f_X11_undo_17 q4.2 v0 6 else f_X11_undo_17 q4.2 v0 0)
set_option maxRecDepth 100000 in
set_option maxHeartbeats 4000000 in
theorem w_X11_undo {G : GE} {X : CX} {l : Launch} (hX : Ok G X cX11_undo RX11) (hN : xn X = 1) {P : (Int32 × Mem) → Prop} (hr : Rt G X l yX11_undo (some .boolean) rm_X11_undo (pmI P)) (h : Mem) (v0 : Nat) (hy : OK (f_X11_undo h v0) P) : AW G X 0 [(0, vR v0)] [] h 0 0 := by
  unfold f_X11_undo at hy
  have hkd := hy.kd
  have hy := hy.kb
  refine aw_aloadn (pc := 0) hX 0 rfl dX11_undo_0 ?_
  refine aw_aloadn (pc := 1) hX 0 rfl dX11_undo_1 ?_
  refine aw_gR (pc := 2) hX hy fl_X11_26 (fun _ _ => rfl) dX11_undo_2 (fun r1 hy => ?_)
  refine aw_callV (pc := 5) (st := [vR v0]) (a := r1) hX [] (con_X2_takeBack _ G _ r1 hy.bd) mc_X2_takeBack ml_X11_341 im_X2_takeBack se_X2_takeBack (by decide) hy.bd.kd rfl (rm_of hr (by decide)) (Nat.le_of_ble_eq_true rfl) rfl dX11_undo_5 (kmI rfl rfl (fun q4 hy => ?_))
  refine aw_if_eq (pc := 8) hX 15 (by decide) dX11_undo_8 (fun hc9 => ?_) (fun hc9 => ?_)
  · have hy := hy.t hc9
    refine aw_bipush (pc := 15) hX 6 (by decide) dX11_undo_15 ?_
    refine AW.sub [] rfl ?_
    exact w_X11_undo_17 hX hN hr q4.2 v0 6 hy
  · have hy := hy.f hc9
    refine aw_iconst (pc := 11) hX 0 (by decide) dX11_undo_11 ?_
    refine aw_goto (pc := 12) hX 17 (by decide) dX11_undo_12 ?_
    refine AW.sub [] rfl ?_
    exact w_X11_undo_17 hX hN hr q4.2 v0 0 hy
theorem con_X11_undo (l : Launch) (G : GE) (h : Mem) (v0 : Nat) {P : (Int32 × Mem) → Prop} (hy : OK (f_X11_undo h v0) P) : Con l G yX11_undo cX11_undo 1 (some .boolean) rm_X11_undo [vR v0] h (pmI P) := Con.of (by decide) (Nat.le_of_ble_eq_true rfl) (fun X hX hr hN => w_X11_undo hX hN hr h v0 hy)
/-! X11_mark -/
theorem dX11_mark_0 : decode cX11_mark 0 = .ok (.aload_n 0, 1) := by decide +kernel
theorem dX11_mark_1 : decode cX11_mark 1 = .ok (.invokevirtual 193, 3) := by decide +kernel
theorem dX11_mark_4 : decode cX11_mark 4 = .ok (.ifCond .ne 9, 3) := by decide +kernel
theorem dX11_mark_7 : decode cX11_mark 7 = .ok (.aload_n 0, 1) := by decide +kernel
theorem dX11_mark_8 : decode cX11_mark 8 = .ok (.iconst 1, 1) := by decide +kernel
theorem dX11_mark_9 : decode cX11_mark 9 = .ok (.invokevirtual 84, 3) := by decide +kernel
theorem dX11_mark_12 : decode cX11_mark 12 = .ok (.ireturn, 1) := by decide +kernel
theorem dX11_mark_13 : decode cX11_mark 13 = .ok (.aload_n 0, 1) := by decide +kernel
theorem dX11_mark_14 : decode cX11_mark 14 = .ok (.getfield 26, 3) := by decide +kernel
theorem dX11_mark_17 : decode cX11_mark 17 = .ok (.invokevirtual 344, 3) := by decide +kernel
theorem dX11_mark_20 : decode cX11_mark 20 = .ok (.istore_n 1, 1) := by decide +kernel
theorem dX11_mark_21 : decode cX11_mark 21 = .ok (.iload_n 1, 1) := by decide +kernel
theorem dX11_mark_22 : decode cX11_mark 22 = .ok (.ifCond .ge 11, 3) := by decide +kernel
theorem dX11_mark_25 : decode cX11_mark 25 = .ok (.aload_n 0, 1) := by decide +kernel
theorem dX11_mark_26 : decode cX11_mark 26 = .ok (.iconst 3, 1) := by decide +kernel
theorem dX11_mark_27 : decode cX11_mark 27 = .ok (.invokevirtual 84, 3) := by decide +kernel
theorem dX11_mark_30 : decode cX11_mark 30 = .ok (.goto 8, 3) := by decide +kernel
theorem dX11_mark_33 : decode cX11_mark 33 = .ok (.aload_n 0, 1) := by decide +kernel
theorem dX11_mark_34 : decode cX11_mark 34 = .ok (.iload_n 1, 1) := by decide +kernel
theorem dX11_mark_35 : decode cX11_mark 35 = .ok (.invokevirtual 117, 3) := by decide +kernel
theorem dX11_mark_38 : decode cX11_mark 38 = .ok (.ireturn, 1) := by decide +kernel
abbrev rm_X11_mark : Room := { frames := 2, cells := 0, slots := 0, locals := 80 }
def f_X11_mark (h : Mem) (v0 : Nat) : Option (Int32 × Mem) :=
  (ck h v0 9).bind fun _ => (f_X11_isTold h v0).bind fun x1 => (if x1 = 0 then (f_X11_refuse h v0 1).bind fun q14 => some (q14.1, q14.2) else (gR h v0 3 9).bind fun r2 => (f_X2_addMark h r2).bind fun q5 => (if 0 ≤ q5.1 then (f_X11_answer q5.2 v0 q5.1).bind fun q8 => some (q8.1, q8.2) else (f_X11_refuse q5.2 v0 3).bind fun q11 => some (q11.1, q11.2)))
set_option maxRecDepth 100000 in
set_option maxHeartbeats 4000000 in
theorem w_X11_mark {G : GE} {X : CX} {l : Launch} (hX : Ok G X cX11_mark RX11) (hN : xn X = 2) {P : (Int32 × Mem) → Prop} (hr : Rt G X l yX11_mark (some .int) rm_X11_mark (pmI P)) (h : Mem) (v0 : Nat) (hy : OK (f_X11_mark h v0) P) : AW G X 0 [(0, vR v0)] [] h 0 0 := by
  unfold f_X11_mark at hy
  have hkd := hy.kd
  have hy := hy.kb
  refine aw_aloadn (pc := 0) hX 0 rfl dX11_mark_0 ?_
  refine aw_callV (pc := 1) (st := []) (a := v0) hX [] (con_X11_isTold _ G _ v0 hy.bd) mc_X11_isTold ml_X11_193 im_X11_isTold se_X11_isTold (by decide) hy.bd.kd rfl (rm_of hr (by decide)) (Nat.le_of_ble_eq_true rfl) rfl dX11_mark_1 (kpI rfl rfl (fun x1 hy => ?_))
  refine aw_if_ne (pc := 4) hX 13 (by decide) dX11_mark_4 (fun hc9 => ?_) (fun hc9 => ?_)
  · have hy := hy.f hc9
    refine aw_aloadn (pc := 13) hX 0 rfl dX11_mark_13 ?_
    refine aw_gR (pc := 14) hX hy fl_X11_26 (fun _ _ => rfl) dX11_mark_14 (fun r2 hy => ?_)
    refine aw_callV (pc := 17) (st := []) (a := r2) hX [] (con_X2_addMark _ G _ r2 hy.bd) mc_X2_addMark ml_X11_344 im_X2_addMark se_X2_addMark (by decide) hy.bd.kd rfl (rm_of hr (by decide)) (Nat.le_of_ble_eq_true rfl) rfl dX11_mark_17 (kmI rfl rfl (fun q5 hy => ?_))
    refine aw_istoren (pc := 20) hX [(1, vI q5.1), (0, vR v0)] rfl (lt_n hN (by decide)) dX11_mark_20 ?_
    refine aw_iloadn (pc := 21) hX 0 rfl dX11_mark_21 ?_
    refine aw_if_ge (pc := 22) hX 33 (by decide) dX11_mark_22 (fun hc9 => ?_) (fun hc9 => ?_)
    · have hy := hy.t hc9
      refine aw_aloadn (pc := 33) hX 1 rfl dX11_mark_33 ?_
      refine aw_iloadn (pc := 34) hX 0 rfl dX11_mark_34 ?_
      refine aw_callV (pc := 35) (st := []) (a := v0) hX [vI q5.1] (con_X11_answer _ G _ v0 q5.1 hy.bd) mc_X11_answer ml_X11_117 im_X11_answer se_X11_answer (by decide) hy.bd.kd rfl (rm_of hr (by decide)) (Nat.le_of_ble_eq_true rfl) rfl dX11_mark_35 (kmI rfl rfl (fun q8 hy => ?_))
      exact aw_iret (pc := 38) hX hr (by decide) (by decide) dX11_mark_38 ⟨_, rfl, hy.s⟩
    · have hy := hy.f hc9
      refine aw_aloadn (pc := 25) hX 1 rfl dX11_mark_25 ?_
      refine aw_iconst (pc := 26) hX 3 (by decide) dX11_mark_26 ?_
      refine aw_callV (pc := 27) (st := []) (a := v0) hX [vI 3] (con_X11_refuse _ G _ v0 3 hy.bd) mc_X11_refuse ml_X11_84 im_X11_refuse se_X11_refuse (by decide) hy.bd.kd rfl (rm_of hr (by decide)) (Nat.le_of_ble_eq_true rfl) rfl dX11_mark_27 (kmI rfl rfl (fun q11 hy => ?_))
      refine aw_goto (pc := 30) hX 38 (by decide) dX11_mark_30 ?_
      exact aw_iret (pc := 38) hX hr (by decide) (by decide) dX11_mark_38 ⟨_, rfl, hy.s⟩
  · have hy := hy.t hc9
    refine aw_aloadn (pc := 7) hX 0 rfl dX11_mark_7 ?_
    refine aw_iconst (pc := 8) hX 1 (by decide) dX11_mark_8 ?_
    refine aw_callV (pc := 9) (st := []) (a := v0) hX [vI 1] (con_X11_refuse _ G _ v0 1 hy.bd) mc_X11_refuse ml_X11_84 im_X11_refuse se_X11_refuse (by decide) hy.bd.kd rfl (rm_of hr (by decide)) (Nat.le_of_ble_eq_true rfl) rfl dX11_mark_9 (kmI rfl rfl (fun q14 hy => ?_))
    exact aw_iret (pc := 12) hX hr (by decide) (by decide) dX11_mark_12 ⟨_, rfl, hy.s⟩
theorem con_X11_mark (l : Launch) (G : GE) (h : Mem) (v0 : Nat) {P : (Int32 × Mem) → Prop} (hy : OK (f_X11_mark h v0) P) : Con l G yX11_mark cX11_mark 2 (some .int) rm_X11_mark [vR v0] h (pmI P) := Con.of (by decide) (Nat.le_of_ble_eq_true rfl) (fun X hX hr hN => w_X11_mark hX hN hr h v0 hy)
/-! X11_back -/
theorem dX11_back_0 : decode cX11_back 0 = .ok (.aload_n 0, 1) := by decide +kernel
theorem dX11_back_1 : decode cX11_back 1 = .ok (.aload_n 0, 1) := by decide +kernel
theorem dX11_back_2 : decode cX11_back 2 = .ok (.getfield 26, 3) := by decide +kernel
theorem dX11_back_5 : decode cX11_back 5 = .ok (.iload_n 1, 1) := by decide +kernel
theorem dX11_back_6 : decode cX11_back 6 = .ok (.invokevirtual 347, 3) := by decide +kernel
theorem dX11_back_9 : decode cX11_back 9 = .ok (.ifCond .eq 7, 3) := by decide +kernel
theorem dX11_back_12 : decode cX11_back 12 = .ok (.iconst 0, 1) := by decide +kernel
theorem dX11_back_13 : decode cX11_back 13 = .ok (.goto 4, 3) := by decide +kernel
theorem dX11_back_16 : decode cX11_back 16 = .ok (.iconst 1, 1) := by decide +kernel
theorem dX11_back_17 : decode cX11_back 17 = .ok (.invokevirtual 334, 3) := by decide +kernel
theorem dX11_back_20 : decode cX11_back 20 = .ok (.ireturn, 1) := by decide +kernel
abbrev rm_X11_back : Room := { frames := 2, cells := 0, slots := 0, locals := 81 }
def f_X11_back_17 (h : Mem) (s0 : Nat) (s1 : Int32) : Option (Int32 × Mem) :=
  (f_X11_isAllowed h s0 s1).bind fun q7 => retZ q7.1 (q7.1, q7.2)
set_option maxRecDepth 100000 in
set_option maxHeartbeats 4000000 in
theorem w_X11_back_17 {G : GE} {X : CX} {l : Launch} (hX : Ok G X cX11_back RX11) (hN : xn X = 2) {P : (Int32 × Mem) → Prop} (hr : Rt G X l yX11_back (some .boolean) rm_X11_back (pmI P)) (h : Mem) (s0 : Nat) (s1 : Int32) (hy : OK (f_X11_back_17 h s0 s1) P) : AW G X 17 [] [vI s1, vR s0] h 0 0 := by
  unfold f_X11_back_17 at hy
  refine aw_callV (pc := 17) (st := []) (a := s0) hX [vI s1] (con_X11_isAllowed _ G _ s0 s1 hy.bd) mc_X11_isAllowed ml_X11_334 im_X11_isAllowed se_X11_isAllowed (by decide) hy.bd.kd rfl (rm_of hr (by decide)) (Nat.le_of_ble_eq_true rfl) rfl dX11_back_17 (kmI rfl rfl (fun q7 hy => ?_))
  exact aw_zret (pc := 20) hX hr (by decide) (by decide) dX11_back_20 hy.rz.1 ⟨_, rfl, hy.rz.2⟩
def f_X11_back (h : Mem) (v0 : Nat) (v1 : Int32) : Option (Int32 × Mem) :=
  (ck h v0 9).bind fun _ => (gR h v0 3 9).bind fun r1 => (f_X2_returnTo h r1 v1).bind fun q4 => (if q4.1 = 0 then f_X11_back_17 q4.2 v0 1 else f_X11_back_17 q4.2 v0 0)
set_option maxRecDepth 100000 in
set_option maxHeartbeats 4000000 in
theorem w_X11_back {G : GE} {X : CX} {l : Launch} (hX : Ok G X cX11_back RX11) (hN : xn X = 2) {P : (Int32 × Mem) → Prop} (hr : Rt G X l yX11_back (some .boolean) rm_X11_back (pmI P)) (h : Mem) (v0 : Nat) (v1 : Int32) (hy : OK (f_X11_back h v0 v1) P) : AW G X 0 [(0, vR v0), (1, vI v1)] [] h 0 0 := by
  unfold f_X11_back at hy
  have hkd := hy.kd
  have hy := hy.kb
  refine aw_aloadn (pc := 0) hX 0 rfl dX11_back_0 ?_
  refine aw_aloadn (pc := 1) hX 0 rfl dX11_back_1 ?_
  refine aw_gR (pc := 2) hX hy fl_X11_26 (fun _ _ => rfl) dX11_back_2 (fun r1 hy => ?_)
  refine aw_iloadn (pc := 5) hX 1 rfl dX11_back_5 ?_
  refine aw_callV (pc := 6) (st := [vR v0]) (a := r1) hX [vI v1] (con_X2_returnTo _ G _ r1 v1 hy.bd) mc_X2_returnTo ml_X11_347 im_X2_returnTo se_X2_returnTo (by decide) hy.bd.kd rfl (rm_of hr (by decide)) (Nat.le_of_ble_eq_true rfl) rfl dX11_back_6 (kmI rfl rfl (fun q4 hy => ?_))
  refine aw_if_eq (pc := 9) hX 16 (by decide) dX11_back_9 (fun hc9 => ?_) (fun hc9 => ?_)
  · have hy := hy.t hc9
    refine aw_iconst (pc := 16) hX 1 (by decide) dX11_back_16 ?_
    refine AW.sub [] rfl ?_
    exact w_X11_back_17 hX hN hr q4.2 v0 1 hy
  · have hy := hy.f hc9
    refine aw_iconst (pc := 12) hX 0 (by decide) dX11_back_12 ?_
    refine aw_goto (pc := 13) hX 17 (by decide) dX11_back_13 ?_
    refine AW.sub [] rfl ?_
    exact w_X11_back_17 hX hN hr q4.2 v0 0 hy
theorem con_X11_back (l : Launch) (G : GE) (h : Mem) (v0 : Nat) (v1 : Int32) {P : (Int32 × Mem) → Prop} (hy : OK (f_X11_back h v0 v1) P) : Con l G yX11_back cX11_back 2 (some .boolean) rm_X11_back [vR v0, vI v1] h (pmI P) := Con.of (by decide) (Nat.le_of_ble_eq_true rfl) (fun X hX hr hN => w_X11_back hX hN hr h v0 v1 hy)
/-! X11_size -/
theorem dX11_size_0 : decode cX11_size 0 = .ok (.iload_n 1, 1) := by decide +kernel
theorem dX11_size_1 : decode cX11_size 1 = .ok (.tableswitch 179 0 12 #[67, 75, 83, 91, 99, 107, 115, 123, 131, 139, 155, 163, 171], 67) := by decide +kernel
theorem dX11_size_68 : decode cX11_size 68 = .ok (.aload_n 0, 1) := by decide +kernel
theorem dX11_size_69 : decode cX11_size 69 = .ok (.getfield 10, 3) := by decide +kernel
theorem dX11_size_72 : decode cX11_size 72 = .ok (.getfield 353, 3) := by decide +kernel
theorem dX11_size_75 : decode cX11_size 75 = .ok (.ireturn, 1) := by decide +kernel
theorem dX11_size_76 : decode cX11_size 76 = .ok (.aload_n 0, 1) := by decide +kernel
theorem dX11_size_77 : decode cX11_size 77 = .ok (.getfield 10, 3) := by decide +kernel
theorem dX11_size_80 : decode cX11_size 80 = .ok (.getfield 224, 3) := by decide +kernel
theorem dX11_size_83 : decode cX11_size 83 = .ok (.ireturn, 1) := by decide +kernel
theorem dX11_size_84 : decode cX11_size 84 = .ok (.aload_n 0, 1) := by decide +kernel
theorem dX11_size_85 : decode cX11_size 85 = .ok (.getfield 10, 3) := by decide +kernel
theorem dX11_size_88 : decode cX11_size 88 = .ok (.getfield 114, 3) := by decide +kernel
theorem dX11_size_91 : decode cX11_size 91 = .ok (.ireturn, 1) := by decide +kernel
theorem dX11_size_92 : decode cX11_size 92 = .ok (.aload_n 0, 1) := by decide +kernel
theorem dX11_size_93 : decode cX11_size 93 = .ok (.getfield 10, 3) := by decide +kernel
theorem dX11_size_96 : decode cX11_size 96 = .ok (.getfield 356, 3) := by decide +kernel
theorem dX11_size_99 : decode cX11_size 99 = .ok (.ireturn, 1) := by decide +kernel
theorem dX11_size_100 : decode cX11_size 100 = .ok (.aload_n 0, 1) := by decide +kernel
theorem dX11_size_101 : decode cX11_size 101 = .ok (.getfield 10, 3) := by decide +kernel
theorem dX11_size_104 : decode cX11_size 104 = .ok (.getfield 359, 3) := by decide +kernel
theorem dX11_size_107 : decode cX11_size 107 = .ok (.ireturn, 1) := by decide +kernel
theorem dX11_size_108 : decode cX11_size 108 = .ok (.aload_n 0, 1) := by decide +kernel
theorem dX11_size_109 : decode cX11_size 109 = .ok (.getfield 10, 3) := by decide +kernel
theorem dX11_size_112 : decode cX11_size 112 = .ok (.getfield 362, 3) := by decide +kernel
theorem dX11_size_115 : decode cX11_size 115 = .ok (.ireturn, 1) := by decide +kernel
theorem dX11_size_116 : decode cX11_size 116 = .ok (.aload_n 0, 1) := by decide +kernel
theorem dX11_size_117 : decode cX11_size 117 = .ok (.getfield 10, 3) := by decide +kernel
theorem dX11_size_120 : decode cX11_size 120 = .ok (.getfield 241, 3) := by decide +kernel
theorem dX11_size_123 : decode cX11_size 123 = .ok (.ireturn, 1) := by decide +kernel
theorem dX11_size_124 : decode cX11_size 124 = .ok (.aload_n 0, 1) := by decide +kernel
theorem dX11_size_125 : decode cX11_size 125 = .ok (.getfield 10, 3) := by decide +kernel
theorem dX11_size_128 : decode cX11_size 128 = .ok (.getfield 365, 3) := by decide +kernel
theorem dX11_size_131 : decode cX11_size 131 = .ok (.ireturn, 1) := by decide +kernel
theorem dX11_size_132 : decode cX11_size 132 = .ok (.aload_n 0, 1) := by decide +kernel
theorem dX11_size_133 : decode cX11_size 133 = .ok (.getfield 10, 3) := by decide +kernel
theorem dX11_size_136 : decode cX11_size 136 = .ok (.getfield 368, 3) := by decide +kernel
theorem dX11_size_139 : decode cX11_size 139 = .ok (.ireturn, 1) := by decide +kernel
theorem dX11_size_140 : decode cX11_size 140 = .ok (.aload_n 0, 1) := by decide +kernel
theorem dX11_size_141 : decode cX11_size 141 = .ok (.getfield 26, 3) := by decide +kernel
theorem dX11_size_144 : decode cX11_size 144 = .ok (.invokevirtual 135, 3) := by decide +kernel
theorem dX11_size_147 : decode cX11_size 147 = .ok (.ifCond .eq 7, 3) := by decide +kernel
theorem dX11_size_150 : decode cX11_size 150 = .ok (.iconst 1, 1) := by decide +kernel
theorem dX11_size_151 : decode cX11_size 151 = .ok (.goto 4, 3) := by decide +kernel
theorem dX11_size_154 : decode cX11_size 154 = .ok (.iconst 0, 1) := by decide +kernel
theorem dX11_size_155 : decode cX11_size 155 = .ok (.ireturn, 1) := by decide +kernel
theorem dX11_size_156 : decode cX11_size 156 = .ok (.aload_n 0, 1) := by decide +kernel
theorem dX11_size_157 : decode cX11_size 157 = .ok (.getfield 26, 3) := by decide +kernel
theorem dX11_size_160 : decode cX11_size 160 = .ok (.getfield 371, 3) := by decide +kernel
theorem dX11_size_163 : decode cX11_size 163 = .ok (.ireturn, 1) := by decide +kernel
theorem dX11_size_164 : decode cX11_size 164 = .ok (.aload_n 0, 1) := by decide +kernel
theorem dX11_size_165 : decode cX11_size 165 = .ok (.getfield 26, 3) := by decide +kernel
theorem dX11_size_168 : decode cX11_size 168 = .ok (.getfield 374, 3) := by decide +kernel
theorem dX11_size_171 : decode cX11_size 171 = .ok (.ireturn, 1) := by decide +kernel
theorem dX11_size_172 : decode cX11_size 172 = .ok (.aload_n 0, 1) := by decide +kernel
theorem dX11_size_173 : decode cX11_size 173 = .ok (.getfield 19, 3) := by decide +kernel
theorem dX11_size_176 : decode cX11_size 176 = .ok (.getfield 80, 3) := by decide +kernel
theorem dX11_size_179 : decode cX11_size 179 = .ok (.ireturn, 1) := by decide +kernel
theorem dX11_size_180 : decode cX11_size 180 = .ok (.iconst (-1), 1) := by decide +kernel
theorem dX11_size_181 : decode cX11_size 181 = .ok (.ireturn, 1) := by decide +kernel
abbrev rm_X11_size : Room := { frames := 1, cells := 0, slots := 0, locals := 20 }
def f_X11_size (h : Mem) (v0 : Nat) (v1 : Int32) : Option Int32 :=
  (ck h v0 9).bind fun _ => (if v1 = 0 then (gR h v0 1 9).bind fun r1 => (gI h r1 0 4).bind fun x2 => some x2 else if v1 = 1 then (gR h v0 1 9).bind fun r3 => (gI h r3 1 4).bind fun x4 => some x4 else if v1 = 2 then (gR h v0 1 9).bind fun r5 => (gI h r5 2 4).bind fun x6 => some x6 else if v1 = 3 then (gR h v0 1 9).bind fun r7 => (gI h r7 3 4).bind fun x8 => some x8 else if v1 = 4 then (gR h v0 1 9).bind fun r9 => (gI h r9 4 4).bind fun x10 => some x10 else if v1 = 5 then (gR h v0 1 9).bind fun r11 => (gI h r11 5 4).bind fun x12 => some x12 else if v1 = 6 then (gR h v0 1 9).bind fun r13 => (gI h r13 6 4).bind fun x14 => some x14 else if v1 = 7 then (gR h v0 1 9).bind fun r15 => (gI h r15 7 4).bind fun x16 => some x16 else if v1 = 8 then (gR h v0 1 9).bind fun r17 => (gI h r17 8 4).bind fun x18 => some x18 else if v1 = 9 then (gR h v0 3 9).bind fun r19 => (f_X2_rains h r19).bind fun x20 => (if x20 = 0 then some 0 else some 1) else if v1 = 10 then (gR h v0 3 9).bind fun r21 => (gI h r21 4 1).bind fun x22 => some x22 else if v1 = 11 then (gR h v0 3 9).bind fun r23 => (gI h r23 5 1).bind fun x24 => some x24 else if v1 = 12 then (gR h v0 2 9).bind fun r25 => (gI h r25 15 3).bind fun x26 => some x26 else some (-1))
set_option maxRecDepth 100000 in
set_option maxHeartbeats 4000000 in
theorem w_X11_size {G : GE} {X : CX} {l : Launch} (hX : Ok G X cX11_size RX11) (hN : xn X = 2) (h : Mem) {P : Int32 → Prop} (hr : Rt G X l yX11_size (some .int) rm_X11_size (ppI h P)) (v0 : Nat) (v1 : Int32) (hy : OK (f_X11_size h v0 v1) P) : AW G X 0 [(0, vR v0), (1, vI v1)] [] h 0 0 := by
  unfold f_X11_size at hy
  have hkd := hy.kd
  have hy := hy.kb
  refine aw_iloadn (pc := 0) hX 1 rfl dX11_size_0 ?_
  rcases Decidable.em (v1 = 0) with hc9 | hn0
  · have hy := hy.t hc9
    refine aw_tin (pc := 1) hX 68 (by rw [hc9]; decide) (by rw [hc9]; decide) (by rw [hc9]; rfl) (by decide) dX11_size_1 ?_
    refine aw_aloadn (pc := 68) hX 0 rfl dX11_size_68 ?_
    refine aw_gR (pc := 69) hX hy fl_X11_10 (fun _ _ => rfl) dX11_size_69 (fun r1 hy => ?_)
    refine aw_gI (pc := 72) hX hy fl_X11_353 (fun _ _ => rfl) dX11_size_72 (fun x2 hy => ?_)
    exact aw_iret (pc := 75) hX hr (by decide) (by decide) dX11_size_75 ⟨rfl, _, rfl, hy.s⟩
  have hy := hy.f hn0
  rcases Decidable.em (v1 = 1) with hc9 | hn1
  · have hy := hy.t hc9
    refine aw_tin (pc := 1) hX 76 (by rw [hc9]; decide) (by rw [hc9]; decide) (by rw [hc9]; rfl) (by decide) dX11_size_1 ?_
    refine aw_aloadn (pc := 76) hX 0 rfl dX11_size_76 ?_
    refine aw_gR (pc := 77) hX hy fl_X11_10 (fun _ _ => rfl) dX11_size_77 (fun r3 hy => ?_)
    refine aw_gI (pc := 80) hX hy fl_X11_224 (fun _ _ => rfl) dX11_size_80 (fun x4 hy => ?_)
    exact aw_iret (pc := 83) hX hr (by decide) (by decide) dX11_size_83 ⟨rfl, _, rfl, hy.s⟩
  have hy := hy.f hn1
  rcases Decidable.em (v1 = 2) with hc9 | hn2
  · have hy := hy.t hc9
    refine aw_tin (pc := 1) hX 84 (by rw [hc9]; decide) (by rw [hc9]; decide) (by rw [hc9]; rfl) (by decide) dX11_size_1 ?_
    refine aw_aloadn (pc := 84) hX 0 rfl dX11_size_84 ?_
    refine aw_gR (pc := 85) hX hy fl_X11_10 (fun _ _ => rfl) dX11_size_85 (fun r5 hy => ?_)
    refine aw_gI (pc := 88) hX hy fl_X11_114 (fun _ _ => rfl) dX11_size_88 (fun x6 hy => ?_)
    exact aw_iret (pc := 91) hX hr (by decide) (by decide) dX11_size_91 ⟨rfl, _, rfl, hy.s⟩
  have hy := hy.f hn2
  rcases Decidable.em (v1 = 3) with hc9 | hn3
  · have hy := hy.t hc9
    refine aw_tin (pc := 1) hX 92 (by rw [hc9]; decide) (by rw [hc9]; decide) (by rw [hc9]; rfl) (by decide) dX11_size_1 ?_
    refine aw_aloadn (pc := 92) hX 0 rfl dX11_size_92 ?_
    refine aw_gR (pc := 93) hX hy fl_X11_10 (fun _ _ => rfl) dX11_size_93 (fun r7 hy => ?_)
    refine aw_gI (pc := 96) hX hy fl_X11_356 (fun _ _ => rfl) dX11_size_96 (fun x8 hy => ?_)
    exact aw_iret (pc := 99) hX hr (by decide) (by decide) dX11_size_99 ⟨rfl, _, rfl, hy.s⟩
  have hy := hy.f hn3
  rcases Decidable.em (v1 = 4) with hc9 | hn4
  · have hy := hy.t hc9
    refine aw_tin (pc := 1) hX 100 (by rw [hc9]; decide) (by rw [hc9]; decide) (by rw [hc9]; rfl) (by decide) dX11_size_1 ?_
    refine aw_aloadn (pc := 100) hX 0 rfl dX11_size_100 ?_
    refine aw_gR (pc := 101) hX hy fl_X11_10 (fun _ _ => rfl) dX11_size_101 (fun r9 hy => ?_)
    refine aw_gI (pc := 104) hX hy fl_X11_359 (fun _ _ => rfl) dX11_size_104 (fun x10 hy => ?_)
    exact aw_iret (pc := 107) hX hr (by decide) (by decide) dX11_size_107 ⟨rfl, _, rfl, hy.s⟩
  have hy := hy.f hn4
  rcases Decidable.em (v1 = 5) with hc9 | hn5
  · have hy := hy.t hc9
    refine aw_tin (pc := 1) hX 108 (by rw [hc9]; decide) (by rw [hc9]; decide) (by rw [hc9]; rfl) (by decide) dX11_size_1 ?_
    refine aw_aloadn (pc := 108) hX 0 rfl dX11_size_108 ?_
    refine aw_gR (pc := 109) hX hy fl_X11_10 (fun _ _ => rfl) dX11_size_109 (fun r11 hy => ?_)
    refine aw_gI (pc := 112) hX hy fl_X11_362 (fun _ _ => rfl) dX11_size_112 (fun x12 hy => ?_)
    exact aw_iret (pc := 115) hX hr (by decide) (by decide) dX11_size_115 ⟨rfl, _, rfl, hy.s⟩
  have hy := hy.f hn5
  rcases Decidable.em (v1 = 6) with hc9 | hn6
  · have hy := hy.t hc9
    refine aw_tin (pc := 1) hX 116 (by rw [hc9]; decide) (by rw [hc9]; decide) (by rw [hc9]; rfl) (by decide) dX11_size_1 ?_
    refine aw_aloadn (pc := 116) hX 0 rfl dX11_size_116 ?_
    refine aw_gR (pc := 117) hX hy fl_X11_10 (fun _ _ => rfl) dX11_size_117 (fun r13 hy => ?_)
    refine aw_gI (pc := 120) hX hy fl_X11_241 (fun _ _ => rfl) dX11_size_120 (fun x14 hy => ?_)
    exact aw_iret (pc := 123) hX hr (by decide) (by decide) dX11_size_123 ⟨rfl, _, rfl, hy.s⟩
  have hy := hy.f hn6
  rcases Decidable.em (v1 = 7) with hc9 | hn7
  · have hy := hy.t hc9
    refine aw_tin (pc := 1) hX 124 (by rw [hc9]; decide) (by rw [hc9]; decide) (by rw [hc9]; rfl) (by decide) dX11_size_1 ?_
    refine aw_aloadn (pc := 124) hX 0 rfl dX11_size_124 ?_
    refine aw_gR (pc := 125) hX hy fl_X11_10 (fun _ _ => rfl) dX11_size_125 (fun r15 hy => ?_)
    refine aw_gI (pc := 128) hX hy fl_X11_365 (fun _ _ => rfl) dX11_size_128 (fun x16 hy => ?_)
    exact aw_iret (pc := 131) hX hr (by decide) (by decide) dX11_size_131 ⟨rfl, _, rfl, hy.s⟩
  have hy := hy.f hn7
  rcases Decidable.em (v1 = 8) with hc9 | hn8
  · have hy := hy.t hc9
    refine aw_tin (pc := 1) hX 132 (by rw [hc9]; decide) (by rw [hc9]; decide) (by rw [hc9]; rfl) (by decide) dX11_size_1 ?_
    refine aw_aloadn (pc := 132) hX 0 rfl dX11_size_132 ?_
    refine aw_gR (pc := 133) hX hy fl_X11_10 (fun _ _ => rfl) dX11_size_133 (fun r17 hy => ?_)
    refine aw_gI (pc := 136) hX hy fl_X11_368 (fun _ _ => rfl) dX11_size_136 (fun x18 hy => ?_)
    exact aw_iret (pc := 139) hX hr (by decide) (by decide) dX11_size_139 ⟨rfl, _, rfl, hy.s⟩
  have hy := hy.f hn8
  rcases Decidable.em (v1 = 9) with hc9 | hn9
  · have hy := hy.t hc9
    refine aw_tin (pc := 1) hX 140 (by rw [hc9]; decide) (by rw [hc9]; decide) (by rw [hc9]; rfl) (by decide) dX11_size_1 ?_
    refine aw_aloadn (pc := 140) hX 0 rfl dX11_size_140 ?_
    refine aw_gR (pc := 141) hX hy fl_X11_26 (fun _ _ => rfl) dX11_size_141 (fun r19 hy => ?_)
    refine aw_callV (pc := 144) (st := []) (a := r19) hX [] (con_X2_rains _ G _ r19 hy.bd) mc_X2_rains ml_X11_135 im_X2_rains se_X2_rains (by decide) hy.bd.kd rfl (rm_of hr (by decide)) (Nat.le_of_ble_eq_true rfl) rfl dX11_size_144 (kpI rfl rfl (fun x20 hy => ?_))
    refine aw_if_eq (pc := 147) hX 154 (by decide) dX11_size_147 (fun hc9 => ?_) (fun hc9 => ?_)
    · have hy := hy.t hc9
      refine aw_iconst (pc := 154) hX 0 (by decide) dX11_size_154 ?_
      exact aw_iret (pc := 155) hX hr (by decide) (by decide) dX11_size_155 ⟨rfl, _, rfl, hy.s⟩
    · have hy := hy.f hc9
      refine aw_iconst (pc := 150) hX 1 (by decide) dX11_size_150 ?_
      refine aw_goto (pc := 151) hX 155 (by decide) dX11_size_151 ?_
      exact aw_iret (pc := 155) hX hr (by decide) (by decide) dX11_size_155 ⟨rfl, _, rfl, hy.s⟩
  have hy := hy.f hn9
  rcases Decidable.em (v1 = 10) with hc9 | hn10
  · have hy := hy.t hc9
    refine aw_tin (pc := 1) hX 156 (by rw [hc9]; decide) (by rw [hc9]; decide) (by rw [hc9]; rfl) (by decide) dX11_size_1 ?_
    refine aw_aloadn (pc := 156) hX 0 rfl dX11_size_156 ?_
    refine aw_gR (pc := 157) hX hy fl_X11_26 (fun _ _ => rfl) dX11_size_157 (fun r21 hy => ?_)
    refine aw_gI (pc := 160) hX hy fl_X11_371 (fun _ _ => rfl) dX11_size_160 (fun x22 hy => ?_)
    exact aw_iret (pc := 163) hX hr (by decide) (by decide) dX11_size_163 ⟨rfl, _, rfl, hy.s⟩
  have hy := hy.f hn10
  rcases Decidable.em (v1 = 11) with hc9 | hn11
  · have hy := hy.t hc9
    refine aw_tin (pc := 1) hX 164 (by rw [hc9]; decide) (by rw [hc9]; decide) (by rw [hc9]; rfl) (by decide) dX11_size_1 ?_
    refine aw_aloadn (pc := 164) hX 0 rfl dX11_size_164 ?_
    refine aw_gR (pc := 165) hX hy fl_X11_26 (fun _ _ => rfl) dX11_size_165 (fun r23 hy => ?_)
    refine aw_gI (pc := 168) hX hy fl_X11_374 (fun _ _ => rfl) dX11_size_168 (fun x24 hy => ?_)
    exact aw_iret (pc := 171) hX hr (by decide) (by decide) dX11_size_171 ⟨rfl, _, rfl, hy.s⟩
  have hy := hy.f hn11
  rcases Decidable.em (v1 = 12) with hc9 | hn12
  · have hy := hy.t hc9
    refine aw_tin (pc := 1) hX 172 (by rw [hc9]; decide) (by rw [hc9]; decide) (by rw [hc9]; rfl) (by decide) dX11_size_1 ?_
    refine aw_aloadn (pc := 172) hX 0 rfl dX11_size_172 ?_
    refine aw_gR (pc := 173) hX hy fl_X11_19 (fun _ _ => rfl) dX11_size_173 (fun r25 hy => ?_)
    refine aw_gI (pc := 176) hX hy fl_X11_80 (fun _ _ => rfl) dX11_size_176 (fun x26 hy => ?_)
    exact aw_iret (pc := 179) hX hr (by decide) (by decide) dX11_size_179 ⟨rfl, _, rfl, hy.s⟩
  have hy := hy.f hn12
  refine aw_tout (pc := 1) hX 180 (tsw_out (lo := 0) (hi := 12) (fun k h1 h2 => ?_)) (by decide) dX11_size_1 ?_
  · rcases (show k = 0 ∨ k = 1 ∨ k = 2 ∨ k = 3 ∨ k = 4 ∨ k = 5 ∨ k = 6 ∨ k = 7 ∨ k = 8 ∨ k = 9 ∨ k = 10 ∨ k = 11 ∨ k = 12 by omega) with rfl | rfl | rfl | rfl | rfl | rfl | rfl | rfl | rfl | rfl | rfl | rfl | rfl
    · exact lv_neT hn0 (by decide)
    · exact lv_neT hn1 (by decide)
    · exact lv_neT hn2 (by decide)
    · exact lv_neT hn3 (by decide)
    · exact lv_neT hn4 (by decide)
    · exact lv_neT hn5 (by decide)
    · exact lv_neT hn6 (by decide)
    · exact lv_neT hn7 (by decide)
    · exact lv_neT hn8 (by decide)
    · exact lv_neT hn9 (by decide)
    · exact lv_neT hn10 (by decide)
    · exact lv_neT hn11 (by decide)
    · exact lv_neT hn12 (by decide)
  · skip
    refine aw_iconst (pc := 180) hX (-1) (by decide) dX11_size_180 ?_
    exact aw_iret (pc := 181) hX hr (by decide) (by decide) dX11_size_181 ⟨rfl, _, rfl, hy.s⟩
theorem con_X11_size (l : Launch) (G : GE) (h : Mem) (v0 : Nat) (v1 : Int32) {P : Int32 → Prop} (hy : OK (f_X11_size h v0 v1) P) : Con l G yX11_size cX11_size 2 (some .int) rm_X11_size [vR v0, vI v1] h (ppI h P) := Con.of (by decide) (Nat.le_of_ble_eq_true rfl) (fun X hX hr hN => w_X11_size hX hN h hr v0 v1 hy)
/-! X11_trouble -/
theorem dX11_trouble_0 : decode cX11_trouble 0 = .ok (.aload_n 0, 1) := by decide +kernel
theorem dX11_trouble_1 : decode cX11_trouble 1 = .ok (.getfield 123, 3) := by decide +kernel
theorem dX11_trouble_4 : decode cX11_trouble 4 = .ok (.ireturn, 1) := by decide +kernel
abbrev rm_X11_trouble : Room := { frames := 0, cells := 0, slots := 0, locals := 0 }
def f_X11_trouble (h : Mem) (v0 : Nat) : Option Int32 :=
  (ck h v0 9).bind fun _ => (gI h v0 0 9).bind fun x1 => some x1
set_option maxRecDepth 100000 in
set_option maxHeartbeats 4000000 in
theorem w_X11_trouble {G : GE} {X : CX} {l : Launch} (hX : Ok G X cX11_trouble RX11) (hN : xn X = 1) (h : Mem) {P : Int32 → Prop} (hr : Rt G X l yX11_trouble (some .int) rm_X11_trouble (ppI h P)) (v0 : Nat) (hy : OK (f_X11_trouble h v0) P) : AW G X 0 [(0, vR v0)] [] h 0 0 := by
  unfold f_X11_trouble at hy
  have hkd := hy.kd
  have hy := hy.kb
  refine aw_aloadn (pc := 0) hX 0 rfl dX11_trouble_0 ?_
  refine aw_gI (pc := 1) hX hy fl_X11_123 (fun _ _ => rfl) dX11_trouble_1 (fun x1 hy => ?_)
  exact aw_iret (pc := 4) hX hr (by decide) (by decide) dX11_trouble_4 ⟨rfl, _, rfl, hy.s⟩
theorem con_X11_trouble (l : Launch) (G : GE) (h : Mem) (v0 : Nat) {P : Int32 → Prop} (hy : OK (f_X11_trouble h v0) P) : Con l G yX11_trouble cX11_trouble 1 (some .int) rm_X11_trouble [vR v0] h (ppI h P) := Con.of (by decide) (Nat.le_of_ble_eq_true rfl) (fun X hX hr hN => w_X11_trouble hX hN h hr v0 hy)
/-! X12_init -/
theorem dX12_init_0 : decode cX12_init 0 = .ok (.aload_n 0, 1) := by decide +kernel
theorem dX12_init_1 : decode cX12_init 1 = .ok (.invokespecial 3, 3) := by decide +kernel
theorem dX12_init_4 : decode cX12_init 4 = .ok (.aload_n 0, 1) := by decide +kernel
theorem dX12_init_5 : decode cX12_init 5 = .ok (.iconst (-1), 1) := by decide +kernel
theorem dX12_init_6 : decode cX12_init 6 = .ok (.putfield 9, 3) := by decide +kernel
theorem dX12_init_9 : decode cX12_init 9 = .ok (.aload_n 0, 1) := by decide +kernel
theorem dX12_init_10 : decode cX12_init 10 = .ok (.bipush 6, 2) := by decide +kernel
theorem dX12_init_12 : decode cX12_init 12 = .ok (.newarray .int, 2) := by decide +kernel
theorem dX12_init_14 : decode cX12_init 14 = .ok (.putfield 15, 3) := by decide +kernel
theorem dX12_init_17 : decode cX12_init 17 = .ok (.aload_n 0, 1) := by decide +kernel
theorem dX12_init_18 : decode cX12_init 18 = .ok (.bipush 48, 2) := by decide +kernel
theorem dX12_init_20 : decode cX12_init 20 = .ok (.newarray .int, 2) := by decide +kernel
theorem dX12_init_22 : decode cX12_init 22 = .ok (.putfield 19, 3) := by decide +kernel
theorem dX12_init_25 : decode cX12_init 25 = .ok (.aload_n 0, 1) := by decide +kernel
theorem dX12_init_26 : decode cX12_init 26 = .ok (.bipush 49, 2) := by decide +kernel
theorem dX12_init_28 : decode cX12_init 28 = .ok (.newarray .int, 2) := by decide +kernel
theorem dX12_init_30 : decode cX12_init 30 = .ok (.putfield 22, 3) := by decide +kernel
theorem dX12_init_33 : decode cX12_init 33 = .ok (.aload_n 0, 1) := by decide +kernel
theorem dX12_init_34 : decode cX12_init 34 = .ok (.bipush 49, 2) := by decide +kernel
theorem dX12_init_36 : decode cX12_init 36 = .ok (.newarray .int, 2) := by decide +kernel
theorem dX12_init_38 : decode cX12_init 38 = .ok (.putfield 25, 3) := by decide +kernel
theorem dX12_init_41 : decode cX12_init 41 = .ok (.aload_n 0, 1) := by decide +kernel
theorem dX12_init_42 : decode cX12_init 42 = .ok (.bipush 49, 2) := by decide +kernel
theorem dX12_init_44 : decode cX12_init 44 = .ok (.newarray .int, 2) := by decide +kernel
theorem dX12_init_46 : decode cX12_init 46 = .ok (.putfield 28, 3) := by decide +kernel
theorem dX12_init_49 : decode cX12_init 49 = .ok (.aload_n 0, 1) := by decide +kernel
theorem dX12_init_50 : decode cX12_init 50 = .ok (.bipush 10, 2) := by decide +kernel
theorem dX12_init_52 : decode cX12_init 52 = .ok (.newarray .int, 2) := by decide +kernel
theorem dX12_init_54 : decode cX12_init 54 = .ok (.putfield 31, 3) := by decide +kernel
theorem dX12_init_57 : decode cX12_init 57 = .ok (.aload_n 0, 1) := by decide +kernel
theorem dX12_init_58 : decode cX12_init 58 = .ok (.bipush 10, 2) := by decide +kernel
theorem dX12_init_60 : decode cX12_init 60 = .ok (.newarray .int, 2) := by decide +kernel
theorem dX12_init_62 : decode cX12_init 62 = .ok (.putfield 34, 3) := by decide +kernel
theorem dX12_init_65 : decode cX12_init 65 = .ok (.aload_n 0, 1) := by decide +kernel
theorem dX12_init_66 : decode cX12_init 66 = .ok (.bipush 6, 2) := by decide +kernel
theorem dX12_init_68 : decode cX12_init 68 = .ok (.newarray .int, 2) := by decide +kernel
theorem dX12_init_70 : decode cX12_init 70 = .ok (.putfield 37, 3) := by decide +kernel
theorem dX12_init_73 : decode cX12_init 73 = .ok (.aload_n 0, 1) := by decide +kernel
theorem dX12_init_74 : decode cX12_init 74 = .ok (.bipush 6, 2) := by decide +kernel
theorem dX12_init_76 : decode cX12_init 76 = .ok (.newarray .int, 2) := by decide +kernel
theorem dX12_init_78 : decode cX12_init 78 = .ok (.putfield 40, 3) := by decide +kernel
theorem dX12_init_81 : decode cX12_init 81 = .ok (.aload_n 0, 1) := by decide +kernel
theorem dX12_init_82 : decode cX12_init 82 = .ok (.bipush 6, 2) := by decide +kernel
theorem dX12_init_84 : decode cX12_init 84 = .ok (.newarray .int, 2) := by decide +kernel
theorem dX12_init_86 : decode cX12_init 86 = .ok (.putfield 43, 3) := by decide +kernel
theorem dX12_init_89 : decode cX12_init 89 = .ok (.aload_n 0, 1) := by decide +kernel
theorem dX12_init_90 : decode cX12_init 90 = .ok (.bipush 6, 2) := by decide +kernel
theorem dX12_init_92 : decode cX12_init 92 = .ok (.newarray .int, 2) := by decide +kernel
theorem dX12_init_94 : decode cX12_init 94 = .ok (.putfield 46, 3) := by decide +kernel
theorem dX12_init_97 : decode cX12_init 97 = .ok (.aload_n 0, 1) := by decide +kernel
theorem dX12_init_98 : decode cX12_init 98 = .ok (.iconst 4, 1) := by decide +kernel
theorem dX12_init_99 : decode cX12_init 99 = .ok (.newarray .int, 2) := by decide +kernel
theorem dX12_init_101 : decode cX12_init 101 = .ok (.putfield 49, 3) := by decide +kernel
theorem dX12_init_104 : decode cX12_init 104 = .ok (.aload_n 0, 1) := by decide +kernel
theorem dX12_init_105 : decode cX12_init 105 = .ok (.iconst 4, 1) := by decide +kernel
theorem dX12_init_106 : decode cX12_init 106 = .ok (.newarray .int, 2) := by decide +kernel
theorem dX12_init_108 : decode cX12_init 108 = .ok (.putfield 52, 3) := by decide +kernel
theorem dX12_init_111 : decode cX12_init 111 = .ok (.aload_n 0, 1) := by decide +kernel
theorem dX12_init_112 : decode cX12_init 112 = .ok (.iconst 4, 1) := by decide +kernel
theorem dX12_init_113 : decode cX12_init 113 = .ok (.newarray .int, 2) := by decide +kernel
theorem dX12_init_115 : decode cX12_init 115 = .ok (.putfield 55, 3) := by decide +kernel
theorem dX12_init_118 : decode cX12_init 118 = .ok (.aload_n 0, 1) := by decide +kernel
theorem dX12_init_119 : decode cX12_init 119 = .ok (.iconst 5, 1) := by decide +kernel
theorem dX12_init_120 : decode cX12_init 120 = .ok (.newarray .int, 2) := by decide +kernel
theorem dX12_init_122 : decode cX12_init 122 = .ok (.putfield 58, 3) := by decide +kernel
theorem dX12_init_125 : decode cX12_init 125 = .ok (.aload_n 0, 1) := by decide +kernel
theorem dX12_init_126 : decode cX12_init 126 = .ok (.bipush 17, 2) := by decide +kernel
theorem dX12_init_128 : decode cX12_init 128 = .ok (.newarray .long, 2) := by decide +kernel
theorem dX12_init_130 : decode cX12_init 130 = .ok (.putfield 61, 3) := by decide +kernel
theorem dX12_init_133 : decode cX12_init 133 = .ok (.aload_n 0, 1) := by decide +kernel
theorem dX12_init_134 : decode cX12_init 134 = .ok (.bipush 17, 2) := by decide +kernel
theorem dX12_init_136 : decode cX12_init 136 = .ok (.newarray .int, 2) := by decide +kernel
theorem dX12_init_138 : decode cX12_init 138 = .ok (.putfield 65, 3) := by decide +kernel
theorem dX12_init_141 : decode cX12_init 141 = .ok (.aload_n 0, 1) := by decide +kernel
theorem dX12_init_142 : decode cX12_init 142 = .ok (.bipush 17, 2) := by decide +kernel
theorem dX12_init_144 : decode cX12_init 144 = .ok (.newarray .int, 2) := by decide +kernel
theorem dX12_init_146 : decode cX12_init 146 = .ok (.putfield 68, 3) := by decide +kernel
theorem dX12_init_149 : decode cX12_init 149 = .ok (.iconst 0, 1) := by decide +kernel
theorem dX12_init_150 : decode cX12_init 150 = .ok (.istore_n 1, 1) := by decide +kernel
theorem dX12_init_151 : decode cX12_init 151 = .ok (.iload_n 1, 1) := by decide +kernel
theorem dX12_init_152 : decode cX12_init 152 = .ok (.bipush 49, 2) := by decide +kernel
theorem dX12_init_154 : decode cX12_init 154 = .ok (.if_icmp .ge 17, 3) := by decide +kernel
theorem dX12_init_157 : decode cX12_init 157 = .ok (.aload_n 0, 1) := by decide +kernel
theorem dX12_init_158 : decode cX12_init 158 = .ok (.getfield 25, 3) := by decide +kernel
theorem dX12_init_161 : decode cX12_init 161 = .ok (.iload_n 1, 1) := by decide +kernel
theorem dX12_init_162 : decode cX12_init 162 = .ok (.bipush (-2), 2) := by decide +kernel
theorem dX12_init_164 : decode cX12_init 164 = .ok (.iastore, 1) := by decide +kernel
theorem dX12_init_165 : decode cX12_init 165 = .ok (.iinc 1 1, 3) := by decide +kernel
theorem dX12_init_168 : decode cX12_init 168 = .ok (.goto (-17), 3) := by decide +kernel
theorem dX12_init_171 : decode cX12_init 171 = .ok (.return_, 1) := by decide +kernel
abbrev rm_X12_init : Room := { frames := 1, cells := 18, slots := 313, locals := 20 }
def b_X12_init_151 (h : Mem) (v0 : Nat) (v1 : Int32) : Option ((Int32 × Mem) ⊕ Mem) :=
  (if 49 ≤ v1 then some (.inr h) else (gR h v0 13 10).bind fun r20 => (sI h r20 v1 (-2)).bind fun h21 => some (.inl ((v1 + 1), h21)))
set_option maxRecDepth 100000 in
set_option maxHeartbeats 4000000 in
theorem wb_X12_init_151 {G : GE} {X : CX} {l : Launch} (hX : Ok G X cX12_init RX12) (hN : xn X = 2) {P0 : Mem → Prop} (hr : Rt G X l yX12_init none rm_X12_init (pmV P0))  (v0 : Nat) {P : ((Int32 × Mem) ⊕ Mem) → Prop} (hc : ∀ s, P (.inl s) → AW G X 151 [(0, vR v0), (1, vI s.1)] [] s.2 18 313) (he0 : ∀ e, P (.inr e) → AW G X 171 [] [] e 18 313) (h : Mem) (v1 : Int32) (hy : OK (b_X12_init_151 h v0 v1) P) : AW G X 151 [(0, vR v0), (1, vI v1)] [] h 18 313 := by
  unfold b_X12_init_151 at hy
  refine aw_iloadn (pc := 151) hX 1 rfl dX12_init_151 ?_
  refine aw_bipush (pc := 152) hX 49 (by decide) dX12_init_152 ?_
  refine aw_ic_ge (pc := 154) hX 171 (by decide) dX12_init_154 (fun hc9 => ?_) (fun hc9 => ?_)
  · have hy := hy.t hc9
    refine AW.sub [] rfl ?_
    exact he0 h hy.s
  · have hy := hy.f hc9
    refine aw_aloadn (pc := 157) hX 0 rfl dX12_init_157 ?_
    refine aw_gR (pc := 158) hX hy fl_X12_25 (fun _ _ => rfl) dX12_init_158 (fun r20 hy => ?_)
    refine aw_iloadn (pc := 161) hX 1 rfl dX12_init_161 ?_
    refine aw_bipush (pc := 162) hX (-2) (by decide) dX12_init_162 ?_
    refine aw_sI (pc := 164) hX hy dX12_init_164 (fun h21 hy => ?_)
    refine aw_iinc (pc := 165) hX 1 (by decide) 1 rfl [(1, vI (v1 + 1)), (0, vR v0)] rfl (lt_n hN (by decide)) dX12_init_165 ?_
    refine aw_goto (pc := 168) hX 151 (by decide) dX12_init_168 ?_
    refine AW.sub [1, 0] rfl ?_
    exact hc ((v1 + 1), h21) hy.s
theorem wl_X12_init_151 {G : GE} {X : CX} {l : Launch} (hX : Ok G X cX12_init RX12) (hN : xn X = 2) {P0 : Mem → Prop} (hr : Rt G X l yX12_init none rm_X12_init (pmV P0)) (v0 : Nat) {P : (Mem) → Prop} (he0 : ∀ e, P e → AW G X 171 [] [] e 18 313) : ∀ (n : Nat) (s : Int32 × Mem), OK (iter (fun (s : Int32 × Mem) => b_X12_init_151 s.2 v0 s.1) n s) P → AW G X 151 [(0, vR v0), (1, vI s.1)] [] s.2 18 313 := by
  intro n
  induction n with
  | zero => exact fun s hy => hy.it0.elim
  | succ n ih =>
    intro s hy
    exact wb_X12_init_151 hX hN hr v0 (fun s hs => ih s hs) (fun e hs => he0 e hs) s.2 s.1 hy.it
def f_X12_init (h : Mem) (v0 : Nat) : Option Mem :=
  (ck h v0 10).bind fun _ => (pI h v0 0 10 (-1)).bind fun h1 => (pR (mNew h1 100 6) v0 10 10 (mN h1)).bind fun h2 => (pR (mNew h2 100 48) v0 11 10 (mN h2)).bind fun h3 => (pR (mNew h3 100 49) v0 12 10 (mN h3)).bind fun h4 => (pR (mNew h4 100 49) v0 13 10 (mN h4)).bind fun h5 => (pR (mNew h5 100 49) v0 14 10 (mN h5)).bind fun h6 => (pR (mNew h6 100 10) v0 15 10 (mN h6)).bind fun h7 => (pR (mNew h7 100 10) v0 16 10 (mN h7)).bind fun h8 => (pR (mNew h8 100 6) v0 17 10 (mN h8)).bind fun h9 => (pR (mNew h9 100 6) v0 18 10 (mN h9)).bind fun h10 => (pR (mNew h10 100 6) v0 19 10 (mN h10)).bind fun h11 => (pR (mNew h11 100 6) v0 20 10 (mN h11)).bind fun h12 => (pR (mNew h12 100 4) v0 21 10 (mN h12)).bind fun h13 => (pR (mNew h13 100 4) v0 22 10 (mN h13)).bind fun h14 => (pR (mNew h14 100 4) v0 23 10 (mN h14)).bind fun h15 => (pR (mNew h15 100 5) v0 24 10 (mN h15)).bind fun h16 => (pR (mNew h16 101 17) v0 25 10 (mN h16)).bind fun h17 => (pR (mNew h17 100 17) v0 26 10 (mN h17)).bind fun h18 => (pR (mNew h18 100 17) v0 27 10 (mN h18)).bind fun h19 => (iter (fun (s : Int32 × Mem) => b_X12_init_151 s.2 v0 s.1) FU (0, h19)).bind (fun q22 => some q22)
set_option maxRecDepth 100000 in
set_option maxHeartbeats 4000000 in
theorem w_X12_init {G : GE} {X : CX} {l : Launch} (hX : Ok G X cX12_init RX12) (hN : xn X = 2) {P : Mem → Prop} (hr : Rt G X l yX12_init none rm_X12_init (pmV P)) (h : Mem) (v0 : Nat) (hy : OK (f_X12_init h v0) P) : AW G X 0 [(0, vR v0)] [] h 0 0 := by
  unfold f_X12_init at hy
  have hkd := hy.kd
  have hy := hy.kb
  refine aw_aloadn (pc := 0) hX 0 rfl dX12_init_0 ?_
  refine aw_objInit0 (pc := 1) hX hkd oi_X12_3 oi_i oi_c (by decide) (Nat.le_of_ble_eq_true rfl) (le_f hr (by decide)) (le_l hr (by decide)) dX12_init_1 ?_
  refine aw_aloadn (pc := 4) hX 0 rfl dX12_init_4 ?_
  refine aw_iconst (pc := 5) hX (-1) (by decide) dX12_init_5 ?_
  refine aw_pI (pc := 6) hX hy fl_X12_9 rfl (Or.inl rfl) dX12_init_6 (fun h1 hy => ?_)
  refine aw_aloadn (pc := 9) hX 0 rfl dX12_init_9 ?_
  refine aw_bipush (pc := 10) hX 6 (by decide) dX12_init_10 ?_
  refine aw_newi (pc := 12) hX 6 6 (by decide) (by decide) (by decide) ar_int (le_c hr (by decide)) (le_s hr (by decide)) dX12_init_12 ?_
  refine AW.eqa (ce' := 1) (sl' := 6) rfl rfl ?_
  refine aw_pR (pc := 14) hX hy fl_X12_15 rfl (Or.inr ⟨rfl, hr.2.2.2.1, rfl, fw_X12_15⟩) dX12_init_14 (fun h2 hy => ?_)
  refine aw_aloadn (pc := 17) hX 0 rfl dX12_init_17 ?_
  refine aw_bipush (pc := 18) hX 48 (by decide) dX12_init_18 ?_
  refine aw_newi (pc := 20) hX 48 48 (by decide) (by decide) (by decide) ar_int (le_c hr (by decide)) (le_s hr (by decide)) dX12_init_20 ?_
  refine AW.eqa (ce' := 2) (sl' := 54) rfl rfl ?_
  refine aw_pR (pc := 22) hX hy fl_X12_19 rfl (Or.inr ⟨rfl, hr.2.2.2.1, rfl, fw_X12_19⟩) dX12_init_22 (fun h3 hy => ?_)
  refine aw_aloadn (pc := 25) hX 0 rfl dX12_init_25 ?_
  refine aw_bipush (pc := 26) hX 49 (by decide) dX12_init_26 ?_
  refine aw_newi (pc := 28) hX 49 49 (by decide) (by decide) (by decide) ar_int (le_c hr (by decide)) (le_s hr (by decide)) dX12_init_28 ?_
  refine AW.eqa (ce' := 3) (sl' := 103) rfl rfl ?_
  refine aw_pR (pc := 30) hX hy fl_X12_22 rfl (Or.inr ⟨rfl, hr.2.2.2.1, rfl, fw_X12_22⟩) dX12_init_30 (fun h4 hy => ?_)
  refine aw_aloadn (pc := 33) hX 0 rfl dX12_init_33 ?_
  refine aw_bipush (pc := 34) hX 49 (by decide) dX12_init_34 ?_
  refine aw_newi (pc := 36) hX 49 49 (by decide) (by decide) (by decide) ar_int (le_c hr (by decide)) (le_s hr (by decide)) dX12_init_36 ?_
  refine AW.eqa (ce' := 4) (sl' := 152) rfl rfl ?_
  refine aw_pR (pc := 38) hX hy fl_X12_25 rfl (Or.inr ⟨rfl, hr.2.2.2.1, rfl, fw_X12_25⟩) dX12_init_38 (fun h5 hy => ?_)
  refine aw_aloadn (pc := 41) hX 0 rfl dX12_init_41 ?_
  refine aw_bipush (pc := 42) hX 49 (by decide) dX12_init_42 ?_
  refine aw_newi (pc := 44) hX 49 49 (by decide) (by decide) (by decide) ar_int (le_c hr (by decide)) (le_s hr (by decide)) dX12_init_44 ?_
  refine AW.eqa (ce' := 5) (sl' := 201) rfl rfl ?_
  refine aw_pR (pc := 46) hX hy fl_X12_28 rfl (Or.inr ⟨rfl, hr.2.2.2.1, rfl, fw_X12_28⟩) dX12_init_46 (fun h6 hy => ?_)
  refine aw_aloadn (pc := 49) hX 0 rfl dX12_init_49 ?_
  refine aw_bipush (pc := 50) hX 10 (by decide) dX12_init_50 ?_
  refine aw_newi (pc := 52) hX 10 10 (by decide) (by decide) (by decide) ar_int (le_c hr (by decide)) (le_s hr (by decide)) dX12_init_52 ?_
  refine AW.eqa (ce' := 6) (sl' := 211) rfl rfl ?_
  refine aw_pR (pc := 54) hX hy fl_X12_31 rfl (Or.inr ⟨rfl, hr.2.2.2.1, rfl, fw_X12_31⟩) dX12_init_54 (fun h7 hy => ?_)
  refine aw_aloadn (pc := 57) hX 0 rfl dX12_init_57 ?_
  refine aw_bipush (pc := 58) hX 10 (by decide) dX12_init_58 ?_
  refine aw_newi (pc := 60) hX 10 10 (by decide) (by decide) (by decide) ar_int (le_c hr (by decide)) (le_s hr (by decide)) dX12_init_60 ?_
  refine AW.eqa (ce' := 7) (sl' := 221) rfl rfl ?_
  refine aw_pR (pc := 62) hX hy fl_X12_34 rfl (Or.inr ⟨rfl, hr.2.2.2.1, rfl, fw_X12_34⟩) dX12_init_62 (fun h8 hy => ?_)
  refine aw_aloadn (pc := 65) hX 0 rfl dX12_init_65 ?_
  refine aw_bipush (pc := 66) hX 6 (by decide) dX12_init_66 ?_
  refine aw_newi (pc := 68) hX 6 6 (by decide) (by decide) (by decide) ar_int (le_c hr (by decide)) (le_s hr (by decide)) dX12_init_68 ?_
  refine AW.eqa (ce' := 8) (sl' := 227) rfl rfl ?_
  refine aw_pR (pc := 70) hX hy fl_X12_37 rfl (Or.inr ⟨rfl, hr.2.2.2.1, rfl, fw_X12_37⟩) dX12_init_70 (fun h9 hy => ?_)
  refine aw_aloadn (pc := 73) hX 0 rfl dX12_init_73 ?_
  refine aw_bipush (pc := 74) hX 6 (by decide) dX12_init_74 ?_
  refine aw_newi (pc := 76) hX 6 6 (by decide) (by decide) (by decide) ar_int (le_c hr (by decide)) (le_s hr (by decide)) dX12_init_76 ?_
  refine AW.eqa (ce' := 9) (sl' := 233) rfl rfl ?_
  refine aw_pR (pc := 78) hX hy fl_X12_40 rfl (Or.inr ⟨rfl, hr.2.2.2.1, rfl, fw_X12_40⟩) dX12_init_78 (fun h10 hy => ?_)
  refine aw_aloadn (pc := 81) hX 0 rfl dX12_init_81 ?_
  refine aw_bipush (pc := 82) hX 6 (by decide) dX12_init_82 ?_
  refine aw_newi (pc := 84) hX 6 6 (by decide) (by decide) (by decide) ar_int (le_c hr (by decide)) (le_s hr (by decide)) dX12_init_84 ?_
  refine AW.eqa (ce' := 10) (sl' := 239) rfl rfl ?_
  refine aw_pR (pc := 86) hX hy fl_X12_43 rfl (Or.inr ⟨rfl, hr.2.2.2.1, rfl, fw_X12_43⟩) dX12_init_86 (fun h11 hy => ?_)
  refine aw_aloadn (pc := 89) hX 0 rfl dX12_init_89 ?_
  refine aw_bipush (pc := 90) hX 6 (by decide) dX12_init_90 ?_
  refine aw_newi (pc := 92) hX 6 6 (by decide) (by decide) (by decide) ar_int (le_c hr (by decide)) (le_s hr (by decide)) dX12_init_92 ?_
  refine AW.eqa (ce' := 11) (sl' := 245) rfl rfl ?_
  refine aw_pR (pc := 94) hX hy fl_X12_46 rfl (Or.inr ⟨rfl, hr.2.2.2.1, rfl, fw_X12_46⟩) dX12_init_94 (fun h12 hy => ?_)
  refine aw_aloadn (pc := 97) hX 0 rfl dX12_init_97 ?_
  refine aw_iconst (pc := 98) hX 4 (by decide) dX12_init_98 ?_
  refine aw_newi (pc := 99) hX 4 4 (by decide) (by decide) (by decide) ar_int (le_c hr (by decide)) (le_s hr (by decide)) dX12_init_99 ?_
  refine AW.eqa (ce' := 12) (sl' := 249) rfl rfl ?_
  refine aw_pR (pc := 101) hX hy fl_X12_49 rfl (Or.inr ⟨rfl, hr.2.2.2.1, rfl, fw_X12_49⟩) dX12_init_101 (fun h13 hy => ?_)
  refine aw_aloadn (pc := 104) hX 0 rfl dX12_init_104 ?_
  refine aw_iconst (pc := 105) hX 4 (by decide) dX12_init_105 ?_
  refine aw_newi (pc := 106) hX 4 4 (by decide) (by decide) (by decide) ar_int (le_c hr (by decide)) (le_s hr (by decide)) dX12_init_106 ?_
  refine AW.eqa (ce' := 13) (sl' := 253) rfl rfl ?_
  refine aw_pR (pc := 108) hX hy fl_X12_52 rfl (Or.inr ⟨rfl, hr.2.2.2.1, rfl, fw_X12_52⟩) dX12_init_108 (fun h14 hy => ?_)
  refine aw_aloadn (pc := 111) hX 0 rfl dX12_init_111 ?_
  refine aw_iconst (pc := 112) hX 4 (by decide) dX12_init_112 ?_
  refine aw_newi (pc := 113) hX 4 4 (by decide) (by decide) (by decide) ar_int (le_c hr (by decide)) (le_s hr (by decide)) dX12_init_113 ?_
  refine AW.eqa (ce' := 14) (sl' := 257) rfl rfl ?_
  refine aw_pR (pc := 115) hX hy fl_X12_55 rfl (Or.inr ⟨rfl, hr.2.2.2.1, rfl, fw_X12_55⟩) dX12_init_115 (fun h15 hy => ?_)
  refine aw_aloadn (pc := 118) hX 0 rfl dX12_init_118 ?_
  refine aw_iconst (pc := 119) hX 5 (by decide) dX12_init_119 ?_
  refine aw_newi (pc := 120) hX 5 5 (by decide) (by decide) (by decide) ar_int (le_c hr (by decide)) (le_s hr (by decide)) dX12_init_120 ?_
  refine AW.eqa (ce' := 15) (sl' := 262) rfl rfl ?_
  refine aw_pR (pc := 122) hX hy fl_X12_58 rfl (Or.inr ⟨rfl, hr.2.2.2.1, rfl, fw_X12_58⟩) dX12_init_122 (fun h16 hy => ?_)
  refine aw_aloadn (pc := 125) hX 0 rfl dX12_init_125 ?_
  refine aw_bipush (pc := 126) hX 17 (by decide) dX12_init_126 ?_
  refine aw_newl (pc := 128) hX 17 17 (by decide) (by decide) (by decide) ar_long (le_c hr (by decide)) (le_s hr (by decide)) dX12_init_128 ?_
  refine AW.eqa (ce' := 16) (sl' := 279) rfl rfl ?_
  refine aw_pR (pc := 130) hX hy fl_X12_61 rfl (Or.inr ⟨rfl, hr.2.2.2.1, rfl, fw_X12_61⟩) dX12_init_130 (fun h17 hy => ?_)
  refine aw_aloadn (pc := 133) hX 0 rfl dX12_init_133 ?_
  refine aw_bipush (pc := 134) hX 17 (by decide) dX12_init_134 ?_
  refine aw_newi (pc := 136) hX 17 17 (by decide) (by decide) (by decide) ar_int (le_c hr (by decide)) (le_s hr (by decide)) dX12_init_136 ?_
  refine AW.eqa (ce' := 17) (sl' := 296) rfl rfl ?_
  refine aw_pR (pc := 138) hX hy fl_X12_65 rfl (Or.inr ⟨rfl, hr.2.2.2.1, rfl, fw_X12_65⟩) dX12_init_138 (fun h18 hy => ?_)
  refine aw_aloadn (pc := 141) hX 0 rfl dX12_init_141 ?_
  refine aw_bipush (pc := 142) hX 17 (by decide) dX12_init_142 ?_
  refine aw_newi (pc := 144) hX 17 17 (by decide) (by decide) (by decide) ar_int (le_c hr (by decide)) (le_s hr (by decide)) dX12_init_144 ?_
  refine AW.eqa (ce' := 18) (sl' := 313) rfl rfl ?_
  refine aw_pR (pc := 146) hX hy fl_X12_68 rfl (Or.inr ⟨rfl, hr.2.2.2.1, rfl, fw_X12_68⟩) dX12_init_146 (fun h19 hy => ?_)
  refine aw_iconst (pc := 149) hX 0 (by decide) dX12_init_149 ?_
  refine aw_istoren (pc := 150) hX [(1, vI 0), (0, vR v0)] rfl (lt_n hN (by decide)) dX12_init_150 ?_
  refine AW.sub [1, 0] rfl ?_
  refine wl_X12_init_151 hX hN hr v0 ?_ FU (0, h19) hy.bd
  · intro q22 hy
    exact aw_vret (pc := 171) hX hr (by decide) (by decide) dX12_init_171 ⟨rfl, hy.s⟩
theorem con_X12_init (l : Launch) (G : GE) (h : Mem) (v0 : Nat) {P : Mem → Prop} (hy : OK (f_X12_init h v0) P) : Con l G yX12_init cX12_init 2 none rm_X12_init [vR v0] h (pmV P) := Con.of (by decide) (Nat.le_of_ble_eq_true rfl) (fun X hX hr hN => w_X12_init hX hN hr h v0 hy)
/-! X12_find -/
theorem dX12_find_0 : decode cX12_find 0 = .ok (.iconst 0, 1) := by decide +kernel
theorem dX12_find_1 : decode cX12_find 1 = .ok (.istore_n 3, 1) := by decide +kernel
theorem dX12_find_2 : decode cX12_find 2 = .ok (.iload_n 3, 1) := by decide +kernel
theorem dX12_find_3 : decode cX12_find 3 = .ok (.aload_n 0, 1) := by decide +kernel
theorem dX12_find_4 : decode cX12_find 4 = .ok (.getfield 71, 3) := by decide +kernel
theorem dX12_find_7 : decode cX12_find 7 = .ok (.if_icmp .ge 22, 3) := by decide +kernel
theorem dX12_find_10 : decode cX12_find 10 = .ok (.aload_n 0, 1) := by decide +kernel
theorem dX12_find_11 : decode cX12_find 11 = .ok (.getfield 61, 3) := by decide +kernel
theorem dX12_find_14 : decode cX12_find 14 = .ok (.iload_n 3, 1) := by decide +kernel
theorem dX12_find_15 : decode cX12_find 15 = .ok (.laload, 1) := by decide +kernel
theorem dX12_find_16 : decode cX12_find 16 = .ok (.lload_n 1, 1) := by decide +kernel
theorem dX12_find_17 : decode cX12_find 17 = .ok (.lcmp, 1) := by decide +kernel
theorem dX12_find_18 : decode cX12_find 18 = .ok (.ifCond .ne 5, 3) := by decide +kernel
theorem dX12_find_21 : decode cX12_find 21 = .ok (.iload_n 3, 1) := by decide +kernel
theorem dX12_find_22 : decode cX12_find 22 = .ok (.ireturn, 1) := by decide +kernel
theorem dX12_find_23 : decode cX12_find 23 = .ok (.iinc 3 1, 3) := by decide +kernel
theorem dX12_find_26 : decode cX12_find 26 = .ok (.goto (-24), 3) := by decide +kernel
theorem dX12_find_29 : decode cX12_find 29 = .ok (.iconst (-1), 1) := by decide +kernel
theorem dX12_find_30 : decode cX12_find 30 = .ok (.ireturn, 1) := by decide +kernel
abbrev rm_X12_find : Room := { frames := 0, cells := 0, slots := 0, locals := 0 }
def b_X12_find_2 (h : Mem) (v0 : Nat) (v1 : Int64) (v3 : Int32) : Option (Int32 ⊕ (Int32 ⊕ Unit)) :=
  (gI h v0 9 10).bind fun x1 => (if x1 ≤ v3 then some (.inr (.inr ())) else (gR h v0 25 10).bind fun r2 => (aL h r2 v3).bind fun x3 => (if (lg_cmp x3 v1) = 0 then some (.inr (.inl v3)) else some (.inl (v3 + 1))))
set_option maxRecDepth 100000 in
set_option maxHeartbeats 4000000 in
theorem wb_X12_find_2 {G : GE} {X : CX} {l : Launch} (hX : Ok G X cX12_find RX12) (hN : xn X = 4) (h : Mem) {P0 : Int32 → Prop} (hr : Rt G X l yX12_find (some .int) rm_X12_find (ppI h P0))  (v0 : Nat) (v1 : Int64) {P : (Int32 ⊕ (Int32 ⊕ Unit)) → Prop} (hc : ∀ s, P (.inl s) → AW G X 2 [(0, vR v0), (1, vL v1), (3, vI s)] [] h 0 0) (he0 : ∀ e, P (.inr (.inl e)) → AW G X 21 [(3, vI e)] [] h 0 0) (he1 : ∀ e, P (.inr (.inr e)) → AW G X 29 [] [] h 0 0) (v3 : Int32) (hy : OK (b_X12_find_2 h v0 v1 v3) P) : AW G X 2 [(0, vR v0), (1, vL v1), (3, vI v3)] [] h 0 0 := by
  unfold b_X12_find_2 at hy
  refine aw_iloadn (pc := 2) hX 2 rfl dX12_find_2 ?_
  refine aw_aloadn (pc := 3) hX 0 rfl dX12_find_3 ?_
  refine aw_gI (pc := 4) hX hy fl_X12_71 (fun _ _ => rfl) dX12_find_4 (fun x1 hy => ?_)
  refine aw_ic_ge (pc := 7) hX 29 (by decide) dX12_find_7 (fun hc9 => ?_) (fun hc9 => ?_)
  · have hy := hy.t hc9
    refine AW.sub [] rfl ?_
    exact he1 () hy.s
  · have hy := hy.f hc9
    refine aw_aloadn (pc := 10) hX 0 rfl dX12_find_10 ?_
    refine aw_gR (pc := 11) hX hy fl_X12_61 (fun _ _ => rfl) dX12_find_11 (fun r2 hy => ?_)
    refine aw_iloadn (pc := 14) hX 2 rfl dX12_find_14 ?_
    refine aw_aL (pc := 15) hX hy dX12_find_15 (fun x3 hy => ?_)
    refine aw_lloadn (pc := 16) hX 1 rfl dX12_find_16 ?_
    refine aw_lcmp (pc := 17) hX dX12_find_17 ?_
    refine aw_if_ne (pc := 18) hX 23 (by decide) dX12_find_18 (fun hc9 => ?_) (fun hc9 => ?_)
    · have hy := hy.f hc9
      refine aw_iinc (pc := 23) hX 1 (by decide) 2 rfl [(3, vI (v3 + 1)), (0, vR v0), (1, vL v1)] rfl (lt_n hN (by decide)) dX12_find_23 ?_
      refine aw_goto (pc := 26) hX 2 (by decide) dX12_find_26 ?_
      refine AW.sub [1, 2, 0] rfl ?_
      exact hc (v3 + 1) hy.s
    · have hy := hy.t hc9
      refine AW.sub [2] rfl ?_
      exact he0 v3 hy.s
theorem wl_X12_find_2 {G : GE} {X : CX} {l : Launch} (hX : Ok G X cX12_find RX12) (hN : xn X = 4) (h : Mem) {P0 : Int32 → Prop} (hr : Rt G X l yX12_find (some .int) rm_X12_find (ppI h P0)) (v0 : Nat) (v1 : Int64) {P : (Int32 ⊕ Unit) → Prop} (he0 : ∀ e, P (.inl e) → AW G X 21 [(3, vI e)] [] h 0 0) (he1 : ∀ e, P (.inr e) → AW G X 29 [] [] h 0 0) : ∀ (n : Nat) (s : Int32), OK (iter (fun (s : Int32) => b_X12_find_2 h v0 v1 s) n s) P → AW G X 2 [(0, vR v0), (1, vL v1), (3, vI s)] [] h 0 0 := by
  intro n
  induction n with
  | zero => exact fun s hy => hy.it0.elim
  | succ n ih =>
    intro s hy
    exact wb_X12_find_2 hX hN h hr v0 v1 (fun s hs => ih s hs) (fun e hs => he0 e hs) (fun e hs => he1 e hs) s hy.it
def f_X12_find (h : Mem) (v0 : Nat) (v1 : Int64) : Option Int32 :=
  (ck h v0 10).bind fun _ => (iter (fun (s : Int32) => b_X12_find_2 h v0 v1 s) FU 0).bind (Sum.elim (fun e5 => some e5) (fun e6 => some (-1)))
set_option maxRecDepth 100000 in
set_option maxHeartbeats 4000000 in
theorem w_X12_find {G : GE} {X : CX} {l : Launch} (hX : Ok G X cX12_find RX12) (hN : xn X = 4) (h : Mem) {P : Int32 → Prop} (hr : Rt G X l yX12_find (some .int) rm_X12_find (ppI h P)) (v0 : Nat) (v1 : Int64) (hy : OK (f_X12_find h v0 v1) P) : AW G X 0 [(0, vR v0), (1, vL v1)] [] h 0 0 := by
  unfold f_X12_find at hy
  have hkd := hy.kd
  have hy := hy.kb
  refine aw_iconst (pc := 0) hX 0 (by decide) dX12_find_0 ?_
  refine aw_istoren (pc := 1) hX [(3, vI 0), (0, vR v0), (1, vL v1)] rfl (lt_n hN (by decide)) dX12_find_1 ?_
  refine AW.sub [1, 2, 0] rfl ?_
  refine wl_X12_find_2 hX hN _ hr v0 v1 ?_ ?_ FU 0 hy.bd
  · intro e5 hy
    refine aw_iloadn (pc := 21) hX 0 rfl dX12_find_21 ?_
    exact aw_iret (pc := 22) hX hr (by decide) (by decide) dX12_find_22 ⟨rfl, _, rfl, hy.s⟩
  · intro e6 hy
    refine aw_iconst (pc := 29) hX (-1) (by decide) dX12_find_29 ?_
    exact aw_iret (pc := 30) hX hr (by decide) (by decide) dX12_find_30 ⟨rfl, _, rfl, hy.s⟩
theorem con_X12_find (l : Launch) (G : GE) (h : Mem) (v0 : Nat) (v1 : Int64) {P : Int32 → Prop} (hy : OK (f_X12_find h v0 v1) P) : Con l G yX12_find cX12_find 4 (some .int) rm_X12_find [vR v0, vL v1] h (ppI h P) := Con.of (by decide) (Nat.le_of_ble_eq_true rfl) (fun X hX hr hN => w_X12_find hX hN h hr v0 v1 hy)
/-! X12_note -/
theorem dX12_note_0 : decode cX12_note 0 = .ok (.aload_n 0, 1) := by decide +kernel
theorem dX12_note_1 : decode cX12_note 1 = .ok (.getfield 19, 3) := by decide +kernel
theorem dX12_note_4 : decode cX12_note 4 = .ok (.bipush 8, 2) := by decide +kernel
theorem dX12_note_6 : decode cX12_note 6 = .ok (.iload_n 1, 1) := by decide +kernel
theorem dX12_note_7 : decode cX12_note 7 = .ok (.imul, 1) := by decide +kernel
theorem dX12_note_8 : decode cX12_note 8 = .ok (.iload_n 2, 1) := by decide +kernel
theorem dX12_note_9 : decode cX12_note 9 = .ok (.iadd, 1) := by decide +kernel
theorem dX12_note_10 : decode cX12_note 10 = .ok (.iaload, 1) := by decide +kernel
theorem dX12_note_11 : decode cX12_note 11 = .ok (.ireturn, 1) := by decide +kernel
abbrev rm_X12_note : Room := { frames := 0, cells := 0, slots := 0, locals := 0 }
def f_X12_note (h : Mem) (v0 : Nat) (v1 : Int32) (v2 : Int32) : Option Int32 :=
  (ck h v0 10).bind fun _ => (gR h v0 11 10).bind fun r1 => (aI h r1 ((8 * v1) + v2)).bind fun x2 => some x2
set_option maxRecDepth 100000 in
set_option maxHeartbeats 4000000 in
theorem w_X12_note {G : GE} {X : CX} {l : Launch} (hX : Ok G X cX12_note RX12) (hN : xn X = 3) (h : Mem) {P : Int32 → Prop} (hr : Rt G X l yX12_note (some .int) rm_X12_note (ppI h P)) (v0 : Nat) (v1 : Int32) (v2 : Int32) (hy : OK (f_X12_note h v0 v1 v2) P) : AW G X 0 [(0, vR v0), (1, vI v1), (2, vI v2)] [] h 0 0 := by
  unfold f_X12_note at hy
  have hkd := hy.kd
  have hy := hy.kb
  refine aw_aloadn (pc := 0) hX 0 rfl dX12_note_0 ?_
  refine aw_gR (pc := 1) hX hy fl_X12_19 (fun _ _ => rfl) dX12_note_1 (fun r1 hy => ?_)
  refine aw_bipush (pc := 4) hX 8 (by decide) dX12_note_4 ?_
  refine aw_iloadn (pc := 6) hX 1 rfl dX12_note_6 ?_
  refine aw_imul (pc := 7) hX dX12_note_7 ?_
  refine aw_iloadn (pc := 8) hX 2 rfl dX12_note_8 ?_
  refine aw_iadd (pc := 9) hX dX12_note_9 ?_
  refine aw_aI (pc := 10) hX hy dX12_note_10 (fun x2 hy => ?_)
  exact aw_iret (pc := 11) hX hr (by decide) (by decide) dX12_note_11 ⟨rfl, _, rfl, hy.s⟩
theorem con_X12_note (l : Launch) (G : GE) (h : Mem) (v0 : Nat) (v1 : Int32) (v2 : Int32) {P : Int32 → Prop} (hy : OK (f_X12_note h v0 v1 v2) P) : Con l G yX12_note cX12_note 3 (some .int) rm_X12_note [vR v0, vI v1, vI v2] h (ppI h P) := Con.of (by decide) (Nat.le_of_ble_eq_true rfl) (fun X hX hr hN => w_X12_note hX hN h hr v0 v1 v2 hy)
/-! X13_init -/
theorem dX13_init_0 : decode cX13_init 0 = .ok (.aload_n 0, 1) := by decide +kernel
theorem dX13_init_1 : decode cX13_init 1 = .ok (.invokespecial 3, 3) := by decide +kernel
theorem dX13_init_4 : decode cX13_init 4 = .ok (.aload_n 0, 1) := by decide +kernel
theorem dX13_init_5 : decode cX13_init 5 = .ok (.iconst (-1), 1) := by decide +kernel
theorem dX13_init_6 : decode cX13_init 6 = .ok (.putfield 9, 3) := by decide +kernel
theorem dX13_init_9 : decode cX13_init 9 = .ok (.aload_n 0, 1) := by decide +kernel
theorem dX13_init_10 : decode cX13_init 10 = .ok (.sipush 1000, 3) := by decide +kernel
theorem dX13_init_13 : decode cX13_init 13 = .ok (.newarray .byte, 2) := by decide +kernel
theorem dX13_init_15 : decode cX13_init 15 = .ok (.putfield 13, 3) := by decide +kernel
theorem dX13_init_18 : decode cX13_init 18 = .ok (.aload_n 0, 1) := by decide +kernel
theorem dX13_init_19 : decode cX13_init 19 = .ok (.bipush 21, 2) := by decide +kernel
theorem dX13_init_21 : decode cX13_init 21 = .ok (.newarray .int, 2) := by decide +kernel
theorem dX13_init_23 : decode cX13_init 23 = .ok (.putfield 17, 3) := by decide +kernel
theorem dX13_init_26 : decode cX13_init 26 = .ok (.aload_n 0, 1) := by decide +kernel
theorem dX13_init_27 : decode cX13_init 27 = .ok (.sipush 336, 3) := by decide +kernel
theorem dX13_init_30 : decode cX13_init 30 = .ok (.newarray .int, 2) := by decide +kernel
theorem dX13_init_32 : decode cX13_init 32 = .ok (.putfield 21, 3) := by decide +kernel
theorem dX13_init_35 : decode cX13_init 35 = .ok (.aload_n 0, 1) := by decide +kernel
theorem dX13_init_36 : decode cX13_init 36 = .ok (.bipush 63, 2) := by decide +kernel
theorem dX13_init_38 : decode cX13_init 38 = .ok (.newarray .int, 2) := by decide +kernel
theorem dX13_init_40 : decode cX13_init 40 = .ok (.putfield 24, 3) := by decide +kernel
theorem dX13_init_43 : decode cX13_init 43 = .ok (.aload_n 0, 1) := by decide +kernel
theorem dX13_init_44 : decode cX13_init 44 = .ok (.bipush 49, 2) := by decide +kernel
theorem dX13_init_46 : decode cX13_init 46 = .ok (.newarray .int, 2) := by decide +kernel
theorem dX13_init_48 : decode cX13_init 48 = .ok (.putfield 27, 3) := by decide +kernel
theorem dX13_init_51 : decode cX13_init 51 = .ok (.aload_n 0, 1) := by decide +kernel
theorem dX13_init_52 : decode cX13_init 52 = .ok (.bipush 6, 2) := by decide +kernel
theorem dX13_init_54 : decode cX13_init 54 = .ok (.newarray .int, 2) := by decide +kernel
theorem dX13_init_56 : decode cX13_init 56 = .ok (.putfield 30, 3) := by decide +kernel
theorem dX13_init_59 : decode cX13_init 59 = .ok (.aload_n 0, 1) := by decide +kernel
theorem dX13_init_60 : decode cX13_init 60 = .ok (.bipush 48, 2) := by decide +kernel
theorem dX13_init_62 : decode cX13_init 62 = .ok (.newarray .int, 2) := by decide +kernel
theorem dX13_init_64 : decode cX13_init 64 = .ok (.putfield 33, 3) := by decide +kernel
theorem dX13_init_67 : decode cX13_init 67 = .ok (.aload_n 0, 1) := by decide +kernel
theorem dX13_init_68 : decode cX13_init 68 = .ok (.bipush 48, 2) := by decide +kernel
theorem dX13_init_70 : decode cX13_init 70 = .ok (.newarray .int, 2) := by decide +kernel
theorem dX13_init_72 : decode cX13_init 72 = .ok (.putfield 36, 3) := by decide +kernel
theorem dX13_init_75 : decode cX13_init 75 = .ok (.aload_n 0, 1) := by decide +kernel
theorem dX13_init_76 : decode cX13_init 76 = .ok (.bipush 6, 2) := by decide +kernel
theorem dX13_init_78 : decode cX13_init 78 = .ok (.newarray .int, 2) := by decide +kernel
theorem dX13_init_80 : decode cX13_init 80 = .ok (.putfield 39, 3) := by decide +kernel
theorem dX13_init_83 : decode cX13_init 83 = .ok (.aload_n 0, 1) := by decide +kernel
theorem dX13_init_84 : decode cX13_init 84 = .ok (.bipush 64, 2) := by decide +kernel
theorem dX13_init_86 : decode cX13_init 86 = .ok (.newarray .int, 2) := by decide +kernel
theorem dX13_init_88 : decode cX13_init 88 = .ok (.putfield 42, 3) := by decide +kernel
theorem dX13_init_91 : decode cX13_init 91 = .ok (.aload_n 0, 1) := by decide +kernel
theorem dX13_init_92 : decode cX13_init 92 = .ok (.bipush 42, 2) := by decide +kernel
theorem dX13_init_94 : decode cX13_init 94 = .ok (.newarray .int, 2) := by decide +kernel
theorem dX13_init_96 : decode cX13_init 96 = .ok (.putfield 45, 3) := by decide +kernel
theorem dX13_init_99 : decode cX13_init 99 = .ok (.aload_n 0, 1) := by decide +kernel
theorem dX13_init_100 : decode cX13_init 100 = .ok (.bipush 42, 2) := by decide +kernel
theorem dX13_init_102 : decode cX13_init 102 = .ok (.newarray .int, 2) := by decide +kernel
theorem dX13_init_104 : decode cX13_init 104 = .ok (.putfield 48, 3) := by decide +kernel
theorem dX13_init_107 : decode cX13_init 107 = .ok (.return_, 1) := by decide +kernel
abbrev rm_X13_init : Room := { frames := 1, cells := 12, slots := 1725, locals := 20 }
def f_X13_init (h : Mem) (v0 : Nat) : Option Mem :=
  (ck h v0 11).bind fun _ => (pI h v0 2 11 (-1)).bind fun h1 => (pR (mNew h1 102 1000) v0 5 11 (mN h1)).bind fun h2 => (pR (mNew h2 100 21) v0 16 11 (mN h2)).bind fun h3 => (pR (mNew h3 100 336) v0 17 11 (mN h3)).bind fun h4 => (pR (mNew h4 100 63) v0 18 11 (mN h4)).bind fun h5 => (pR (mNew h5 100 49) v0 21 11 (mN h5)).bind fun h6 => (pR (mNew h6 100 6) v0 25 11 (mN h6)).bind fun h7 => (pR (mNew h7 100 48) v0 26 11 (mN h7)).bind fun h8 => (pR (mNew h8 100 48) v0 27 11 (mN h8)).bind fun h9 => (pR (mNew h9 100 6) v0 28 11 (mN h9)).bind fun h10 => (pR (mNew h10 100 64) v0 32 11 (mN h10)).bind fun h11 => (pR (mNew h11 100 42) v0 33 11 (mN h11)).bind fun h12 => (pR (mNew h12 100 42) v0 34 11 (mN h12)).bind fun h13 => some h13
set_option maxRecDepth 100000 in
set_option maxHeartbeats 4000000 in
theorem w_X13_init {G : GE} {X : CX} {l : Launch} (hX : Ok G X cX13_init RX13) (hN : xn X = 1) {P : Mem → Prop} (hr : Rt G X l yX13_init none rm_X13_init (pmV P)) (h : Mem) (v0 : Nat) (hy : OK (f_X13_init h v0) P) : AW G X 0 [(0, vR v0)] [] h 0 0 := by
  unfold f_X13_init at hy
  have hkd := hy.kd
  have hy := hy.kb
  refine aw_aloadn (pc := 0) hX 0 rfl dX13_init_0 ?_
  refine aw_objInit0 (pc := 1) hX hkd oi_X13_3 oi_i oi_c (by decide) (Nat.le_of_ble_eq_true rfl) (le_f hr (by decide)) (le_l hr (by decide)) dX13_init_1 ?_
  refine aw_aloadn (pc := 4) hX 0 rfl dX13_init_4 ?_
  refine aw_iconst (pc := 5) hX (-1) (by decide) dX13_init_5 ?_
  refine aw_pI (pc := 6) hX hy fl_X13_9 rfl (Or.inl rfl) dX13_init_6 (fun h1 hy => ?_)
  refine aw_aloadn (pc := 9) hX 0 rfl dX13_init_9 ?_
  refine aw_sipush (pc := 10) hX 1000 (by decide) dX13_init_10 ?_
  refine aw_newb (pc := 13) hX 1000 1000 (by decide) (by decide) (by decide) ar_byte (le_c hr (by decide)) (le_s hr (by decide)) dX13_init_13 ?_
  refine AW.eqa (ce' := 1) (sl' := 1000) rfl rfl ?_
  refine aw_pR (pc := 15) hX hy fl_X13_13 rfl (Or.inr ⟨rfl, hr.2.2.2.1, rfl, fw_X13_13⟩) dX13_init_15 (fun h2 hy => ?_)
  refine aw_aloadn (pc := 18) hX 0 rfl dX13_init_18 ?_
  refine aw_bipush (pc := 19) hX 21 (by decide) dX13_init_19 ?_
  refine aw_newi (pc := 21) hX 21 21 (by decide) (by decide) (by decide) ar_int (le_c hr (by decide)) (le_s hr (by decide)) dX13_init_21 ?_
  refine AW.eqa (ce' := 2) (sl' := 1021) rfl rfl ?_
  refine aw_pR (pc := 23) hX hy fl_X13_17 rfl (Or.inr ⟨rfl, hr.2.2.2.1, rfl, fw_X13_17⟩) dX13_init_23 (fun h3 hy => ?_)
  refine aw_aloadn (pc := 26) hX 0 rfl dX13_init_26 ?_
  refine aw_sipush (pc := 27) hX 336 (by decide) dX13_init_27 ?_
  refine aw_newi (pc := 30) hX 336 336 (by decide) (by decide) (by decide) ar_int (le_c hr (by decide)) (le_s hr (by decide)) dX13_init_30 ?_
  refine AW.eqa (ce' := 3) (sl' := 1357) rfl rfl ?_
  refine aw_pR (pc := 32) hX hy fl_X13_21 rfl (Or.inr ⟨rfl, hr.2.2.2.1, rfl, fw_X13_21⟩) dX13_init_32 (fun h4 hy => ?_)
  refine aw_aloadn (pc := 35) hX 0 rfl dX13_init_35 ?_
  refine aw_bipush (pc := 36) hX 63 (by decide) dX13_init_36 ?_
  refine aw_newi (pc := 38) hX 63 63 (by decide) (by decide) (by decide) ar_int (le_c hr (by decide)) (le_s hr (by decide)) dX13_init_38 ?_
  refine AW.eqa (ce' := 4) (sl' := 1420) rfl rfl ?_
  refine aw_pR (pc := 40) hX hy fl_X13_24 rfl (Or.inr ⟨rfl, hr.2.2.2.1, rfl, fw_X13_24⟩) dX13_init_40 (fun h5 hy => ?_)
  refine aw_aloadn (pc := 43) hX 0 rfl dX13_init_43 ?_
  refine aw_bipush (pc := 44) hX 49 (by decide) dX13_init_44 ?_
  refine aw_newi (pc := 46) hX 49 49 (by decide) (by decide) (by decide) ar_int (le_c hr (by decide)) (le_s hr (by decide)) dX13_init_46 ?_
  refine AW.eqa (ce' := 5) (sl' := 1469) rfl rfl ?_
  refine aw_pR (pc := 48) hX hy fl_X13_27 rfl (Or.inr ⟨rfl, hr.2.2.2.1, rfl, fw_X13_27⟩) dX13_init_48 (fun h6 hy => ?_)
  refine aw_aloadn (pc := 51) hX 0 rfl dX13_init_51 ?_
  refine aw_bipush (pc := 52) hX 6 (by decide) dX13_init_52 ?_
  refine aw_newi (pc := 54) hX 6 6 (by decide) (by decide) (by decide) ar_int (le_c hr (by decide)) (le_s hr (by decide)) dX13_init_54 ?_
  refine AW.eqa (ce' := 6) (sl' := 1475) rfl rfl ?_
  refine aw_pR (pc := 56) hX hy fl_X13_30 rfl (Or.inr ⟨rfl, hr.2.2.2.1, rfl, fw_X13_30⟩) dX13_init_56 (fun h7 hy => ?_)
  refine aw_aloadn (pc := 59) hX 0 rfl dX13_init_59 ?_
  refine aw_bipush (pc := 60) hX 48 (by decide) dX13_init_60 ?_
  refine aw_newi (pc := 62) hX 48 48 (by decide) (by decide) (by decide) ar_int (le_c hr (by decide)) (le_s hr (by decide)) dX13_init_62 ?_
  refine AW.eqa (ce' := 7) (sl' := 1523) rfl rfl ?_
  refine aw_pR (pc := 64) hX hy fl_X13_33 rfl (Or.inr ⟨rfl, hr.2.2.2.1, rfl, fw_X13_33⟩) dX13_init_64 (fun h8 hy => ?_)
  refine aw_aloadn (pc := 67) hX 0 rfl dX13_init_67 ?_
  refine aw_bipush (pc := 68) hX 48 (by decide) dX13_init_68 ?_
  refine aw_newi (pc := 70) hX 48 48 (by decide) (by decide) (by decide) ar_int (le_c hr (by decide)) (le_s hr (by decide)) dX13_init_70 ?_
  refine AW.eqa (ce' := 8) (sl' := 1571) rfl rfl ?_
  refine aw_pR (pc := 72) hX hy fl_X13_36 rfl (Or.inr ⟨rfl, hr.2.2.2.1, rfl, fw_X13_36⟩) dX13_init_72 (fun h9 hy => ?_)
  refine aw_aloadn (pc := 75) hX 0 rfl dX13_init_75 ?_
  refine aw_bipush (pc := 76) hX 6 (by decide) dX13_init_76 ?_
  refine aw_newi (pc := 78) hX 6 6 (by decide) (by decide) (by decide) ar_int (le_c hr (by decide)) (le_s hr (by decide)) dX13_init_78 ?_
  refine AW.eqa (ce' := 9) (sl' := 1577) rfl rfl ?_
  refine aw_pR (pc := 80) hX hy fl_X13_39 rfl (Or.inr ⟨rfl, hr.2.2.2.1, rfl, fw_X13_39⟩) dX13_init_80 (fun h10 hy => ?_)
  refine aw_aloadn (pc := 83) hX 0 rfl dX13_init_83 ?_
  refine aw_bipush (pc := 84) hX 64 (by decide) dX13_init_84 ?_
  refine aw_newi (pc := 86) hX 64 64 (by decide) (by decide) (by decide) ar_int (le_c hr (by decide)) (le_s hr (by decide)) dX13_init_86 ?_
  refine AW.eqa (ce' := 10) (sl' := 1641) rfl rfl ?_
  refine aw_pR (pc := 88) hX hy fl_X13_42 rfl (Or.inr ⟨rfl, hr.2.2.2.1, rfl, fw_X13_42⟩) dX13_init_88 (fun h11 hy => ?_)
  refine aw_aloadn (pc := 91) hX 0 rfl dX13_init_91 ?_
  refine aw_bipush (pc := 92) hX 42 (by decide) dX13_init_92 ?_
  refine aw_newi (pc := 94) hX 42 42 (by decide) (by decide) (by decide) ar_int (le_c hr (by decide)) (le_s hr (by decide)) dX13_init_94 ?_
  refine AW.eqa (ce' := 11) (sl' := 1683) rfl rfl ?_
  refine aw_pR (pc := 96) hX hy fl_X13_45 rfl (Or.inr ⟨rfl, hr.2.2.2.1, rfl, fw_X13_45⟩) dX13_init_96 (fun h12 hy => ?_)
  refine aw_aloadn (pc := 99) hX 0 rfl dX13_init_99 ?_
  refine aw_bipush (pc := 100) hX 42 (by decide) dX13_init_100 ?_
  refine aw_newi (pc := 102) hX 42 42 (by decide) (by decide) (by decide) ar_int (le_c hr (by decide)) (le_s hr (by decide)) dX13_init_102 ?_
  refine AW.eqa (ce' := 12) (sl' := 1725) rfl rfl ?_
  refine aw_pR (pc := 104) hX hy fl_X13_48 rfl (Or.inr ⟨rfl, hr.2.2.2.1, rfl, fw_X13_48⟩) dX13_init_104 (fun h13 hy => ?_)
  exact aw_vret (pc := 107) hX hr (by decide) (by decide) dX13_init_107 ⟨rfl, hy.s⟩
theorem con_X13_init (l : Launch) (G : GE) (h : Mem) (v0 : Nat) {P : Mem → Prop} (hy : OK (f_X13_init h v0) P) : Con l G yX13_init cX13_init 1 none rm_X13_init [vR v0] h (pmV P) := Con.of (by decide) (Nat.le_of_ble_eq_true rfl) (fun X hX hr hN => w_X13_init hX hN hr h v0 hy)
/-! X13_thrown -/
theorem dX13_thrown_0 : decode cX13_thrown 0 = .ok (.aload_n 0, 1) := by decide +kernel
theorem dX13_thrown_1 : decode cX13_thrown 1 = .ok (.getfield 51, 3) := by decide +kernel
theorem dX13_thrown_4 : decode cX13_thrown 4 = .ok (.ireturn, 1) := by decide +kernel
abbrev rm_X13_thrown : Room := { frames := 0, cells := 0, slots := 0, locals := 0 }
def f_X13_thrown (h : Mem) (v0 : Nat) : Option Int32 :=
  (ck h v0 11).bind fun _ => (gI h v0 0 11).bind fun x1 => some x1
set_option maxRecDepth 100000 in
set_option maxHeartbeats 4000000 in
theorem w_X13_thrown {G : GE} {X : CX} {l : Launch} (hX : Ok G X cX13_thrown RX13) (hN : xn X = 1) (h : Mem) {P : Int32 → Prop} (hr : Rt G X l yX13_thrown (some .int) rm_X13_thrown (ppI h P)) (v0 : Nat) (hy : OK (f_X13_thrown h v0) P) : AW G X 0 [(0, vR v0)] [] h 0 0 := by
  unfold f_X13_thrown at hy
  have hkd := hy.kd
  have hy := hy.kb
  refine aw_aloadn (pc := 0) hX 0 rfl dX13_thrown_0 ?_
  refine aw_gI (pc := 1) hX hy fl_X13_51 (fun _ _ => rfl) dX13_thrown_1 (fun x1 hy => ?_)
  exact aw_iret (pc := 4) hX hr (by decide) (by decide) dX13_thrown_4 ⟨rfl, _, rfl, hy.s⟩
theorem con_X13_thrown (l : Launch) (G : GE) (h : Mem) (v0 : Nat) {P : Int32 → Prop} (hy : OK (f_X13_thrown h v0) P) : Con l G yX13_thrown cX13_thrown 1 (some .int) rm_X13_thrown [vR v0] h (ppI h P) := Con.of (by decide) (Nat.le_of_ble_eq_true rfl) (fun X hX hr hN => w_X13_thrown hX hN h hr v0 hy)
/-! X13_refused -/
theorem dX13_refused_0 : decode cX13_refused 0 = .ok (.aload_n 0, 1) := by decide +kernel
theorem dX13_refused_1 : decode cX13_refused 1 = .ok (.iload_n 1, 1) := by decide +kernel
theorem dX13_refused_2 : decode cX13_refused 2 = .ok (.putfield 54, 3) := by decide +kernel
theorem dX13_refused_5 : decode cX13_refused 5 = .ok (.aload_n 0, 1) := by decide +kernel
theorem dX13_refused_6 : decode cX13_refused 6 = .ok (.iconst (-1), 1) := by decide +kernel
theorem dX13_refused_7 : decode cX13_refused 7 = .ok (.putfield 9, 3) := by decide +kernel
theorem dX13_refused_10 : decode cX13_refused 10 = .ok (.iconst (-1), 1) := by decide +kernel
theorem dX13_refused_11 : decode cX13_refused 11 = .ok (.ireturn, 1) := by decide +kernel
abbrev rm_X13_refused : Room := { frames := 0, cells := 0, slots := 0, locals := 0 }
def f_X13_refused (h : Mem) (v0 : Nat) (v1 : Int32) : Option (Int32 × Mem) :=
  (ck h v0 11).bind fun _ => (pI h v0 1 11 v1).bind fun h1 => (pI h1 v0 2 11 (-1)).bind fun h2 => some ((-1), h2)
set_option maxRecDepth 100000 in
set_option maxHeartbeats 4000000 in
theorem w_X13_refused {G : GE} {X : CX} {l : Launch} (hX : Ok G X cX13_refused RX13) (hN : xn X = 2) {P : (Int32 × Mem) → Prop} (hr : Rt G X l yX13_refused (some .int) rm_X13_refused (pmI P)) (h : Mem) (v0 : Nat) (v1 : Int32) (hy : OK (f_X13_refused h v0 v1) P) : AW G X 0 [(0, vR v0), (1, vI v1)] [] h 0 0 := by
  unfold f_X13_refused at hy
  have hkd := hy.kd
  have hy := hy.kb
  refine aw_aloadn (pc := 0) hX 0 rfl dX13_refused_0 ?_
  refine aw_iloadn (pc := 1) hX 1 rfl dX13_refused_1 ?_
  refine aw_pI (pc := 2) hX hy fl_X13_54 rfl (Or.inl rfl) dX13_refused_2 (fun h1 hy => ?_)
  refine aw_aloadn (pc := 5) hX 0 rfl dX13_refused_5 ?_
  refine aw_iconst (pc := 6) hX (-1) (by decide) dX13_refused_6 ?_
  refine aw_pI (pc := 7) hX hy fl_X13_9 rfl (Or.inl rfl) dX13_refused_7 (fun h2 hy => ?_)
  refine aw_iconst (pc := 10) hX (-1) (by decide) dX13_refused_10 ?_
  exact aw_iret (pc := 11) hX hr (by decide) (by decide) dX13_refused_11 ⟨_, rfl, hy.s⟩
theorem con_X13_refused (l : Launch) (G : GE) (h : Mem) (v0 : Nat) (v1 : Int32) {P : (Int32 × Mem) → Prop} (hy : OK (f_X13_refused h v0 v1) P) : Con l G yX13_refused cX13_refused 2 (some .int) rm_X13_refused [vR v0, vI v1] h (pmI P) := Con.of (by decide) (Nat.le_of_ble_eq_true rfl) (fun X hX hr hN => w_X13_refused hX hN hr h v0 v1 hy)
/-! X13_lost -/
theorem dX13_lost_0 : decode cX13_lost 0 = .ok (.aload_n 0, 1) := by decide +kernel
theorem dX13_lost_1 : decode cX13_lost 1 = .ok (.iload_n 1, 1) := by decide +kernel
theorem dX13_lost_2 : decode cX13_lost 2 = .ok (.invokevirtual 57, 3) := by decide +kernel
theorem dX13_lost_5 : decode cX13_lost 5 = .ok (.pop, 1) := by decide +kernel
theorem dX13_lost_6 : decode cX13_lost 6 = .ok (.sipush (-1000), 3) := by decide +kernel
theorem dX13_lost_9 : decode cX13_lost 9 = .ok (.ireturn, 1) := by decide +kernel
abbrev rm_X13_lost : Room := { frames := 1, cells := 0, slots := 0, locals := 21 }
def f_X13_lost (h : Mem) (v0 : Nat) (v1 : Int32) : Option (Int32 × Mem) :=
  (ck h v0 11).bind fun _ => (f_X13_refused h v0 v1).bind fun q3 => some ((-1000), q3.2)
set_option maxRecDepth 100000 in
set_option maxHeartbeats 4000000 in
theorem w_X13_lost {G : GE} {X : CX} {l : Launch} (hX : Ok G X cX13_lost RX13) (hN : xn X = 2) {P : (Int32 × Mem) → Prop} (hr : Rt G X l yX13_lost (some .int) rm_X13_lost (pmI P)) (h : Mem) (v0 : Nat) (v1 : Int32) (hy : OK (f_X13_lost h v0 v1) P) : AW G X 0 [(0, vR v0), (1, vI v1)] [] h 0 0 := by
  unfold f_X13_lost at hy
  have hkd := hy.kd
  have hy := hy.kb
  refine aw_aloadn (pc := 0) hX 0 rfl dX13_lost_0 ?_
  refine aw_iloadn (pc := 1) hX 1 rfl dX13_lost_1 ?_
  refine aw_callV (pc := 2) (st := []) (a := v0) hX [vI v1] (con_X13_refused _ G _ v0 v1 hy.bd) mc_X13_refused ml_X13_57 im_X13_refused se_X13_refused (by decide) hy.bd.kd rfl (rm_of hr (by decide)) (Nat.le_of_ble_eq_true rfl) rfl dX13_lost_2 (kmI rfl rfl (fun q3 hy => ?_))
  refine aw_pop (pc := 5) hX rfl dX13_lost_5 ?_
  refine aw_sipush (pc := 6) hX (-1000) (by decide) dX13_lost_6 ?_
  exact aw_iret (pc := 9) hX hr (by decide) (by decide) dX13_lost_9 ⟨_, rfl, hy.s⟩
theorem con_X13_lost (l : Launch) (G : GE) (h : Mem) (v0 : Nat) (v1 : Int32) {P : (Int32 × Mem) → Prop} (hy : OK (f_X13_lost h v0 v1) P) : Con l G yX13_lost cX13_lost 2 (some .int) rm_X13_lost [vR v0, vI v1] h (pmI P) := Con.of (by decide) (Nat.le_of_ble_eq_true rfl) (fun X hX hr hN => w_X13_lost hX hN hr h v0 v1 hy)
/-! X13_denied -/
theorem dX13_denied_0 : decode cX13_denied 0 = .ok (.aload_n 0, 1) := by decide +kernel
theorem dX13_denied_1 : decode cX13_denied 1 = .ok (.iload_n 1, 1) := by decide +kernel
theorem dX13_denied_2 : decode cX13_denied 2 = .ok (.invokevirtual 57, 3) := by decide +kernel
theorem dX13_denied_5 : decode cX13_denied 5 = .ok (.pop, 1) := by decide +kernel
theorem dX13_denied_6 : decode cX13_denied 6 = .ok (.iconst 0, 1) := by decide +kernel
theorem dX13_denied_7 : decode cX13_denied 7 = .ok (.ireturn, 1) := by decide +kernel
abbrev rm_X13_denied : Room := { frames := 1, cells := 0, slots := 0, locals := 21 }
def f_X13_denied (h : Mem) (v0 : Nat) (v1 : Int32) : Option (Int32 × Mem) :=
  (ck h v0 11).bind fun _ => (f_X13_refused h v0 v1).bind fun q3 => some (0, q3.2)
set_option maxRecDepth 100000 in
set_option maxHeartbeats 4000000 in
theorem w_X13_denied {G : GE} {X : CX} {l : Launch} (hX : Ok G X cX13_denied RX13) (hN : xn X = 2) {P : (Int32 × Mem) → Prop} (hr : Rt G X l yX13_denied (some .boolean) rm_X13_denied (pmI P)) (h : Mem) (v0 : Nat) (v1 : Int32) (hy : OK (f_X13_denied h v0 v1) P) : AW G X 0 [(0, vR v0), (1, vI v1)] [] h 0 0 := by
  unfold f_X13_denied at hy
  have hkd := hy.kd
  have hy := hy.kb
  refine aw_aloadn (pc := 0) hX 0 rfl dX13_denied_0 ?_
  refine aw_iloadn (pc := 1) hX 1 rfl dX13_denied_1 ?_
  refine aw_callV (pc := 2) (st := []) (a := v0) hX [vI v1] (con_X13_refused _ G _ v0 v1 hy.bd) mc_X13_refused ml_X13_57 im_X13_refused se_X13_refused (by decide) hy.bd.kd rfl (rm_of hr (by decide)) (Nat.le_of_ble_eq_true rfl) rfl dX13_denied_2 (kmI rfl rfl (fun q3 hy => ?_))
  refine aw_pop (pc := 5) hX rfl dX13_denied_5 ?_
  refine aw_iconst (pc := 6) hX 0 (by decide) dX13_denied_6 ?_
  exact aw_zret (pc := 7) hX hr (by decide) (by decide) dX13_denied_7 (Or.inl rfl) ⟨_, rfl, hy.s⟩
theorem con_X13_denied (l : Launch) (G : GE) (h : Mem) (v0 : Nat) (v1 : Int32) {P : (Int32 × Mem) → Prop} (hy : OK (f_X13_denied h v0 v1) P) : Con l G yX13_denied cX13_denied 2 (some .boolean) rm_X13_denied [vR v0, vI v1] h (pmI P) := Con.of (by decide) (Nat.le_of_ble_eq_true rfl) (fun X hX hr hN => w_X13_denied hX hN hr h v0 v1 hy)
/-! X13_good -/
theorem dX13_good_0 : decode cX13_good 0 = .ok (.aload_n 0, 1) := by decide +kernel
theorem dX13_good_1 : decode cX13_good 1 = .ok (.iconst 0, 1) := by decide +kernel
theorem dX13_good_2 : decode cX13_good 2 = .ok (.putfield 54, 3) := by decide +kernel
theorem dX13_good_5 : decode cX13_good 5 = .ok (.aload_n 0, 1) := by decide +kernel
theorem dX13_good_6 : decode cX13_good 6 = .ok (.iconst (-1), 1) := by decide +kernel
theorem dX13_good_7 : decode cX13_good 7 = .ok (.putfield 9, 3) := by decide +kernel
theorem dX13_good_10 : decode cX13_good 10 = .ok (.iload_n 1, 1) := by decide +kernel
theorem dX13_good_11 : decode cX13_good 11 = .ok (.ireturn, 1) := by decide +kernel
abbrev rm_X13_good : Room := { frames := 0, cells := 0, slots := 0, locals := 0 }
def f_X13_good (h : Mem) (v0 : Nat) (v1 : Int32) : Option (Int32 × Mem) :=
  (ck h v0 11).bind fun _ => (pI h v0 1 11 0).bind fun h1 => (pI h1 v0 2 11 (-1)).bind fun h2 => some (v1, h2)
set_option maxRecDepth 100000 in
set_option maxHeartbeats 4000000 in
theorem w_X13_good {G : GE} {X : CX} {l : Launch} (hX : Ok G X cX13_good RX13) (hN : xn X = 2) {P : (Int32 × Mem) → Prop} (hr : Rt G X l yX13_good (some .int) rm_X13_good (pmI P)) (h : Mem) (v0 : Nat) (v1 : Int32) (hy : OK (f_X13_good h v0 v1) P) : AW G X 0 [(0, vR v0), (1, vI v1)] [] h 0 0 := by
  unfold f_X13_good at hy
  have hkd := hy.kd
  have hy := hy.kb
  refine aw_aloadn (pc := 0) hX 0 rfl dX13_good_0 ?_
  refine aw_iconst (pc := 1) hX 0 (by decide) dX13_good_1 ?_
  refine aw_pI (pc := 2) hX hy fl_X13_54 rfl (Or.inl rfl) dX13_good_2 (fun h1 hy => ?_)
  refine aw_aloadn (pc := 5) hX 0 rfl dX13_good_5 ?_
  refine aw_iconst (pc := 6) hX (-1) (by decide) dX13_good_6 ?_
  refine aw_pI (pc := 7) hX hy fl_X13_9 rfl (Or.inl rfl) dX13_good_7 (fun h2 hy => ?_)
  refine aw_iloadn (pc := 10) hX 1 rfl dX13_good_10 ?_
  exact aw_iret (pc := 11) hX hr (by decide) (by decide) dX13_good_11 ⟨_, rfl, hy.s⟩
theorem con_X13_good (l : Launch) (G : GE) (h : Mem) (v0 : Nat) (v1 : Int32) {P : (Int32 × Mem) → Prop} (hy : OK (f_X13_good h v0 v1) P) : Con l G yX13_good cX13_good 2 (some .int) rm_X13_good [vR v0, vI v1] h (pmI P) := Con.of (by decide) (Nat.le_of_ble_eq_true rfl) (fun X hX hr hN => w_X13_good hX hN hr h v0 v1 hy)
/-! X13_granted -/
theorem dX13_granted_0 : decode cX13_granted 0 = .ok (.aload_n 0, 1) := by decide +kernel
theorem dX13_granted_1 : decode cX13_granted 1 = .ok (.iconst 0, 1) := by decide +kernel
theorem dX13_granted_2 : decode cX13_granted 2 = .ok (.invokevirtual 61, 3) := by decide +kernel
theorem dX13_granted_5 : decode cX13_granted 5 = .ok (.pop, 1) := by decide +kernel
theorem dX13_granted_6 : decode cX13_granted 6 = .ok (.iconst 1, 1) := by decide +kernel
theorem dX13_granted_7 : decode cX13_granted 7 = .ok (.ireturn, 1) := by decide +kernel
abbrev rm_X13_granted : Room := { frames := 1, cells := 0, slots := 0, locals := 21 }
def f_X13_granted (h : Mem) (v0 : Nat) : Option (Int32 × Mem) :=
  (ck h v0 11).bind fun _ => (f_X13_good h v0 0).bind fun q3 => some (1, q3.2)
set_option maxRecDepth 100000 in
set_option maxHeartbeats 4000000 in
theorem w_X13_granted {G : GE} {X : CX} {l : Launch} (hX : Ok G X cX13_granted RX13) (hN : xn X = 1) {P : (Int32 × Mem) → Prop} (hr : Rt G X l yX13_granted (some .boolean) rm_X13_granted (pmI P)) (h : Mem) (v0 : Nat) (hy : OK (f_X13_granted h v0) P) : AW G X 0 [(0, vR v0)] [] h 0 0 := by
  unfold f_X13_granted at hy
  have hkd := hy.kd
  have hy := hy.kb
  refine aw_aloadn (pc := 0) hX 0 rfl dX13_granted_0 ?_
  refine aw_iconst (pc := 1) hX 0 (by decide) dX13_granted_1 ?_
  refine aw_callV (pc := 2) (st := []) (a := v0) hX [vI 0] (con_X13_good _ G _ v0 0 hy.bd) mc_X13_good ml_X13_61 im_X13_good se_X13_good (by decide) hy.bd.kd rfl (rm_of hr (by decide)) (Nat.le_of_ble_eq_true rfl) rfl dX13_granted_2 (kmI rfl rfl (fun q3 hy => ?_))
  refine aw_pop (pc := 5) hX rfl dX13_granted_5 ?_
  refine aw_iconst (pc := 6) hX 1 (by decide) dX13_granted_6 ?_
  exact aw_zret (pc := 7) hX hr (by decide) (by decide) dX13_granted_7 (Or.inr rfl) ⟨_, rfl, hy.s⟩
theorem con_X13_granted (l : Launch) (G : GE) (h : Mem) (v0 : Nat) {P : (Int32 × Mem) → Prop} (hy : OK (f_X13_granted h v0) P) : Con l G yX13_granted cX13_granted 1 (some .boolean) rm_X13_granted [vR v0] h (pmI P) := Con.of (by decide) (Nat.le_of_ble_eq_true rfl) (fun X hX hr hN => w_X13_granted hX hN hr h v0 hy)
/-! X13_in -/
theorem dX13_in_0 : decode cX13_in 0 = .ok (.iload_n 0, 1) := by decide +kernel
theorem dX13_in_1 : decode cX13_in 1 = .ok (.iload_n 1, 1) := by decide +kernel
theorem dX13_in_2 : decode cX13_in 2 = .ok (.if_icmp .lt 12, 3) := by decide +kernel
theorem dX13_in_5 : decode cX13_in 5 = .ok (.iload_n 0, 1) := by decide +kernel
theorem dX13_in_6 : decode cX13_in 6 = .ok (.iload_n 2, 1) := by decide +kernel
theorem dX13_in_7 : decode cX13_in 7 = .ok (.if_icmp .gt 7, 3) := by decide +kernel
theorem dX13_in_10 : decode cX13_in 10 = .ok (.iconst 1, 1) := by decide +kernel
theorem dX13_in_11 : decode cX13_in 11 = .ok (.goto 4, 3) := by decide +kernel
theorem dX13_in_14 : decode cX13_in 14 = .ok (.iconst 0, 1) := by decide +kernel
theorem dX13_in_15 : decode cX13_in 15 = .ok (.ireturn, 1) := by decide +kernel
abbrev rm_X13_in : Room := { frames := 0, cells := 0, slots := 0, locals := 0 }
def f_X13_in_14 (h : Mem) : Option Int32 :=
  some 0
set_option maxRecDepth 100000 in
set_option maxHeartbeats 4000000 in
theorem w_X13_in_14 {G : GE} {X : CX} {l : Launch} (hX : Ok G X cX13_in RX13) (hN : xn X = 3) (h : Mem) {P : Int32 → Prop} (hr : Rt G X l yX13_in (some .boolean) rm_X13_in (ppI h P)) (hy : OK (f_X13_in_14 h) P) : AW G X 14 [] [] h 0 0 := by
  unfold f_X13_in_14 at hy
  refine aw_iconst (pc := 14) hX 0 (by decide) dX13_in_14 ?_
  exact aw_zret (pc := 15) hX hr (by decide) (by decide) dX13_in_15 (Or.inl rfl) ⟨rfl, _, rfl, hy.s⟩
def f_X13_in (h : Mem) (v0 : Int32) (v1 : Int32) (v2 : Int32) : Option Int32 :=
  (if v0 < v1 then f_X13_in_14 h else (if v2 < v0 then f_X13_in_14 h else some 1))
set_option maxRecDepth 100000 in
set_option maxHeartbeats 4000000 in
theorem w_X13_in {G : GE} {X : CX} {l : Launch} (hX : Ok G X cX13_in RX13) (hN : xn X = 3) (h : Mem) {P : Int32 → Prop} (hr : Rt G X l yX13_in (some .boolean) rm_X13_in (ppI h P)) (v0 : Int32) (v1 : Int32) (v2 : Int32) (hy : OK (f_X13_in h v0 v1 v2) P) : AW G X 0 [(0, vI v0), (1, vI v1), (2, vI v2)] [] h 0 0 := by
  unfold f_X13_in at hy
  refine aw_iloadn (pc := 0) hX 0 rfl dX13_in_0 ?_
  refine aw_iloadn (pc := 1) hX 1 rfl dX13_in_1 ?_
  refine aw_ic_lt (pc := 2) hX 14 (by decide) dX13_in_2 (fun hc9 => ?_) (fun hc9 => ?_)
  · have hy := hy.t hc9
    refine AW.sub [] rfl ?_
    exact w_X13_in_14 hX hN _ hr hy
  · have hy := hy.f hc9
    refine aw_iloadn (pc := 5) hX 0 rfl dX13_in_5 ?_
    refine aw_iloadn (pc := 6) hX 2 rfl dX13_in_6 ?_
    refine aw_ic_gt (pc := 7) hX 14 (by decide) dX13_in_7 (fun hc9 => ?_) (fun hc9 => ?_)
    · have hy := hy.t hc9
      refine AW.sub [] rfl ?_
      exact w_X13_in_14 hX hN _ hr hy
    · have hy := hy.f hc9
      refine aw_iconst (pc := 10) hX 1 (by decide) dX13_in_10 ?_
      refine aw_goto (pc := 11) hX 15 (by decide) dX13_in_11 ?_
      exact aw_zret (pc := 15) hX hr (by decide) (by decide) dX13_in_15 (Or.inr rfl) ⟨rfl, _, rfl, hy.s⟩
theorem con_X13_in (l : Launch) (G : GE) (h : Mem) (v0 : Int32) (v1 : Int32) (v2 : Int32) {P : Int32 → Prop} (hy : OK (f_X13_in h v0 v1 v2) P) : Con l G yX13_in cX13_in 3 (some .boolean) rm_X13_in [vI v0, vI v1, vI v2] h (ppI h P) := Con.of (by decide) (Nat.le_of_ble_eq_true rfl) (fun X hX hr hN => w_X13_in hX hN h hr v0 v1 v2 hy)
/-! X13_bit -/
theorem dX13_bit_0 : decode cX13_bit 0 = .ok (.iload_n 0, 1) := by decide +kernel
theorem dX13_bit_1 : decode cX13_bit 1 = .ok (.iload_n 1, 1) := by decide +kernel
theorem dX13_bit_2 : decode cX13_bit 2 = .ok (.ishr, 1) := by decide +kernel
theorem dX13_bit_3 : decode cX13_bit 3 = .ok (.iconst 1, 1) := by decide +kernel
theorem dX13_bit_4 : decode cX13_bit 4 = .ok (.iand, 1) := by decide +kernel
theorem dX13_bit_5 : decode cX13_bit 5 = .ok (.iconst 1, 1) := by decide +kernel
theorem dX13_bit_6 : decode cX13_bit 6 = .ok (.if_icmp .ne 7, 3) := by decide +kernel
theorem dX13_bit_9 : decode cX13_bit 9 = .ok (.iconst 1, 1) := by decide +kernel
theorem dX13_bit_10 : decode cX13_bit 10 = .ok (.goto 4, 3) := by decide +kernel
theorem dX13_bit_13 : decode cX13_bit 13 = .ok (.iconst 0, 1) := by decide +kernel
theorem dX13_bit_14 : decode cX13_bit 14 = .ok (.ireturn, 1) := by decide +kernel
abbrev rm_X13_bit : Room := { frames := 0, cells := 0, slots := 0, locals := 0 }
def f_X13_bit (h : Mem) (v0 : Int32) (v1 : Int32) : Option Int32 :=
  (if (((v0 : Int32) >>> (v1 &&& 31)) &&& 1) = 1 then some 1 else some 0)
set_option maxRecDepth 100000 in
set_option maxHeartbeats 4000000 in
theorem w_X13_bit {G : GE} {X : CX} {l : Launch} (hX : Ok G X cX13_bit RX13) (hN : xn X = 2) (h : Mem) {P : Int32 → Prop} (hr : Rt G X l yX13_bit (some .boolean) rm_X13_bit (ppI h P)) (v0 : Int32) (v1 : Int32) (hy : OK (f_X13_bit h v0 v1) P) : AW G X 0 [(0, vI v0), (1, vI v1)] [] h 0 0 := by
  unfold f_X13_bit at hy
  refine aw_iloadn (pc := 0) hX 0 rfl dX13_bit_0 ?_
  refine aw_iloadn (pc := 1) hX 1 rfl dX13_bit_1 ?_
  refine aw_ishr (pc := 2) hX dX13_bit_2 ?_
  refine aw_iconst (pc := 3) hX 1 (by decide) dX13_bit_3 ?_
  refine aw_iand (pc := 4) hX dX13_bit_4 ?_
  refine aw_iconst (pc := 5) hX 1 (by decide) dX13_bit_5 ?_
  refine aw_ic_ne (pc := 6) hX 13 (by decide) dX13_bit_6 (fun hc9 => ?_) (fun hc9 => ?_)
  · have hy := hy.f hc9
    refine aw_iconst (pc := 13) hX 0 (by decide) dX13_bit_13 ?_
    exact aw_zret (pc := 14) hX hr (by decide) (by decide) dX13_bit_14 (Or.inl rfl) ⟨rfl, _, rfl, hy.s⟩
  · have hy := hy.t hc9
    refine aw_iconst (pc := 9) hX 1 (by decide) dX13_bit_9 ?_
    refine aw_goto (pc := 10) hX 14 (by decide) dX13_bit_10 ?_
    exact aw_zret (pc := 14) hX hr (by decide) (by decide) dX13_bit_14 (Or.inr rfl) ⟨rfl, _, rfl, hy.s⟩
theorem con_X13_bit (l : Launch) (G : GE) (h : Mem) (v0 : Int32) (v1 : Int32) {P : Int32 → Prop} (hy : OK (f_X13_bit h v0 v1) P) : Con l G yX13_bit cX13_bit 2 (some .boolean) rm_X13_bit [vI v0, vI v1] h (ppI h P) := Con.of (by decide) (Nat.le_of_ble_eq_true rfl) (fun X hX hr hN => w_X13_bit hX hN h hr v0 v1 hy)
/-! X13_bits -/
theorem dX13_bits_0 : decode cX13_bits 0 = .ok (.iconst 0, 1) := by decide +kernel
theorem dX13_bits_1 : decode cX13_bits 1 = .ok (.istore_n 1, 1) := by decide +kernel
theorem dX13_bits_2 : decode cX13_bits 2 = .ok (.iload_n 0, 1) := by decide +kernel
theorem dX13_bits_3 : decode cX13_bits 3 = .ok (.istore_n 2, 1) := by decide +kernel
theorem dX13_bits_4 : decode cX13_bits 4 = .ok (.iload_n 2, 1) := by decide +kernel
theorem dX13_bits_5 : decode cX13_bits 5 = .ok (.ifCond .eq 15, 3) := by decide +kernel
theorem dX13_bits_8 : decode cX13_bits 8 = .ok (.iinc 1 1, 3) := by decide +kernel
theorem dX13_bits_11 : decode cX13_bits 11 = .ok (.iload_n 2, 1) := by decide +kernel
theorem dX13_bits_12 : decode cX13_bits 12 = .ok (.iload_n 2, 1) := by decide +kernel
theorem dX13_bits_13 : decode cX13_bits 13 = .ok (.iconst 1, 1) := by decide +kernel
theorem dX13_bits_14 : decode cX13_bits 14 = .ok (.isub, 1) := by decide +kernel
theorem dX13_bits_15 : decode cX13_bits 15 = .ok (.iand, 1) := by decide +kernel
theorem dX13_bits_16 : decode cX13_bits 16 = .ok (.istore_n 2, 1) := by decide +kernel
theorem dX13_bits_17 : decode cX13_bits 17 = .ok (.goto (-13), 3) := by decide +kernel
theorem dX13_bits_20 : decode cX13_bits 20 = .ok (.iload_n 1, 1) := by decide +kernel
theorem dX13_bits_21 : decode cX13_bits 21 = .ok (.ireturn, 1) := by decide +kernel
abbrev rm_X13_bits : Room := { frames := 0, cells := 0, slots := 0, locals := 0 }
def b_X13_bits_4 (h : Mem) (v1 : Int32) (v2 : Int32) : Option ((Int32 × Int32) ⊕ Int32) :=
  (if v2 = 0 then some (.inr v1) else some (.inl ((v1 + 1), (v2 &&& (v2 - 1)))))
set_option maxRecDepth 100000 in
set_option maxHeartbeats 4000000 in
theorem wb_X13_bits_4 {G : GE} {X : CX} {l : Launch} (hX : Ok G X cX13_bits RX13) (hN : xn X = 3) (h : Mem) {P0 : Int32 → Prop} (hr : Rt G X l yX13_bits (some .int) rm_X13_bits (ppI h P0))  {P : ((Int32 × Int32) ⊕ Int32) → Prop} (hc : ∀ s, P (.inl s) → AW G X 4 [(1, vI s.1), (2, vI s.2)] [] h 0 0) (he0 : ∀ e, P (.inr e) → AW G X 20 [(1, vI e)] [] h 0 0) (v1 : Int32) (v2 : Int32) (hy : OK (b_X13_bits_4 h v1 v2) P) : AW G X 4 [(1, vI v1), (2, vI v2)] [] h 0 0 := by
  unfold b_X13_bits_4 at hy
  refine aw_iloadn (pc := 4) hX 1 rfl dX13_bits_4 ?_
  refine aw_if_eq (pc := 5) hX 20 (by decide) dX13_bits_5 (fun hc9 => ?_) (fun hc9 => ?_)
  · have hy := hy.t hc9
    refine AW.sub [0] rfl ?_
    exact he0 v1 hy.s
  · have hy := hy.f hc9
    refine aw_iinc (pc := 8) hX 1 (by decide) 0 rfl [(1, vI (v1 + 1)), (2, vI v2)] rfl (lt_n hN (by decide)) dX13_bits_8 ?_
    refine aw_iloadn (pc := 11) hX 1 rfl dX13_bits_11 ?_
    refine aw_iloadn (pc := 12) hX 1 rfl dX13_bits_12 ?_
    refine aw_iconst (pc := 13) hX 1 (by decide) dX13_bits_13 ?_
    refine aw_isub (pc := 14) hX dX13_bits_14 ?_
    refine aw_iand (pc := 15) hX dX13_bits_15 ?_
    refine aw_istoren (pc := 16) hX [(2, vI (v2 &&& (v2 - 1))), (1, vI (v1 + 1))] rfl (lt_n hN (by decide)) dX13_bits_16 ?_
    refine aw_goto (pc := 17) hX 4 (by decide) dX13_bits_17 ?_
    refine AW.sub [1, 0] rfl ?_
    exact hc ((v1 + 1), (v2 &&& (v2 - 1))) hy.s
theorem wl_X13_bits_4 {G : GE} {X : CX} {l : Launch} (hX : Ok G X cX13_bits RX13) (hN : xn X = 3) (h : Mem) {P0 : Int32 → Prop} (hr : Rt G X l yX13_bits (some .int) rm_X13_bits (ppI h P0)) {P : (Int32) → Prop} (he0 : ∀ e, P e → AW G X 20 [(1, vI e)] [] h 0 0) : ∀ (n : Nat) (s : Int32 × Int32), OK (iter (fun (s : Int32 × Int32) => b_X13_bits_4 h s.1 s.2) n s) P → AW G X 4 [(1, vI s.1), (2, vI s.2)] [] h 0 0 := by
  intro n
  induction n with
  | zero => exact fun s hy => hy.it0.elim
  | succ n ih =>
    intro s hy
    exact wb_X13_bits_4 hX hN h hr (fun s hs => ih s hs) (fun e hs => he0 e hs) s.1 s.2 hy.it
def f_X13_bits (h : Mem) (v0 : Int32) : Option Int32 :=
  (iter (fun (s : Int32 × Int32) => b_X13_bits_4 h s.1 s.2) FU (0, v0)).bind (fun q1 => some q1)
set_option maxRecDepth 100000 in
set_option maxHeartbeats 4000000 in
theorem w_X13_bits {G : GE} {X : CX} {l : Launch} (hX : Ok G X cX13_bits RX13) (hN : xn X = 3) (h : Mem) {P : Int32 → Prop} (hr : Rt G X l yX13_bits (some .int) rm_X13_bits (ppI h P)) (v0 : Int32) (hy : OK (f_X13_bits h v0) P) : AW G X 0 [(0, vI v0)] [] h 0 0 := by
  unfold f_X13_bits at hy
  refine aw_iconst (pc := 0) hX 0 (by decide) dX13_bits_0 ?_
  refine aw_istoren (pc := 1) hX [(1, vI 0), (0, vI v0)] rfl (lt_n hN (by decide)) dX13_bits_1 ?_
  refine aw_iloadn (pc := 2) hX 1 rfl dX13_bits_2 ?_
  refine aw_istoren (pc := 3) hX [(2, vI v0), (1, vI 0), (0, vI v0)] rfl (lt_n hN (by decide)) dX13_bits_3 ?_
  refine AW.sub [1, 0] rfl ?_
  refine wl_X13_bits_4 hX hN _ hr ?_ FU (0, v0) hy.bd
  · intro q1 hy
    refine aw_iloadn (pc := 20) hX 0 rfl dX13_bits_20 ?_
    exact aw_iret (pc := 21) hX hr (by decide) (by decide) dX13_bits_21 ⟨rfl, _, rfl, hy.s⟩
theorem con_X13_bits (l : Launch) (G : GE) (h : Mem) (v0 : Int32) {P : Int32 → Prop} (hy : OK (f_X13_bits h v0) P) : Con l G yX13_bits cX13_bits 3 (some .int) rm_X13_bits [vI v0] h (ppI h P) := Con.of (by decide) (Nat.le_of_ble_eq_true rfl) (fun X hX hr hN => w_X13_bits hX hN h hr v0 hy)
/-! X13_byteAt -/
theorem dX13_byteAt_0 : decode cX13_byteAt 0 = .ok (.iload_n 1, 1) := by decide +kernel
theorem dX13_byteAt_1 : decode cX13_byteAt 1 = .ok (.aload_n 0, 1) := by decide +kernel
theorem dX13_byteAt_2 : decode cX13_byteAt 2 = .ok (.getfield 64, 3) := by decide +kernel
theorem dX13_byteAt_5 : decode cX13_byteAt 5 = .ok (.if_icmp .ge 16, 3) := by decide +kernel
theorem dX13_byteAt_8 : decode cX13_byteAt 8 = .ok (.aload_n 0, 1) := by decide +kernel
theorem dX13_byteAt_9 : decode cX13_byteAt 9 = .ok (.getfield 13, 3) := by decide +kernel
theorem dX13_byteAt_12 : decode cX13_byteAt 12 = .ok (.iload_n 1, 1) := by decide +kernel
theorem dX13_byteAt_13 : decode cX13_byteAt 13 = .ok (.baload, 1) := by decide +kernel
theorem dX13_byteAt_14 : decode cX13_byteAt 14 = .ok (.sipush 255, 3) := by decide +kernel
theorem dX13_byteAt_17 : decode cX13_byteAt 17 = .ok (.iand, 1) := by decide +kernel
theorem dX13_byteAt_18 : decode cX13_byteAt 18 = .ok (.goto 4, 3) := by decide +kernel
theorem dX13_byteAt_21 : decode cX13_byteAt 21 = .ok (.iconst (-1), 1) := by decide +kernel
theorem dX13_byteAt_22 : decode cX13_byteAt 22 = .ok (.ireturn, 1) := by decide +kernel
abbrev rm_X13_byteAt : Room := { frames := 0, cells := 0, slots := 0, locals := 0 }
def f_X13_byteAt (h : Mem) (v0 : Nat) (v1 : Int32) : Option Int32 :=
  (ck h v0 11).bind fun _ => (gI h v0 7 11).bind fun x1 => (if x1 ≤ v1 then some (-1) else (gR h v0 5 11).bind fun r2 => (aB h r2 v1).bind fun x3 => some (x3 &&& 255))
set_option maxRecDepth 100000 in
set_option maxHeartbeats 4000000 in
theorem w_X13_byteAt {G : GE} {X : CX} {l : Launch} (hX : Ok G X cX13_byteAt RX13) (hN : xn X = 2) (h : Mem) {P : Int32 → Prop} (hr : Rt G X l yX13_byteAt (some .int) rm_X13_byteAt (ppI h P)) (v0 : Nat) (v1 : Int32) (hy : OK (f_X13_byteAt h v0 v1) P) : AW G X 0 [(0, vR v0), (1, vI v1)] [] h 0 0 := by
  unfold f_X13_byteAt at hy
  have hkd := hy.kd
  have hy := hy.kb
  refine aw_iloadn (pc := 0) hX 1 rfl dX13_byteAt_0 ?_
  refine aw_aloadn (pc := 1) hX 0 rfl dX13_byteAt_1 ?_
  refine aw_gI (pc := 2) hX hy fl_X13_64 (fun _ _ => rfl) dX13_byteAt_2 (fun x1 hy => ?_)
  refine aw_ic_ge (pc := 5) hX 21 (by decide) dX13_byteAt_5 (fun hc9 => ?_) (fun hc9 => ?_)
  · have hy := hy.t hc9
    refine aw_iconst (pc := 21) hX (-1) (by decide) dX13_byteAt_21 ?_
    exact aw_iret (pc := 22) hX hr (by decide) (by decide) dX13_byteAt_22 ⟨rfl, _, rfl, hy.s⟩
  · have hy := hy.f hc9
    refine aw_aloadn (pc := 8) hX 0 rfl dX13_byteAt_8 ?_
    refine aw_gR (pc := 9) hX hy fl_X13_13 (fun _ _ => rfl) dX13_byteAt_9 (fun r2 hy => ?_)
    refine aw_iloadn (pc := 12) hX 1 rfl dX13_byteAt_12 ?_
    refine aw_aB (pc := 13) hX hy dX13_byteAt_13 (fun x3 hy => ?_)
    refine aw_sipush (pc := 14) hX 255 (by decide) dX13_byteAt_14 ?_
    refine aw_iand (pc := 17) hX dX13_byteAt_17 ?_
    refine aw_goto (pc := 18) hX 22 (by decide) dX13_byteAt_18 ?_
    exact aw_iret (pc := 22) hX hr (by decide) (by decide) dX13_byteAt_22 ⟨rfl, _, rfl, hy.s⟩
theorem con_X13_byteAt (l : Launch) (G : GE) (h : Mem) (v0 : Nat) (v1 : Int32) {P : Int32 → Prop} (hy : OK (f_X13_byteAt h v0 v1) P) : Con l G yX13_byteAt cX13_byteAt 2 (some .int) rm_X13_byteAt [vR v0, vI v1] h (ppI h P) := Con.of (by decide) (Nat.le_of_ble_eq_true rfl) (fun X hX hr hN => w_X13_byteAt hX hN h hr v0 v1 hy)
/-! X13_isLetter -/
theorem dX13_isLetter_0 : decode cX13_isLetter 0 = .ok (.iload_n 0, 1) := by decide +kernel
theorem dX13_isLetter_1 : decode cX13_isLetter 1 = .ok (.bipush 97, 2) := by decide +kernel
theorem dX13_isLetter_3 : decode cX13_isLetter 3 = .ok (.if_icmp .lt 13, 3) := by decide +kernel
theorem dX13_isLetter_6 : decode cX13_isLetter 6 = .ok (.iload_n 0, 1) := by decide +kernel
theorem dX13_isLetter_7 : decode cX13_isLetter 7 = .ok (.bipush 122, 2) := by decide +kernel
theorem dX13_isLetter_9 : decode cX13_isLetter 9 = .ok (.if_icmp .gt 7, 3) := by decide +kernel
theorem dX13_isLetter_12 : decode cX13_isLetter 12 = .ok (.iconst 1, 1) := by decide +kernel
theorem dX13_isLetter_13 : decode cX13_isLetter 13 = .ok (.goto 4, 3) := by decide +kernel
theorem dX13_isLetter_16 : decode cX13_isLetter 16 = .ok (.iconst 0, 1) := by decide +kernel
theorem dX13_isLetter_17 : decode cX13_isLetter 17 = .ok (.ireturn, 1) := by decide +kernel
abbrev rm_X13_isLetter : Room := { frames := 0, cells := 0, slots := 0, locals := 0 }
def f_X13_isLetter_16 (h : Mem) : Option Int32 :=
  some 0
set_option maxRecDepth 100000 in
set_option maxHeartbeats 4000000 in
theorem w_X13_isLetter_16 {G : GE} {X : CX} {l : Launch} (hX : Ok G X cX13_isLetter RX13) (hN : xn X = 1) (h : Mem) {P : Int32 → Prop} (hr : Rt G X l yX13_isLetter (some .boolean) rm_X13_isLetter (ppI h P)) (hy : OK (f_X13_isLetter_16 h) P) : AW G X 16 [] [] h 0 0 := by
  unfold f_X13_isLetter_16 at hy
  refine aw_iconst (pc := 16) hX 0 (by decide) dX13_isLetter_16 ?_
  exact aw_zret (pc := 17) hX hr (by decide) (by decide) dX13_isLetter_17 (Or.inl rfl) ⟨rfl, _, rfl, hy.s⟩
def f_X13_isLetter (h : Mem) (v0 : Int32) : Option Int32 :=
  (if v0 < 97 then f_X13_isLetter_16 h else (if 122 < v0 then f_X13_isLetter_16 h else some 1))
set_option maxRecDepth 100000 in
set_option maxHeartbeats 4000000 in
theorem w_X13_isLetter {G : GE} {X : CX} {l : Launch} (hX : Ok G X cX13_isLetter RX13) (hN : xn X = 1) (h : Mem) {P : Int32 → Prop} (hr : Rt G X l yX13_isLetter (some .boolean) rm_X13_isLetter (ppI h P)) (v0 : Int32) (hy : OK (f_X13_isLetter h v0) P) : AW G X 0 [(0, vI v0)] [] h 0 0 := by
  unfold f_X13_isLetter at hy
  refine aw_iloadn (pc := 0) hX 0 rfl dX13_isLetter_0 ?_
  refine aw_bipush (pc := 1) hX 97 (by decide) dX13_isLetter_1 ?_
  refine aw_ic_lt (pc := 3) hX 16 (by decide) dX13_isLetter_3 (fun hc9 => ?_) (fun hc9 => ?_)
  · have hy := hy.t hc9
    refine AW.sub [] rfl ?_
    exact w_X13_isLetter_16 hX hN _ hr hy
  · have hy := hy.f hc9
    refine aw_iloadn (pc := 6) hX 0 rfl dX13_isLetter_6 ?_
    refine aw_bipush (pc := 7) hX 122 (by decide) dX13_isLetter_7 ?_
    refine aw_ic_gt (pc := 9) hX 16 (by decide) dX13_isLetter_9 (fun hc9 => ?_) (fun hc9 => ?_)
    · have hy := hy.t hc9
      refine AW.sub [] rfl ?_
      exact w_X13_isLetter_16 hX hN _ hr hy
    · have hy := hy.f hc9
      refine aw_iconst (pc := 12) hX 1 (by decide) dX13_isLetter_12 ?_
      refine aw_goto (pc := 13) hX 17 (by decide) dX13_isLetter_13 ?_
      exact aw_zret (pc := 17) hX hr (by decide) (by decide) dX13_isLetter_17 (Or.inr rfl) ⟨rfl, _, rfl, hy.s⟩
theorem con_X13_isLetter (l : Launch) (G : GE) (h : Mem) (v0 : Int32) {P : Int32 → Prop} (hy : OK (f_X13_isLetter h v0) P) : Con l G yX13_isLetter cX13_isLetter 1 (some .boolean) rm_X13_isLetter [vI v0] h (ppI h P) := Con.of (by decide) (Nat.le_of_ble_eq_true rfl) (fun X hX hr hN => w_X13_isLetter hX hN h hr v0 hy)
/-! X13_isDigit -/
theorem dX13_isDigit_0 : decode cX13_isDigit 0 = .ok (.iload_n 0, 1) := by decide +kernel
theorem dX13_isDigit_1 : decode cX13_isDigit 1 = .ok (.bipush 48, 2) := by decide +kernel
theorem dX13_isDigit_3 : decode cX13_isDigit 3 = .ok (.if_icmp .lt 13, 3) := by decide +kernel
theorem dX13_isDigit_6 : decode cX13_isDigit 6 = .ok (.iload_n 0, 1) := by decide +kernel
theorem dX13_isDigit_7 : decode cX13_isDigit 7 = .ok (.bipush 57, 2) := by decide +kernel
theorem dX13_isDigit_9 : decode cX13_isDigit 9 = .ok (.if_icmp .gt 7, 3) := by decide +kernel
theorem dX13_isDigit_12 : decode cX13_isDigit 12 = .ok (.iconst 1, 1) := by decide +kernel
theorem dX13_isDigit_13 : decode cX13_isDigit 13 = .ok (.goto 4, 3) := by decide +kernel
theorem dX13_isDigit_16 : decode cX13_isDigit 16 = .ok (.iconst 0, 1) := by decide +kernel
theorem dX13_isDigit_17 : decode cX13_isDigit 17 = .ok (.ireturn, 1) := by decide +kernel
abbrev rm_X13_isDigit : Room := { frames := 0, cells := 0, slots := 0, locals := 0 }
def f_X13_isDigit_16 (h : Mem) : Option Int32 :=
  some 0
set_option maxRecDepth 100000 in
set_option maxHeartbeats 4000000 in
theorem w_X13_isDigit_16 {G : GE} {X : CX} {l : Launch} (hX : Ok G X cX13_isDigit RX13) (hN : xn X = 1) (h : Mem) {P : Int32 → Prop} (hr : Rt G X l yX13_isDigit (some .boolean) rm_X13_isDigit (ppI h P)) (hy : OK (f_X13_isDigit_16 h) P) : AW G X 16 [] [] h 0 0 := by
  unfold f_X13_isDigit_16 at hy
  refine aw_iconst (pc := 16) hX 0 (by decide) dX13_isDigit_16 ?_
  exact aw_zret (pc := 17) hX hr (by decide) (by decide) dX13_isDigit_17 (Or.inl rfl) ⟨rfl, _, rfl, hy.s⟩
def f_X13_isDigit (h : Mem) (v0 : Int32) : Option Int32 :=
  (if v0 < 48 then f_X13_isDigit_16 h else (if 57 < v0 then f_X13_isDigit_16 h else some 1))
set_option maxRecDepth 100000 in
set_option maxHeartbeats 4000000 in
theorem w_X13_isDigit {G : GE} {X : CX} {l : Launch} (hX : Ok G X cX13_isDigit RX13) (hN : xn X = 1) (h : Mem) {P : Int32 → Prop} (hr : Rt G X l yX13_isDigit (some .boolean) rm_X13_isDigit (ppI h P)) (v0 : Int32) (hy : OK (f_X13_isDigit h v0) P) : AW G X 0 [(0, vI v0)] [] h 0 0 := by
  unfold f_X13_isDigit at hy
  refine aw_iloadn (pc := 0) hX 0 rfl dX13_isDigit_0 ?_
  refine aw_bipush (pc := 1) hX 48 (by decide) dX13_isDigit_1 ?_
  refine aw_ic_lt (pc := 3) hX 16 (by decide) dX13_isDigit_3 (fun hc9 => ?_) (fun hc9 => ?_)
  · have hy := hy.t hc9
    refine AW.sub [] rfl ?_
    exact w_X13_isDigit_16 hX hN _ hr hy
  · have hy := hy.f hc9
    refine aw_iloadn (pc := 6) hX 0 rfl dX13_isDigit_6 ?_
    refine aw_bipush (pc := 7) hX 57 (by decide) dX13_isDigit_7 ?_
    refine aw_ic_gt (pc := 9) hX 16 (by decide) dX13_isDigit_9 (fun hc9 => ?_) (fun hc9 => ?_)
    · have hy := hy.t hc9
      refine AW.sub [] rfl ?_
      exact w_X13_isDigit_16 hX hN _ hr hy
    · have hy := hy.f hc9
      refine aw_iconst (pc := 12) hX 1 (by decide) dX13_isDigit_12 ?_
      refine aw_goto (pc := 13) hX 17 (by decide) dX13_isDigit_13 ?_
      exact aw_zret (pc := 17) hX hr (by decide) (by decide) dX13_isDigit_17 (Or.inr rfl) ⟨rfl, _, rfl, hy.s⟩
theorem con_X13_isDigit (l : Launch) (G : GE) (h : Mem) (v0 : Int32) {P : Int32 → Prop} (hy : OK (f_X13_isDigit h v0) P) : Con l G yX13_isDigit cX13_isDigit 1 (some .boolean) rm_X13_isDigit [vI v0] h (ppI h P) := Con.of (by decide) (Nat.le_of_ble_eq_true rfl) (fun X hX hr hN => w_X13_isDigit hX hN h hr v0 hy)
/-! X13_packed -/
theorem dX13_packed_0 : decode cX13_packed 0 = .ok (.lconst 0, 1) := by decide +kernel
theorem dX13_packed_1 : decode cX13_packed 1 = .ok (.lstore_n 1, 1) := by decide +kernel
theorem dX13_packed_2 : decode cX13_packed 2 = .ok (.iconst 0, 1) := by decide +kernel
theorem dX13_packed_3 : decode cX13_packed 3 = .ok (.istore_n 3, 1) := by decide +kernel
theorem dX13_packed_4 : decode cX13_packed 4 = .ok (.iload_n 3, 1) := by decide +kernel
theorem dX13_packed_5 : decode cX13_packed 5 = .ok (.aload_n 0, 1) := by decide +kernel
theorem dX13_packed_6 : decode cX13_packed 6 = .ok (.invokevirtual 67, 3) := by decide +kernel
theorem dX13_packed_9 : decode cX13_packed 9 = .ok (.if_icmp .ge 27, 3) := by decide +kernel
theorem dX13_packed_12 : decode cX13_packed 12 = .ok (.ldc2_w 73, 3) := by decide +kernel
theorem dX13_packed_15 : decode cX13_packed 15 = .ok (.lload_n 1, 1) := by decide +kernel
theorem dX13_packed_16 : decode cX13_packed 16 = .ok (.lmul, 1) := by decide +kernel
theorem dX13_packed_17 : decode cX13_packed 17 = .ok (.aload_n 0, 1) := by decide +kernel
theorem dX13_packed_18 : decode cX13_packed 18 = .ok (.iload_n 3, 1) := by decide +kernel
theorem dX13_packed_19 : decode cX13_packed 19 = .ok (.invokevirtual 75, 3) := by decide +kernel
theorem dX13_packed_22 : decode cX13_packed 22 = .ok (.bipush 97, 2) := by decide +kernel
theorem dX13_packed_24 : decode cX13_packed 24 = .ok (.isub, 1) := by decide +kernel
theorem dX13_packed_25 : decode cX13_packed 25 = .ok (.iconst 1, 1) := by decide +kernel
theorem dX13_packed_26 : decode cX13_packed 26 = .ok (.iadd, 1) := by decide +kernel
theorem dX13_packed_27 : decode cX13_packed 27 = .ok (.i2l, 1) := by decide +kernel
theorem dX13_packed_28 : decode cX13_packed 28 = .ok (.ladd, 1) := by decide +kernel
theorem dX13_packed_29 : decode cX13_packed 29 = .ok (.lstore_n 1, 1) := by decide +kernel
theorem dX13_packed_30 : decode cX13_packed 30 = .ok (.iinc 3 1, 3) := by decide +kernel
theorem dX13_packed_33 : decode cX13_packed 33 = .ok (.goto (-29), 3) := by decide +kernel
theorem dX13_packed_36 : decode cX13_packed 36 = .ok (.lload_n 1, 1) := by decide +kernel
theorem dX13_packed_37 : decode cX13_packed 37 = .ok (.lreturn, 1) := by decide +kernel
abbrev rm_X13_packed : Room := { frames := 4, cells := 0, slots := 0, locals := 111 }
def b_X13_packed_4 (h : Mem) (v0 : Nat) (v1 : Int64) (v3 : Int32) : Option ((Int64 × Int32) ⊕ Int64) :=
  (xLen v0).bind fun x1 => (if x1 ≤ v3 then some (.inr v1) else (xChr v0 v3).bind fun x2 => some (.inl (((32 * v1) + ((((x2 - 97) + 1) : Int32).toInt64)), (v3 + 1))))
set_option maxRecDepth 100000 in
set_option maxHeartbeats 4000000 in
theorem wb_X13_packed_4 {G : GE} {X : CX} {l : Launch} (hX : Ok G X cX13_packed RX13) (hN : xn X = 4) (h : Mem) {P0 : Int64 → Prop} (hr : Rt G X l yX13_packed (some .long) rm_X13_packed (ppL h P0))  (v0 : Nat) {P : ((Int64 × Int32) ⊕ Int64) → Prop} (hc : ∀ s, P (.inl s) → AW G X 4 [(0, vX v0), (1, vL s.1), (3, vI s.2)] [] h 0 0) (he0 : ∀ e, P (.inr e) → AW G X 36 [(1, vL e)] [] h 0 0) (v1 : Int64) (v3 : Int32) (hy : OK (b_X13_packed_4 h v0 v1 v3) P) : AW G X 4 [(0, vX v0), (1, vL v1), (3, vI v3)] [] h 0 0 := by
  unfold b_X13_packed_4 at hy
  refine aw_iloadn (pc := 4) hX 2 rfl dX13_packed_4 ?_
  refine aw_xloadn (pc := 5) hX 0 rfl dX13_packed_5 ?_
  refine aw_callXL (pc := 6) hX hy ml_X13_67 (rm_of hr (by decide)) (Nat.le_of_ble_eq_true rfl) dX13_packed_6 (fun x1 hy => ?_)
  refine aw_ic_ge (pc := 9) hX 36 (by decide) dX13_packed_9 (fun hc9 => ?_) (fun hc9 => ?_)
  · have hy := hy.t hc9
    refine AW.sub [1] rfl ?_
    exact he0 v1 hy.s
  · have hy := hy.f hc9
    refine aw_ldc2 (pc := 12) hX kc_X13_73 dX13_packed_12 ?_
    refine aw_lloadn (pc := 15) hX 1 rfl dX13_packed_15 ?_
    refine aw_lmul (pc := 16) hX dX13_packed_16 ?_
    refine aw_xloadn (pc := 17) hX 0 rfl dX13_packed_17 ?_
    refine aw_iloadn (pc := 18) hX 2 rfl dX13_packed_18 ?_
    refine aw_callXC (pc := 19) hX hy ml_X13_75 (rm_of hr (by decide)) (Nat.le_of_ble_eq_true rfl) dX13_packed_19 (fun x2 hy => ?_)
    refine aw_bipush (pc := 22) hX 97 (by decide) dX13_packed_22 ?_
    refine aw_isub (pc := 24) hX dX13_packed_24 ?_
    refine aw_iconst (pc := 25) hX 1 (by decide) dX13_packed_25 ?_
    refine aw_iadd (pc := 26) hX dX13_packed_26 ?_
    refine aw_i2l (pc := 27) hX dX13_packed_27 ?_
    refine aw_ladd (pc := 28) hX dX13_packed_28 ?_
    refine aw_lstoren (pc := 29) hX [(1, vL ((32 * v1) + ((((x2 - 97) + 1) : Int32).toInt64))), (0, vX v0), (3, vI v3)] rfl (lt_n hN (by decide)) dX13_packed_29 ?_
    refine aw_iinc (pc := 30) hX 1 (by decide) 2 rfl [(3, vI (v3 + 1)), (1, vL ((32 * v1) + ((((x2 - 97) + 1) : Int32).toInt64))), (0, vX v0)] rfl (lt_n hN (by decide)) dX13_packed_30 ?_
    refine aw_goto (pc := 33) hX 4 (by decide) dX13_packed_33 ?_
    refine AW.sub [2, 1, 0] rfl ?_
    exact hc (((32 * v1) + ((((x2 - 97) + 1) : Int32).toInt64)), (v3 + 1)) hy.s
theorem wl_X13_packed_4 {G : GE} {X : CX} {l : Launch} (hX : Ok G X cX13_packed RX13) (hN : xn X = 4) (h : Mem) {P0 : Int64 → Prop} (hr : Rt G X l yX13_packed (some .long) rm_X13_packed (ppL h P0)) (v0 : Nat) {P : (Int64) → Prop} (he0 : ∀ e, P e → AW G X 36 [(1, vL e)] [] h 0 0) : ∀ (n : Nat) (s : Int64 × Int32), OK (iter (fun (s : Int64 × Int32) => b_X13_packed_4 h v0 s.1 s.2) n s) P → AW G X 4 [(0, vX v0), (1, vL s.1), (3, vI s.2)] [] h 0 0 := by
  intro n
  induction n with
  | zero => exact fun s hy => hy.it0.elim
  | succ n ih =>
    intro s hy
    exact wb_X13_packed_4 hX hN h hr v0 (fun s hs => ih s hs) (fun e hs => he0 e hs) s.1 s.2 hy.it
def f_X13_packed (h : Mem) (v0 : Nat) : Option Int64 :=
  (iter (fun (s : Int64 × Int32) => b_X13_packed_4 h v0 s.1 s.2) FU (0, 0)).bind (fun q3 => some q3)
set_option maxRecDepth 100000 in
set_option maxHeartbeats 4000000 in
theorem w_X13_packed {G : GE} {X : CX} {l : Launch} (hX : Ok G X cX13_packed RX13) (hN : xn X = 4) (h : Mem) {P : Int64 → Prop} (hr : Rt G X l yX13_packed (some .long) rm_X13_packed (ppL h P)) (v0 : Nat) (hy : OK (f_X13_packed h v0) P) : AW G X 0 [(0, vX v0)] [] h 0 0 := by
  unfold f_X13_packed at hy
  refine aw_lconst (pc := 0) hX 0 (by decide) dX13_packed_0 ?_
  refine aw_lstoren (pc := 1) hX [(1, vL 0), (0, vX v0)] rfl (lt_n hN (by decide)) dX13_packed_1 ?_
  refine aw_iconst (pc := 2) hX 0 (by decide) dX13_packed_2 ?_
  refine aw_istoren (pc := 3) hX [(3, vI 0), (1, vL 0), (0, vX v0)] rfl (lt_n hN (by decide)) dX13_packed_3 ?_
  refine AW.sub [2, 1, 0] rfl ?_
  refine wl_X13_packed_4 hX hN _ hr v0 ?_ FU (0, 0) hy.bd
  · intro q3 hy
    refine aw_lloadn (pc := 36) hX 0 rfl dX13_packed_36 ?_
    exact aw_lret (pc := 37) hX hr (by decide) (by decide) dX13_packed_37 ⟨rfl, _, rfl, hy.s⟩
theorem con_X13_packed (l : Launch) (G : GE) (h : Mem) (v0 : Nat) {P : Int64 → Prop} (hy : OK (f_X13_packed h v0) P) : Con l G yX13_packed cX13_packed 4 (some .long) rm_X13_packed [vX v0] h (ppL h P) := Con.of (by decide) (Nat.le_of_ble_eq_true rfl) (fun X hX hr hN => w_X13_packed hX hN h hr v0 hy)
/-! X13_goesOn -/
theorem dX13_goesOn_0 : decode cX13_goesOn 0 = .ok (.aload_n 0, 1) := by decide +kernel
theorem dX13_goesOn_1 : decode cX13_goesOn 1 = .ok (.getfield 79, 3) := by decide +kernel
theorem dX13_goesOn_4 : decode cX13_goesOn 4 = .ok (.iconst 5, 1) := by decide +kernel
theorem dX13_goesOn_5 : decode cX13_goesOn 5 = .ok (.if_icmp .ne 4, 3) := by decide +kernel
theorem dX13_goesOn_8 : decode cX13_goesOn 8 = .ok (.return_, 1) := by decide +kernel
theorem dX13_goesOn_9 : decode cX13_goesOn 9 = .ok (.aload_n 0, 1) := by decide +kernel
theorem dX13_goesOn_10 : decode cX13_goesOn 10 = .ok (.aload_n 0, 1) := by decide +kernel
theorem dX13_goesOn_11 : decode cX13_goesOn 11 = .ok (.getfield 82, 3) := by decide +kernel
theorem dX13_goesOn_14 : decode cX13_goesOn 14 = .ok (.invokevirtual 85, 3) := by decide +kernel
theorem dX13_goesOn_17 : decode cX13_goesOn 17 = .ok (.bipush 32, 2) := by decide +kernel
theorem dX13_goesOn_19 : decode cX13_goesOn 19 = .ok (.if_icmp .ne 16, 3) := by decide +kernel
theorem dX13_goesOn_22 : decode cX13_goesOn 22 = .ok (.aload_n 0, 1) := by decide +kernel
theorem dX13_goesOn_23 : decode cX13_goesOn 23 = .ok (.dup, 1) := by decide +kernel
theorem dX13_goesOn_24 : decode cX13_goesOn 24 = .ok (.getfield 82, 3) := by decide +kernel
theorem dX13_goesOn_27 : decode cX13_goesOn 27 = .ok (.iconst 1, 1) := by decide +kernel
theorem dX13_goesOn_28 : decode cX13_goesOn 28 = .ok (.iadd, 1) := by decide +kernel
theorem dX13_goesOn_29 : decode cX13_goesOn 29 = .ok (.putfield 82, 3) := by decide +kernel
theorem dX13_goesOn_32 : decode cX13_goesOn 32 = .ok (.goto (-23), 3) := by decide +kernel
theorem dX13_goesOn_35 : decode cX13_goesOn 35 = .ok (.aload_n 0, 1) := by decide +kernel
theorem dX13_goesOn_36 : decode cX13_goesOn 36 = .ok (.aload_n 0, 1) := by decide +kernel
theorem dX13_goesOn_37 : decode cX13_goesOn 37 = .ok (.getfield 82, 3) := by decide +kernel
theorem dX13_goesOn_40 : decode cX13_goesOn 40 = .ok (.putfield 88, 3) := by decide +kernel
theorem dX13_goesOn_43 : decode cX13_goesOn 43 = .ok (.aload_n 0, 1) := by decide +kernel
theorem dX13_goesOn_44 : decode cX13_goesOn 44 = .ok (.iconst 0, 1) := by decide +kernel
theorem dX13_goesOn_45 : decode cX13_goesOn 45 = .ok (.putfield 79, 3) := by decide +kernel
theorem dX13_goesOn_48 : decode cX13_goesOn 48 = .ok (.aload_n 0, 1) := by decide +kernel
theorem dX13_goesOn_49 : decode cX13_goesOn 49 = .ok (.aload_n 0, 1) := by decide +kernel
theorem dX13_goesOn_50 : decode cX13_goesOn 50 = .ok (.getfield 82, 3) := by decide +kernel
theorem dX13_goesOn_53 : decode cX13_goesOn 53 = .ok (.invokevirtual 85, 3) := by decide +kernel
theorem dX13_goesOn_56 : decode cX13_goesOn 56 = .ok (.istore_n 1, 1) := by decide +kernel
theorem dX13_goesOn_57 : decode cX13_goesOn 57 = .ok (.iconst 0, 1) := by decide +kernel
theorem dX13_goesOn_58 : decode cX13_goesOn 58 = .ok (.istore_n 2, 1) := by decide +kernel
theorem dX13_goesOn_59 : decode cX13_goesOn 59 = .ok (.iload_n 1, 1) := by decide +kernel
theorem dX13_goesOn_60 : decode cX13_goesOn 60 = .ok (.iconst (-1), 1) := by decide +kernel
theorem dX13_goesOn_61 : decode cX13_goesOn 61 = .ok (.if_icmp .ne 11, 3) := by decide +kernel
theorem dX13_goesOn_64 : decode cX13_goesOn 64 = .ok (.aload_n 0, 1) := by decide +kernel
theorem dX13_goesOn_65 : decode cX13_goesOn 65 = .ok (.iconst 1, 1) := by decide +kernel
theorem dX13_goesOn_66 : decode cX13_goesOn 66 = .ok (.putfield 79, 3) := by decide +kernel
theorem dX13_goesOn_69 : decode cX13_goesOn 69 = .ok (.goto 201, 3) := by decide +kernel
theorem dX13_goesOn_72 : decode cX13_goesOn 72 = .ok (.iload_n 1, 1) := by decide +kernel
theorem dX13_goesOn_73 : decode cX13_goesOn 73 = .ok (.invokestatic 91, 3) := by decide +kernel
theorem dX13_goesOn_76 : decode cX13_goesOn 76 = .ok (.ifCond .eq 90, 3) := by decide +kernel
theorem dX13_goesOn_79 : decode cX13_goesOn 79 = .ok (.aload_n 0, 1) := by decide +kernel
theorem dX13_goesOn_80 : decode cX13_goesOn 80 = .ok (.lconst 0, 1) := by decide +kernel
theorem dX13_goesOn_81 : decode cX13_goesOn 81 = .ok (.putfield 95, 3) := by decide +kernel
theorem dX13_goesOn_84 : decode cX13_goesOn 84 = .ok (.aload_n 0, 1) := by decide +kernel
theorem dX13_goesOn_85 : decode cX13_goesOn 85 = .ok (.aload_n 0, 1) := by decide +kernel
theorem dX13_goesOn_86 : decode cX13_goesOn 86 = .ok (.getfield 82, 3) := by decide +kernel
theorem dX13_goesOn_89 : decode cX13_goesOn 89 = .ok (.invokevirtual 85, 3) := by decide +kernel
theorem dX13_goesOn_92 : decode cX13_goesOn 92 = .ok (.invokestatic 91, 3) := by decide +kernel
theorem dX13_goesOn_95 : decode cX13_goesOn 95 = .ok (.ifCond .eq 52, 3) := by decide +kernel
theorem dX13_goesOn_98 : decode cX13_goesOn 98 = .ok (.iload_n 2, 1) := by decide +kernel
theorem dX13_goesOn_99 : decode cX13_goesOn 99 = .ok (.bipush 8, 2) := by decide +kernel
theorem dX13_goesOn_101 : decode cX13_goesOn 101 = .ok (.if_icmp .ge 30, 3) := by decide +kernel
theorem dX13_goesOn_104 : decode cX13_goesOn 104 = .ok (.aload_n 0, 1) := by decide +kernel
theorem dX13_goesOn_105 : decode cX13_goesOn 105 = .ok (.ldc2_w 73, 3) := by decide +kernel
theorem dX13_goesOn_108 : decode cX13_goesOn 108 = .ok (.aload_n 0, 1) := by decide +kernel
theorem dX13_goesOn_109 : decode cX13_goesOn 109 = .ok (.getfield 95, 3) := by decide +kernel
theorem dX13_goesOn_112 : decode cX13_goesOn 112 = .ok (.lmul, 1) := by decide +kernel
theorem dX13_goesOn_113 : decode cX13_goesOn 113 = .ok (.aload_n 0, 1) := by decide +kernel
theorem dX13_goesOn_114 : decode cX13_goesOn 114 = .ok (.aload_n 0, 1) := by decide +kernel
theorem dX13_goesOn_115 : decode cX13_goesOn 115 = .ok (.getfield 82, 3) := by decide +kernel
theorem dX13_goesOn_118 : decode cX13_goesOn 118 = .ok (.invokevirtual 85, 3) := by decide +kernel
theorem dX13_goesOn_121 : decode cX13_goesOn 121 = .ok (.bipush 97, 2) := by decide +kernel
theorem dX13_goesOn_123 : decode cX13_goesOn 123 = .ok (.isub, 1) := by decide +kernel
theorem dX13_goesOn_124 : decode cX13_goesOn 124 = .ok (.iconst 1, 1) := by decide +kernel
theorem dX13_goesOn_125 : decode cX13_goesOn 125 = .ok (.iadd, 1) := by decide +kernel
theorem dX13_goesOn_126 : decode cX13_goesOn 126 = .ok (.i2l, 1) := by decide +kernel
theorem dX13_goesOn_127 : decode cX13_goesOn 127 = .ok (.ladd, 1) := by decide +kernel
theorem dX13_goesOn_128 : decode cX13_goesOn 128 = .ok (.putfield 95, 3) := by decide +kernel
theorem dX13_goesOn_131 : decode cX13_goesOn 131 = .ok (.iinc 2 1, 3) := by decide +kernel
theorem dX13_goesOn_134 : decode cX13_goesOn 134 = .ok (.aload_n 0, 1) := by decide +kernel
theorem dX13_goesOn_135 : decode cX13_goesOn 135 = .ok (.dup, 1) := by decide +kernel
theorem dX13_goesOn_136 : decode cX13_goesOn 136 = .ok (.getfield 82, 3) := by decide +kernel
theorem dX13_goesOn_139 : decode cX13_goesOn 139 = .ok (.iconst 1, 1) := by decide +kernel
theorem dX13_goesOn_140 : decode cX13_goesOn 140 = .ok (.iadd, 1) := by decide +kernel
theorem dX13_goesOn_141 : decode cX13_goesOn 141 = .ok (.putfield 82, 3) := by decide +kernel
theorem dX13_goesOn_144 : decode cX13_goesOn 144 = .ok (.goto (-60), 3) := by decide +kernel
theorem dX13_goesOn_147 : decode cX13_goesOn 147 = .ok (.aload_n 0, 1) := by decide +kernel
theorem dX13_goesOn_148 : decode cX13_goesOn 148 = .ok (.iload_n 2, 1) := by decide +kernel
theorem dX13_goesOn_149 : decode cX13_goesOn 149 = .ok (.putfield 99, 3) := by decide +kernel
theorem dX13_goesOn_152 : decode cX13_goesOn 152 = .ok (.iload_n 2, 1) := by decide +kernel
theorem dX13_goesOn_153 : decode cX13_goesOn 153 = .ok (.bipush 8, 2) := by decide +kernel
theorem dX13_goesOn_155 : decode cX13_goesOn 155 = .ok (.if_icmp .gt 115, 3) := by decide +kernel
theorem dX13_goesOn_158 : decode cX13_goesOn 158 = .ok (.aload_n 0, 1) := by decide +kernel
theorem dX13_goesOn_159 : decode cX13_goesOn 159 = .ok (.iconst 2, 1) := by decide +kernel
theorem dX13_goesOn_160 : decode cX13_goesOn 160 = .ok (.putfield 79, 3) := by decide +kernel
theorem dX13_goesOn_163 : decode cX13_goesOn 163 = .ok (.goto 107, 3) := by decide +kernel
theorem dX13_goesOn_166 : decode cX13_goesOn 166 = .ok (.iload_n 1, 1) := by decide +kernel
theorem dX13_goesOn_167 : decode cX13_goesOn 167 = .ok (.invokestatic 102, 3) := by decide +kernel
theorem dX13_goesOn_170 : decode cX13_goesOn 170 = .ok (.ifCond .eq 79, 3) := by decide +kernel
theorem dX13_goesOn_173 : decode cX13_goesOn 173 = .ok (.aload_n 0, 1) := by decide +kernel
theorem dX13_goesOn_174 : decode cX13_goesOn 174 = .ok (.iconst 0, 1) := by decide +kernel
theorem dX13_goesOn_175 : decode cX13_goesOn 175 = .ok (.putfield 105, 3) := by decide +kernel
theorem dX13_goesOn_178 : decode cX13_goesOn 178 = .ok (.aload_n 0, 1) := by decide +kernel
theorem dX13_goesOn_179 : decode cX13_goesOn 179 = .ok (.aload_n 0, 1) := by decide +kernel
theorem dX13_goesOn_180 : decode cX13_goesOn 180 = .ok (.getfield 82, 3) := by decide +kernel
theorem dX13_goesOn_183 : decode cX13_goesOn 183 = .ok (.invokevirtual 85, 3) := by decide +kernel
theorem dX13_goesOn_186 : decode cX13_goesOn 186 = .ok (.invokestatic 102, 3) := by decide +kernel
theorem dX13_goesOn_189 : decode cX13_goesOn 189 = .ok (.ifCond .eq 47, 3) := by decide +kernel
theorem dX13_goesOn_192 : decode cX13_goesOn 192 = .ok (.iload_n 2, 1) := by decide +kernel
theorem dX13_goesOn_193 : decode cX13_goesOn 193 = .ok (.iconst 3, 1) := by decide +kernel
theorem dX13_goesOn_194 : decode cX13_goesOn 194 = .ok (.if_icmp .ge 26, 3) := by decide +kernel
theorem dX13_goesOn_197 : decode cX13_goesOn 197 = .ok (.aload_n 0, 1) := by decide +kernel
theorem dX13_goesOn_198 : decode cX13_goesOn 198 = .ok (.bipush 10, 2) := by decide +kernel
theorem dX13_goesOn_200 : decode cX13_goesOn 200 = .ok (.aload_n 0, 1) := by decide +kernel
theorem dX13_goesOn_201 : decode cX13_goesOn 201 = .ok (.getfield 105, 3) := by decide +kernel
theorem dX13_goesOn_204 : decode cX13_goesOn 204 = .ok (.imul, 1) := by decide +kernel
theorem dX13_goesOn_205 : decode cX13_goesOn 205 = .ok (.aload_n 0, 1) := by decide +kernel
theorem dX13_goesOn_206 : decode cX13_goesOn 206 = .ok (.aload_n 0, 1) := by decide +kernel
theorem dX13_goesOn_207 : decode cX13_goesOn 207 = .ok (.getfield 82, 3) := by decide +kernel
theorem dX13_goesOn_210 : decode cX13_goesOn 210 = .ok (.invokevirtual 85, 3) := by decide +kernel
theorem dX13_goesOn_213 : decode cX13_goesOn 213 = .ok (.iadd, 1) := by decide +kernel
theorem dX13_goesOn_214 : decode cX13_goesOn 214 = .ok (.bipush 48, 2) := by decide +kernel
theorem dX13_goesOn_216 : decode cX13_goesOn 216 = .ok (.isub, 1) := by decide +kernel
theorem dX13_goesOn_217 : decode cX13_goesOn 217 = .ok (.putfield 105, 3) := by decide +kernel
theorem dX13_goesOn_220 : decode cX13_goesOn 220 = .ok (.iinc 2 1, 3) := by decide +kernel
theorem dX13_goesOn_223 : decode cX13_goesOn 223 = .ok (.aload_n 0, 1) := by decide +kernel
theorem dX13_goesOn_224 : decode cX13_goesOn 224 = .ok (.dup, 1) := by decide +kernel
theorem dX13_goesOn_225 : decode cX13_goesOn 225 = .ok (.getfield 82, 3) := by decide +kernel
theorem dX13_goesOn_228 : decode cX13_goesOn 228 = .ok (.iconst 1, 1) := by decide +kernel
theorem dX13_goesOn_229 : decode cX13_goesOn 229 = .ok (.iadd, 1) := by decide +kernel
theorem dX13_goesOn_230 : decode cX13_goesOn 230 = .ok (.putfield 82, 3) := by decide +kernel
theorem dX13_goesOn_233 : decode cX13_goesOn 233 = .ok (.goto (-55), 3) := by decide +kernel
theorem dX13_goesOn_236 : decode cX13_goesOn 236 = .ok (.iload_n 2, 1) := by decide +kernel
theorem dX13_goesOn_237 : decode cX13_goesOn 237 = .ok (.iconst 3, 1) := by decide +kernel
theorem dX13_goesOn_238 : decode cX13_goesOn 238 = .ok (.if_icmp .gt 32, 3) := by decide +kernel
theorem dX13_goesOn_241 : decode cX13_goesOn 241 = .ok (.aload_n 0, 1) := by decide +kernel
theorem dX13_goesOn_242 : decode cX13_goesOn 242 = .ok (.iconst 3, 1) := by decide +kernel
theorem dX13_goesOn_243 : decode cX13_goesOn 243 = .ok (.putfield 79, 3) := by decide +kernel
theorem dX13_goesOn_246 : decode cX13_goesOn 246 = .ok (.goto 24, 3) := by decide +kernel
theorem dX13_goesOn_249 : decode cX13_goesOn 249 = .ok (.iload_n 1, 1) := by decide +kernel
theorem dX13_goesOn_250 : decode cX13_goesOn 250 = .ok (.bipush 59, 2) := by decide +kernel
theorem dX13_goesOn_252 : decode cX13_goesOn 252 = .ok (.if_icmp .ne 18, 3) := by decide +kernel
theorem dX13_goesOn_255 : decode cX13_goesOn 255 = .ok (.aload_n 0, 1) := by decide +kernel
theorem dX13_goesOn_256 : decode cX13_goesOn 256 = .ok (.iconst 4, 1) := by decide +kernel
theorem dX13_goesOn_257 : decode cX13_goesOn 257 = .ok (.putfield 79, 3) := by decide +kernel
theorem dX13_goesOn_260 : decode cX13_goesOn 260 = .ok (.aload_n 0, 1) := by decide +kernel
theorem dX13_goesOn_261 : decode cX13_goesOn 261 = .ok (.dup, 1) := by decide +kernel
theorem dX13_goesOn_262 : decode cX13_goesOn 262 = .ok (.getfield 82, 3) := by decide +kernel
theorem dX13_goesOn_265 : decode cX13_goesOn 265 = .ok (.iconst 1, 1) := by decide +kernel
theorem dX13_goesOn_266 : decode cX13_goesOn 266 = .ok (.iadd, 1) := by decide +kernel
theorem dX13_goesOn_267 : decode cX13_goesOn 267 = .ok (.putfield 82, 3) := by decide +kernel
theorem dX13_goesOn_270 : decode cX13_goesOn 270 = .ok (.return_, 1) := by decide +kernel
abbrev rm_X13_goesOn : Room := { frames := 1, cells := 0, slots := 0, locals := 21 }
def b_X13_goesOn_9 (h : Mem) (v0 : Nat) : Option (Mem ⊕ Mem) :=
  (gI h v0 8 11).bind fun x2 => (f_X13_byteAt h v0 x2).bind fun x3 => (if x3 = 32 then (gI h v0 8 11).bind fun x4 => (pI h v0 8 11 (x4 + 1)).bind fun h5 => some (.inl h5) else some (.inr h))
set_option maxRecDepth 100000 in
set_option maxHeartbeats 4000000 in
theorem wb_X13_goesOn_9 {G : GE} {X : CX} {l : Launch} (hX : Ok G X cX13_goesOn RX13) (hN : xn X = 3) {P0 : Mem → Prop} (hr : Rt G X l yX13_goesOn none rm_X13_goesOn (pmV P0))  (v0 : Nat) {P : (Mem ⊕ Mem) → Prop} (hc : ∀ s, P (.inl s) → AW G X 9 [(0, vR v0)] [] s 0 0) (he0 : ∀ e, P (.inr e) → AW G X 35 [(0, vR v0)] [] e 0 0) (h : Mem) (hy : OK (b_X13_goesOn_9 h v0) P) : AW G X 9 [(0, vR v0)] [] h 0 0 := by
  unfold b_X13_goesOn_9 at hy
  refine aw_aloadn (pc := 9) hX 0 rfl dX13_goesOn_9 ?_
  refine aw_aloadn (pc := 10) hX 0 rfl dX13_goesOn_10 ?_
  refine aw_gI (pc := 11) hX hy fl_X13_82 (fun _ _ => rfl) dX13_goesOn_11 (fun x2 hy => ?_)
  refine aw_callV (pc := 14) (st := []) (a := v0) hX [vI x2] (con_X13_byteAt _ G _ v0 x2 hy.bd) mc_X13_byteAt ml_X13_85 im_X13_byteAt se_X13_byteAt (by decide) hy.bd.kd rfl (rm_of hr (by decide)) (Nat.le_of_ble_eq_true rfl) rfl dX13_goesOn_14 (kpI rfl rfl (fun x3 hy => ?_))
  refine aw_bipush (pc := 17) hX 32 (by decide) dX13_goesOn_17 ?_
  refine aw_ic_ne (pc := 19) hX 35 (by decide) dX13_goesOn_19 (fun hc9 => ?_) (fun hc9 => ?_)
  · have hy := hy.f hc9
    exact he0 h hy.s
  · have hy := hy.t hc9
    refine aw_aloadn (pc := 22) hX 0 rfl dX13_goesOn_22 ?_
    refine aw_dup (pc := 23) hX rfl dX13_goesOn_23 ?_
    refine aw_gI (pc := 24) hX hy fl_X13_82 (fun _ _ => rfl) dX13_goesOn_24 (fun x4 hy => ?_)
    refine aw_iconst (pc := 27) hX 1 (by decide) dX13_goesOn_27 ?_
    refine aw_iadd (pc := 28) hX dX13_goesOn_28 ?_
    refine aw_pI (pc := 29) hX hy fl_X13_82 rfl (Or.inl rfl) dX13_goesOn_29 (fun h5 hy => ?_)
    refine aw_goto (pc := 32) hX 9 (by decide) dX13_goesOn_32 ?_
    exact hc h5 hy.s
theorem wl_X13_goesOn_9 {G : GE} {X : CX} {l : Launch} (hX : Ok G X cX13_goesOn RX13) (hN : xn X = 3) {P0 : Mem → Prop} (hr : Rt G X l yX13_goesOn none rm_X13_goesOn (pmV P0)) (v0 : Nat) {P : (Mem) → Prop} (he0 : ∀ e, P e → AW G X 35 [(0, vR v0)] [] e 0 0) : ∀ (n : Nat) (s : Mem), OK (iter (fun (s : Mem) => b_X13_goesOn_9 s v0) n s) P → AW G X 9 [(0, vR v0)] [] s 0 0 := by
  intro n
  induction n with
  | zero => exact fun s hy => hy.it0.elim
  | succ n ih =>
    intro s hy
    exact wb_X13_goesOn_9 hX hN hr v0 (fun s hs => ih s hs) (fun e hs => he0 e hs) s hy.it
def f_X13_goesOn_220 (h : Mem) (v0 : Nat) (v2 : Int32) : Option ((Int32 × Mem) ⊕ ((Int32 × Mem))) :=
  (gI h v0 8 11).bind fun x21 => (pI h v0 8 11 (x21 + 1)).bind fun h22 => some (.inl ((v2 + 1), h22))
set_option maxRecDepth 100000 in
set_option maxHeartbeats 4000000 in
theorem w_X13_goesOn_220 {G : GE} {X : CX} {l : Launch} (hX : Ok G X cX13_goesOn RX13) (hN : xn X = 3) {P0 : Mem → Prop} (hr : Rt G X l yX13_goesOn none rm_X13_goesOn (pmV P0))  (v0 : Nat) {P : ((Int32 × Mem) ⊕ ((Int32 × Mem))) → Prop} (hc : ∀ s, P (.inl s) → AW G X 178 [(0, vR v0), (2, vI s.1)] [] s.2 0 0) (he0 : ∀ e, P (.inr e) → AW G X 236 [(0, vR v0), (2, vI e.1)] [] e.2 0 0) (h : Mem) (v2 : Int32) (hy : OK (f_X13_goesOn_220 h v0 v2) P) : AW G X 220 [(0, vR v0), (2, vI v2)] [] h 0 0 := by
  unfold f_X13_goesOn_220 at hy
  refine aw_iinc (pc := 220) hX 1 (by decide) 1 rfl [(2, vI (v2 + 1)), (0, vR v0)] rfl (lt_n hN (by decide)) dX13_goesOn_220 ?_
  refine aw_aloadn (pc := 223) hX 1 rfl dX13_goesOn_223 ?_
  refine aw_dup (pc := 224) hX rfl dX13_goesOn_224 ?_
  refine aw_gI (pc := 225) hX hy fl_X13_82 (fun _ _ => rfl) dX13_goesOn_225 (fun x21 hy => ?_)
  refine aw_iconst (pc := 228) hX 1 (by decide) dX13_goesOn_228 ?_
  refine aw_iadd (pc := 229) hX dX13_goesOn_229 ?_
  refine aw_pI (pc := 230) hX hy fl_X13_82 rfl (Or.inl rfl) dX13_goesOn_230 (fun h22 hy => ?_)
  refine aw_goto (pc := 233) hX 178 (by decide) dX13_goesOn_233 ?_
  refine AW.sub [1, 0] rfl ?_
  exact hc ((v2 + 1), h22) hy.s
def b_X13_goesOn_178 (h : Mem) (v0 : Nat) (v2 : Int32) : Option ((Int32 × Mem) ⊕ ((Int32 × Mem))) :=
  (gI h v0 8 11).bind fun x18 => (f_X13_byteAt h v0 x18).bind fun x19 => (f_X13_isDigit h x19).bind fun x20 => (if x20 = 0 then some (.inr (v2, h)) else (if 3 ≤ v2 then f_X13_goesOn_220 h v0 v2 else (gI h v0 11 11).bind fun x23 => (gI h v0 8 11).bind fun x24 => (f_X13_byteAt h v0 x24).bind fun x25 => (pI h v0 11 11 (((10 * x23) + x25) - 48)).bind fun h26 => f_X13_goesOn_220 h26 v0 v2))
set_option maxRecDepth 100000 in
set_option maxHeartbeats 4000000 in
theorem wb_X13_goesOn_178 {G : GE} {X : CX} {l : Launch} (hX : Ok G X cX13_goesOn RX13) (hN : xn X = 3) {P0 : Mem → Prop} (hr : Rt G X l yX13_goesOn none rm_X13_goesOn (pmV P0))  (v0 : Nat) {P : ((Int32 × Mem) ⊕ ((Int32 × Mem))) → Prop} (hc : ∀ s, P (.inl s) → AW G X 178 [(0, vR v0), (2, vI s.1)] [] s.2 0 0) (he0 : ∀ e, P (.inr e) → AW G X 236 [(0, vR v0), (2, vI e.1)] [] e.2 0 0) (h : Mem) (v2 : Int32) (hy : OK (b_X13_goesOn_178 h v0 v2) P) : AW G X 178 [(0, vR v0), (2, vI v2)] [] h 0 0 := by
  unfold b_X13_goesOn_178 at hy
  refine aw_aloadn (pc := 178) hX 0 rfl dX13_goesOn_178 ?_
  refine aw_aloadn (pc := 179) hX 0 rfl dX13_goesOn_179 ?_
  refine aw_gI (pc := 180) hX hy fl_X13_82 (fun _ _ => rfl) dX13_goesOn_180 (fun x18 hy => ?_)
  refine aw_callV (pc := 183) (st := []) (a := v0) hX [vI x18] (con_X13_byteAt _ G _ v0 x18 hy.bd) mc_X13_byteAt ml_X13_85 im_X13_byteAt se_X13_byteAt (by decide) hy.bd.kd rfl (rm_of hr (by decide)) (Nat.le_of_ble_eq_true rfl) rfl dX13_goesOn_183 (kpI rfl rfl (fun x19 hy => ?_))
  refine aw_callS (pc := 186) (st := []) hX [vI x19] (con_X13_isDigit _ G _ x19 hy.bd) mc_X13_isDigit ml_X13_102 st_X13_isDigit rfl (rm_of hr (by decide)) (Nat.le_of_ble_eq_true rfl) rfl dX13_goesOn_186 (kpI rfl rfl (fun x20 hy => ?_))
  refine aw_if_eq (pc := 189) hX 236 (by decide) dX13_goesOn_189 (fun hc9 => ?_) (fun hc9 => ?_)
  · have hy := hy.t hc9
    exact he0 (v2, h) hy.s
  · have hy := hy.f hc9
    refine aw_iloadn (pc := 192) hX 1 rfl dX13_goesOn_192 ?_
    refine aw_iconst (pc := 193) hX 3 (by decide) dX13_goesOn_193 ?_
    refine aw_ic_ge (pc := 194) hX 220 (by decide) dX13_goesOn_194 (fun hc9 => ?_) (fun hc9 => ?_)
    · have hy := hy.t hc9
      exact w_X13_goesOn_220 hX hN hr _ hc he0 h v2 hy
    · have hy := hy.f hc9
      refine aw_aloadn (pc := 197) hX 0 rfl dX13_goesOn_197 ?_
      refine aw_bipush (pc := 198) hX 10 (by decide) dX13_goesOn_198 ?_
      refine aw_aloadn (pc := 200) hX 0 rfl dX13_goesOn_200 ?_
      refine aw_gI (pc := 201) hX hy fl_X13_105 (fun _ _ => rfl) dX13_goesOn_201 (fun x23 hy => ?_)
      refine aw_imul (pc := 204) hX dX13_goesOn_204 ?_
      refine aw_aloadn (pc := 205) hX 0 rfl dX13_goesOn_205 ?_
      refine aw_aloadn (pc := 206) hX 0 rfl dX13_goesOn_206 ?_
      refine aw_gI (pc := 207) hX hy fl_X13_82 (fun _ _ => rfl) dX13_goesOn_207 (fun x24 hy => ?_)
      refine aw_callV (pc := 210) (st := [vI (10 * x23), vR v0]) (a := v0) hX [vI x24] (con_X13_byteAt _ G _ v0 x24 hy.bd) mc_X13_byteAt ml_X13_85 im_X13_byteAt se_X13_byteAt (by decide) hy.bd.kd rfl (rm_of hr (by decide)) (Nat.le_of_ble_eq_true rfl) rfl dX13_goesOn_210 (kpI rfl rfl (fun x25 hy => ?_))
      refine aw_iadd (pc := 213) hX dX13_goesOn_213 ?_
      refine aw_bipush (pc := 214) hX 48 (by decide) dX13_goesOn_214 ?_
      refine aw_isub (pc := 216) hX dX13_goesOn_216 ?_
      refine aw_pI (pc := 217) hX hy fl_X13_105 rfl (Or.inl rfl) dX13_goesOn_217 (fun h26 hy => ?_)
      exact w_X13_goesOn_220 hX hN hr _ hc he0 h26 v2 hy
theorem wl_X13_goesOn_178 {G : GE} {X : CX} {l : Launch} (hX : Ok G X cX13_goesOn RX13) (hN : xn X = 3) {P0 : Mem → Prop} (hr : Rt G X l yX13_goesOn none rm_X13_goesOn (pmV P0)) (v0 : Nat) {P : ((Int32 × Mem)) → Prop} (he0 : ∀ e, P e → AW G X 236 [(0, vR v0), (2, vI e.1)] [] e.2 0 0) : ∀ (n : Nat) (s : Int32 × Mem), OK (iter (fun (s : Int32 × Mem) => b_X13_goesOn_178 s.2 v0 s.1) n s) P → AW G X 178 [(0, vR v0), (2, vI s.1)] [] s.2 0 0 := by
  intro n
  induction n with
  | zero => exact fun s hy => hy.it0.elim
  | succ n ih =>
    intro s hy
    exact wb_X13_goesOn_178 hX hN hr v0 (fun s hs => ih s hs) (fun e hs => he0 e hs) s.2 s.1 hy.it
def f_X13_goesOn_131 (h : Mem) (v0 : Nat) (v2 : Int32) : Option ((Int32 × Mem) ⊕ ((Int32 × Mem))) :=
  (gI h v0 8 11).bind fun x33 => (pI h v0 8 11 (x33 + 1)).bind fun h34 => some (.inl ((v2 + 1), h34))
set_option maxRecDepth 100000 in
set_option maxHeartbeats 4000000 in
theorem w_X13_goesOn_131 {G : GE} {X : CX} {l : Launch} (hX : Ok G X cX13_goesOn RX13) (hN : xn X = 3) {P0 : Mem → Prop} (hr : Rt G X l yX13_goesOn none rm_X13_goesOn (pmV P0))  (v0 : Nat) {P : ((Int32 × Mem) ⊕ ((Int32 × Mem))) → Prop} (hc : ∀ s, P (.inl s) → AW G X 84 [(0, vR v0), (2, vI s.1)] [] s.2 0 0) (he0 : ∀ e, P (.inr e) → AW G X 147 [(0, vR v0), (2, vI e.1)] [] e.2 0 0) (h : Mem) (v2 : Int32) (hy : OK (f_X13_goesOn_131 h v0 v2) P) : AW G X 131 [(0, vR v0), (2, vI v2)] [] h 0 0 := by
  unfold f_X13_goesOn_131 at hy
  refine aw_iinc (pc := 131) hX 1 (by decide) 1 rfl [(2, vI (v2 + 1)), (0, vR v0)] rfl (lt_n hN (by decide)) dX13_goesOn_131 ?_
  refine aw_aloadn (pc := 134) hX 1 rfl dX13_goesOn_134 ?_
  refine aw_dup (pc := 135) hX rfl dX13_goesOn_135 ?_
  refine aw_gI (pc := 136) hX hy fl_X13_82 (fun _ _ => rfl) dX13_goesOn_136 (fun x33 hy => ?_)
  refine aw_iconst (pc := 139) hX 1 (by decide) dX13_goesOn_139 ?_
  refine aw_iadd (pc := 140) hX dX13_goesOn_140 ?_
  refine aw_pI (pc := 141) hX hy fl_X13_82 rfl (Or.inl rfl) dX13_goesOn_141 (fun h34 hy => ?_)
  refine aw_goto (pc := 144) hX 84 (by decide) dX13_goesOn_144 ?_
  refine AW.sub [1, 0] rfl ?_
  exact hc ((v2 + 1), h34) hy.s
def b_X13_goesOn_84 (h : Mem) (v0 : Nat) (v2 : Int32) : Option ((Int32 × Mem) ⊕ ((Int32 × Mem))) :=
  (gI h v0 8 11).bind fun x30 => (f_X13_byteAt h v0 x30).bind fun x31 => (f_X13_isLetter h x31).bind fun x32 => (if x32 = 0 then some (.inr (v2, h)) else (if 8 ≤ v2 then f_X13_goesOn_131 h v0 v2 else (gL h v0 15 11).bind fun x35 => (gI h v0 8 11).bind fun x36 => (f_X13_byteAt h v0 x36).bind fun x37 => (pL h v0 15 11 ((32 * x35) + ((((x37 - 97) + 1) : Int32).toInt64))).bind fun h38 => f_X13_goesOn_131 h38 v0 v2))
set_option maxRecDepth 100000 in
set_option maxHeartbeats 4000000 in
theorem wb_X13_goesOn_84 {G : GE} {X : CX} {l : Launch} (hX : Ok G X cX13_goesOn RX13) (hN : xn X = 3) {P0 : Mem → Prop} (hr : Rt G X l yX13_goesOn none rm_X13_goesOn (pmV P0))  (v0 : Nat) {P : ((Int32 × Mem) ⊕ ((Int32 × Mem))) → Prop} (hc : ∀ s, P (.inl s) → AW G X 84 [(0, vR v0), (2, vI s.1)] [] s.2 0 0) (he0 : ∀ e, P (.inr e) → AW G X 147 [(0, vR v0), (2, vI e.1)] [] e.2 0 0) (h : Mem) (v2 : Int32) (hy : OK (b_X13_goesOn_84 h v0 v2) P) : AW G X 84 [(0, vR v0), (2, vI v2)] [] h 0 0 := by
  unfold b_X13_goesOn_84 at hy
  refine aw_aloadn (pc := 84) hX 0 rfl dX13_goesOn_84 ?_
  refine aw_aloadn (pc := 85) hX 0 rfl dX13_goesOn_85 ?_
  refine aw_gI (pc := 86) hX hy fl_X13_82 (fun _ _ => rfl) dX13_goesOn_86 (fun x30 hy => ?_)
  refine aw_callV (pc := 89) (st := []) (a := v0) hX [vI x30] (con_X13_byteAt _ G _ v0 x30 hy.bd) mc_X13_byteAt ml_X13_85 im_X13_byteAt se_X13_byteAt (by decide) hy.bd.kd rfl (rm_of hr (by decide)) (Nat.le_of_ble_eq_true rfl) rfl dX13_goesOn_89 (kpI rfl rfl (fun x31 hy => ?_))
  refine aw_callS (pc := 92) (st := []) hX [vI x31] (con_X13_isLetter _ G _ x31 hy.bd) mc_X13_isLetter ml_X13_91 st_X13_isLetter rfl (rm_of hr (by decide)) (Nat.le_of_ble_eq_true rfl) rfl dX13_goesOn_92 (kpI rfl rfl (fun x32 hy => ?_))
  refine aw_if_eq (pc := 95) hX 147 (by decide) dX13_goesOn_95 (fun hc9 => ?_) (fun hc9 => ?_)
  · have hy := hy.t hc9
    exact he0 (v2, h) hy.s
  · have hy := hy.f hc9
    refine aw_iloadn (pc := 98) hX 1 rfl dX13_goesOn_98 ?_
    refine aw_bipush (pc := 99) hX 8 (by decide) dX13_goesOn_99 ?_
    refine aw_ic_ge (pc := 101) hX 131 (by decide) dX13_goesOn_101 (fun hc9 => ?_) (fun hc9 => ?_)
    · have hy := hy.t hc9
      exact w_X13_goesOn_131 hX hN hr _ hc he0 h v2 hy
    · have hy := hy.f hc9
      refine aw_aloadn (pc := 104) hX 0 rfl dX13_goesOn_104 ?_
      refine aw_ldc2 (pc := 105) hX kc_X13_73 dX13_goesOn_105 ?_
      refine aw_aloadn (pc := 108) hX 0 rfl dX13_goesOn_108 ?_
      refine aw_gL (pc := 109) hX hy fl_X13_95 (fun _ _ => rfl) dX13_goesOn_109 (fun x35 hy => ?_)
      refine aw_lmul (pc := 112) hX dX13_goesOn_112 ?_
      refine aw_aloadn (pc := 113) hX 0 rfl dX13_goesOn_113 ?_
      refine aw_aloadn (pc := 114) hX 0 rfl dX13_goesOn_114 ?_
      refine aw_gI (pc := 115) hX hy fl_X13_82 (fun _ _ => rfl) dX13_goesOn_115 (fun x36 hy => ?_)
      refine aw_callV (pc := 118) (st := [vL (32 * x35), vR v0]) (a := v0) hX [vI x36] (con_X13_byteAt _ G _ v0 x36 hy.bd) mc_X13_byteAt ml_X13_85 im_X13_byteAt se_X13_byteAt (by decide) hy.bd.kd rfl (rm_of hr (by decide)) (Nat.le_of_ble_eq_true rfl) rfl dX13_goesOn_118 (kpI rfl rfl (fun x37 hy => ?_))
      refine aw_bipush (pc := 121) hX 97 (by decide) dX13_goesOn_121 ?_
      refine aw_isub (pc := 123) hX dX13_goesOn_123 ?_
      refine aw_iconst (pc := 124) hX 1 (by decide) dX13_goesOn_124 ?_
      refine aw_iadd (pc := 125) hX dX13_goesOn_125 ?_
      refine aw_i2l (pc := 126) hX dX13_goesOn_126 ?_
      refine aw_ladd (pc := 127) hX dX13_goesOn_127 ?_
      refine aw_pL (pc := 128) hX hy fl_X13_95 rfl (Or.inl rfl) dX13_goesOn_128 (fun h38 hy => ?_)
      exact w_X13_goesOn_131 hX hN hr _ hc he0 h38 v2 hy
theorem wl_X13_goesOn_84 {G : GE} {X : CX} {l : Launch} (hX : Ok G X cX13_goesOn RX13) (hN : xn X = 3) {P0 : Mem → Prop} (hr : Rt G X l yX13_goesOn none rm_X13_goesOn (pmV P0)) (v0 : Nat) {P : ((Int32 × Mem)) → Prop} (he0 : ∀ e, P e → AW G X 147 [(0, vR v0), (2, vI e.1)] [] e.2 0 0) : ∀ (n : Nat) (s : Int32 × Mem), OK (iter (fun (s : Int32 × Mem) => b_X13_goesOn_84 s.2 v0 s.1) n s) P → AW G X 84 [(0, vR v0), (2, vI s.1)] [] s.2 0 0 := by
  intro n
  induction n with
  | zero => exact fun s hy => hy.it0.elim
  | succ n ih =>
    intro s hy
    exact wb_X13_goesOn_84 hX hN hr v0 (fun s hs => ih s hs) (fun e hs => he0 e hs) s.2 s.1 hy.it
def f_X13_goesOn (h : Mem) (v0 : Nat) : Option Mem :=
  (ck h v0 11).bind fun _ => (gI h v0 9 11).bind fun x1 => (if x1 = 5 then some h else (iter (fun (s : Mem) => b_X13_goesOn_9 s v0) FU h).bind (fun q6 => (gI q6 v0 8 11).bind fun x7 => (pI q6 v0 10 11 x7).bind fun h8 => (pI h8 v0 9 11 0).bind fun h9 => (gI h9 v0 8 11).bind fun x10 => (f_X13_byteAt h9 v0 x10).bind fun x11 => (if x11 = (-1) then (pI h9 v0 9 11 1).bind fun h42 => some h42 else (f_X13_isLetter h9 x11).bind fun x12 => (if x12 = 0 then (f_X13_isDigit h9 x11).bind fun x13 => (if x13 = 0 then (if x11 = 59 then (pI h9 v0 9 11 4).bind fun h14 => (gI h14 v0 8 11).bind fun x15 => (pI h14 v0 8 11 (x15 + 1)).bind fun h16 => some h16 else some h9) else (pI h9 v0 11 11 0).bind fun h17 => (iter (fun (s : Int32 × Mem) => b_X13_goesOn_178 s.2 v0 s.1) FU (0, h17)).bind (fun q27 => (if 3 < q27.1 then some q27.2 else (pI q27.2 v0 9 11 3).bind fun h28 => some h28))) else (pL h9 v0 15 11 0).bind fun h29 => (iter (fun (s : Int32 × Mem) => b_X13_goesOn_84 s.2 v0 s.1) FU (0, h29)).bind (fun q39 => (pI q39.2 v0 14 11 q39.1).bind fun h40 => (if 8 < q39.1 then some h40 else (pI h40 v0 9 11 2).bind fun h41 => some h41))))))
set_option maxRecDepth 100000 in
set_option maxHeartbeats 4000000 in
theorem w_X13_goesOn {G : GE} {X : CX} {l : Launch} (hX : Ok G X cX13_goesOn RX13) (hN : xn X = 3) {P : Mem → Prop} (hr : Rt G X l yX13_goesOn none rm_X13_goesOn (pmV P)) (h : Mem) (v0 : Nat) (hy : OK (f_X13_goesOn h v0) P) : AW G X 0 [(0, vR v0)] [] h 0 0 := by
  unfold f_X13_goesOn at hy
  have hkd := hy.kd
  have hy := hy.kb
  refine aw_aloadn (pc := 0) hX 0 rfl dX13_goesOn_0 ?_
  refine aw_gI (pc := 1) hX hy fl_X13_79 (fun _ _ => rfl) dX13_goesOn_1 (fun x1 hy => ?_)
  refine aw_iconst (pc := 4) hX 5 (by decide) dX13_goesOn_4 ?_
  refine aw_ic_ne (pc := 5) hX 9 (by decide) dX13_goesOn_5 (fun hc9 => ?_) (fun hc9 => ?_)
  · have hy := hy.f hc9
    refine wl_X13_goesOn_9 hX hN hr v0 ?_ FU h hy.bd
    · intro q6 hy
      refine aw_aloadn (pc := 35) hX 0 rfl dX13_goesOn_35 ?_
      refine aw_aloadn (pc := 36) hX 0 rfl dX13_goesOn_36 ?_
      refine aw_gI (pc := 37) hX hy fl_X13_82 (fun _ _ => rfl) dX13_goesOn_37 (fun x7 hy => ?_)
      refine aw_pI (pc := 40) hX hy fl_X13_88 rfl (Or.inl rfl) dX13_goesOn_40 (fun h8 hy => ?_)
      refine aw_aloadn (pc := 43) hX 0 rfl dX13_goesOn_43 ?_
      refine aw_iconst (pc := 44) hX 0 (by decide) dX13_goesOn_44 ?_
      refine aw_pI (pc := 45) hX hy fl_X13_79 rfl (Or.inl rfl) dX13_goesOn_45 (fun h9 hy => ?_)
      refine aw_aloadn (pc := 48) hX 0 rfl dX13_goesOn_48 ?_
      refine aw_aloadn (pc := 49) hX 0 rfl dX13_goesOn_49 ?_
      refine aw_gI (pc := 50) hX hy fl_X13_82 (fun _ _ => rfl) dX13_goesOn_50 (fun x10 hy => ?_)
      refine aw_callV (pc := 53) (st := []) (a := v0) hX [vI x10] (con_X13_byteAt _ G _ v0 x10 hy.bd) mc_X13_byteAt ml_X13_85 im_X13_byteAt se_X13_byteAt (by decide) hy.bd.kd rfl (rm_of hr (by decide)) (Nat.le_of_ble_eq_true rfl) rfl dX13_goesOn_53 (kpI rfl rfl (fun x11 hy => ?_))
      refine aw_istoren (pc := 56) hX [(1, vI x11), (0, vR v0)] rfl (lt_n hN (by decide)) dX13_goesOn_56 ?_
      refine aw_iconst (pc := 57) hX 0 (by decide) dX13_goesOn_57 ?_
      refine aw_istoren (pc := 58) hX [(2, vI 0), (1, vI x11), (0, vR v0)] rfl (lt_n hN (by decide)) dX13_goesOn_58 ?_
      refine aw_iloadn (pc := 59) hX 1 rfl dX13_goesOn_59 ?_
      refine aw_iconst (pc := 60) hX (-1) (by decide) dX13_goesOn_60 ?_
      refine aw_ic_ne (pc := 61) hX 72 (by decide) dX13_goesOn_61 (fun hc9 => ?_) (fun hc9 => ?_)
      · have hy := hy.f hc9
        refine aw_iloadn (pc := 72) hX 1 rfl dX13_goesOn_72 ?_
        refine aw_callS (pc := 73) (st := []) hX [vI x11] (con_X13_isLetter _ G _ x11 hy.bd) mc_X13_isLetter ml_X13_91 st_X13_isLetter rfl (rm_of hr (by decide)) (Nat.le_of_ble_eq_true rfl) rfl dX13_goesOn_73 (kpI rfl rfl (fun x12 hy => ?_))
        refine aw_if_eq (pc := 76) hX 166 (by decide) dX13_goesOn_76 (fun hc9 => ?_) (fun hc9 => ?_)
        · have hy := hy.t hc9
          refine aw_iloadn (pc := 166) hX 1 rfl dX13_goesOn_166 ?_
          refine aw_callS (pc := 167) (st := []) hX [vI x11] (con_X13_isDigit _ G _ x11 hy.bd) mc_X13_isDigit ml_X13_102 st_X13_isDigit rfl (rm_of hr (by decide)) (Nat.le_of_ble_eq_true rfl) rfl dX13_goesOn_167 (kpI rfl rfl (fun x13 hy => ?_))
          refine aw_if_eq (pc := 170) hX 249 (by decide) dX13_goesOn_170 (fun hc9 => ?_) (fun hc9 => ?_)
          · have hy := hy.t hc9
            refine aw_iloadn (pc := 249) hX 1 rfl dX13_goesOn_249 ?_
            refine aw_bipush (pc := 250) hX 59 (by decide) dX13_goesOn_250 ?_
            refine aw_ic_ne (pc := 252) hX 270 (by decide) dX13_goesOn_252 (fun hc9 => ?_) (fun hc9 => ?_)
            · have hy := hy.f hc9
              exact aw_vret (pc := 270) hX hr (by decide) (by decide) dX13_goesOn_270 ⟨rfl, hy.s⟩
            · have hy := hy.t hc9
              refine aw_aloadn (pc := 255) hX 2 rfl dX13_goesOn_255 ?_
              refine aw_iconst (pc := 256) hX 4 (by decide) dX13_goesOn_256 ?_
              refine aw_pI (pc := 257) hX hy fl_X13_79 rfl (Or.inl rfl) dX13_goesOn_257 (fun h14 hy => ?_)
              refine aw_aloadn (pc := 260) hX 2 rfl dX13_goesOn_260 ?_
              refine aw_dup (pc := 261) hX rfl dX13_goesOn_261 ?_
              refine aw_gI (pc := 262) hX hy fl_X13_82 (fun _ _ => rfl) dX13_goesOn_262 (fun x15 hy => ?_)
              refine aw_iconst (pc := 265) hX 1 (by decide) dX13_goesOn_265 ?_
              refine aw_iadd (pc := 266) hX dX13_goesOn_266 ?_
              refine aw_pI (pc := 267) hX hy fl_X13_82 rfl (Or.inl rfl) dX13_goesOn_267 (fun h16 hy => ?_)
              exact aw_vret (pc := 270) hX hr (by decide) (by decide) dX13_goesOn_270 ⟨rfl, hy.s⟩
          · have hy := hy.f hc9
            refine aw_aloadn (pc := 173) hX 2 rfl dX13_goesOn_173 ?_
            refine aw_iconst (pc := 174) hX 0 (by decide) dX13_goesOn_174 ?_
            refine aw_pI (pc := 175) hX hy fl_X13_105 rfl (Or.inl rfl) dX13_goesOn_175 (fun h17 hy => ?_)
            refine AW.sub [2, 0] rfl ?_
            refine wl_X13_goesOn_178 hX hN hr v0 ?_ FU (0, h17) hy.bd
            · intro q27 hy
              refine aw_iloadn (pc := 236) hX 1 rfl dX13_goesOn_236 ?_
              refine aw_iconst (pc := 237) hX 3 (by decide) dX13_goesOn_237 ?_
              refine aw_ic_gt (pc := 238) hX 270 (by decide) dX13_goesOn_238 (fun hc9 => ?_) (fun hc9 => ?_)
              · have hy := hy.t hc9
                exact aw_vret (pc := 270) hX hr (by decide) (by decide) dX13_goesOn_270 ⟨rfl, hy.s⟩
              · have hy := hy.f hc9
                refine aw_aloadn (pc := 241) hX 0 rfl dX13_goesOn_241 ?_
                refine aw_iconst (pc := 242) hX 3 (by decide) dX13_goesOn_242 ?_
                refine aw_pI (pc := 243) hX hy fl_X13_79 rfl (Or.inl rfl) dX13_goesOn_243 (fun h28 hy => ?_)
                refine aw_goto (pc := 246) hX 270 (by decide) dX13_goesOn_246 ?_
                exact aw_vret (pc := 270) hX hr (by decide) (by decide) dX13_goesOn_270 ⟨rfl, hy.s⟩
        · have hy := hy.f hc9
          refine aw_aloadn (pc := 79) hX 2 rfl dX13_goesOn_79 ?_
          refine aw_lconst (pc := 80) hX 0 (by decide) dX13_goesOn_80 ?_
          refine aw_pL (pc := 81) hX hy fl_X13_95 rfl (Or.inl rfl) dX13_goesOn_81 (fun h29 hy => ?_)
          refine AW.sub [2, 0] rfl ?_
          refine wl_X13_goesOn_84 hX hN hr v0 ?_ FU (0, h29) hy.bd
          · intro q39 hy
            refine aw_aloadn (pc := 147) hX 0 rfl dX13_goesOn_147 ?_
            refine aw_iloadn (pc := 148) hX 1 rfl dX13_goesOn_148 ?_
            refine aw_pI (pc := 149) hX hy fl_X13_99 rfl (Or.inl rfl) dX13_goesOn_149 (fun h40 hy => ?_)
            refine aw_iloadn (pc := 152) hX 1 rfl dX13_goesOn_152 ?_
            refine aw_bipush (pc := 153) hX 8 (by decide) dX13_goesOn_153 ?_
            refine aw_ic_gt (pc := 155) hX 270 (by decide) dX13_goesOn_155 (fun hc9 => ?_) (fun hc9 => ?_)
            · have hy := hy.t hc9
              exact aw_vret (pc := 270) hX hr (by decide) (by decide) dX13_goesOn_270 ⟨rfl, hy.s⟩
            · have hy := hy.f hc9
              refine aw_aloadn (pc := 158) hX 0 rfl dX13_goesOn_158 ?_
              refine aw_iconst (pc := 159) hX 2 (by decide) dX13_goesOn_159 ?_
              refine aw_pI (pc := 160) hX hy fl_X13_79 rfl (Or.inl rfl) dX13_goesOn_160 (fun h41 hy => ?_)
              refine aw_goto (pc := 163) hX 270 (by decide) dX13_goesOn_163 ?_
              exact aw_vret (pc := 270) hX hr (by decide) (by decide) dX13_goesOn_270 ⟨rfl, hy.s⟩
      · have hy := hy.t hc9
        refine aw_aloadn (pc := 64) hX 2 rfl dX13_goesOn_64 ?_
        refine aw_iconst (pc := 65) hX 1 (by decide) dX13_goesOn_65 ?_
        refine aw_pI (pc := 66) hX hy fl_X13_79 rfl (Or.inl rfl) dX13_goesOn_66 (fun h42 hy => ?_)
        refine aw_goto (pc := 69) hX 270 (by decide) dX13_goesOn_69 ?_
        exact aw_vret (pc := 270) hX hr (by decide) (by decide) dX13_goesOn_270 ⟨rfl, hy.s⟩
  · have hy := hy.t hc9
    exact aw_vret (pc := 8) hX hr (by decide) (by decide) dX13_goesOn_8 ⟨rfl, hy.s⟩
theorem con_X13_goesOn (l : Launch) (G : GE) (h : Mem) (v0 : Nat) {P : Mem → Prop} (hy : OK (f_X13_goesOn h v0) P) : Con l G yX13_goesOn cX13_goesOn 3 none rm_X13_goesOn [vR v0] h (pmV P) := Con.of (by decide) (Nat.le_of_ble_eq_true rfl) (fun X hX hr hN => w_X13_goesOn hX hN hr h v0 hy)
/-! X13_flaw -/
theorem dX13_flaw_0 : decode cX13_flaw 0 = .ok (.aload_n 0, 1) := by decide +kernel
theorem dX13_flaw_1 : decode cX13_flaw 1 = .ok (.getfield 79, 3) := by decide +kernel
theorem dX13_flaw_4 : decode cX13_flaw 4 = .ok (.iconst 5, 1) := by decide +kernel
theorem dX13_flaw_5 : decode cX13_flaw 5 = .ok (.if_icmp .ne 4, 3) := by decide +kernel
theorem dX13_flaw_8 : decode cX13_flaw 8 = .ok (.return_, 1) := by decide +kernel
theorem dX13_flaw_9 : decode cX13_flaw 9 = .ok (.aload_n 0, 1) := by decide +kernel
theorem dX13_flaw_10 : decode cX13_flaw 10 = .ok (.iload_n 1, 1) := by decide +kernel
theorem dX13_flaw_11 : decode cX13_flaw 11 = .ok (.putfield 108, 3) := by decide +kernel
theorem dX13_flaw_14 : decode cX13_flaw 14 = .ok (.aload_n 0, 1) := by decide +kernel
theorem dX13_flaw_15 : decode cX13_flaw 15 = .ok (.aload_n 0, 1) := by decide +kernel
theorem dX13_flaw_16 : decode cX13_flaw 16 = .ok (.getfield 88, 3) := by decide +kernel
theorem dX13_flaw_19 : decode cX13_flaw 19 = .ok (.putfield 111, 3) := by decide +kernel
theorem dX13_flaw_22 : decode cX13_flaw 22 = .ok (.aload_n 0, 1) := by decide +kernel
theorem dX13_flaw_23 : decode cX13_flaw 23 = .ok (.iconst 5, 1) := by decide +kernel
theorem dX13_flaw_24 : decode cX13_flaw 24 = .ok (.putfield 79, 3) := by decide +kernel
theorem dX13_flaw_27 : decode cX13_flaw 27 = .ok (.return_, 1) := by decide +kernel
abbrev rm_X13_flaw : Room := { frames := 0, cells := 0, slots := 0, locals := 0 }
def f_X13_flaw (h : Mem) (v0 : Nat) (v1 : Int32) : Option Mem :=
  (ck h v0 11).bind fun _ => (gI h v0 9 11).bind fun x1 => (if x1 = 5 then some h else (pI h v0 12 11 v1).bind fun h2 => (gI h2 v0 10 11).bind fun x3 => (pI h2 v0 13 11 x3).bind fun h4 => (pI h4 v0 9 11 5).bind fun h5 => some h5)
set_option maxRecDepth 100000 in
set_option maxHeartbeats 4000000 in
theorem w_X13_flaw {G : GE} {X : CX} {l : Launch} (hX : Ok G X cX13_flaw RX13) (hN : xn X = 2) {P : Mem → Prop} (hr : Rt G X l yX13_flaw none rm_X13_flaw (pmV P)) (h : Mem) (v0 : Nat) (v1 : Int32) (hy : OK (f_X13_flaw h v0 v1) P) : AW G X 0 [(0, vR v0), (1, vI v1)] [] h 0 0 := by
  unfold f_X13_flaw at hy
  have hkd := hy.kd
  have hy := hy.kb
  refine aw_aloadn (pc := 0) hX 0 rfl dX13_flaw_0 ?_
  refine aw_gI (pc := 1) hX hy fl_X13_79 (fun _ _ => rfl) dX13_flaw_1 (fun x1 hy => ?_)
  refine aw_iconst (pc := 4) hX 5 (by decide) dX13_flaw_4 ?_
  refine aw_ic_ne (pc := 5) hX 9 (by decide) dX13_flaw_5 (fun hc9 => ?_) (fun hc9 => ?_)
  · have hy := hy.f hc9
    refine aw_aloadn (pc := 9) hX 0 rfl dX13_flaw_9 ?_
    refine aw_iloadn (pc := 10) hX 1 rfl dX13_flaw_10 ?_
    refine aw_pI (pc := 11) hX hy fl_X13_108 rfl (Or.inl rfl) dX13_flaw_11 (fun h2 hy => ?_)
    refine aw_aloadn (pc := 14) hX 0 rfl dX13_flaw_14 ?_
    refine aw_aloadn (pc := 15) hX 0 rfl dX13_flaw_15 ?_
    refine aw_gI (pc := 16) hX hy fl_X13_88 (fun _ _ => rfl) dX13_flaw_16 (fun x3 hy => ?_)
    refine aw_pI (pc := 19) hX hy fl_X13_111 rfl (Or.inl rfl) dX13_flaw_19 (fun h4 hy => ?_)
    refine aw_aloadn (pc := 22) hX 0 rfl dX13_flaw_22 ?_
    refine aw_iconst (pc := 23) hX 5 (by decide) dX13_flaw_23 ?_
    refine aw_pI (pc := 24) hX hy fl_X13_79 rfl (Or.inl rfl) dX13_flaw_24 (fun h5 hy => ?_)
    exact aw_vret (pc := 27) hX hr (by decide) (by decide) dX13_flaw_27 ⟨rfl, hy.s⟩
  · have hy := hy.t hc9
    exact aw_vret (pc := 8) hX hr (by decide) (by decide) dX13_flaw_8 ⟨rfl, hy.s⟩
theorem con_X13_flaw (l : Launch) (G : GE) (h : Mem) (v0 : Nat) (v1 : Int32) {P : Mem → Prop} (hy : OK (f_X13_flaw h v0 v1) P) : Con l G yX13_flaw cX13_flaw 2 none rm_X13_flaw [vR v0, vI v1] h (pmV P) := Con.of (by decide) (Nat.le_of_ble_eq_true rfl) (fun X hX hr hN => w_X13_flaw hX hN hr h v0 v1 hy)
/-! X13_isWord -/
theorem dX13_isWord_0 : decode cX13_isWord 0 = .ok (.aload_n 0, 1) := by decide +kernel
theorem dX13_isWord_1 : decode cX13_isWord 1 = .ok (.getfield 79, 3) := by decide +kernel
theorem dX13_isWord_4 : decode cX13_isWord 4 = .ok (.iconst 2, 1) := by decide +kernel
theorem dX13_isWord_5 : decode cX13_isWord 5 = .ok (.if_icmp .ne 19, 3) := by decide +kernel
theorem dX13_isWord_8 : decode cX13_isWord 8 = .ok (.aload_n 0, 1) := by decide +kernel
theorem dX13_isWord_9 : decode cX13_isWord 9 = .ok (.getfield 95, 3) := by decide +kernel
theorem dX13_isWord_12 : decode cX13_isWord 12 = .ok (.aload_n 1, 1) := by decide +kernel
theorem dX13_isWord_13 : decode cX13_isWord 13 = .ok (.invokestatic 114, 3) := by decide +kernel
theorem dX13_isWord_16 : decode cX13_isWord 16 = .ok (.lcmp, 1) := by decide +kernel
theorem dX13_isWord_17 : decode cX13_isWord 17 = .ok (.ifCond .ne 7, 3) := by decide +kernel
theorem dX13_isWord_20 : decode cX13_isWord 20 = .ok (.iconst 1, 1) := by decide +kernel
theorem dX13_isWord_21 : decode cX13_isWord 21 = .ok (.goto 4, 3) := by decide +kernel
theorem dX13_isWord_24 : decode cX13_isWord 24 = .ok (.iconst 0, 1) := by decide +kernel
theorem dX13_isWord_25 : decode cX13_isWord 25 = .ok (.ireturn, 1) := by decide +kernel
abbrev rm_X13_isWord : Room := { frames := 5, cells := 0, slots := 0, locals := 134 }
def f_X13_isWord_24 (h : Mem) : Option Int32 :=
  some 0
set_option maxRecDepth 100000 in
set_option maxHeartbeats 4000000 in
theorem w_X13_isWord_24 {G : GE} {X : CX} {l : Launch} (hX : Ok G X cX13_isWord RX13) (hN : xn X = 2) (h : Mem) {P : Int32 → Prop} (hr : Rt G X l yX13_isWord (some .boolean) rm_X13_isWord (ppI h P)) (hy : OK (f_X13_isWord_24 h) P) : AW G X 24 [] [] h 0 0 := by
  unfold f_X13_isWord_24 at hy
  refine aw_iconst (pc := 24) hX 0 (by decide) dX13_isWord_24 ?_
  exact aw_zret (pc := 25) hX hr (by decide) (by decide) dX13_isWord_25 (Or.inl rfl) ⟨rfl, _, rfl, hy.s⟩
def f_X13_isWord (h : Mem) (v0 : Nat) (v1 : Nat) : Option Int32 :=
  (ck h v0 11).bind fun _ => (gI h v0 9 11).bind fun x1 => (if x1 = 2 then (gL h v0 15 11).bind fun x2 => (f_X13_packed h v1).bind fun x3 => (if (lg_cmp x2 x3) = 0 then some 1 else f_X13_isWord_24 h) else f_X13_isWord_24 h)
set_option maxRecDepth 100000 in
set_option maxHeartbeats 4000000 in
theorem w_X13_isWord {G : GE} {X : CX} {l : Launch} (hX : Ok G X cX13_isWord RX13) (hN : xn X = 2) (h : Mem) {P : Int32 → Prop} (hr : Rt G X l yX13_isWord (some .boolean) rm_X13_isWord (ppI h P)) (v0 : Nat) (v1 : Nat) (hy : OK (f_X13_isWord h v0 v1) P) : AW G X 0 [(0, vR v0), (1, vX v1)] [] h 0 0 := by
  unfold f_X13_isWord at hy
  have hkd := hy.kd
  have hy := hy.kb
  refine aw_aloadn (pc := 0) hX 0 rfl dX13_isWord_0 ?_
  refine aw_gI (pc := 1) hX hy fl_X13_79 (fun _ _ => rfl) dX13_isWord_1 (fun x1 hy => ?_)
  refine aw_iconst (pc := 4) hX 2 (by decide) dX13_isWord_4 ?_
  refine aw_ic_ne (pc := 5) hX 24 (by decide) dX13_isWord_5 (fun hc9 => ?_) (fun hc9 => ?_)
  · have hy := hy.f hc9
    refine AW.sub [] rfl ?_
    exact w_X13_isWord_24 hX hN _ hr hy
  · have hy := hy.t hc9
    refine aw_aloadn (pc := 8) hX 0 rfl dX13_isWord_8 ?_
    refine aw_gL (pc := 9) hX hy fl_X13_95 (fun _ _ => rfl) dX13_isWord_9 (fun x2 hy => ?_)
    refine aw_xloadn (pc := 12) hX 1 rfl dX13_isWord_12 ?_
    refine aw_callS (pc := 13) (st := [vL x2]) hX [vX v1] (con_X13_packed _ G _ v1 hy.bd) mc_X13_packed ml_X13_114 st_X13_packed rfl (rm_of hr (by decide)) (Nat.le_of_ble_eq_true rfl) rfl dX13_isWord_13 (kpL rfl rfl (fun x3 hy => ?_))
    refine aw_lcmp (pc := 16) hX dX13_isWord_16 ?_
    refine aw_if_ne (pc := 17) hX 24 (by decide) dX13_isWord_17 (fun hc9 => ?_) (fun hc9 => ?_)
    · have hy := hy.f hc9
      refine AW.sub [] rfl ?_
      exact w_X13_isWord_24 hX hN _ hr hy
    · have hy := hy.t hc9
      refine aw_iconst (pc := 20) hX 1 (by decide) dX13_isWord_20 ?_
      refine aw_goto (pc := 21) hX 25 (by decide) dX13_isWord_21 ?_
      exact aw_zret (pc := 25) hX hr (by decide) (by decide) dX13_isWord_25 (Or.inr rfl) ⟨rfl, _, rfl, hy.s⟩
theorem con_X13_isWord (l : Launch) (G : GE) (h : Mem) (v0 : Nat) (v1 : Nat) {P : Int32 → Prop} (hy : OK (f_X13_isWord h v0 v1) P) : Con l G yX13_isWord cX13_isWord 2 (some .boolean) rm_X13_isWord [vR v0, vX v1] h (ppI h P) := Con.of (by decide) (Nat.le_of_ble_eq_true rfl) (fun X hX hr hN => w_X13_isWord hX hN h hr v0 v1 hy)
/-! X13_eatsSemicolon -/
theorem dX13_eatsSemicolon_0 : decode cX13_eatsSemicolon 0 = .ok (.aload_n 0, 1) := by decide +kernel
theorem dX13_eatsSemicolon_1 : decode cX13_eatsSemicolon 1 = .ok (.getfield 79, 3) := by decide +kernel
theorem dX13_eatsSemicolon_4 : decode cX13_eatsSemicolon 4 = .ok (.iconst 4, 1) := by decide +kernel
theorem dX13_eatsSemicolon_5 : decode cX13_eatsSemicolon 5 = .ok (.if_icmp .ne 7, 3) := by decide +kernel
theorem dX13_eatsSemicolon_8 : decode cX13_eatsSemicolon 8 = .ok (.iconst 1, 1) := by decide +kernel
theorem dX13_eatsSemicolon_9 : decode cX13_eatsSemicolon 9 = .ok (.goto 4, 3) := by decide +kernel
theorem dX13_eatsSemicolon_12 : decode cX13_eatsSemicolon 12 = .ok (.iconst 0, 1) := by decide +kernel
theorem dX13_eatsSemicolon_13 : decode cX13_eatsSemicolon 13 = .ok (.istore_n 1, 1) := by decide +kernel
theorem dX13_eatsSemicolon_14 : decode cX13_eatsSemicolon 14 = .ok (.iload_n 1, 1) := by decide +kernel
theorem dX13_eatsSemicolon_15 : decode cX13_eatsSemicolon 15 = .ok (.ifCond .eq 7, 3) := by decide +kernel
theorem dX13_eatsSemicolon_18 : decode cX13_eatsSemicolon 18 = .ok (.aload_n 0, 1) := by decide +kernel
theorem dX13_eatsSemicolon_19 : decode cX13_eatsSemicolon 19 = .ok (.invokevirtual 118, 3) := by decide +kernel
theorem dX13_eatsSemicolon_22 : decode cX13_eatsSemicolon 22 = .ok (.iload_n 1, 1) := by decide +kernel
theorem dX13_eatsSemicolon_23 : decode cX13_eatsSemicolon 23 = .ok (.ireturn, 1) := by decide +kernel
abbrev rm_X13_eatsSemicolon : Room := { frames := 2, cells := 0, slots := 0, locals := 43 }
def f_X13_eatsSemicolon_13 (h : Mem) (v0 : Nat) (s0 : Int32) : Option (Int32 × Mem) :=
  (if s0 = 0 then retZ s0 (s0, h) else (f_X13_goesOn h v0).bind fun h2 => retZ s0 (s0, h2))
set_option maxRecDepth 100000 in
set_option maxHeartbeats 4000000 in
theorem w_X13_eatsSemicolon_13 {G : GE} {X : CX} {l : Launch} (hX : Ok G X cX13_eatsSemicolon RX13) (hN : xn X = 2) {P : (Int32 × Mem) → Prop} (hr : Rt G X l yX13_eatsSemicolon (some .boolean) rm_X13_eatsSemicolon (pmI P)) (h : Mem) (v0 : Nat) (s0 : Int32) (hy : OK (f_X13_eatsSemicolon_13 h v0 s0) P) : AW G X 13 [(0, vR v0)] [vI s0] h 0 0 := by
  unfold f_X13_eatsSemicolon_13 at hy
  refine aw_istoren (pc := 13) hX [(1, vI s0), (0, vR v0)] rfl (lt_n hN (by decide)) dX13_eatsSemicolon_13 ?_
  refine aw_iloadn (pc := 14) hX 0 rfl dX13_eatsSemicolon_14 ?_
  refine aw_if_eq (pc := 15) hX 22 (by decide) dX13_eatsSemicolon_15 (fun hc9 => ?_) (fun hc9 => ?_)
  · have hy := hy.t hc9
    refine aw_iloadn (pc := 22) hX 0 rfl dX13_eatsSemicolon_22 ?_
    exact aw_zret (pc := 23) hX hr (by decide) (by decide) dX13_eatsSemicolon_23 hy.rz.1 ⟨_, rfl, hy.rz.2⟩
  · have hy := hy.f hc9
    refine aw_aloadn (pc := 18) hX 1 rfl dX13_eatsSemicolon_18 ?_
    refine aw_callV (pc := 19) (st := []) (a := v0) hX [] (con_X13_goesOn _ G _ v0 hy.bd) mc_X13_goesOn ml_X13_118 im_X13_goesOn se_X13_goesOn (by decide) hy.bd.kd rfl (rm_of hr (by decide)) (Nat.le_of_ble_eq_true rfl) rfl dX13_eatsSemicolon_19 (kmV rfl rfl (fun h2 hy => ?_))
    refine aw_iloadn (pc := 22) hX 0 rfl dX13_eatsSemicolon_22 ?_
    exact aw_zret (pc := 23) hX hr (by decide) (by decide) dX13_eatsSemicolon_23 hy.rz.1 ⟨_, rfl, hy.rz.2⟩
def f_X13_eatsSemicolon (h : Mem) (v0 : Nat) : Option (Int32 × Mem) :=
  (ck h v0 11).bind fun _ => (gI h v0 9 11).bind fun x1 => (if x1 = 4 then f_X13_eatsSemicolon_13 h v0 1 else f_X13_eatsSemicolon_13 h v0 0)
set_option maxRecDepth 100000 in
set_option maxHeartbeats 4000000 in
theorem w_X13_eatsSemicolon {G : GE} {X : CX} {l : Launch} (hX : Ok G X cX13_eatsSemicolon RX13) (hN : xn X = 2) {P : (Int32 × Mem) → Prop} (hr : Rt G X l yX13_eatsSemicolon (some .boolean) rm_X13_eatsSemicolon (pmI P)) (h : Mem) (v0 : Nat) (hy : OK (f_X13_eatsSemicolon h v0) P) : AW G X 0 [(0, vR v0)] [] h 0 0 := by
  unfold f_X13_eatsSemicolon at hy
  have hkd := hy.kd
  have hy := hy.kb
  refine aw_aloadn (pc := 0) hX 0 rfl dX13_eatsSemicolon_0 ?_
  refine aw_gI (pc := 1) hX hy fl_X13_79 (fun _ _ => rfl) dX13_eatsSemicolon_1 (fun x1 hy => ?_)
  refine aw_iconst (pc := 4) hX 4 (by decide) dX13_eatsSemicolon_4 ?_
  refine aw_ic_ne (pc := 5) hX 12 (by decide) dX13_eatsSemicolon_5 (fun hc9 => ?_) (fun hc9 => ?_)
  · have hy := hy.f hc9
    refine aw_iconst (pc := 12) hX 0 (by decide) dX13_eatsSemicolon_12 ?_
    exact w_X13_eatsSemicolon_13 hX hN hr h v0 0 hy
  · have hy := hy.t hc9
    refine aw_iconst (pc := 8) hX 1 (by decide) dX13_eatsSemicolon_8 ?_
    refine aw_goto (pc := 9) hX 13 (by decide) dX13_eatsSemicolon_9 ?_
    exact w_X13_eatsSemicolon_13 hX hN hr h v0 1 hy
theorem con_X13_eatsSemicolon (l : Launch) (G : GE) (h : Mem) (v0 : Nat) {P : (Int32 × Mem) → Prop} (hy : OK (f_X13_eatsSemicolon h v0) P) : Con l G yX13_eatsSemicolon cX13_eatsSemicolon 2 (some .boolean) rm_X13_eatsSemicolon [vR v0] h (pmI P) := Con.of (by decide) (Nat.le_of_ble_eq_true rfl) (fun X hX hr hN => w_X13_eatsSemicolon hX hN hr h v0 hy)
/-! X13_needs -/
theorem dX13_needs_0 : decode cX13_needs 0 = .ok (.aload_n 0, 1) := by decide +kernel
theorem dX13_needs_1 : decode cX13_needs 1 = .ok (.aload_n 1, 1) := by decide +kernel
theorem dX13_needs_2 : decode cX13_needs 2 = .ok (.invokevirtual 121, 3) := by decide +kernel
theorem dX13_needs_5 : decode cX13_needs 5 = .ok (.ifCond .ne 8, 3) := by decide +kernel
theorem dX13_needs_8 : decode cX13_needs 8 = .ok (.aload_n 0, 1) := by decide +kernel
theorem dX13_needs_9 : decode cX13_needs 9 = .ok (.iconst 1, 1) := by decide +kernel
theorem dX13_needs_10 : decode cX13_needs 10 = .ok (.invokevirtual 125, 3) := by decide +kernel
theorem dX13_needs_13 : decode cX13_needs 13 = .ok (.aload_n 0, 1) := by decide +kernel
theorem dX13_needs_14 : decode cX13_needs 14 = .ok (.invokevirtual 118, 3) := by decide +kernel
theorem dX13_needs_17 : decode cX13_needs 17 = .ok (.return_, 1) := by decide +kernel
abbrev rm_X13_needs : Room := { frames := 6, cells := 0, slots := 0, locals := 155 }
def f_X13_needs_13 (h : Mem) (v0 : Nat) : Option Mem :=
  (f_X13_goesOn h v0).bind fun h2 => some h2
set_option maxRecDepth 100000 in
set_option maxHeartbeats 4000000 in
theorem w_X13_needs_13 {G : GE} {X : CX} {l : Launch} (hX : Ok G X cX13_needs RX13) (hN : xn X = 2) {P : Mem → Prop} (hr : Rt G X l yX13_needs none rm_X13_needs (pmV P)) (h : Mem) (v0 : Nat) (hy : OK (f_X13_needs_13 h v0) P) : AW G X 13 [(0, vR v0)] [] h 0 0 := by
  unfold f_X13_needs_13 at hy
  refine aw_aloadn (pc := 13) hX 0 rfl dX13_needs_13 ?_
  refine aw_callV (pc := 14) (st := []) (a := v0) hX [] (con_X13_goesOn _ G _ v0 hy.bd) mc_X13_goesOn ml_X13_118 im_X13_goesOn se_X13_goesOn (by decide) hy.bd.kd rfl (rm_of hr (by decide)) (Nat.le_of_ble_eq_true rfl) rfl dX13_needs_14 (kmV rfl rfl (fun h2 hy => ?_))
  exact aw_vret (pc := 17) hX hr (by decide) (by decide) dX13_needs_17 ⟨rfl, hy.s⟩
def f_X13_needs (h : Mem) (v0 : Nat) (v1 : Nat) : Option Mem :=
  (ck h v0 11).bind fun _ => (f_X13_isWord h v0 v1).bind fun x1 => (if x1 = 0 then (f_X13_flaw h v0 1).bind fun h3 => f_X13_needs_13 h3 v0 else f_X13_needs_13 h v0)
set_option maxRecDepth 100000 in
set_option maxHeartbeats 4000000 in
theorem w_X13_needs {G : GE} {X : CX} {l : Launch} (hX : Ok G X cX13_needs RX13) (hN : xn X = 2) {P : Mem → Prop} (hr : Rt G X l yX13_needs none rm_X13_needs (pmV P)) (h : Mem) (v0 : Nat) (v1 : Nat) (hy : OK (f_X13_needs h v0 v1) P) : AW G X 0 [(0, vR v0), (1, vX v1)] [] h 0 0 := by
  unfold f_X13_needs at hy
  have hkd := hy.kd
  have hy := hy.kb
  refine aw_aloadn (pc := 0) hX 0 rfl dX13_needs_0 ?_
  refine aw_xloadn (pc := 1) hX 1 rfl dX13_needs_1 ?_
  refine aw_callV (pc := 2) (st := []) (a := v0) hX [vX v1] (con_X13_isWord _ G _ v0 v1 hy.bd) mc_X13_isWord ml_X13_121 im_X13_isWord se_X13_isWord (by decide) hy.bd.kd rfl (rm_of hr (by decide)) (Nat.le_of_ble_eq_true rfl) rfl dX13_needs_2 (kpI rfl rfl (fun x1 hy => ?_))
  refine aw_if_ne (pc := 5) hX 13 (by decide) dX13_needs_5 (fun hc9 => ?_) (fun hc9 => ?_)
  · have hy := hy.f hc9
    refine AW.sub [0] rfl ?_
    exact w_X13_needs_13 hX hN hr h v0 hy
  · have hy := hy.t hc9
    refine aw_aloadn (pc := 8) hX 0 rfl dX13_needs_8 ?_
    refine aw_iconst (pc := 9) hX 1 (by decide) dX13_needs_9 ?_
    refine aw_callV (pc := 10) (st := []) (a := v0) hX [vI 1] (con_X13_flaw _ G _ v0 1 hy.bd) mc_X13_flaw ml_X13_125 im_X13_flaw se_X13_flaw (by decide) hy.bd.kd rfl (rm_of hr (by decide)) (Nat.le_of_ble_eq_true rfl) rfl dX13_needs_10 (kmV rfl rfl (fun h3 hy => ?_))
    refine AW.sub [0] rfl ?_
    exact w_X13_needs_13 hX hN hr h3 v0 hy
theorem con_X13_needs (l : Launch) (G : GE) (h : Mem) (v0 : Nat) (v1 : Nat) {P : Mem → Prop} (hy : OK (f_X13_needs h v0 v1) P) : Con l G yX13_needs cX13_needs 2 none rm_X13_needs [vR v0, vX v1] h (pmV P) := Con.of (by decide) (Nat.le_of_ble_eq_true rfl) (fun X hX hr hN => w_X13_needs hX hN hr h v0 v1 hy)
/-! X13_readWhole -/
theorem dX13_readWhole_0 : decode cX13_readWhole 0 = .ok (.aload_n 0, 1) := by decide +kernel
theorem dX13_readWhole_1 : decode cX13_readWhole 1 = .ok (.getfield 79, 3) := by decide +kernel
theorem dX13_readWhole_4 : decode cX13_readWhole 4 = .ok (.iconst 3, 1) := by decide +kernel
theorem dX13_readWhole_5 : decode cX13_readWhole 5 = .ok (.if_icmp .eq 11, 3) := by decide +kernel
theorem dX13_readWhole_8 : decode cX13_readWhole 8 = .ok (.aload_n 0, 1) := by decide +kernel
theorem dX13_readWhole_9 : decode cX13_readWhole 9 = .ok (.iconst 1, 1) := by decide +kernel
theorem dX13_readWhole_10 : decode cX13_readWhole 10 = .ok (.invokevirtual 125, 3) := by decide +kernel
theorem dX13_readWhole_13 : decode cX13_readWhole 13 = .ok (.goto 20, 3) := by decide +kernel
theorem dX13_readWhole_16 : decode cX13_readWhole 16 = .ok (.aload_n 0, 1) := by decide +kernel
theorem dX13_readWhole_17 : decode cX13_readWhole 17 = .ok (.getfield 105, 3) := by decide +kernel
theorem dX13_readWhole_20 : decode cX13_readWhole 20 = .ok (.iload_n 1, 1) := by decide +kernel
theorem dX13_readWhole_21 : decode cX13_readWhole 21 = .ok (.iload_n 2, 1) := by decide +kernel
theorem dX13_readWhole_22 : decode cX13_readWhole 22 = .ok (.invokestatic 129, 3) := by decide +kernel
theorem dX13_readWhole_25 : decode cX13_readWhole 25 = .ok (.ifCond .ne 8, 3) := by decide +kernel
theorem dX13_readWhole_28 : decode cX13_readWhole 28 = .ok (.aload_n 0, 1) := by decide +kernel
theorem dX13_readWhole_29 : decode cX13_readWhole 29 = .ok (.iconst 4, 1) := by decide +kernel
theorem dX13_readWhole_30 : decode cX13_readWhole 30 = .ok (.invokevirtual 125, 3) := by decide +kernel
theorem dX13_readWhole_33 : decode cX13_readWhole 33 = .ok (.aload_n 0, 1) := by decide +kernel
theorem dX13_readWhole_34 : decode cX13_readWhole 34 = .ok (.getfield 79, 3) := by decide +kernel
theorem dX13_readWhole_37 : decode cX13_readWhole 37 = .ok (.iconst 5, 1) := by decide +kernel
theorem dX13_readWhole_38 : decode cX13_readWhole 38 = .ok (.if_icmp .ne 7, 3) := by decide +kernel
theorem dX13_readWhole_41 : decode cX13_readWhole 41 = .ok (.iload_n 1, 1) := by decide +kernel
theorem dX13_readWhole_42 : decode cX13_readWhole 42 = .ok (.goto 7, 3) := by decide +kernel
theorem dX13_readWhole_45 : decode cX13_readWhole 45 = .ok (.aload_n 0, 1) := by decide +kernel
theorem dX13_readWhole_46 : decode cX13_readWhole 46 = .ok (.getfield 105, 3) := by decide +kernel
theorem dX13_readWhole_49 : decode cX13_readWhole 49 = .ok (.istore_n 3, 1) := by decide +kernel
theorem dX13_readWhole_50 : decode cX13_readWhole 50 = .ok (.aload_n 0, 1) := by decide +kernel
theorem dX13_readWhole_51 : decode cX13_readWhole 51 = .ok (.invokevirtual 118, 3) := by decide +kernel
theorem dX13_readWhole_54 : decode cX13_readWhole 54 = .ok (.iload_n 3, 1) := by decide +kernel
theorem dX13_readWhole_55 : decode cX13_readWhole 55 = .ok (.ireturn, 1) := by decide +kernel
abbrev rm_X13_readWhole : Room := { frames := 2, cells := 0, slots := 0, locals := 43 }
def f_X13_readWhole_49 (h : Mem) (v0 : Nat) (s0 : Int32) : Option (Int32 × Mem) :=
  (f_X13_goesOn h v0).bind fun h6 => some (s0, h6)
set_option maxRecDepth 100000 in
set_option maxHeartbeats 4000000 in
theorem w_X13_readWhole_49 {G : GE} {X : CX} {l : Launch} (hX : Ok G X cX13_readWhole RX13) (hN : xn X = 4) {P : (Int32 × Mem) → Prop} (hr : Rt G X l yX13_readWhole (some .int) rm_X13_readWhole (pmI P)) (h : Mem) (v0 : Nat) (s0 : Int32) (hy : OK (f_X13_readWhole_49 h v0 s0) P) : AW G X 49 [(0, vR v0)] [vI s0] h 0 0 := by
  unfold f_X13_readWhole_49 at hy
  refine aw_istoren (pc := 49) hX [(3, vI s0), (0, vR v0)] rfl (lt_n hN (by decide)) dX13_readWhole_49 ?_
  refine aw_aloadn (pc := 50) hX 1 rfl dX13_readWhole_50 ?_
  refine aw_callV (pc := 51) (st := []) (a := v0) hX [] (con_X13_goesOn _ G _ v0 hy.bd) mc_X13_goesOn ml_X13_118 im_X13_goesOn se_X13_goesOn (by decide) hy.bd.kd rfl (rm_of hr (by decide)) (Nat.le_of_ble_eq_true rfl) rfl dX13_readWhole_51 (kmV rfl rfl (fun h6 hy => ?_))
  refine aw_iloadn (pc := 54) hX 0 rfl dX13_readWhole_54 ?_
  exact aw_iret (pc := 55) hX hr (by decide) (by decide) dX13_readWhole_55 ⟨_, rfl, hy.s⟩
def f_X13_readWhole_33 (h : Mem) (v0 : Nat) (v1 : Int32) : Option (Int32 × Mem) :=
  (gI h v0 9 11).bind fun x4 => (if x4 = 5 then f_X13_readWhole_49 h v0 v1 else (gI h v0 11 11).bind fun x5 => f_X13_readWhole_49 h v0 x5)
set_option maxRecDepth 100000 in
set_option maxHeartbeats 4000000 in
theorem w_X13_readWhole_33 {G : GE} {X : CX} {l : Launch} (hX : Ok G X cX13_readWhole RX13) (hN : xn X = 4) {P : (Int32 × Mem) → Prop} (hr : Rt G X l yX13_readWhole (some .int) rm_X13_readWhole (pmI P)) (h : Mem) (v0 : Nat) (v1 : Int32) (hy : OK (f_X13_readWhole_33 h v0 v1) P) : AW G X 33 [(0, vR v0), (1, vI v1)] [] h 0 0 := by
  unfold f_X13_readWhole_33 at hy
  refine aw_aloadn (pc := 33) hX 0 rfl dX13_readWhole_33 ?_
  refine aw_gI (pc := 34) hX hy fl_X13_79 (fun _ _ => rfl) dX13_readWhole_34 (fun x4 hy => ?_)
  refine aw_iconst (pc := 37) hX 5 (by decide) dX13_readWhole_37 ?_
  refine aw_ic_ne (pc := 38) hX 45 (by decide) dX13_readWhole_38 (fun hc9 => ?_) (fun hc9 => ?_)
  · have hy := hy.f hc9
    refine aw_aloadn (pc := 45) hX 0 rfl dX13_readWhole_45 ?_
    refine aw_gI (pc := 46) hX hy fl_X13_105 (fun _ _ => rfl) dX13_readWhole_46 (fun x5 hy => ?_)
    refine AW.sub [0] rfl ?_
    exact w_X13_readWhole_49 hX hN hr h v0 x5 hy
  · have hy := hy.t hc9
    refine aw_iloadn (pc := 41) hX 1 rfl dX13_readWhole_41 ?_
    refine aw_goto (pc := 42) hX 49 (by decide) dX13_readWhole_42 ?_
    refine AW.sub [0] rfl ?_
    exact w_X13_readWhole_49 hX hN hr h v0 v1 hy
def f_X13_readWhole (h : Mem) (v0 : Nat) (v1 : Int32) (v2 : Int32) : Option (Int32 × Mem) :=
  (ck h v0 11).bind fun _ => (gI h v0 9 11).bind fun x1 => (if x1 = 3 then (gI h v0 11 11).bind fun x2 => (f_X13_in h x2 v1 v2).bind fun x3 => (if x3 = 0 then (f_X13_flaw h v0 4).bind fun h7 => f_X13_readWhole_33 h7 v0 v1 else f_X13_readWhole_33 h v0 v1) else (f_X13_flaw h v0 1).bind fun h8 => f_X13_readWhole_33 h8 v0 v1)
set_option maxRecDepth 100000 in
set_option maxHeartbeats 4000000 in
theorem w_X13_readWhole {G : GE} {X : CX} {l : Launch} (hX : Ok G X cX13_readWhole RX13) (hN : xn X = 4) {P : (Int32 × Mem) → Prop} (hr : Rt G X l yX13_readWhole (some .int) rm_X13_readWhole (pmI P)) (h : Mem) (v0 : Nat) (v1 : Int32) (v2 : Int32) (hy : OK (f_X13_readWhole h v0 v1 v2) P) : AW G X 0 [(0, vR v0), (1, vI v1), (2, vI v2)] [] h 0 0 := by
  unfold f_X13_readWhole at hy
  have hkd := hy.kd
  have hy := hy.kb
  refine aw_aloadn (pc := 0) hX 0 rfl dX13_readWhole_0 ?_
  refine aw_gI (pc := 1) hX hy fl_X13_79 (fun _ _ => rfl) dX13_readWhole_1 (fun x1 hy => ?_)
  refine aw_iconst (pc := 4) hX 3 (by decide) dX13_readWhole_4 ?_
  refine aw_ic_eq (pc := 5) hX 16 (by decide) dX13_readWhole_5 (fun hc9 => ?_) (fun hc9 => ?_)
  · have hy := hy.t hc9
    refine aw_aloadn (pc := 16) hX 0 rfl dX13_readWhole_16 ?_
    refine aw_gI (pc := 17) hX hy fl_X13_105 (fun _ _ => rfl) dX13_readWhole_17 (fun x2 hy => ?_)
    refine aw_iloadn (pc := 20) hX 1 rfl dX13_readWhole_20 ?_
    refine aw_iloadn (pc := 21) hX 2 rfl dX13_readWhole_21 ?_
    refine aw_callS (pc := 22) (st := []) hX [vI x2, vI v1, vI v2] (con_X13_in _ G _ x2 v1 v2 hy.bd) mc_X13_in ml_X13_129 st_X13_in rfl (rm_of hr (by decide)) (Nat.le_of_ble_eq_true rfl) rfl dX13_readWhole_22 (kpI rfl rfl (fun x3 hy => ?_))
    refine aw_if_ne (pc := 25) hX 33 (by decide) dX13_readWhole_25 (fun hc9 => ?_) (fun hc9 => ?_)
    · have hy := hy.f hc9
      refine AW.sub [0, 1] rfl ?_
      exact w_X13_readWhole_33 hX hN hr h v0 v1 hy
    · have hy := hy.t hc9
      refine aw_aloadn (pc := 28) hX 0 rfl dX13_readWhole_28 ?_
      refine aw_iconst (pc := 29) hX 4 (by decide) dX13_readWhole_29 ?_
      refine aw_callV (pc := 30) (st := []) (a := v0) hX [vI 4] (con_X13_flaw _ G _ v0 4 hy.bd) mc_X13_flaw ml_X13_125 im_X13_flaw se_X13_flaw (by decide) hy.bd.kd rfl (rm_of hr (by decide)) (Nat.le_of_ble_eq_true rfl) rfl dX13_readWhole_30 (kmV rfl rfl (fun h7 hy => ?_))
      refine AW.sub [0, 1] rfl ?_
      exact w_X13_readWhole_33 hX hN hr h7 v0 v1 hy
  · have hy := hy.f hc9
    refine aw_aloadn (pc := 8) hX 0 rfl dX13_readWhole_8 ?_
    refine aw_iconst (pc := 9) hX 1 (by decide) dX13_readWhole_9 ?_
    refine aw_callV (pc := 10) (st := []) (a := v0) hX [vI 1] (con_X13_flaw _ G _ v0 1 hy.bd) mc_X13_flaw ml_X13_125 im_X13_flaw se_X13_flaw (by decide) hy.bd.kd rfl (rm_of hr (by decide)) (Nat.le_of_ble_eq_true rfl) rfl dX13_readWhole_10 (kmV rfl rfl (fun h8 hy => ?_))
    refine aw_goto (pc := 13) hX 33 (by decide) dX13_readWhole_13 ?_
    refine AW.sub [0, 1] rfl ?_
    exact w_X13_readWhole_33 hX hN hr h8 v0 v1 hy
theorem con_X13_readWhole (l : Launch) (G : GE) (h : Mem) (v0 : Nat) (v1 : Int32) (v2 : Int32) {P : (Int32 × Mem) → Prop} (hy : OK (f_X13_readWhole h v0 v1 v2) P) : Con l G yX13_readWhole cX13_readWhole 4 (some .int) rm_X13_readWhole [vR v0, vI v1, vI v2] h (pmI P) := Con.of (by decide) (Nat.le_of_ble_eq_true rfl) (fun X hX hr hN => w_X13_readWhole hX hN hr h v0 v1 v2 hy)
/-! X13_readPart -/
theorem dX13_readPart_0 : decode cX13_readPart 0 = .ok (.aload_n 0, 1) := by decide +kernel
theorem dX13_readPart_1 : decode cX13_readPart 1 = .ok (.aload_n 1, 1) := by decide +kernel
theorem dX13_readPart_2 : decode cX13_readPart 2 = .ok (.invokevirtual 133, 3) := by decide +kernel
theorem dX13_readPart_5 : decode cX13_readPart 5 = .ok (.aload_n 0, 1) := by decide +kernel
theorem dX13_readPart_6 : decode cX13_readPart 6 = .ok (.iload_n 2, 1) := by decide +kernel
theorem dX13_readPart_7 : decode cX13_readPart 7 = .ok (.iload_n 3, 1) := by decide +kernel
theorem dX13_readPart_8 : decode cX13_readPart 8 = .ok (.invokevirtual 137, 3) := by decide +kernel
theorem dX13_readPart_11 : decode cX13_readPart 11 = .ok (.ireturn, 1) := by decide +kernel
abbrev rm_X13_readPart : Room := { frames := 7, cells := 0, slots := 0, locals := 176 }
def f_X13_readPart (h : Mem) (v0 : Nat) (v1 : Nat) (v2 : Int32) (v3 : Int32) : Option (Int32 × Mem) :=
  (ck h v0 11).bind fun _ => (f_X13_needs h v0 v1).bind fun h1 => (f_X13_readWhole h1 v0 v2 v3).bind fun q4 => some (q4.1, q4.2)
set_option maxRecDepth 100000 in
set_option maxHeartbeats 4000000 in
theorem w_X13_readPart {G : GE} {X : CX} {l : Launch} (hX : Ok G X cX13_readPart RX13) (hN : xn X = 4) {P : (Int32 × Mem) → Prop} (hr : Rt G X l yX13_readPart (some .int) rm_X13_readPart (pmI P)) (h : Mem) (v0 : Nat) (v1 : Nat) (v2 : Int32) (v3 : Int32) (hy : OK (f_X13_readPart h v0 v1 v2 v3) P) : AW G X 0 [(0, vR v0), (1, vX v1), (2, vI v2), (3, vI v3)] [] h 0 0 := by
  unfold f_X13_readPart at hy
  have hkd := hy.kd
  have hy := hy.kb
  refine aw_aloadn (pc := 0) hX 0 rfl dX13_readPart_0 ?_
  refine aw_xloadn (pc := 1) hX 1 rfl dX13_readPart_1 ?_
  refine aw_callV (pc := 2) (st := []) (a := v0) hX [vX v1] (con_X13_needs _ G _ v0 v1 hy.bd) mc_X13_needs ml_X13_133 im_X13_needs se_X13_needs (by decide) hy.bd.kd rfl (rm_of hr (by decide)) (Nat.le_of_ble_eq_true rfl) rfl dX13_readPart_2 (kmV rfl rfl (fun h1 hy => ?_))
  refine aw_aloadn (pc := 5) hX 0 rfl dX13_readPart_5 ?_
  refine aw_iloadn (pc := 6) hX 2 rfl dX13_readPart_6 ?_
  refine aw_iloadn (pc := 7) hX 3 rfl dX13_readPart_7 ?_
  refine aw_callV (pc := 8) (st := []) (a := v0) hX [vI v2, vI v3] (con_X13_readWhole _ G _ v0 v2 v3 hy.bd) mc_X13_readWhole ml_X13_137 im_X13_readWhole se_X13_readWhole (by decide) hy.bd.kd rfl (rm_of hr (by decide)) (Nat.le_of_ble_eq_true rfl) rfl dX13_readPart_8 (kmI rfl rfl (fun q4 hy => ?_))
  exact aw_iret (pc := 11) hX hr (by decide) (by decide) dX13_readPart_11 ⟨_, rfl, hy.s⟩
theorem con_X13_readPart (l : Launch) (G : GE) (h : Mem) (v0 : Nat) (v1 : Nat) (v2 : Int32) (v3 : Int32) {P : (Int32 × Mem) → Prop} (hy : OK (f_X13_readPart h v0 v1 v2 v3) P) : Con l G yX13_readPart cX13_readPart 4 (some .int) rm_X13_readPart [vR v0, vX v1, vI v2, vI v3] h (pmI P) := Con.of (by decide) (Nat.le_of_ble_eq_true rfl) (fun X hX hr hN => w_X13_readPart hX hN hr h v0 v1 v2 v3 hy)
/-! X13_isName -/
theorem dX13_isName_0 : decode cX13_isName 0 = .ok (.aload_n 0, 1) := by decide +kernel
theorem dX13_isName_1 : decode cX13_isName 1 = .ok (.getfield 79, 3) := by decide +kernel
theorem dX13_isName_4 : decode cX13_isName 4 = .ok (.iconst 2, 1) := by decide +kernel
theorem dX13_isName_5 : decode cX13_isName 5 = .ok (.if_icmp .ne 48, 3) := by decide +kernel
theorem dX13_isName_8 : decode cX13_isName 8 = .ok (.aload_n 0, 1) := by decide +kernel
theorem dX13_isName_9 : decode cX13_isName 9 = .ok (.ldc 141, 2) := by decide +kernel
theorem dX13_isName_11 : decode cX13_isName 11 = .ok (.invokevirtual 121, 3) := by decide +kernel
theorem dX13_isName_14 : decode cX13_isName 14 = .ok (.ifCond .ne 39, 3) := by decide +kernel
theorem dX13_isName_17 : decode cX13_isName 17 = .ok (.aload_n 0, 1) := by decide +kernel
theorem dX13_isName_18 : decode cX13_isName 18 = .ok (.ldc 143, 2) := by decide +kernel
theorem dX13_isName_20 : decode cX13_isName 20 = .ok (.invokevirtual 121, 3) := by decide +kernel
theorem dX13_isName_23 : decode cX13_isName 23 = .ok (.ifCond .ne 30, 3) := by decide +kernel
theorem dX13_isName_26 : decode cX13_isName 26 = .ok (.aload_n 0, 1) := by decide +kernel
theorem dX13_isName_27 : decode cX13_isName 27 = .ok (.ldc 145, 2) := by decide +kernel
theorem dX13_isName_29 : decode cX13_isName 29 = .ok (.invokevirtual 121, 3) := by decide +kernel
theorem dX13_isName_32 : decode cX13_isName 32 = .ok (.ifCond .ne 21, 3) := by decide +kernel
theorem dX13_isName_35 : decode cX13_isName 35 = .ok (.aload_n 0, 1) := by decide +kernel
theorem dX13_isName_36 : decode cX13_isName 36 = .ok (.ldc 146, 2) := by decide +kernel
theorem dX13_isName_38 : decode cX13_isName 38 = .ok (.invokevirtual 121, 3) := by decide +kernel
theorem dX13_isName_41 : decode cX13_isName 41 = .ok (.ifCond .ne 12, 3) := by decide +kernel
theorem dX13_isName_44 : decode cX13_isName 44 = .ok (.aload_n 0, 1) := by decide +kernel
theorem dX13_isName_45 : decode cX13_isName 45 = .ok (.ldc 148, 2) := by decide +kernel
theorem dX13_isName_47 : decode cX13_isName 47 = .ok (.invokevirtual 121, 3) := by decide +kernel
theorem dX13_isName_50 : decode cX13_isName 50 = .ok (.ifCond .eq 5, 3) := by decide +kernel
theorem dX13_isName_53 : decode cX13_isName 53 = .ok (.iconst 0, 1) := by decide +kernel
theorem dX13_isName_54 : decode cX13_isName 54 = .ok (.ireturn, 1) := by decide +kernel
theorem dX13_isName_55 : decode cX13_isName 55 = .ok (.aload_n 0, 1) := by decide +kernel
theorem dX13_isName_56 : decode cX13_isName 56 = .ok (.ldc 150, 2) := by decide +kernel
theorem dX13_isName_58 : decode cX13_isName 58 = .ok (.invokevirtual 121, 3) := by decide +kernel
theorem dX13_isName_61 : decode cX13_isName 61 = .ok (.ifCond .ne 34, 3) := by decide +kernel
theorem dX13_isName_64 : decode cX13_isName 64 = .ok (.aload_n 0, 1) := by decide +kernel
theorem dX13_isName_65 : decode cX13_isName 65 = .ok (.ldc 152, 2) := by decide +kernel
theorem dX13_isName_67 : decode cX13_isName 67 = .ok (.invokevirtual 121, 3) := by decide +kernel
theorem dX13_isName_70 : decode cX13_isName 70 = .ok (.ifCond .ne 25, 3) := by decide +kernel
theorem dX13_isName_73 : decode cX13_isName 73 = .ok (.aload_n 0, 1) := by decide +kernel
theorem dX13_isName_74 : decode cX13_isName 74 = .ok (.ldc 154, 2) := by decide +kernel
theorem dX13_isName_76 : decode cX13_isName 76 = .ok (.invokevirtual 121, 3) := by decide +kernel
theorem dX13_isName_79 : decode cX13_isName 79 = .ok (.ifCond .ne 16, 3) := by decide +kernel
theorem dX13_isName_82 : decode cX13_isName 82 = .ok (.aload_n 0, 1) := by decide +kernel
theorem dX13_isName_83 : decode cX13_isName 83 = .ok (.ldc 156, 2) := by decide +kernel
theorem dX13_isName_85 : decode cX13_isName 85 = .ok (.invokevirtual 121, 3) := by decide +kernel
theorem dX13_isName_88 : decode cX13_isName 88 = .ok (.ifCond .ne 7, 3) := by decide +kernel
theorem dX13_isName_91 : decode cX13_isName 91 = .ok (.iconst 1, 1) := by decide +kernel
theorem dX13_isName_92 : decode cX13_isName 92 = .ok (.goto 4, 3) := by decide +kernel
theorem dX13_isName_95 : decode cX13_isName 95 = .ok (.iconst 0, 1) := by decide +kernel
theorem dX13_isName_96 : decode cX13_isName 96 = .ok (.ireturn, 1) := by decide +kernel
abbrev rm_X13_isName : Room := { frames := 6, cells := 0, slots := 0, locals := 155 }
def f_X13_isName_95 (h : Mem) : Option Int32 :=
  some 0
set_option maxRecDepth 100000 in
set_option maxHeartbeats 4000000 in
theorem w_X13_isName_95 {G : GE} {X : CX} {l : Launch} (hX : Ok G X cX13_isName RX13) (hN : xn X = 1) (h : Mem) {P : Int32 → Prop} (hr : Rt G X l yX13_isName (some .boolean) rm_X13_isName (ppI h P)) (hy : OK (f_X13_isName_95 h) P) : AW G X 95 [] [] h 0 0 := by
  unfold f_X13_isName_95 at hy
  refine aw_iconst (pc := 95) hX 0 (by decide) dX13_isName_95 ?_
  exact aw_zret (pc := 96) hX hr (by decide) (by decide) dX13_isName_96 (Or.inl rfl) ⟨rfl, _, rfl, hy.s⟩
def f_X13_isName (h : Mem) (v0 : Nat) : Option Int32 :=
  (ck h v0 11).bind fun _ => (gI h v0 9 11).bind fun x1 => (if x1 = 2 then (f_X13_isWord h v0 0).bind fun x2 => (if x2 = 0 then (f_X13_isWord h v0 1).bind fun x3 => (if x3 = 0 then (f_X13_isWord h v0 2).bind fun x4 => (if x4 = 0 then (f_X13_isWord h v0 3).bind fun x5 => (if x5 = 0 then (f_X13_isWord h v0 4).bind fun x6 => (if x6 = 0 then (f_X13_isWord h v0 5).bind fun x7 => (if x7 = 0 then (f_X13_isWord h v0 6).bind fun x8 => (if x8 = 0 then (f_X13_isWord h v0 7).bind fun x9 => (if x9 = 0 then (f_X13_isWord h v0 8).bind fun x10 => (if x10 = 0 then some 1 else f_X13_isName_95 h) else f_X13_isName_95 h) else f_X13_isName_95 h) else f_X13_isName_95 h) else some 0) else some 0) else some 0) else some 0) else some 0) else some 0)
set_option maxRecDepth 100000 in
set_option maxHeartbeats 4000000 in
theorem w_X13_isName {G : GE} {X : CX} {l : Launch} (hX : Ok G X cX13_isName RX13) (hN : xn X = 1) (h : Mem) {P : Int32 → Prop} (hr : Rt G X l yX13_isName (some .boolean) rm_X13_isName (ppI h P)) (v0 : Nat) (hy : OK (f_X13_isName h v0) P) : AW G X 0 [(0, vR v0)] [] h 0 0 := by
  unfold f_X13_isName at hy
  have hkd := hy.kd
  have hy := hy.kb
  refine aw_aloadn (pc := 0) hX 0 rfl dX13_isName_0 ?_
  refine aw_gI (pc := 1) hX hy fl_X13_79 (fun _ _ => rfl) dX13_isName_1 (fun x1 hy => ?_)
  refine aw_iconst (pc := 4) hX 2 (by decide) dX13_isName_4 ?_
  refine aw_ic_ne (pc := 5) hX 53 (by decide) dX13_isName_5 (fun hc9 => ?_) (fun hc9 => ?_)
  · have hy := hy.f hc9
    refine aw_iconst (pc := 53) hX 0 (by decide) dX13_isName_53 ?_
    exact aw_zret (pc := 54) hX hr (by decide) (by decide) dX13_isName_54 (Or.inl rfl) ⟨rfl, _, rfl, hy.s⟩
  · have hy := hy.t hc9
    refine aw_aloadn (pc := 8) hX 0 rfl dX13_isName_8 ?_
    refine aw_ldcs (pc := 9) hX (tx := "turnpike") (k := 0) (by decide +kernel) dX13_isName_9 ?_
    refine aw_callV (pc := 11) (st := []) (a := v0) hX [vX 0] (con_X13_isWord _ G _ v0 0 hy.bd) mc_X13_isWord ml_X13_121 im_X13_isWord se_X13_isWord (by decide) hy.bd.kd rfl (rm_of hr (by decide)) (Nat.le_of_ble_eq_true rfl) rfl dX13_isName_11 (kpI rfl rfl (fun x2 hy => ?_))
    refine aw_if_ne (pc := 14) hX 53 (by decide) dX13_isName_14 (fun hc9 => ?_) (fun hc9 => ?_)
    · have hy := hy.f hc9
      refine aw_iconst (pc := 53) hX 0 (by decide) dX13_isName_53 ?_
      exact aw_zret (pc := 54) hX hr (by decide) (by decide) dX13_isName_54 (Or.inl rfl) ⟨rfl, _, rfl, hy.s⟩
    · have hy := hy.t hc9
      refine aw_aloadn (pc := 17) hX 0 rfl dX13_isName_17 ?_
      refine aw_ldcs (pc := 18) hX (tx := "tune") (k := 1) (by decide +kernel) dX13_isName_18 ?_
      refine aw_callV (pc := 20) (st := []) (a := v0) hX [vX 1] (con_X13_isWord _ G _ v0 1 hy.bd) mc_X13_isWord ml_X13_121 im_X13_isWord se_X13_isWord (by decide) hy.bd.kd rfl (rm_of hr (by decide)) (Nat.le_of_ble_eq_true rfl) rfl dX13_isName_20 (kpI rfl rfl (fun x3 hy => ?_))
      refine aw_if_ne (pc := 23) hX 53 (by decide) dX13_isName_23 (fun hc9 => ?_) (fun hc9 => ?_)
      · have hy := hy.f hc9
        refine aw_iconst (pc := 53) hX 0 (by decide) dX13_isName_53 ?_
        exact aw_zret (pc := 54) hX hr (by decide) (by decide) dX13_isName_54 (Or.inl rfl) ⟨rfl, _, rfl, hy.s⟩
      · have hy := hy.t hc9
        refine aw_aloadn (pc := 26) hX 0 rfl dX13_isName_26 ?_
        refine aw_ldcs (pc := 27) hX (tx := "place") (k := 2) (by decide +kernel) dX13_isName_27 ?_
        refine aw_callV (pc := 29) (st := []) (a := v0) hX [vX 2] (con_X13_isWord _ G _ v0 2 hy.bd) mc_X13_isWord ml_X13_121 im_X13_isWord se_X13_isWord (by decide) hy.bd.kd rfl (rm_of hr (by decide)) (Nat.le_of_ble_eq_true rfl) rfl dX13_isName_29 (kpI rfl rfl (fun x4 hy => ?_))
        refine aw_if_ne (pc := 32) hX 53 (by decide) dX13_isName_32 (fun hc9 => ?_) (fun hc9 => ?_)
        · have hy := hy.f hc9
          refine aw_iconst (pc := 53) hX 0 (by decide) dX13_isName_53 ?_
          exact aw_zret (pc := 54) hX hr (by decide) (by decide) dX13_isName_54 (Or.inl rfl) ⟨rfl, _, rfl, hy.s⟩
        · have hy := hy.t hc9
          refine aw_aloadn (pc := 35) hX 0 rfl dX13_isName_35 ?_
          refine aw_ldcs (pc := 36) hX (tx := "road") (k := 3) (by decide +kernel) dX13_isName_36 ?_
          refine aw_callV (pc := 38) (st := []) (a := v0) hX [vX 3] (con_X13_isWord _ G _ v0 3 hy.bd) mc_X13_isWord ml_X13_121 im_X13_isWord se_X13_isWord (by decide) hy.bd.kd rfl (rm_of hr (by decide)) (Nat.le_of_ble_eq_true rfl) rfl dX13_isName_38 (kpI rfl rfl (fun x5 hy => ?_))
          refine aw_if_ne (pc := 41) hX 53 (by decide) dX13_isName_41 (fun hc9 => ?_) (fun hc9 => ?_)
          · have hy := hy.f hc9
            refine aw_iconst (pc := 53) hX 0 (by decide) dX13_isName_53 ?_
            exact aw_zret (pc := 54) hX hr (by decide) (by decide) dX13_isName_54 (Or.inl rfl) ⟨rfl, _, rfl, hy.s⟩
          · have hy := hy.t hc9
            refine aw_aloadn (pc := 44) hX 0 rfl dX13_isName_44 ?_
            refine aw_ldcs (pc := 45) hX (tx := "gate") (k := 4) (by decide +kernel) dX13_isName_45 ?_
            refine aw_callV (pc := 47) (st := []) (a := v0) hX [vX 4] (con_X13_isWord _ G _ v0 4 hy.bd) mc_X13_isWord ml_X13_121 im_X13_isWord se_X13_isWord (by decide) hy.bd.kd rfl (rm_of hr (by decide)) (Nat.le_of_ble_eq_true rfl) rfl dX13_isName_47 (kpI rfl rfl (fun x6 hy => ?_))
            refine aw_if_eq (pc := 50) hX 55 (by decide) dX13_isName_50 (fun hc9 => ?_) (fun hc9 => ?_)
            · have hy := hy.t hc9
              refine aw_aloadn (pc := 55) hX 0 rfl dX13_isName_55 ?_
              refine aw_ldcs (pc := 56) hX (tx := "inn") (k := 5) (by decide +kernel) dX13_isName_56 ?_
              refine aw_callV (pc := 58) (st := []) (a := v0) hX [vX 5] (con_X13_isWord _ G _ v0 5 hy.bd) mc_X13_isWord ml_X13_121 im_X13_isWord se_X13_isWord (by decide) hy.bd.kd rfl (rm_of hr (by decide)) (Nat.le_of_ble_eq_true rfl) rfl dX13_isName_58 (kpI rfl rfl (fun x7 hy => ?_))
              refine aw_if_ne (pc := 61) hX 95 (by decide) dX13_isName_61 (fun hc9 => ?_) (fun hc9 => ?_)
              · have hy := hy.f hc9
                refine AW.sub [] rfl ?_
                exact w_X13_isName_95 hX hN _ hr hy
              · have hy := hy.t hc9
                refine aw_aloadn (pc := 64) hX 0 rfl dX13_isName_64 ?_
                refine aw_ldcs (pc := 65) hX (tx := "person") (k := 6) (by decide +kernel) dX13_isName_65 ?_
                refine aw_callV (pc := 67) (st := []) (a := v0) hX [vX 6] (con_X13_isWord _ G _ v0 6 hy.bd) mc_X13_isWord ml_X13_121 im_X13_isWord se_X13_isWord (by decide) hy.bd.kd rfl (rm_of hr (by decide)) (Nat.le_of_ble_eq_true rfl) rfl dX13_isName_67 (kpI rfl rfl (fun x8 hy => ?_))
                refine aw_if_ne (pc := 70) hX 95 (by decide) dX13_isName_70 (fun hc9 => ?_) (fun hc9 => ?_)
                · have hy := hy.f hc9
                  refine AW.sub [] rfl ?_
                  exact w_X13_isName_95 hX hN _ hr hy
                · have hy := hy.t hc9
                  refine aw_aloadn (pc := 73) hX 0 rfl dX13_isName_73 ?_
                  refine aw_ldcs (pc := 74) hX (tx := "knows") (k := 7) (by decide +kernel) dX13_isName_74 ?_
                  refine aw_callV (pc := 76) (st := []) (a := v0) hX [vX 7] (con_X13_isWord _ G _ v0 7 hy.bd) mc_X13_isWord ml_X13_121 im_X13_isWord se_X13_isWord (by decide) hy.bd.kd rfl (rm_of hr (by decide)) (Nat.le_of_ble_eq_true rfl) rfl dX13_isName_76 (kpI rfl rfl (fun x9 hy => ?_))
                  refine aw_if_ne (pc := 79) hX 95 (by decide) dX13_isName_79 (fun hc9 => ?_) (fun hc9 => ?_)
                  · have hy := hy.f hc9
                    refine AW.sub [] rfl ?_
                    exact w_X13_isName_95 hX hN _ hr hy
                  · have hy := hy.t hc9
                    refine aw_aloadn (pc := 82) hX 0 rfl dX13_isName_82 ?_
                    refine aw_ldcs (pc := 83) hX (tx := "heard") (k := 8) (by decide +kernel) dX13_isName_83 ?_
                    refine aw_callV (pc := 85) (st := []) (a := v0) hX [vX 8] (con_X13_isWord _ G _ v0 8 hy.bd) mc_X13_isWord ml_X13_121 im_X13_isWord se_X13_isWord (by decide) hy.bd.kd rfl (rm_of hr (by decide)) (Nat.le_of_ble_eq_true rfl) rfl dX13_isName_85 (kpI rfl rfl (fun x10 hy => ?_))
                    refine aw_if_ne (pc := 88) hX 95 (by decide) dX13_isName_88 (fun hc9 => ?_) (fun hc9 => ?_)
                    · have hy := hy.f hc9
                      refine AW.sub [] rfl ?_
                      exact w_X13_isName_95 hX hN _ hr hy
                    · have hy := hy.t hc9
                      refine aw_iconst (pc := 91) hX 1 (by decide) dX13_isName_91 ?_
                      refine aw_goto (pc := 92) hX 96 (by decide) dX13_isName_92 ?_
                      exact aw_zret (pc := 96) hX hr (by decide) (by decide) dX13_isName_96 (Or.inr rfl) ⟨rfl, _, rfl, hy.s⟩
            · have hy := hy.f hc9
              refine aw_iconst (pc := 53) hX 0 (by decide) dX13_isName_53 ?_
              exact aw_zret (pc := 54) hX hr (by decide) (by decide) dX13_isName_54 (Or.inl rfl) ⟨rfl, _, rfl, hy.s⟩
theorem con_X13_isName (l : Launch) (G : GE) (h : Mem) (v0 : Nat) {P : Int32 → Prop} (hy : OK (f_X13_isName h v0) P) : Con l G yX13_isName cX13_isName 1 (some .boolean) rm_X13_isName [vR v0] h (ppI h P) := Con.of (by decide) (Nat.le_of_ble_eq_true rfl) (fun X hX hr hN => w_X13_isName hX hN h hr v0 hy)
/-! X13_lineBegins -/
theorem dX13_lineBegins_0 : decode cX13_lineBegins 0 = .ok (.iload_n 1, 1) := by decide +kernel
theorem dX13_lineBegins_1 : decode cX13_lineBegins 1 = .ok (.iload_n 2, 1) := by decide +kernel
theorem dX13_lineBegins_2 : decode cX13_lineBegins 2 = .ok (.if_icmp .ne 8, 3) := by decide +kernel
theorem dX13_lineBegins_5 : decode cX13_lineBegins 5 = .ok (.aload_n 0, 1) := by decide +kernel
theorem dX13_lineBegins_6 : decode cX13_lineBegins 6 = .ok (.iconst 5, 1) := by decide +kernel
theorem dX13_lineBegins_7 : decode cX13_lineBegins 7 = .ok (.invokevirtual 125, 3) := by decide +kernel
theorem dX13_lineBegins_10 : decode cX13_lineBegins 10 = .ok (.aload_n 0, 1) := by decide +kernel
theorem dX13_lineBegins_11 : decode cX13_lineBegins 11 = .ok (.getfield 158, 3) := by decide +kernel
theorem dX13_lineBegins_14 : decode cX13_lineBegins 14 = .ok (.getfield 162, 3) := by decide +kernel
theorem dX13_lineBegins_17 : decode cX13_lineBegins 17 = .ok (.iconst (-1), 1) := by decide +kernel
theorem dX13_lineBegins_18 : decode cX13_lineBegins 18 = .ok (.if_icmp .ne 9, 3) := by decide +kernel
theorem dX13_lineBegins_21 : decode cX13_lineBegins 21 = .ok (.aload_n 0, 1) := by decide +kernel
theorem dX13_lineBegins_22 : decode cX13_lineBegins 22 = .ok (.bipush 6, 2) := by decide +kernel
theorem dX13_lineBegins_24 : decode cX13_lineBegins 24 = .ok (.invokevirtual 125, 3) := by decide +kernel
theorem dX13_lineBegins_27 : decode cX13_lineBegins 27 = .ok (.aload_n 0, 1) := by decide +kernel
theorem dX13_lineBegins_28 : decode cX13_lineBegins 28 = .ok (.invokevirtual 118, 3) := by decide +kernel
theorem dX13_lineBegins_31 : decode cX13_lineBegins 31 = .ok (.return_, 1) := by decide +kernel
abbrev rm_X13_lineBegins : Room := { frames := 2, cells := 0, slots := 0, locals := 43 }
def f_X13_lineBegins_27 (h : Mem) (v0 : Nat) : Option Mem :=
  (f_X13_goesOn h v0).bind fun h3 => some h3
set_option maxRecDepth 100000 in
set_option maxHeartbeats 4000000 in
theorem w_X13_lineBegins_27 {G : GE} {X : CX} {l : Launch} (hX : Ok G X cX13_lineBegins RX13) (hN : xn X = 3) {P : Mem → Prop} (hr : Rt G X l yX13_lineBegins none rm_X13_lineBegins (pmV P)) (h : Mem) (v0 : Nat) (hy : OK (f_X13_lineBegins_27 h v0) P) : AW G X 27 [(0, vR v0)] [] h 0 0 := by
  unfold f_X13_lineBegins_27 at hy
  refine aw_aloadn (pc := 27) hX 0 rfl dX13_lineBegins_27 ?_
  refine aw_callV (pc := 28) (st := []) (a := v0) hX [] (con_X13_goesOn _ G _ v0 hy.bd) mc_X13_goesOn ml_X13_118 im_X13_goesOn se_X13_goesOn (by decide) hy.bd.kd rfl (rm_of hr (by decide)) (Nat.le_of_ble_eq_true rfl) rfl dX13_lineBegins_28 (kmV rfl rfl (fun h3 hy => ?_))
  exact aw_vret (pc := 31) hX hr (by decide) (by decide) dX13_lineBegins_31 ⟨rfl, hy.s⟩
def f_X13_lineBegins_10 (h : Mem) (v0 : Nat) : Option Mem :=
  (gR h v0 4 11).bind fun r1 => (gI h r1 0 10).bind fun x2 => (if x2 = (-1) then (f_X13_flaw h v0 6).bind fun h4 => f_X13_lineBegins_27 h4 v0 else f_X13_lineBegins_27 h v0)
set_option maxRecDepth 100000 in
set_option maxHeartbeats 4000000 in
theorem w_X13_lineBegins_10 {G : GE} {X : CX} {l : Launch} (hX : Ok G X cX13_lineBegins RX13) (hN : xn X = 3) {P : Mem → Prop} (hr : Rt G X l yX13_lineBegins none rm_X13_lineBegins (pmV P)) (h : Mem) (v0 : Nat) (hy : OK (f_X13_lineBegins_10 h v0) P) : AW G X 10 [(0, vR v0)] [] h 0 0 := by
  unfold f_X13_lineBegins_10 at hy
  refine aw_aloadn (pc := 10) hX 0 rfl dX13_lineBegins_10 ?_
  refine aw_gR (pc := 11) hX hy fl_X13_158 (fun _ _ => rfl) dX13_lineBegins_11 (fun r1 hy => ?_)
  refine aw_gI (pc := 14) hX hy fl_X13_162 (fun _ _ => rfl) dX13_lineBegins_14 (fun x2 hy => ?_)
  refine aw_iconst (pc := 17) hX (-1) (by decide) dX13_lineBegins_17 ?_
  refine aw_ic_ne (pc := 18) hX 27 (by decide) dX13_lineBegins_18 (fun hc9 => ?_) (fun hc9 => ?_)
  · have hy := hy.f hc9
    exact w_X13_lineBegins_27 hX hN hr h v0 hy
  · have hy := hy.t hc9
    refine aw_aloadn (pc := 21) hX 0 rfl dX13_lineBegins_21 ?_
    refine aw_bipush (pc := 22) hX 6 (by decide) dX13_lineBegins_22 ?_
    refine aw_callV (pc := 24) (st := []) (a := v0) hX [vI 6] (con_X13_flaw _ G _ v0 6 hy.bd) mc_X13_flaw ml_X13_125 im_X13_flaw se_X13_flaw (by decide) hy.bd.kd rfl (rm_of hr (by decide)) (Nat.le_of_ble_eq_true rfl) rfl dX13_lineBegins_24 (kmV rfl rfl (fun h4 hy => ?_))
    exact w_X13_lineBegins_27 hX hN hr h4 v0 hy
def f_X13_lineBegins (h : Mem) (v0 : Nat) (v1 : Int32) (v2 : Int32) : Option Mem :=
  (ck h v0 11).bind fun _ => (if v1 = v2 then (f_X13_flaw h v0 5).bind fun h5 => f_X13_lineBegins_10 h5 v0 else f_X13_lineBegins_10 h v0)
set_option maxRecDepth 100000 in
set_option maxHeartbeats 4000000 in
theorem w_X13_lineBegins {G : GE} {X : CX} {l : Launch} (hX : Ok G X cX13_lineBegins RX13) (hN : xn X = 3) {P : Mem → Prop} (hr : Rt G X l yX13_lineBegins none rm_X13_lineBegins (pmV P)) (h : Mem) (v0 : Nat) (v1 : Int32) (v2 : Int32) (hy : OK (f_X13_lineBegins h v0 v1 v2) P) : AW G X 0 [(0, vR v0), (1, vI v1), (2, vI v2)] [] h 0 0 := by
  unfold f_X13_lineBegins at hy
  have hkd := hy.kd
  have hy := hy.kb
  refine aw_iloadn (pc := 0) hX 1 rfl dX13_lineBegins_0 ?_
  refine aw_iloadn (pc := 1) hX 2 rfl dX13_lineBegins_1 ?_
  refine aw_ic_ne (pc := 2) hX 10 (by decide) dX13_lineBegins_2 (fun hc9 => ?_) (fun hc9 => ?_)
  · have hy := hy.f hc9
    refine AW.sub [0] rfl ?_
    exact w_X13_lineBegins_10 hX hN hr h v0 hy
  · have hy := hy.t hc9
    refine aw_aloadn (pc := 5) hX 0 rfl dX13_lineBegins_5 ?_
    refine aw_iconst (pc := 6) hX 5 (by decide) dX13_lineBegins_6 ?_
    refine aw_callV (pc := 7) (st := []) (a := v0) hX [vI 5] (con_X13_flaw _ G _ v0 5 hy.bd) mc_X13_flaw ml_X13_125 im_X13_flaw se_X13_flaw (by decide) hy.bd.kd rfl (rm_of hr (by decide)) (Nat.le_of_ble_eq_true rfl) rfl dX13_lineBegins_7 (kmV rfl rfl (fun h5 hy => ?_))
    refine AW.sub [0] rfl ?_
    exact w_X13_lineBegins_10 hX hN hr h5 v0 hy
theorem con_X13_lineBegins (l : Launch) (G : GE) (h : Mem) (v0 : Nat) (v1 : Int32) (v2 : Int32) {P : Mem → Prop} (hy : OK (f_X13_lineBegins h v0 v1 v2) P) : Con l G yX13_lineBegins cX13_lineBegins 3 none rm_X13_lineBegins [vR v0, vI v1, vI v2] h (pmV P) := Con.of (by decide) (Nat.le_of_ble_eq_true rfl) (fun X hX hr hN => w_X13_lineBegins hX hN hr h v0 v1 v2 hy)
/-! X13_readFresh -/
theorem dX13_readFresh_0 : decode cX13_readFresh 0 = .ok (.aload_n 0, 1) := by decide +kernel
theorem dX13_readFresh_1 : decode cX13_readFresh 1 = .ok (.invokevirtual 167, 3) := by decide +kernel
theorem dX13_readFresh_4 : decode cX13_readFresh 4 = .ok (.ifCond .ne 8, 3) := by decide +kernel
theorem dX13_readFresh_7 : decode cX13_readFresh 7 = .ok (.aload_n 0, 1) := by decide +kernel
theorem dX13_readFresh_8 : decode cX13_readFresh 8 = .ok (.iconst 1, 1) := by decide +kernel
theorem dX13_readFresh_9 : decode cX13_readFresh 9 = .ok (.invokevirtual 125, 3) := by decide +kernel
theorem dX13_readFresh_12 : decode cX13_readFresh 12 = .ok (.aload_n 0, 1) := by decide +kernel
theorem dX13_readFresh_13 : decode cX13_readFresh 13 = .ok (.getfield 158, 3) := by decide +kernel
theorem dX13_readFresh_16 : decode cX13_readFresh 16 = .ok (.aload_n 0, 1) := by decide +kernel
theorem dX13_readFresh_17 : decode cX13_readFresh 17 = .ok (.getfield 95, 3) := by decide +kernel
theorem dX13_readFresh_20 : decode cX13_readFresh 20 = .ok (.invokevirtual 171, 3) := by decide +kernel
theorem dX13_readFresh_23 : decode cX13_readFresh 23 = .ok (.iconst (-1), 1) := by decide +kernel
theorem dX13_readFresh_24 : decode cX13_readFresh 24 = .ok (.if_icmp .eq 8, 3) := by decide +kernel
theorem dX13_readFresh_27 : decode cX13_readFresh 27 = .ok (.aload_n 0, 1) := by decide +kernel
theorem dX13_readFresh_28 : decode cX13_readFresh 28 = .ok (.iconst 3, 1) := by decide +kernel
theorem dX13_readFresh_29 : decode cX13_readFresh 29 = .ok (.invokevirtual 125, 3) := by decide +kernel
theorem dX13_readFresh_32 : decode cX13_readFresh 32 = .ok (.aload_n 0, 1) := by decide +kernel
theorem dX13_readFresh_33 : decode cX13_readFresh 33 = .ok (.getfield 95, 3) := by decide +kernel
theorem dX13_readFresh_36 : decode cX13_readFresh 36 = .ok (.lstore_n 1, 1) := by decide +kernel
theorem dX13_readFresh_37 : decode cX13_readFresh 37 = .ok (.aload_n 0, 1) := by decide +kernel
theorem dX13_readFresh_38 : decode cX13_readFresh 38 = .ok (.invokevirtual 118, 3) := by decide +kernel
theorem dX13_readFresh_41 : decode cX13_readFresh 41 = .ok (.lload_n 1, 1) := by decide +kernel
theorem dX13_readFresh_42 : decode cX13_readFresh 42 = .ok (.lreturn, 1) := by decide +kernel
abbrev rm_X13_readFresh : Room := { frames := 7, cells := 0, slots := 0, locals := 175 }
def f_X13_readFresh_32 (h : Mem) (v0 : Nat) : Option (Int64 × Mem) :=
  (gL h v0 15 11).bind fun x5 => (f_X13_goesOn h v0).bind fun h6 => some (x5, h6)
set_option maxRecDepth 100000 in
set_option maxHeartbeats 4000000 in
theorem w_X13_readFresh_32 {G : GE} {X : CX} {l : Launch} (hX : Ok G X cX13_readFresh RX13) (hN : xn X = 3) {P : (Int64 × Mem) → Prop} (hr : Rt G X l yX13_readFresh (some .long) rm_X13_readFresh (pmL P)) (h : Mem) (v0 : Nat) (hy : OK (f_X13_readFresh_32 h v0) P) : AW G X 32 [(0, vR v0)] [] h 0 0 := by
  unfold f_X13_readFresh_32 at hy
  refine aw_aloadn (pc := 32) hX 0 rfl dX13_readFresh_32 ?_
  refine aw_gL (pc := 33) hX hy fl_X13_95 (fun _ _ => rfl) dX13_readFresh_33 (fun x5 hy => ?_)
  refine aw_lstoren (pc := 36) hX [(1, vL x5), (0, vR v0)] rfl (lt_n hN (by decide)) dX13_readFresh_36 ?_
  refine aw_aloadn (pc := 37) hX 1 rfl dX13_readFresh_37 ?_
  refine aw_callV (pc := 38) (st := []) (a := v0) hX [] (con_X13_goesOn _ G _ v0 hy.bd) mc_X13_goesOn ml_X13_118 im_X13_goesOn se_X13_goesOn (by decide) hy.bd.kd rfl (rm_of hr (by decide)) (Nat.le_of_ble_eq_true rfl) rfl dX13_readFresh_38 (kmV rfl rfl (fun h6 hy => ?_))
  refine aw_lloadn (pc := 41) hX 0 rfl dX13_readFresh_41 ?_
  exact aw_lret (pc := 42) hX hr (by decide) (by decide) dX13_readFresh_42 ⟨_, rfl, hy.s⟩
def f_X13_readFresh_12 (h : Mem) (v0 : Nat) : Option (Int64 × Mem) :=
  (gR h v0 4 11).bind fun r2 => (gL h v0 15 11).bind fun x3 => (f_X12_find h r2 x3).bind fun x4 => (if x4 = (-1) then f_X13_readFresh_32 h v0 else (f_X13_flaw h v0 3).bind fun h7 => f_X13_readFresh_32 h7 v0)
set_option maxRecDepth 100000 in
set_option maxHeartbeats 4000000 in
theorem w_X13_readFresh_12 {G : GE} {X : CX} {l : Launch} (hX : Ok G X cX13_readFresh RX13) (hN : xn X = 3) {P : (Int64 × Mem) → Prop} (hr : Rt G X l yX13_readFresh (some .long) rm_X13_readFresh (pmL P)) (h : Mem) (v0 : Nat) (hy : OK (f_X13_readFresh_12 h v0) P) : AW G X 12 [(0, vR v0)] [] h 0 0 := by
  unfold f_X13_readFresh_12 at hy
  refine aw_aloadn (pc := 12) hX 0 rfl dX13_readFresh_12 ?_
  refine aw_gR (pc := 13) hX hy fl_X13_158 (fun _ _ => rfl) dX13_readFresh_13 (fun r2 hy => ?_)
  refine aw_aloadn (pc := 16) hX 0 rfl dX13_readFresh_16 ?_
  refine aw_gL (pc := 17) hX hy fl_X13_95 (fun _ _ => rfl) dX13_readFresh_17 (fun x3 hy => ?_)
  refine aw_callV (pc := 20) (st := []) (a := r2) hX [vL x3] (con_X12_find _ G _ r2 x3 hy.bd) mc_X12_find ml_X13_171 im_X12_find se_X12_find (by decide) hy.bd.kd rfl (rm_of hr (by decide)) (Nat.le_of_ble_eq_true rfl) rfl dX13_readFresh_20 (kpI rfl rfl (fun x4 hy => ?_))
  refine aw_iconst (pc := 23) hX (-1) (by decide) dX13_readFresh_23 ?_
  refine aw_ic_eq (pc := 24) hX 32 (by decide) dX13_readFresh_24 (fun hc9 => ?_) (fun hc9 => ?_)
  · have hy := hy.t hc9
    exact w_X13_readFresh_32 hX hN hr h v0 hy
  · have hy := hy.f hc9
    refine aw_aloadn (pc := 27) hX 0 rfl dX13_readFresh_27 ?_
    refine aw_iconst (pc := 28) hX 3 (by decide) dX13_readFresh_28 ?_
    refine aw_callV (pc := 29) (st := []) (a := v0) hX [vI 3] (con_X13_flaw _ G _ v0 3 hy.bd) mc_X13_flaw ml_X13_125 im_X13_flaw se_X13_flaw (by decide) hy.bd.kd rfl (rm_of hr (by decide)) (Nat.le_of_ble_eq_true rfl) rfl dX13_readFresh_29 (kmV rfl rfl (fun h7 hy => ?_))
    exact w_X13_readFresh_32 hX hN hr h7 v0 hy
def f_X13_readFresh (h : Mem) (v0 : Nat) : Option (Int64 × Mem) :=
  (ck h v0 11).bind fun _ => (f_X13_isName h v0).bind fun x1 => (if x1 = 0 then (f_X13_flaw h v0 1).bind fun h8 => f_X13_readFresh_12 h8 v0 else f_X13_readFresh_12 h v0)
set_option maxRecDepth 100000 in
set_option maxHeartbeats 4000000 in
theorem w_X13_readFresh {G : GE} {X : CX} {l : Launch} (hX : Ok G X cX13_readFresh RX13) (hN : xn X = 3) {P : (Int64 × Mem) → Prop} (hr : Rt G X l yX13_readFresh (some .long) rm_X13_readFresh (pmL P)) (h : Mem) (v0 : Nat) (hy : OK (f_X13_readFresh h v0) P) : AW G X 0 [(0, vR v0)] [] h 0 0 := by
  unfold f_X13_readFresh at hy
  have hkd := hy.kd
  have hy := hy.kb
  refine aw_aloadn (pc := 0) hX 0 rfl dX13_readFresh_0 ?_
  refine aw_callV (pc := 1) (st := []) (a := v0) hX [] (con_X13_isName _ G _ v0 hy.bd) mc_X13_isName ml_X13_167 im_X13_isName se_X13_isName (by decide) hy.bd.kd rfl (rm_of hr (by decide)) (Nat.le_of_ble_eq_true rfl) rfl dX13_readFresh_1 (kpI rfl rfl (fun x1 hy => ?_))
  refine aw_if_ne (pc := 4) hX 12 (by decide) dX13_readFresh_4 (fun hc9 => ?_) (fun hc9 => ?_)
  · have hy := hy.f hc9
    exact w_X13_readFresh_12 hX hN hr h v0 hy
  · have hy := hy.t hc9
    refine aw_aloadn (pc := 7) hX 0 rfl dX13_readFresh_7 ?_
    refine aw_iconst (pc := 8) hX 1 (by decide) dX13_readFresh_8 ?_
    refine aw_callV (pc := 9) (st := []) (a := v0) hX [vI 1] (con_X13_flaw _ G _ v0 1 hy.bd) mc_X13_flaw ml_X13_125 im_X13_flaw se_X13_flaw (by decide) hy.bd.kd rfl (rm_of hr (by decide)) (Nat.le_of_ble_eq_true rfl) rfl dX13_readFresh_9 (kmV rfl rfl (fun h8 hy => ?_))
    exact w_X13_readFresh_12 hX hN hr h8 v0 hy
theorem con_X13_readFresh (l : Launch) (G : GE) (h : Mem) (v0 : Nat) {P : (Int64 × Mem) → Prop} (hy : OK (f_X13_readFresh h v0) P) : Con l G yX13_readFresh cX13_readFresh 3 (some .long) rm_X13_readFresh [vR v0] h (pmL P) := Con.of (by decide) (Nat.le_of_ble_eq_true rfl) (fun X hX hr hN => w_X13_readFresh hX hN hr h v0 hy)
/-! X13_names -/
theorem dX13_names_0 : decode cX13_names 0 = .ok (.aload_n 0, 1) := by decide +kernel
theorem dX13_names_1 : decode cX13_names 1 = .ok (.getfield 158, 3) := by decide +kernel
theorem dX13_names_4 : decode cX13_names 4 = .ok (.getfield 175, 3) := by decide +kernel
theorem dX13_names_7 : decode cX13_names 7 = .ok (.aload_n 0, 1) := by decide +kernel
theorem dX13_names_8 : decode cX13_names 8 = .ok (.getfield 158, 3) := by decide +kernel
theorem dX13_names_11 : decode cX13_names 11 = .ok (.getfield 179, 3) := by decide +kernel
theorem dX13_names_14 : decode cX13_names 14 = .ok (.lload_n 1, 1) := by decide +kernel
theorem dX13_names_15 : decode cX13_names 15 = .ok (.lastore, 1) := by decide +kernel
theorem dX13_names_16 : decode cX13_names 16 = .ok (.aload_n 0, 1) := by decide +kernel
theorem dX13_names_17 : decode cX13_names 17 = .ok (.getfield 158, 3) := by decide +kernel
theorem dX13_names_20 : decode cX13_names 20 = .ok (.getfield 182, 3) := by decide +kernel
theorem dX13_names_23 : decode cX13_names 23 = .ok (.aload_n 0, 1) := by decide +kernel
theorem dX13_names_24 : decode cX13_names 24 = .ok (.getfield 158, 3) := by decide +kernel
theorem dX13_names_27 : decode cX13_names 27 = .ok (.getfield 179, 3) := by decide +kernel
theorem dX13_names_30 : decode cX13_names 30 = .ok (.iload_n 3, 1) := by decide +kernel
theorem dX13_names_31 : decode cX13_names 31 = .ok (.iastore, 1) := by decide +kernel
theorem dX13_names_32 : decode cX13_names 32 = .ok (.aload_n 0, 1) := by decide +kernel
theorem dX13_names_33 : decode cX13_names 33 = .ok (.getfield 158, 3) := by decide +kernel
theorem dX13_names_36 : decode cX13_names 36 = .ok (.getfield 185, 3) := by decide +kernel
theorem dX13_names_39 : decode cX13_names 39 = .ok (.aload_n 0, 1) := by decide +kernel
theorem dX13_names_40 : decode cX13_names 40 = .ok (.getfield 158, 3) := by decide +kernel
theorem dX13_names_43 : decode cX13_names 43 = .ok (.getfield 179, 3) := by decide +kernel
theorem dX13_names_46 : decode cX13_names 46 = .ok (.iload 4, 2) := by decide +kernel
theorem dX13_names_48 : decode cX13_names 48 = .ok (.iastore, 1) := by decide +kernel
theorem dX13_names_49 : decode cX13_names 49 = .ok (.aload_n 0, 1) := by decide +kernel
theorem dX13_names_50 : decode cX13_names 50 = .ok (.getfield 158, 3) := by decide +kernel
theorem dX13_names_53 : decode cX13_names 53 = .ok (.dup, 1) := by decide +kernel
theorem dX13_names_54 : decode cX13_names 54 = .ok (.getfield 179, 3) := by decide +kernel
theorem dX13_names_57 : decode cX13_names 57 = .ok (.iconst 1, 1) := by decide +kernel
theorem dX13_names_58 : decode cX13_names 58 = .ok (.iadd, 1) := by decide +kernel
theorem dX13_names_59 : decode cX13_names 59 = .ok (.putfield 179, 3) := by decide +kernel
theorem dX13_names_62 : decode cX13_names 62 = .ok (.return_, 1) := by decide +kernel
abbrev rm_X13_names : Room := { frames := 0, cells := 0, slots := 0, locals := 0 }
def f_X13_names (h : Mem) (v0 : Nat) (v1 : Int64) (v3 : Int32) (v4 : Int32) : Option Mem :=
  (ck h v0 11).bind fun _ => (gR h v0 4 11).bind fun r1 => (gR h r1 25 10).bind fun r2 => (gR h v0 4 11).bind fun r3 => (gI h r3 9 10).bind fun x4 => (sL h r2 x4 v1).bind fun h5 => (gR h5 v0 4 11).bind fun r6 => (gR h5 r6 26 10).bind fun r7 => (gR h5 v0 4 11).bind fun r8 => (gI h5 r8 9 10).bind fun x9 => (sI h5 r7 x9 v3).bind fun h10 => (gR h10 v0 4 11).bind fun r11 => (gR h10 r11 27 10).bind fun r12 => (gR h10 v0 4 11).bind fun r13 => (gI h10 r13 9 10).bind fun x14 => (sI h10 r12 x14 v4).bind fun h15 => (gR h15 v0 4 11).bind fun r16 => (gI h15 r16 9 10).bind fun x17 => (pI h15 r16 9 10 (x17 + 1)).bind fun h18 => some h18
set_option maxRecDepth 100000 in
set_option maxHeartbeats 4000000 in
theorem w_X13_names {G : GE} {X : CX} {l : Launch} (hX : Ok G X cX13_names RX13) (hN : xn X = 5) {P : Mem → Prop} (hr : Rt G X l yX13_names none rm_X13_names (pmV P)) (h : Mem) (v0 : Nat) (v1 : Int64) (v3 : Int32) (v4 : Int32) (hy : OK (f_X13_names h v0 v1 v3 v4) P) : AW G X 0 [(0, vR v0), (1, vL v1), (3, vI v3), (4, vI v4)] [] h 0 0 := by
  unfold f_X13_names at hy
  have hkd := hy.kd
  have hy := hy.kb
  refine aw_aloadn (pc := 0) hX 0 rfl dX13_names_0 ?_
  refine aw_gR (pc := 1) hX hy fl_X13_158 (fun _ _ => rfl) dX13_names_1 (fun r1 hy => ?_)
  refine aw_gR (pc := 4) hX hy fl_X13_175 (fun _ _ => rfl) dX13_names_4 (fun r2 hy => ?_)
  refine aw_aloadn (pc := 7) hX 0 rfl dX13_names_7 ?_
  refine aw_gR (pc := 8) hX hy fl_X13_158 (fun _ _ => rfl) dX13_names_8 (fun r3 hy => ?_)
  refine aw_gI (pc := 11) hX hy fl_X13_179 (fun _ _ => rfl) dX13_names_11 (fun x4 hy => ?_)
  refine aw_lloadn (pc := 14) hX 1 rfl dX13_names_14 ?_
  refine aw_sL (pc := 15) hX hy dX13_names_15 (fun h5 hy => ?_)
  refine aw_aloadn (pc := 16) hX 0 rfl dX13_names_16 ?_
  refine aw_gR (pc := 17) hX hy fl_X13_158 (fun _ _ => rfl) dX13_names_17 (fun r6 hy => ?_)
  refine aw_gR (pc := 20) hX hy fl_X13_182 (fun _ _ => rfl) dX13_names_20 (fun r7 hy => ?_)
  refine aw_aloadn (pc := 23) hX 0 rfl dX13_names_23 ?_
  refine aw_gR (pc := 24) hX hy fl_X13_158 (fun _ _ => rfl) dX13_names_24 (fun r8 hy => ?_)
  refine aw_gI (pc := 27) hX hy fl_X13_179 (fun _ _ => rfl) dX13_names_27 (fun x9 hy => ?_)
  refine aw_iloadn (pc := 30) hX 2 rfl dX13_names_30 ?_
  refine aw_sI (pc := 31) hX hy dX13_names_31 (fun h10 hy => ?_)
  refine aw_aloadn (pc := 32) hX 0 rfl dX13_names_32 ?_
  refine aw_gR (pc := 33) hX hy fl_X13_158 (fun _ _ => rfl) dX13_names_33 (fun r11 hy => ?_)
  refine aw_gR (pc := 36) hX hy fl_X13_185 (fun _ _ => rfl) dX13_names_36 (fun r12 hy => ?_)
  refine aw_aloadn (pc := 39) hX 0 rfl dX13_names_39 ?_
  refine aw_gR (pc := 40) hX hy fl_X13_158 (fun _ _ => rfl) dX13_names_40 (fun r13 hy => ?_)
  refine aw_gI (pc := 43) hX hy fl_X13_179 (fun _ _ => rfl) dX13_names_43 (fun x14 hy => ?_)
  refine aw_iload (pc := 46) hX 3 rfl dX13_names_46 ?_
  refine aw_sI (pc := 48) hX hy dX13_names_48 (fun h15 hy => ?_)
  refine aw_aloadn (pc := 49) hX 0 rfl dX13_names_49 ?_
  refine aw_gR (pc := 50) hX hy fl_X13_158 (fun _ _ => rfl) dX13_names_50 (fun r16 hy => ?_)
  refine aw_dup (pc := 53) hX rfl dX13_names_53 ?_
  refine aw_gI (pc := 54) hX hy fl_X13_179 (fun _ _ => rfl) dX13_names_54 (fun x17 hy => ?_)
  refine aw_iconst (pc := 57) hX 1 (by decide) dX13_names_57 ?_
  refine aw_iadd (pc := 58) hX dX13_names_58 ?_
  refine aw_pI (pc := 59) hX hy fl_X13_179 rfl (Or.inl rfl) dX13_names_59 (fun h18 hy => ?_)
  exact aw_vret (pc := 62) hX hr (by decide) (by decide) dX13_names_62 ⟨rfl, hy.s⟩
theorem con_X13_names (l : Launch) (G : GE) (h : Mem) (v0 : Nat) (v1 : Int64) (v3 : Int32) (v4 : Int32) {P : Mem → Prop} (hy : OK (f_X13_names h v0 v1 v3 v4) P) : Con l G yX13_names cX13_names 5 none rm_X13_names [vR v0, vL v1, vI v3, vI v4] h (pmV P) := Con.of (by decide) (Nat.le_of_ble_eq_true rfl) (fun X hX hr hN => w_X13_names hX hN hr h v0 v1 v3 v4 hy)
