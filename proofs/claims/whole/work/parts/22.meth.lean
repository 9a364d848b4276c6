/-! X13_buy -/
theorem dX13_buy_0 : decode cX13_buy 0 = .ok (.aload_n 0, 1) := by decide +kernel
theorem dX13_buy_1 : decode cX13_buy 1 = .ok (.iconst 0, 1) := by decide +kernel
theorem dX13_buy_2 : decode cX13_buy 2 = .ok (.putfield 51, 3) := by decide +kernel
theorem dX13_buy_5 : decode cX13_buy 5 = .ok (.aload_n 0, 1) := by decide +kernel
theorem dX13_buy_6 : decode cX13_buy 6 = .ok (.iload_n 1, 1) := by decide +kernel
theorem dX13_buy_7 : decode cX13_buy 7 = .ok (.invokevirtual 373, 3) := by decide +kernel
theorem dX13_buy_10 : decode cX13_buy 10 = .ok (.ifCond .eq 18, 3) := by decide +kernel
theorem dX13_buy_13 : decode cX13_buy 13 = .ok (.iload_n 2, 1) := by decide +kernel
theorem dX13_buy_14 : decode cX13_buy 14 = .ok (.ifCond .lt 14, 3) := by decide +kernel
theorem dX13_buy_17 : decode cX13_buy 17 = .ok (.iload_n 2, 1) := by decide +kernel
theorem dX13_buy_18 : decode cX13_buy 18 = .ok (.aload_n 0, 1) := by decide +kernel
theorem dX13_buy_19 : decode cX13_buy 19 = .ok (.getfield 338, 3) := by decide +kernel
theorem dX13_buy_22 : decode cX13_buy 22 = .ok (.getfield 287, 3) := by decide +kernel
theorem dX13_buy_25 : decode cX13_buy 25 = .ok (.if_icmp .lt 9, 3) := by decide +kernel
theorem dX13_buy_28 : decode cX13_buy 28 = .ok (.aload_n 0, 1) := by decide +kernel
theorem dX13_buy_29 : decode cX13_buy 29 = .ok (.iconst 1, 1) := by decide +kernel
theorem dX13_buy_30 : decode cX13_buy 30 = .ok (.invokevirtual 57, 3) := by decide +kernel
theorem dX13_buy_33 : decode cX13_buy 33 = .ok (.ireturn, 1) := by decide +kernel
theorem dX13_buy_34 : decode cX13_buy 34 = .ok (.aload_n 0, 1) := by decide +kernel
theorem dX13_buy_35 : decode cX13_buy 35 = .ok (.getfield 338, 3) := by decide +kernel
theorem dX13_buy_38 : decode cX13_buy 38 = .ok (.getfield 302, 3) := by decide +kernel
theorem dX13_buy_41 : decode cX13_buy 41 = .ok (.iload_n 2, 1) := by decide +kernel
theorem dX13_buy_42 : decode cX13_buy 42 = .ok (.iaload, 1) := by decide +kernel
theorem dX13_buy_43 : decode cX13_buy 43 = .ok (.iconst 1, 1) := by decide +kernel
theorem dX13_buy_44 : decode cX13_buy 44 = .ok (.if_icmp .ne 8, 3) := by decide +kernel
theorem dX13_buy_47 : decode cX13_buy 47 = .ok (.bipush 12, 2) := by decide +kernel
theorem dX13_buy_49 : decode cX13_buy 49 = .ok (.goto 5, 3) := by decide +kernel
theorem dX13_buy_52 : decode cX13_buy 52 = .ok (.bipush 8, 2) := by decide +kernel
theorem dX13_buy_54 : decode cX13_buy 54 = .ok (.istore_n 3, 1) := by decide +kernel
theorem dX13_buy_55 : decode cX13_buy 55 = .ok (.aload_n 0, 1) := by decide +kernel
theorem dX13_buy_56 : decode cX13_buy 56 = .ok (.getfield 17, 3) := by decide +kernel
theorem dX13_buy_59 : decode cX13_buy 59 = .ok (.iconst 0, 1) := by decide +kernel
theorem dX13_buy_60 : decode cX13_buy 60 = .ok (.iload_n 1, 1) := by decide +kernel
theorem dX13_buy_61 : decode cX13_buy 61 = .ok (.iadd, 1) := by decide +kernel
theorem dX13_buy_62 : decode cX13_buy 62 = .ok (.iaload, 1) := by decide +kernel
theorem dX13_buy_63 : decode cX13_buy 63 = .ok (.aload_n 0, 1) := by decide +kernel
theorem dX13_buy_64 : decode cX13_buy 64 = .ok (.getfield 338, 3) := by decide +kernel
theorem dX13_buy_67 : decode cX13_buy 67 = .ok (.getfield 296, 3) := by decide +kernel
theorem dX13_buy_70 : decode cX13_buy 70 = .ok (.iload_n 2, 1) := by decide +kernel
theorem dX13_buy_71 : decode cX13_buy 71 = .ok (.iaload, 1) := by decide +kernel
theorem dX13_buy_72 : decode cX13_buy 72 = .ok (.if_icmp .ne 26, 3) := by decide +kernel
theorem dX13_buy_75 : decode cX13_buy 75 = .ok (.aload_n 0, 1) := by decide +kernel
theorem dX13_buy_76 : decode cX13_buy 76 = .ok (.getfield 17, 3) := by decide +kernel
theorem dX13_buy_79 : decode cX13_buy 79 = .ok (.iload_n 3, 1) := by decide +kernel
theorem dX13_buy_80 : decode cX13_buy 80 = .ok (.iload_n 1, 1) := by decide +kernel
theorem dX13_buy_81 : decode cX13_buy 81 = .ok (.iadd, 1) := by decide +kernel
theorem dX13_buy_82 : decode cX13_buy 82 = .ok (.iaload, 1) := by decide +kernel
theorem dX13_buy_83 : decode cX13_buy 83 = .ok (.aload_n 0, 1) := by decide +kernel
theorem dX13_buy_84 : decode cX13_buy 84 = .ok (.getfield 338, 3) := by decide +kernel
theorem dX13_buy_87 : decode cX13_buy 87 = .ok (.getfield 299, 3) := by decide +kernel
theorem dX13_buy_90 : decode cX13_buy 90 = .ok (.iload_n 2, 1) := by decide +kernel
theorem dX13_buy_91 : decode cX13_buy 91 = .ok (.iaload, 1) := by decide +kernel
theorem dX13_buy_92 : decode cX13_buy 92 = .ok (.invokestatic 322, 3) := by decide +kernel
theorem dX13_buy_95 : decode cX13_buy 95 = .ok (.ifCond .eq 9, 3) := by decide +kernel
theorem dX13_buy_98 : decode cX13_buy 98 = .ok (.aload_n 0, 1) := by decide +kernel
theorem dX13_buy_99 : decode cX13_buy 99 = .ok (.iconst 5, 1) := by decide +kernel
theorem dX13_buy_100 : decode cX13_buy 100 = .ok (.invokevirtual 57, 3) := by decide +kernel
theorem dX13_buy_103 : decode cX13_buy 103 = .ok (.ireturn, 1) := by decide +kernel
theorem dX13_buy_104 : decode cX13_buy 104 = .ok (.aload_n 0, 1) := by decide +kernel
theorem dX13_buy_105 : decode cX13_buy 105 = .ok (.getfield 17, 3) := by decide +kernel
theorem dX13_buy_108 : decode cX13_buy 108 = .ok (.iconst 4, 1) := by decide +kernel
theorem dX13_buy_109 : decode cX13_buy 109 = .ok (.iload_n 1, 1) := by decide +kernel
theorem dX13_buy_110 : decode cX13_buy 110 = .ok (.iadd, 1) := by decide +kernel
theorem dX13_buy_111 : decode cX13_buy 111 = .ok (.iaload, 1) := by decide +kernel
theorem dX13_buy_112 : decode cX13_buy 112 = .ok (.aload_n 0, 1) := by decide +kernel
theorem dX13_buy_113 : decode cX13_buy 113 = .ok (.getfield 338, 3) := by decide +kernel
theorem dX13_buy_116 : decode cX13_buy 116 = .ok (.getfield 304, 3) := by decide +kernel
theorem dX13_buy_119 : decode cX13_buy 119 = .ok (.iload_n 2, 1) := by decide +kernel
theorem dX13_buy_120 : decode cX13_buy 120 = .ok (.iaload, 1) := by decide +kernel
theorem dX13_buy_121 : decode cX13_buy 121 = .ok (.if_icmp .ge 10, 3) := by decide +kernel
theorem dX13_buy_124 : decode cX13_buy 124 = .ok (.aload_n 0, 1) := by decide +kernel
theorem dX13_buy_125 : decode cX13_buy 125 = .ok (.bipush 6, 2) := by decide +kernel
theorem dX13_buy_127 : decode cX13_buy 127 = .ok (.invokevirtual 57, 3) := by decide +kernel
theorem dX13_buy_130 : decode cX13_buy 130 = .ok (.ireturn, 1) := by decide +kernel
theorem dX13_buy_131 : decode cX13_buy 131 = .ok (.aload_n 0, 1) := by decide +kernel
theorem dX13_buy_132 : decode cX13_buy 132 = .ok (.invokevirtual 536, 3) := by decide +kernel
theorem dX13_buy_135 : decode cX13_buy 135 = .ok (.aload_n 0, 1) := by decide +kernel
theorem dX13_buy_136 : decode cX13_buy 136 = .ok (.getfield 17, 3) := by decide +kernel
theorem dX13_buy_139 : decode cX13_buy 139 = .ok (.iconst 4, 1) := by decide +kernel
theorem dX13_buy_140 : decode cX13_buy 140 = .ok (.iload_n 1, 1) := by decide +kernel
theorem dX13_buy_141 : decode cX13_buy 141 = .ok (.iadd, 1) := by decide +kernel
theorem dX13_buy_142 : decode cX13_buy 142 = .ok (.dup2, 1) := by decide +kernel
theorem dX13_buy_143 : decode cX13_buy 143 = .ok (.iaload, 1) := by decide +kernel
theorem dX13_buy_144 : decode cX13_buy 144 = .ok (.aload_n 0, 1) := by decide +kernel
theorem dX13_buy_145 : decode cX13_buy 145 = .ok (.getfield 338, 3) := by decide +kernel
theorem dX13_buy_148 : decode cX13_buy 148 = .ok (.getfield 304, 3) := by decide +kernel
theorem dX13_buy_151 : decode cX13_buy 151 = .ok (.iload_n 2, 1) := by decide +kernel
theorem dX13_buy_152 : decode cX13_buy 152 = .ok (.iaload, 1) := by decide +kernel
theorem dX13_buy_153 : decode cX13_buy 153 = .ok (.isub, 1) := by decide +kernel
theorem dX13_buy_154 : decode cX13_buy 154 = .ok (.iastore, 1) := by decide +kernel
theorem dX13_buy_155 : decode cX13_buy 155 = .ok (.aload_n 0, 1) := by decide +kernel
theorem dX13_buy_156 : decode cX13_buy 156 = .ok (.getfield 17, 3) := by decide +kernel
theorem dX13_buy_159 : decode cX13_buy 159 = .ok (.iload_n 3, 1) := by decide +kernel
theorem dX13_buy_160 : decode cX13_buy 160 = .ok (.iload_n 1, 1) := by decide +kernel
theorem dX13_buy_161 : decode cX13_buy 161 = .ok (.iadd, 1) := by decide +kernel
theorem dX13_buy_162 : decode cX13_buy 162 = .ok (.dup2, 1) := by decide +kernel
theorem dX13_buy_163 : decode cX13_buy 163 = .ok (.iaload, 1) := by decide +kernel
theorem dX13_buy_164 : decode cX13_buy 164 = .ok (.iconst 1, 1) := by decide +kernel
theorem dX13_buy_165 : decode cX13_buy 165 = .ok (.aload_n 0, 1) := by decide +kernel
theorem dX13_buy_166 : decode cX13_buy 166 = .ok (.getfield 338, 3) := by decide +kernel
theorem dX13_buy_169 : decode cX13_buy 169 = .ok (.getfield 299, 3) := by decide +kernel
theorem dX13_buy_172 : decode cX13_buy 172 = .ok (.iload_n 2, 1) := by decide +kernel
theorem dX13_buy_173 : decode cX13_buy 173 = .ok (.iaload, 1) := by decide +kernel
theorem dX13_buy_174 : decode cX13_buy 174 = .ok (.ishl, 1) := by decide +kernel
theorem dX13_buy_175 : decode cX13_buy 175 = .ok (.ior, 1) := by decide +kernel
theorem dX13_buy_176 : decode cX13_buy 176 = .ok (.iastore, 1) := by decide +kernel
theorem dX13_buy_177 : decode cX13_buy 177 = .ok (.aload_n 0, 1) := by decide +kernel
theorem dX13_buy_178 : decode cX13_buy 178 = .ok (.aload_n 0, 1) := by decide +kernel
theorem dX13_buy_179 : decode cX13_buy 179 = .ok (.getfield 17, 3) := by decide +kernel
theorem dX13_buy_182 : decode cX13_buy 182 = .ok (.iconst 4, 1) := by decide +kernel
theorem dX13_buy_183 : decode cX13_buy 183 = .ok (.iload_n 1, 1) := by decide +kernel
theorem dX13_buy_184 : decode cX13_buy 184 = .ok (.iadd, 1) := by decide +kernel
theorem dX13_buy_185 : decode cX13_buy 185 = .ok (.iaload, 1) := by decide +kernel
theorem dX13_buy_186 : decode cX13_buy 186 = .ok (.invokevirtual 61, 3) := by decide +kernel
theorem dX13_buy_189 : decode cX13_buy 189 = .ok (.ireturn, 1) := by decide +kernel
abbrev rm_X13_buy : Room := { frames := 1, cells := 0, slots := 0, locals := 21 }
def f_X13_buy_28 (h : Mem) (v0 : Nat) : Option (Int32 × Mem) :=
  (f_X13_refused h v0 1).bind fun q5 => some (q5.1, q5.2)
set_option maxRecDepth 100000 in
set_option maxHeartbeats 4000000 in
theorem w_X13_buy_28 {G : GE} {X : CX} {l : Launch} (hX : Ok G X cX13_buy RX13) (hN : xn X = 4) {P : (Int32 × Mem) → Prop} (hr : Rt G X l yX13_buy (some .int) rm_X13_buy (pmI P)) (h : Mem) (v0 : Nat) (hy : OK (f_X13_buy_28 h v0) P) : AW G X 28 [(0, vR v0)] [] h 0 0 := by
  unfold f_X13_buy_28 at hy
  refine aw_aloadn (pc := 28) hX 0 rfl dX13_buy_28 ?_
  refine aw_iconst (pc := 29) hX 1 (by decide) dX13_buy_29 ?_
  refine aw_callV (pc := 30) (st := []) (a := v0) hX [vI 1] (con_X13_refused _ G _ v0 1 hy.bd) mc_X13_refused ml_X13_57 im_X13_refused se_X13_refused (by decide) hy.bd.kd rfl (rm_of hr (by decide)) (Nat.le_of_ble_eq_true rfl) rfl dX13_buy_30 (kmI rfl rfl (fun q5 hy => ?_))
  exact aw_iret (pc := 33) hX hr (by decide) (by decide) dX13_buy_33 ⟨_, rfl, hy.s⟩
def f_X13_buy_98 (h : Mem) (v0 : Nat) : Option (Int32 × Mem) :=
  (f_X13_refused h v0 5).bind fun q18 => some (q18.1, q18.2)
set_option maxRecDepth 100000 in
set_option maxHeartbeats 4000000 in
theorem w_X13_buy_98 {G : GE} {X : CX} {l : Launch} (hX : Ok G X cX13_buy RX13) (hN : xn X = 4) {P : (Int32 × Mem) → Prop} (hr : Rt G X l yX13_buy (some .int) rm_X13_buy (pmI P)) (h : Mem) (v0 : Nat) (hy : OK (f_X13_buy_98 h v0) P) : AW G X 98 [(0, vR v0)] [] h 0 0 := by
  unfold f_X13_buy_98 at hy
  refine aw_aloadn (pc := 98) hX 0 rfl dX13_buy_98 ?_
  refine aw_iconst (pc := 99) hX 5 (by decide) dX13_buy_99 ?_
  refine aw_callV (pc := 100) (st := []) (a := v0) hX [vI 5] (con_X13_refused _ G _ v0 5 hy.bd) mc_X13_refused ml_X13_57 im_X13_refused se_X13_refused (by decide) hy.bd.kd rfl (rm_of hr (by decide)) (Nat.le_of_ble_eq_true rfl) rfl dX13_buy_100 (kmI rfl rfl (fun q18 hy => ?_))
  exact aw_iret (pc := 103) hX hr (by decide) (by decide) dX13_buy_103 ⟨_, rfl, hy.s⟩
def f_X13_buy_54 (h : Mem) (v0 : Nat) (v1 : Int32) (v2 : Int32) (s0 : Int32) : Option (Int32 × Mem) :=
  (gR h v0 16 11).bind fun r11 => (aI h r11 (0 + v1)).bind fun x12 => (gR h v0 3 11).bind fun r13 => (gR h r13 17 10).bind fun r14 => (aI h r14 v2).bind fun x15 => (if x12 = x15 then (gR h v0 16 11).bind fun r19 => (aI h r19 (s0 + v1)).bind fun x20 => (gR h v0 3 11).bind fun r21 => (gR h r21 18 10).bind fun r22 => (aI h r22 v2).bind fun x23 => (f_X13_bit h x20 x23).bind fun x24 => (if x24 = 0 then (gR h v0 16 11).bind fun r25 => (aI h r25 (4 + v1)).bind fun x26 => (gR h v0 3 11).bind fun r27 => (gR h r27 20 10).bind fun r28 => (aI h r28 v2).bind fun x29 => (if x29 ≤ x26 then (f_X13_remembers h v0).bind fun h30 => (gR h30 v0 16 11).bind fun r31 => (aI h30 r31 (4 + v1)).bind fun x32 => (gR h30 v0 3 11).bind fun r33 => (gR h30 r33 20 10).bind fun r34 => (aI h30 r34 v2).bind fun x35 => (sI h30 r31 (4 + v1) (x32 - x35)).bind fun h36 => (gR h36 v0 16 11).bind fun r37 => (aI h36 r37 (s0 + v1)).bind fun x38 => (gR h36 v0 3 11).bind fun r39 => (gR h36 r39 18 10).bind fun r40 => (aI h36 r40 v2).bind fun x41 => (sI h36 r37 (s0 + v1) (x38 ||| ((1 : Int32) <<< (x41 &&& 31)))).bind fun h42 => (gR h42 v0 16 11).bind fun r43 => (aI h42 r43 (4 + v1)).bind fun x44 => (f_X13_good h42 v0 x44).bind fun q47 => some (q47.1, q47.2) else (f_X13_refused h v0 6).bind fun q50 => some (q50.1, q50.2)) else f_X13_buy_98 h v0) else f_X13_buy_98 h v0)
set_option maxRecDepth 100000 in
set_option maxHeartbeats 4000000 in
theorem w_X13_buy_54 {G : GE} {X : CX} {l : Launch} (hX : Ok G X cX13_buy RX13) (hN : xn X = 4) {P : (Int32 × Mem) → Prop} (hr : Rt G X l yX13_buy (some .int) rm_X13_buy (pmI P)) (h : Mem) (v0 : Nat) (v1 : Int32) (v2 : Int32) (s0 : Int32) (hy : OK (f_X13_buy_54 h v0 v1 v2 s0) P) : AW G X 54 [(0, vR v0), (1, vI v1), (2, vI v2)] [vI s0] h 0 0 := by
  unfold f_X13_buy_54 at hy
  refine aw_istoren (pc := 54) hX [(3, vI s0), (0, vR v0), (1, vI v1), (2, vI v2)] rfl (lt_n hN (by decide)) dX13_buy_54 ?_
  refine aw_aloadn (pc := 55) hX 1 rfl dX13_buy_55 ?_
  refine aw_gR (pc := 56) hX hy fl_X13_17 (fun _ _ => rfl) dX13_buy_56 (fun r11 hy => ?_)
  refine aw_iconst (pc := 59) hX 0 (by decide) dX13_buy_59 ?_
  refine aw_iloadn (pc := 60) hX 2 rfl dX13_buy_60 ?_
  refine aw_iadd (pc := 61) hX dX13_buy_61 ?_
  refine aw_aI (pc := 62) hX hy dX13_buy_62 (fun x12 hy => ?_)
  refine aw_aloadn (pc := 63) hX 1 rfl dX13_buy_63 ?_
  refine aw_gR (pc := 64) hX hy fl_X13_338 (fun _ _ => rfl) dX13_buy_64 (fun r13 hy => ?_)
  refine aw_gR (pc := 67) hX hy fl_X13_296 (fun _ _ => rfl) dX13_buy_67 (fun r14 hy => ?_)
  refine aw_iloadn (pc := 70) hX 3 rfl dX13_buy_70 ?_
  refine aw_aI (pc := 71) hX hy dX13_buy_71 (fun x15 hy => ?_)
  refine aw_ic_ne (pc := 72) hX 98 (by decide) dX13_buy_72 (fun hc9 => ?_) (fun hc9 => ?_)
  · have hy := hy.f hc9
    refine AW.sub [1] rfl ?_
    exact w_X13_buy_98 hX hN hr h v0 hy
  · have hy := hy.t hc9
    refine aw_aloadn (pc := 75) hX 1 rfl dX13_buy_75 ?_
    refine aw_gR (pc := 76) hX hy fl_X13_17 (fun _ _ => rfl) dX13_buy_76 (fun r19 hy => ?_)
    refine aw_iloadn (pc := 79) hX 0 rfl dX13_buy_79 ?_
    refine aw_iloadn (pc := 80) hX 2 rfl dX13_buy_80 ?_
    refine aw_iadd (pc := 81) hX dX13_buy_81 ?_
    refine aw_aI (pc := 82) hX hy dX13_buy_82 (fun x20 hy => ?_)
    refine aw_aloadn (pc := 83) hX 1 rfl dX13_buy_83 ?_
    refine aw_gR (pc := 84) hX hy fl_X13_338 (fun _ _ => rfl) dX13_buy_84 (fun r21 hy => ?_)
    refine aw_gR (pc := 87) hX hy fl_X13_299 (fun _ _ => rfl) dX13_buy_87 (fun r22 hy => ?_)
    refine aw_iloadn (pc := 90) hX 3 rfl dX13_buy_90 ?_
    refine aw_aI (pc := 91) hX hy dX13_buy_91 (fun x23 hy => ?_)
    refine aw_callS (pc := 92) (st := []) hX [vI x20, vI x23] (con_X13_bit _ G _ x20 x23 hy.bd) mc_X13_bit ml_X13_322 st_X13_bit rfl (rm_of hr (by decide)) (Nat.le_of_ble_eq_true rfl) rfl dX13_buy_92 (kpI rfl rfl (fun x24 hy => ?_))
    refine aw_if_eq (pc := 95) hX 104 (by decide) dX13_buy_95 (fun hc9 => ?_) (fun hc9 => ?_)
    · have hy := hy.t hc9
      refine aw_aloadn (pc := 104) hX 1 rfl dX13_buy_104 ?_
      refine aw_gR (pc := 105) hX hy fl_X13_17 (fun _ _ => rfl) dX13_buy_105 (fun r25 hy => ?_)
      refine aw_iconst (pc := 108) hX 4 (by decide) dX13_buy_108 ?_
      refine aw_iloadn (pc := 109) hX 2 rfl dX13_buy_109 ?_
      refine aw_iadd (pc := 110) hX dX13_buy_110 ?_
      refine aw_aI (pc := 111) hX hy dX13_buy_111 (fun x26 hy => ?_)
      refine aw_aloadn (pc := 112) hX 1 rfl dX13_buy_112 ?_
      refine aw_gR (pc := 113) hX hy fl_X13_338 (fun _ _ => rfl) dX13_buy_113 (fun r27 hy => ?_)
      refine aw_gR (pc := 116) hX hy fl_X13_304 (fun _ _ => rfl) dX13_buy_116 (fun r28 hy => ?_)
      refine aw_iloadn (pc := 119) hX 3 rfl dX13_buy_119 ?_
      refine aw_aI (pc := 120) hX hy dX13_buy_120 (fun x29 hy => ?_)
      refine aw_ic_ge (pc := 121) hX 131 (by decide) dX13_buy_121 (fun hc9 => ?_) (fun hc9 => ?_)
      · have hy := hy.t hc9
        refine aw_aloadn (pc := 131) hX 1 rfl dX13_buy_131 ?_
        refine aw_callV (pc := 132) (st := []) (a := v0) hX [] (con_X13_remembers _ G _ v0 hy.bd) mc_X13_remembers ml_X13_536 im_X13_remembers se_X13_remembers (by decide) hy.bd.kd rfl (rm_of hr (by decide)) (Nat.le_of_ble_eq_true rfl) rfl dX13_buy_132 (kmV rfl rfl (fun h30 hy => ?_))
        refine aw_aloadn (pc := 135) hX 1 rfl dX13_buy_135 ?_
        refine aw_gR (pc := 136) hX hy fl_X13_17 (fun _ _ => rfl) dX13_buy_136 (fun r31 hy => ?_)
        refine aw_iconst (pc := 139) hX 4 (by decide) dX13_buy_139 ?_
        refine aw_iloadn (pc := 140) hX 2 rfl dX13_buy_140 ?_
        refine aw_iadd (pc := 141) hX dX13_buy_141 ?_
        refine aw_dup2 (pc := 142) hX rfl rfl dX13_buy_142 ?_
        refine aw_aI (pc := 143) hX hy dX13_buy_143 (fun x32 hy => ?_)
        refine aw_aloadn (pc := 144) hX 1 rfl dX13_buy_144 ?_
        refine aw_gR (pc := 145) hX hy fl_X13_338 (fun _ _ => rfl) dX13_buy_145 (fun r33 hy => ?_)
        refine aw_gR (pc := 148) hX hy fl_X13_304 (fun _ _ => rfl) dX13_buy_148 (fun r34 hy => ?_)
        refine aw_iloadn (pc := 151) hX 3 rfl dX13_buy_151 ?_
        refine aw_aI (pc := 152) hX hy dX13_buy_152 (fun x35 hy => ?_)
        refine aw_isub (pc := 153) hX dX13_buy_153 ?_
        refine aw_sI (pc := 154) hX hy dX13_buy_154 (fun h36 hy => ?_)
        refine aw_aloadn (pc := 155) hX 1 rfl dX13_buy_155 ?_
        refine aw_gR (pc := 156) hX hy fl_X13_17 (fun _ _ => rfl) dX13_buy_156 (fun r37 hy => ?_)
        refine aw_iloadn (pc := 159) hX 0 rfl dX13_buy_159 ?_
        refine aw_iloadn (pc := 160) hX 2 rfl dX13_buy_160 ?_
        refine aw_iadd (pc := 161) hX dX13_buy_161 ?_
        refine aw_dup2 (pc := 162) hX rfl rfl dX13_buy_162 ?_
        refine aw_aI (pc := 163) hX hy dX13_buy_163 (fun x38 hy => ?_)
        refine aw_iconst (pc := 164) hX 1 (by decide) dX13_buy_164 ?_
        refine aw_aloadn (pc := 165) hX 1 rfl dX13_buy_165 ?_
        refine aw_gR (pc := 166) hX hy fl_X13_338 (fun _ _ => rfl) dX13_buy_166 (fun r39 hy => ?_)
        refine aw_gR (pc := 169) hX hy fl_X13_299 (fun _ _ => rfl) dX13_buy_169 (fun r40 hy => ?_)
        refine aw_iloadn (pc := 172) hX 3 rfl dX13_buy_172 ?_
        refine aw_aI (pc := 173) hX hy dX13_buy_173 (fun x41 hy => ?_)
        refine aw_ishl (pc := 174) hX dX13_buy_174 ?_
        refine aw_ior (pc := 175) hX dX13_buy_175 ?_
        refine aw_sI (pc := 176) hX hy dX13_buy_176 (fun h42 hy => ?_)
        refine aw_aloadn (pc := 177) hX 1 rfl dX13_buy_177 ?_
        refine aw_aloadn (pc := 178) hX 1 rfl dX13_buy_178 ?_
        refine aw_gR (pc := 179) hX hy fl_X13_17 (fun _ _ => rfl) dX13_buy_179 (fun r43 hy => ?_)
        refine aw_iconst (pc := 182) hX 4 (by decide) dX13_buy_182 ?_
        refine aw_iloadn (pc := 183) hX 2 rfl dX13_buy_183 ?_
        refine aw_iadd (pc := 184) hX dX13_buy_184 ?_
        refine aw_aI (pc := 185) hX hy dX13_buy_185 (fun x44 hy => ?_)
        refine aw_callV (pc := 186) (st := []) (a := v0) hX [vI x44] (con_X13_good _ G _ v0 x44 hy.bd) mc_X13_good ml_X13_61 im_X13_good se_X13_good (by decide) hy.bd.kd rfl (rm_of hr (by decide)) (Nat.le_of_ble_eq_true rfl) rfl dX13_buy_186 (kmI rfl rfl (fun q47 hy => ?_))
        exact aw_iret (pc := 189) hX hr (by decide) (by decide) dX13_buy_189 ⟨_, rfl, hy.s⟩
      · have hy := hy.f hc9
        refine aw_aloadn (pc := 124) hX 1 rfl dX13_buy_124 ?_
        refine aw_bipush (pc := 125) hX 6 (by decide) dX13_buy_125 ?_
        refine aw_callV (pc := 127) (st := []) (a := v0) hX [vI 6] (con_X13_refused _ G _ v0 6 hy.bd) mc_X13_refused ml_X13_57 im_X13_refused se_X13_refused (by decide) hy.bd.kd rfl (rm_of hr (by decide)) (Nat.le_of_ble_eq_true rfl) rfl dX13_buy_127 (kmI rfl rfl (fun q50 hy => ?_))
        exact aw_iret (pc := 130) hX hr (by decide) (by decide) dX13_buy_130 ⟨_, rfl, hy.s⟩
    · have hy := hy.f hc9
      refine AW.sub [1] rfl ?_
      exact w_X13_buy_98 hX hN hr h v0 hy
def f_X13_buy (h : Mem) (v0 : Nat) (v1 : Int32) (v2 : Int32) : Option (Int32 × Mem) :=
  (ck h v0 11).bind fun _ => (pI h v0 0 11 0).bind fun h1 => (f_X13_isPerson h1 v0 v1).bind fun x2 => (if x2 = 0 then f_X13_buy_28 h1 v0 else (if v2 < 0 then f_X13_buy_28 h1 v0 else (gR h1 v0 3 11).bind fun r6 => (gI h1 r6 5 10).bind fun x7 => (if v2 < x7 then (gR h1 v0 3 11).bind fun r8 => (gR h1 r8 19 10).bind fun r9 => (aI h1 r9 v2).bind fun x10 => (if x10 = 1 then f_X13_buy_54 h1 v0 v1 v2 12 else f_X13_buy_54 h1 v0 v1 v2 8) else f_X13_buy_28 h1 v0)))
set_option maxRecDepth 100000 in
set_option maxHeartbeats 4000000 in
theorem w_X13_buy {G : GE} {X : CX} {l : Launch} (hX : Ok G X cX13_buy RX13) (hN : xn X = 4) {P : (Int32 × Mem) → Prop} (hr : Rt G X l yX13_buy (some .int) rm_X13_buy (pmI P)) (h : Mem) (v0 : Nat) (v1 : Int32) (v2 : Int32) (hy : OK (f_X13_buy h v0 v1 v2) P) : AW G X 0 [(0, vR v0), (1, vI v1), (2, vI v2)] [] h 0 0 := by
  unfold f_X13_buy at hy
  have hkd := hy.kd
  have hy := hy.kb
  refine aw_aloadn (pc := 0) hX 0 rfl dX13_buy_0 ?_
  refine aw_iconst (pc := 1) hX 0 (by decide) dX13_buy_1 ?_
  refine aw_pI (pc := 2) hX hy fl_X13_51 rfl (Or.inl rfl) dX13_buy_2 (fun h1 hy => ?_)
  refine aw_aloadn (pc := 5) hX 0 rfl dX13_buy_5 ?_
  refine aw_iloadn (pc := 6) hX 1 rfl dX13_buy_6 ?_
  refine aw_callV (pc := 7) (st := []) (a := v0) hX [vI v1] (con_X13_isPerson _ G _ v0 v1 hy.bd) mc_X13_isPerson ml_X13_373 im_X13_isPerson se_X13_isPerson (by decide) hy.bd.kd rfl (rm_of hr (by decide)) (Nat.le_of_ble_eq_true rfl) rfl dX13_buy_7 (kpI rfl rfl (fun x2 hy => ?_))
  refine aw_if_eq (pc := 10) hX 28 (by decide) dX13_buy_10 (fun hc9 => ?_) (fun hc9 => ?_)
  · have hy := hy.t hc9
    refine AW.sub [0] rfl ?_
    exact w_X13_buy_28 hX hN hr h1 v0 hy
  · have hy := hy.f hc9
    refine aw_iloadn (pc := 13) hX 2 rfl dX13_buy_13 ?_
    refine aw_if_lt (pc := 14) hX 28 (by decide) dX13_buy_14 (fun hc9 => ?_) (fun hc9 => ?_)
    · have hy := hy.t hc9
      refine AW.sub [0] rfl ?_
      exact w_X13_buy_28 hX hN hr h1 v0 hy
    · have hy := hy.f hc9
      refine aw_iloadn (pc := 17) hX 2 rfl dX13_buy_17 ?_
      refine aw_aloadn (pc := 18) hX 0 rfl dX13_buy_18 ?_
      refine aw_gR (pc := 19) hX hy fl_X13_338 (fun _ _ => rfl) dX13_buy_19 (fun r6 hy => ?_)
      refine aw_gI (pc := 22) hX hy fl_X13_287 (fun _ _ => rfl) dX13_buy_22 (fun x7 hy => ?_)
      refine aw_ic_lt (pc := 25) hX 34 (by decide) dX13_buy_25 (fun hc9 => ?_) (fun hc9 => ?_)
      · have hy := hy.t hc9
        refine aw_aloadn (pc := 34) hX 0 rfl dX13_buy_34 ?_
        refine aw_gR (pc := 35) hX hy fl_X13_338 (fun _ _ => rfl) dX13_buy_35 (fun r8 hy => ?_)
        refine aw_gR (pc := 38) hX hy fl_X13_302 (fun _ _ => rfl) dX13_buy_38 (fun r9 hy => ?_)
        refine aw_iloadn (pc := 41) hX 2 rfl dX13_buy_41 ?_
        refine aw_aI (pc := 42) hX hy dX13_buy_42 (fun x10 hy => ?_)
        refine aw_iconst (pc := 43) hX 1 (by decide) dX13_buy_43 ?_
        refine aw_ic_ne (pc := 44) hX 52 (by decide) dX13_buy_44 (fun hc9 => ?_) (fun hc9 => ?_)
        · have hy := hy.f hc9
          refine aw_bipush (pc := 52) hX 8 (by decide) dX13_buy_52 ?_
          exact w_X13_buy_54 hX hN hr h1 v0 v1 v2 8 hy
        · have hy := hy.t hc9
          refine aw_bipush (pc := 47) hX 12 (by decide) dX13_buy_47 ?_
          refine aw_goto (pc := 49) hX 54 (by decide) dX13_buy_49 ?_
          exact w_X13_buy_54 hX hN hr h1 v0 v1 v2 12 hy
      · have hy := hy.f hc9
        refine AW.sub [0] rfl ?_
        exact w_X13_buy_28 hX hN hr h1 v0 hy
theorem con_X13_buy (l : Launch) (G : GE) (h : Mem) (v0 : Nat) (v1 : Int32) (v2 : Int32) {P : (Int32 × Mem) → Prop} (hy : OK (f_X13_buy h v0 v1 v2) P) : Con l G yX13_buy cX13_buy 4 (some .int) rm_X13_buy [vR v0, vI v1, vI v2] h (pmI P) := Con.of (by decide) (Nat.le_of_ble_eq_true rfl) (fun X hX hr hN => w_X13_buy hX hN hr h v0 v1 v2 hy)
/-! X13_teach -/
theorem dX13_teach_0 : decode cX13_teach 0 = .ok (.aload_n 0, 1) := by decide +kernel
theorem dX13_teach_1 : decode cX13_teach 1 = .ok (.iconst 0, 1) := by decide +kernel
theorem dX13_teach_2 : decode cX13_teach 2 = .ok (.putfield 51, 3) := by decide +kernel
theorem dX13_teach_5 : decode cX13_teach 5 = .ok (.aload_n 0, 1) := by decide +kernel
theorem dX13_teach_6 : decode cX13_teach 6 = .ok (.iload_n 1, 1) := by decide +kernel
theorem dX13_teach_7 : decode cX13_teach 7 = .ok (.invokevirtual 373, 3) := by decide +kernel
theorem dX13_teach_10 : decode cX13_teach 10 = .ok (.ifCond .eq 24, 3) := by decide +kernel
theorem dX13_teach_13 : decode cX13_teach 13 = .ok (.aload_n 0, 1) := by decide +kernel
theorem dX13_teach_14 : decode cX13_teach 14 = .ok (.iload_n 2, 1) := by decide +kernel
theorem dX13_teach_15 : decode cX13_teach 15 = .ok (.invokevirtual 373, 3) := by decide +kernel
theorem dX13_teach_18 : decode cX13_teach 18 = .ok (.ifCond .eq 16, 3) := by decide +kernel
theorem dX13_teach_21 : decode cX13_teach 21 = .ok (.iload_n 1, 1) := by decide +kernel
theorem dX13_teach_22 : decode cX13_teach 22 = .ok (.iload_n 2, 1) := by decide +kernel
theorem dX13_teach_23 : decode cX13_teach 23 = .ok (.if_icmp .eq 11, 3) := by decide +kernel
theorem dX13_teach_26 : decode cX13_teach 26 = .ok (.aload_n 0, 1) := by decide +kernel
theorem dX13_teach_27 : decode cX13_teach 27 = .ok (.iload_n 3, 1) := by decide +kernel
theorem dX13_teach_28 : decode cX13_teach 28 = .ok (.invokevirtual 364, 3) := by decide +kernel
theorem dX13_teach_31 : decode cX13_teach 31 = .ok (.ifCond .ne 9, 3) := by decide +kernel
theorem dX13_teach_34 : decode cX13_teach 34 = .ok (.aload_n 0, 1) := by decide +kernel
theorem dX13_teach_35 : decode cX13_teach 35 = .ok (.iconst 1, 1) := by decide +kernel
theorem dX13_teach_36 : decode cX13_teach 36 = .ok (.invokevirtual 539, 3) := by decide +kernel
theorem dX13_teach_39 : decode cX13_teach 39 = .ok (.ireturn, 1) := by decide +kernel
theorem dX13_teach_40 : decode cX13_teach 40 = .ok (.aload_n 0, 1) := by decide +kernel
theorem dX13_teach_41 : decode cX13_teach 41 = .ok (.getfield 17, 3) := by decide +kernel
theorem dX13_teach_44 : decode cX13_teach 44 = .ok (.iconst 0, 1) := by decide +kernel
theorem dX13_teach_45 : decode cX13_teach 45 = .ok (.iload_n 1, 1) := by decide +kernel
theorem dX13_teach_46 : decode cX13_teach 46 = .ok (.iadd, 1) := by decide +kernel
theorem dX13_teach_47 : decode cX13_teach 47 = .ok (.iaload, 1) := by decide +kernel
theorem dX13_teach_48 : decode cX13_teach 48 = .ok (.aload_n 0, 1) := by decide +kernel
theorem dX13_teach_49 : decode cX13_teach 49 = .ok (.getfield 17, 3) := by decide +kernel
theorem dX13_teach_52 : decode cX13_teach 52 = .ok (.iconst 0, 1) := by decide +kernel
theorem dX13_teach_53 : decode cX13_teach 53 = .ok (.iload_n 2, 1) := by decide +kernel
theorem dX13_teach_54 : decode cX13_teach 54 = .ok (.iadd, 1) := by decide +kernel
theorem dX13_teach_55 : decode cX13_teach 55 = .ok (.iaload, 1) := by decide +kernel
theorem dX13_teach_56 : decode cX13_teach 56 = .ok (.if_icmp .ne 35, 3) := by decide +kernel
theorem dX13_teach_59 : decode cX13_teach 59 = .ok (.aload_n 0, 1) := by decide +kernel
theorem dX13_teach_60 : decode cX13_teach 60 = .ok (.getfield 17, 3) := by decide +kernel
theorem dX13_teach_63 : decode cX13_teach 63 = .ok (.bipush 8, 2) := by decide +kernel
theorem dX13_teach_65 : decode cX13_teach 65 = .ok (.iload_n 1, 1) := by decide +kernel
theorem dX13_teach_66 : decode cX13_teach 66 = .ok (.iadd, 1) := by decide +kernel
theorem dX13_teach_67 : decode cX13_teach 67 = .ok (.iaload, 1) := by decide +kernel
theorem dX13_teach_68 : decode cX13_teach 68 = .ok (.iload_n 3, 1) := by decide +kernel
theorem dX13_teach_69 : decode cX13_teach 69 = .ok (.invokestatic 322, 3) := by decide +kernel
theorem dX13_teach_72 : decode cX13_teach 72 = .ok (.ifCond .eq 19, 3) := by decide +kernel
theorem dX13_teach_75 : decode cX13_teach 75 = .ok (.aload_n 0, 1) := by decide +kernel
theorem dX13_teach_76 : decode cX13_teach 76 = .ok (.getfield 17, 3) := by decide +kernel
theorem dX13_teach_79 : decode cX13_teach 79 = .ok (.bipush 8, 2) := by decide +kernel
theorem dX13_teach_81 : decode cX13_teach 81 = .ok (.iload_n 2, 1) := by decide +kernel
theorem dX13_teach_82 : decode cX13_teach 82 = .ok (.iadd, 1) := by decide +kernel
theorem dX13_teach_83 : decode cX13_teach 83 = .ok (.iaload, 1) := by decide +kernel
theorem dX13_teach_84 : decode cX13_teach 84 = .ok (.iload_n 3, 1) := by decide +kernel
theorem dX13_teach_85 : decode cX13_teach 85 = .ok (.invokestatic 322, 3) := by decide +kernel
theorem dX13_teach_88 : decode cX13_teach 88 = .ok (.ifCond .eq 9, 3) := by decide +kernel
theorem dX13_teach_91 : decode cX13_teach 91 = .ok (.aload_n 0, 1) := by decide +kernel
theorem dX13_teach_92 : decode cX13_teach 92 = .ok (.iconst 5, 1) := by decide +kernel
theorem dX13_teach_93 : decode cX13_teach 93 = .ok (.invokevirtual 539, 3) := by decide +kernel
theorem dX13_teach_96 : decode cX13_teach 96 = .ok (.ireturn, 1) := by decide +kernel
theorem dX13_teach_97 : decode cX13_teach 97 = .ok (.aload_n 0, 1) := by decide +kernel
theorem dX13_teach_98 : decode cX13_teach 98 = .ok (.invokevirtual 536, 3) := by decide +kernel
theorem dX13_teach_101 : decode cX13_teach 101 = .ok (.aload_n 0, 1) := by decide +kernel
theorem dX13_teach_102 : decode cX13_teach 102 = .ok (.getfield 17, 3) := by decide +kernel
theorem dX13_teach_105 : decode cX13_teach 105 = .ok (.bipush 8, 2) := by decide +kernel
theorem dX13_teach_107 : decode cX13_teach 107 = .ok (.iload_n 2, 1) := by decide +kernel
theorem dX13_teach_108 : decode cX13_teach 108 = .ok (.iadd, 1) := by decide +kernel
theorem dX13_teach_109 : decode cX13_teach 109 = .ok (.dup2, 1) := by decide +kernel
theorem dX13_teach_110 : decode cX13_teach 110 = .ok (.iaload, 1) := by decide +kernel
theorem dX13_teach_111 : decode cX13_teach 111 = .ok (.iconst 1, 1) := by decide +kernel
theorem dX13_teach_112 : decode cX13_teach 112 = .ok (.iload_n 3, 1) := by decide +kernel
theorem dX13_teach_113 : decode cX13_teach 113 = .ok (.ishl, 1) := by decide +kernel
theorem dX13_teach_114 : decode cX13_teach 114 = .ok (.ior, 1) := by decide +kernel
theorem dX13_teach_115 : decode cX13_teach 115 = .ok (.iastore, 1) := by decide +kernel
theorem dX13_teach_116 : decode cX13_teach 116 = .ok (.aload_n 0, 1) := by decide +kernel
theorem dX13_teach_117 : decode cX13_teach 117 = .ok (.invokevirtual 542, 3) := by decide +kernel
theorem dX13_teach_120 : decode cX13_teach 120 = .ok (.ireturn, 1) := by decide +kernel
abbrev rm_X13_teach : Room := { frames := 2, cells := 0, slots := 0, locals := 42 }
def f_X13_teach_34 (h : Mem) (v0 : Nat) : Option (Int32 × Mem) :=
  (f_X13_denied h v0 1).bind fun q5 => retZ q5.1 (q5.1, q5.2)
set_option maxRecDepth 100000 in
set_option maxHeartbeats 4000000 in
theorem w_X13_teach_34 {G : GE} {X : CX} {l : Launch} (hX : Ok G X cX13_teach RX13) (hN : xn X = 4) {P : (Int32 × Mem) → Prop} (hr : Rt G X l yX13_teach (some .boolean) rm_X13_teach (pmI P)) (h : Mem) (v0 : Nat) (hy : OK (f_X13_teach_34 h v0) P) : AW G X 34 [(0, vR v0)] [] h 0 0 := by
  unfold f_X13_teach_34 at hy
  refine aw_aloadn (pc := 34) hX 0 rfl dX13_teach_34 ?_
  refine aw_iconst (pc := 35) hX 1 (by decide) dX13_teach_35 ?_
  refine aw_callV (pc := 36) (st := []) (a := v0) hX [vI 1] (con_X13_denied _ G _ v0 1 hy.bd) mc_X13_denied ml_X13_539 im_X13_denied se_X13_denied (by decide) hy.bd.kd rfl (rm_of hr (by decide)) (Nat.le_of_ble_eq_true rfl) rfl dX13_teach_36 (kmI rfl rfl (fun q5 hy => ?_))
  exact aw_zret (pc := 39) hX hr (by decide) (by decide) dX13_teach_39 hy.rz.1 ⟨_, rfl, hy.rz.2⟩
def f_X13_teach_91 (h : Mem) (v0 : Nat) : Option (Int32 × Mem) :=
  (f_X13_denied h v0 5).bind fun q14 => retZ q14.1 (q14.1, q14.2)
set_option maxRecDepth 100000 in
set_option maxHeartbeats 4000000 in
theorem w_X13_teach_91 {G : GE} {X : CX} {l : Launch} (hX : Ok G X cX13_teach RX13) (hN : xn X = 4) {P : (Int32 × Mem) → Prop} (hr : Rt G X l yX13_teach (some .boolean) rm_X13_teach (pmI P)) (h : Mem) (v0 : Nat) (hy : OK (f_X13_teach_91 h v0) P) : AW G X 91 [(0, vR v0)] [] h 0 0 := by
  unfold f_X13_teach_91 at hy
  refine aw_aloadn (pc := 91) hX 0 rfl dX13_teach_91 ?_
  refine aw_iconst (pc := 92) hX 5 (by decide) dX13_teach_92 ?_
  refine aw_callV (pc := 93) (st := []) (a := v0) hX [vI 5] (con_X13_denied _ G _ v0 5 hy.bd) mc_X13_denied ml_X13_539 im_X13_denied se_X13_denied (by decide) hy.bd.kd rfl (rm_of hr (by decide)) (Nat.le_of_ble_eq_true rfl) rfl dX13_teach_93 (kmI rfl rfl (fun q14 hy => ?_))
  exact aw_zret (pc := 96) hX hr (by decide) (by decide) dX13_teach_96 hy.rz.1 ⟨_, rfl, hy.rz.2⟩
def f_X13_teach (h : Mem) (v0 : Nat) (v1 : Int32) (v2 : Int32) (v3 : Int32) : Option (Int32 × Mem) :=
  (ck h v0 11).bind fun _ => (pI h v0 0 11 0).bind fun h1 => (f_X13_isPerson h1 v0 v1).bind fun x2 => (if x2 = 0 then f_X13_teach_34 h1 v0 else (f_X13_isPerson h1 v0 v2).bind fun x6 => (if x6 = 0 then f_X13_teach_34 h1 v0 else (if v1 = v2 then f_X13_teach_34 h1 v0 else (f_X13_isTune h1 v0 v3).bind fun x7 => (if x7 = 0 then f_X13_teach_34 h1 v0 else (gR h1 v0 16 11).bind fun r8 => (aI h1 r8 (0 + v1)).bind fun x9 => (gR h1 v0 16 11).bind fun r10 => (aI h1 r10 (0 + v2)).bind fun x11 => (if x9 = x11 then (gR h1 v0 16 11).bind fun r15 => (aI h1 r15 (8 + v1)).bind fun x16 => (f_X13_bit h1 x16 v3).bind fun x17 => (if x17 = 0 then f_X13_teach_91 h1 v0 else (gR h1 v0 16 11).bind fun r18 => (aI h1 r18 (8 + v2)).bind fun x19 => (f_X13_bit h1 x19 v3).bind fun x20 => (if x20 = 0 then (f_X13_remembers h1 v0).bind fun h21 => (gR h21 v0 16 11).bind fun r22 => (aI h21 r22 (8 + v2)).bind fun x23 => (sI h21 r22 (8 + v2) (x23 ||| ((1 : Int32) <<< (v3 &&& 31)))).bind fun h24 => (f_X13_granted h24 v0).bind fun q27 => retZ q27.1 (q27.1, q27.2) else f_X13_teach_91 h1 v0)) else f_X13_teach_91 h1 v0)))))
set_option maxRecDepth 100000 in
set_option maxHeartbeats 4000000 in
theorem w_X13_teach {G : GE} {X : CX} {l : Launch} (hX : Ok G X cX13_teach RX13) (hN : xn X = 4) {P : (Int32 × Mem) → Prop} (hr : Rt G X l yX13_teach (some .boolean) rm_X13_teach (pmI P)) (h : Mem) (v0 : Nat) (v1 : Int32) (v2 : Int32) (v3 : Int32) (hy : OK (f_X13_teach h v0 v1 v2 v3) P) : AW G X 0 [(0, vR v0), (1, vI v1), (2, vI v2), (3, vI v3)] [] h 0 0 := by
  unfold f_X13_teach at hy
  have hkd := hy.kd
  have hy := hy.kb
  refine aw_aloadn (pc := 0) hX 0 rfl dX13_teach_0 ?_
  refine aw_iconst (pc := 1) hX 0 (by decide) dX13_teach_1 ?_
  refine aw_pI (pc := 2) hX hy fl_X13_51 rfl (Or.inl rfl) dX13_teach_2 (fun h1 hy => ?_)
  refine aw_aloadn (pc := 5) hX 0 rfl dX13_teach_5 ?_
  refine aw_iloadn (pc := 6) hX 1 rfl dX13_teach_6 ?_
  refine aw_callV (pc := 7) (st := []) (a := v0) hX [vI v1] (con_X13_isPerson _ G _ v0 v1 hy.bd) mc_X13_isPerson ml_X13_373 im_X13_isPerson se_X13_isPerson (by decide) hy.bd.kd rfl (rm_of hr (by decide)) (Nat.le_of_ble_eq_true rfl) rfl dX13_teach_7 (kpI rfl rfl (fun x2 hy => ?_))
  refine aw_if_eq (pc := 10) hX 34 (by decide) dX13_teach_10 (fun hc9 => ?_) (fun hc9 => ?_)
  · have hy := hy.t hc9
    refine AW.sub [0] rfl ?_
    exact w_X13_teach_34 hX hN hr h1 v0 hy
  · have hy := hy.f hc9
    refine aw_aloadn (pc := 13) hX 0 rfl dX13_teach_13 ?_
    refine aw_iloadn (pc := 14) hX 2 rfl dX13_teach_14 ?_
    refine aw_callV (pc := 15) (st := []) (a := v0) hX [vI v2] (con_X13_isPerson _ G _ v0 v2 hy.bd) mc_X13_isPerson ml_X13_373 im_X13_isPerson se_X13_isPerson (by decide) hy.bd.kd rfl (rm_of hr (by decide)) (Nat.le_of_ble_eq_true rfl) rfl dX13_teach_15 (kpI rfl rfl (fun x6 hy => ?_))
    refine aw_if_eq (pc := 18) hX 34 (by decide) dX13_teach_18 (fun hc9 => ?_) (fun hc9 => ?_)
    · have hy := hy.t hc9
      refine AW.sub [0] rfl ?_
      exact w_X13_teach_34 hX hN hr h1 v0 hy
    · have hy := hy.f hc9
      refine aw_iloadn (pc := 21) hX 1 rfl dX13_teach_21 ?_
      refine aw_iloadn (pc := 22) hX 2 rfl dX13_teach_22 ?_
      refine aw_ic_eq (pc := 23) hX 34 (by decide) dX13_teach_23 (fun hc9 => ?_) (fun hc9 => ?_)
      · have hy := hy.t hc9
        refine AW.sub [0] rfl ?_
        exact w_X13_teach_34 hX hN hr h1 v0 hy
      · have hy := hy.f hc9
        refine aw_aloadn (pc := 26) hX 0 rfl dX13_teach_26 ?_
        refine aw_iloadn (pc := 27) hX 3 rfl dX13_teach_27 ?_
        refine aw_callV (pc := 28) (st := []) (a := v0) hX [vI v3] (con_X13_isTune _ G _ v0 v3 hy.bd) mc_X13_isTune ml_X13_364 im_X13_isTune se_X13_isTune (by decide) hy.bd.kd rfl (rm_of hr (by decide)) (Nat.le_of_ble_eq_true rfl) rfl dX13_teach_28 (kpI rfl rfl (fun x7 hy => ?_))
        refine aw_if_ne (pc := 31) hX 40 (by decide) dX13_teach_31 (fun hc9 => ?_) (fun hc9 => ?_)
        · have hy := hy.f hc9
          refine aw_aloadn (pc := 40) hX 0 rfl dX13_teach_40 ?_
          refine aw_gR (pc := 41) hX hy fl_X13_17 (fun _ _ => rfl) dX13_teach_41 (fun r8 hy => ?_)
          refine aw_iconst (pc := 44) hX 0 (by decide) dX13_teach_44 ?_
          refine aw_iloadn (pc := 45) hX 1 rfl dX13_teach_45 ?_
          refine aw_iadd (pc := 46) hX dX13_teach_46 ?_
          refine aw_aI (pc := 47) hX hy dX13_teach_47 (fun x9 hy => ?_)
          refine aw_aloadn (pc := 48) hX 0 rfl dX13_teach_48 ?_
          refine aw_gR (pc := 49) hX hy fl_X13_17 (fun _ _ => rfl) dX13_teach_49 (fun r10 hy => ?_)
          refine aw_iconst (pc := 52) hX 0 (by decide) dX13_teach_52 ?_
          refine aw_iloadn (pc := 53) hX 2 rfl dX13_teach_53 ?_
          refine aw_iadd (pc := 54) hX dX13_teach_54 ?_
          refine aw_aI (pc := 55) hX hy dX13_teach_55 (fun x11 hy => ?_)
          refine aw_ic_ne (pc := 56) hX 91 (by decide) dX13_teach_56 (fun hc9 => ?_) (fun hc9 => ?_)
          · have hy := hy.f hc9
            refine AW.sub [0] rfl ?_
            exact w_X13_teach_91 hX hN hr h1 v0 hy
          · have hy := hy.t hc9
            refine aw_aloadn (pc := 59) hX 0 rfl dX13_teach_59 ?_
            refine aw_gR (pc := 60) hX hy fl_X13_17 (fun _ _ => rfl) dX13_teach_60 (fun r15 hy => ?_)
            refine aw_bipush (pc := 63) hX 8 (by decide) dX13_teach_63 ?_
            refine aw_iloadn (pc := 65) hX 1 rfl dX13_teach_65 ?_
            refine aw_iadd (pc := 66) hX dX13_teach_66 ?_
            refine aw_aI (pc := 67) hX hy dX13_teach_67 (fun x16 hy => ?_)
            refine aw_iloadn (pc := 68) hX 3 rfl dX13_teach_68 ?_
            refine aw_callS (pc := 69) (st := []) hX [vI x16, vI v3] (con_X13_bit _ G _ x16 v3 hy.bd) mc_X13_bit ml_X13_322 st_X13_bit rfl (rm_of hr (by decide)) (Nat.le_of_ble_eq_true rfl) rfl dX13_teach_69 (kpI rfl rfl (fun x17 hy => ?_))
            refine aw_if_eq (pc := 72) hX 91 (by decide) dX13_teach_72 (fun hc9 => ?_) (fun hc9 => ?_)
            · have hy := hy.t hc9
              refine AW.sub [0] rfl ?_
              exact w_X13_teach_91 hX hN hr h1 v0 hy
            · have hy := hy.f hc9
              refine aw_aloadn (pc := 75) hX 0 rfl dX13_teach_75 ?_
              refine aw_gR (pc := 76) hX hy fl_X13_17 (fun _ _ => rfl) dX13_teach_76 (fun r18 hy => ?_)
              refine aw_bipush (pc := 79) hX 8 (by decide) dX13_teach_79 ?_
              refine aw_iloadn (pc := 81) hX 2 rfl dX13_teach_81 ?_
              refine aw_iadd (pc := 82) hX dX13_teach_82 ?_
              refine aw_aI (pc := 83) hX hy dX13_teach_83 (fun x19 hy => ?_)
              refine aw_iloadn (pc := 84) hX 3 rfl dX13_teach_84 ?_
              refine aw_callS (pc := 85) (st := []) hX [vI x19, vI v3] (con_X13_bit _ G _ x19 v3 hy.bd) mc_X13_bit ml_X13_322 st_X13_bit rfl (rm_of hr (by decide)) (Nat.le_of_ble_eq_true rfl) rfl dX13_teach_85 (kpI rfl rfl (fun x20 hy => ?_))
              refine aw_if_eq (pc := 88) hX 97 (by decide) dX13_teach_88 (fun hc9 => ?_) (fun hc9 => ?_)
              · have hy := hy.t hc9
                refine aw_aloadn (pc := 97) hX 0 rfl dX13_teach_97 ?_
                refine aw_callV (pc := 98) (st := []) (a := v0) hX [] (con_X13_remembers _ G _ v0 hy.bd) mc_X13_remembers ml_X13_536 im_X13_remembers se_X13_remembers (by decide) hy.bd.kd rfl (rm_of hr (by decide)) (Nat.le_of_ble_eq_true rfl) rfl dX13_teach_98 (kmV rfl rfl (fun h21 hy => ?_))
                refine aw_aloadn (pc := 101) hX 0 rfl dX13_teach_101 ?_
                refine aw_gR (pc := 102) hX hy fl_X13_17 (fun _ _ => rfl) dX13_teach_102 (fun r22 hy => ?_)
                refine aw_bipush (pc := 105) hX 8 (by decide) dX13_teach_105 ?_
                refine aw_iloadn (pc := 107) hX 2 rfl dX13_teach_107 ?_
                refine aw_iadd (pc := 108) hX dX13_teach_108 ?_
                refine aw_dup2 (pc := 109) hX rfl rfl dX13_teach_109 ?_
                refine aw_aI (pc := 110) hX hy dX13_teach_110 (fun x23 hy => ?_)
                refine aw_iconst (pc := 111) hX 1 (by decide) dX13_teach_111 ?_
                refine aw_iloadn (pc := 112) hX 3 rfl dX13_teach_112 ?_
                refine aw_ishl (pc := 113) hX dX13_teach_113 ?_
                refine aw_ior (pc := 114) hX dX13_teach_114 ?_
                refine aw_sI (pc := 115) hX hy dX13_teach_115 (fun h24 hy => ?_)
                refine aw_aloadn (pc := 116) hX 0 rfl dX13_teach_116 ?_
                refine aw_callV (pc := 117) (st := []) (a := v0) hX [] (con_X13_granted _ G _ v0 hy.bd) mc_X13_granted ml_X13_542 im_X13_granted se_X13_granted (by decide) hy.bd.kd rfl (rm_of hr (by decide)) (Nat.le_of_ble_eq_true rfl) rfl dX13_teach_117 (kmI rfl rfl (fun q27 hy => ?_))
                exact aw_zret (pc := 120) hX hr (by decide) (by decide) dX13_teach_120 hy.rz.1 ⟨_, rfl, hy.rz.2⟩
              · have hy := hy.f hc9
                refine AW.sub [0] rfl ?_
                exact w_X13_teach_91 hX hN hr h1 v0 hy
        · have hy := hy.t hc9
          refine AW.sub [0] rfl ?_
          exact w_X13_teach_34 hX hN hr h1 v0 hy
theorem con_X13_teach (l : Launch) (G : GE) (h : Mem) (v0 : Nat) (v1 : Int32) (v2 : Int32) (v3 : Int32) {P : (Int32 × Mem) → Prop} (hy : OK (f_X13_teach h v0 v1 v2 v3) P) : Con l G yX13_teach cX13_teach 4 (some .boolean) rm_X13_teach [vR v0, vI v1, vI v2, vI v3] h (pmI P) := Con.of (by decide) (Nat.le_of_ble_eq_true rfl) (fun X hX hr hN => w_X13_teach hX hN hr h v0 v1 v2 v3 hy)
/-! X13_rain -/
theorem dX13_rain_0 : decode cX13_rain 0 = .ok (.aload_n 0, 1) := by decide +kernel
theorem dX13_rain_1 : decode cX13_rain 1 = .ok (.iconst 0, 1) := by decide +kernel
theorem dX13_rain_2 : decode cX13_rain 2 = .ok (.putfield 51, 3) := by decide +kernel
theorem dX13_rain_5 : decode cX13_rain 5 = .ok (.aload_n 0, 1) := by decide +kernel
theorem dX13_rain_6 : decode cX13_rain 6 = .ok (.getfield 338, 3) := by decide +kernel
theorem dX13_rain_9 : decode cX13_rain 9 = .ok (.ifnonnull 9, 3) := by decide +kernel
theorem dX13_rain_12 : decode cX13_rain 12 = .ok (.aload_n 0, 1) := by decide +kernel
theorem dX13_rain_13 : decode cX13_rain 13 = .ok (.iconst 1, 1) := by decide +kernel
theorem dX13_rain_14 : decode cX13_rain 14 = .ok (.invokevirtual 539, 3) := by decide +kernel
theorem dX13_rain_17 : decode cX13_rain 17 = .ok (.ireturn, 1) := by decide +kernel
theorem dX13_rain_18 : decode cX13_rain 18 = .ok (.aload_n 0, 1) := by decide +kernel
theorem dX13_rain_19 : decode cX13_rain 19 = .ok (.invokevirtual 367, 3) := by decide +kernel
theorem dX13_rain_22 : decode cX13_rain 22 = .ok (.iload_n 1, 1) := by decide +kernel
theorem dX13_rain_23 : decode cX13_rain 23 = .ok (.if_icmp .ne 9, 3) := by decide +kernel
theorem dX13_rain_26 : decode cX13_rain 26 = .ok (.aload_n 0, 1) := by decide +kernel
theorem dX13_rain_27 : decode cX13_rain 27 = .ok (.iconst 5, 1) := by decide +kernel
theorem dX13_rain_28 : decode cX13_rain 28 = .ok (.invokevirtual 539, 3) := by decide +kernel
theorem dX13_rain_31 : decode cX13_rain 31 = .ok (.ireturn, 1) := by decide +kernel
theorem dX13_rain_32 : decode cX13_rain 32 = .ok (.aload_n 0, 1) := by decide +kernel
theorem dX13_rain_33 : decode cX13_rain 33 = .ok (.invokevirtual 536, 3) := by decide +kernel
theorem dX13_rain_36 : decode cX13_rain 36 = .ok (.aload_n 0, 1) := by decide +kernel
theorem dX13_rain_37 : decode cX13_rain 37 = .ok (.getfield 17, 3) := by decide +kernel
theorem dX13_rain_40 : decode cX13_rain 40 = .ok (.bipush 20, 2) := by decide +kernel
theorem dX13_rain_42 : decode cX13_rain 42 = .ok (.iload_n 1, 1) := by decide +kernel
theorem dX13_rain_43 : decode cX13_rain 43 = .ok (.ifCond .eq 7, 3) := by decide +kernel
theorem dX13_rain_46 : decode cX13_rain 46 = .ok (.iconst 1, 1) := by decide +kernel
theorem dX13_rain_47 : decode cX13_rain 47 = .ok (.goto 4, 3) := by decide +kernel
theorem dX13_rain_50 : decode cX13_rain 50 = .ok (.iconst 0, 1) := by decide +kernel
theorem dX13_rain_51 : decode cX13_rain 51 = .ok (.iastore, 1) := by decide +kernel
theorem dX13_rain_52 : decode cX13_rain 52 = .ok (.aload_n 0, 1) := by decide +kernel
theorem dX13_rain_53 : decode cX13_rain 53 = .ok (.invokevirtual 542, 3) := by decide +kernel
theorem dX13_rain_56 : decode cX13_rain 56 = .ok (.ireturn, 1) := by decide +kernel
abbrev rm_X13_rain : Room := { frames := 2, cells := 0, slots := 0, locals := 42 }
def f_X13_rain_51 (h : Mem) (v0 : Nat) (s0 : Nat) (s1 : Int32) (s2 : Int32) : Option (Int32 × Mem) :=
  (sI h s0 s1 s2).bind fun h6 => (f_X13_granted h6 v0).bind fun q9 => retZ q9.1 (q9.1, q9.2)
set_option maxRecDepth 100000 in
set_option maxHeartbeats 4000000 in
theorem w_X13_rain_51 {G : GE} {X : CX} {l : Launch} (hX : Ok G X cX13_rain RX13) (hN : xn X = 2) {P : (Int32 × Mem) → Prop} (hr : Rt G X l yX13_rain (some .boolean) rm_X13_rain (pmI P)) (h : Mem) (v0 : Nat) (s0 : Nat) (s1 : Int32) (s2 : Int32) (hy : OK (f_X13_rain_51 h v0 s0 s1 s2) P) : AW G X 51 [(0, vR v0)] [vI s2, vI s1, vR s0] h 0 0 := by
  unfold f_X13_rain_51 at hy
  refine aw_sI (pc := 51) hX hy dX13_rain_51 (fun h6 hy => ?_)
  refine aw_aloadn (pc := 52) hX 0 rfl dX13_rain_52 ?_
  refine aw_callV (pc := 53) (st := []) (a := v0) hX [] (con_X13_granted _ G _ v0 hy.bd) mc_X13_granted ml_X13_542 im_X13_granted se_X13_granted (by decide) hy.bd.kd rfl (rm_of hr (by decide)) (Nat.le_of_ble_eq_true rfl) rfl dX13_rain_53 (kmI rfl rfl (fun q9 hy => ?_))
  exact aw_zret (pc := 56) hX hr (by decide) (by decide) dX13_rain_56 hy.rz.1 ⟨_, rfl, hy.rz.2⟩
def f_X13_rain (h : Mem) (v0 : Nat) (v1 : Int32) : Option (Int32 × Mem) :=
  (ck h v0 11).bind fun _ => (pI h v0 0 11 0).bind fun h1 => (gR h1 v0 3 11).bind fun r2 => (if r2 = 0 then (f_X13_denied h1 v0 1).bind fun q15 => retZ q15.1 (q15.1, q15.2) else (f_X13_rains h1 v0).bind fun x3 => (if x3 = v1 then (f_X13_denied h1 v0 5).bind fun q12 => retZ q12.1 (q12.1, q12.2) else (f_X13_remembers h1 v0).bind fun h4 => (gR h4 v0 16 11).bind fun r5 => (if v1 = 0 then f_X13_rain_51 h4 v0 r5 20 0 else f_X13_rain_51 h4 v0 r5 20 1)))
set_option maxRecDepth 100000 in
set_option maxHeartbeats 4000000 in
theorem w_X13_rain {G : GE} {X : CX} {l : Launch} (hX : Ok G X cX13_rain RX13) (hN : xn X = 2) {P : (Int32 × Mem) → Prop} (hr : Rt G X l yX13_rain (some .boolean) rm_X13_rain (pmI P)) (h : Mem) (v0 : Nat) (v1 : Int32) (hy : OK (f_X13_rain h v0 v1) P) : AW G X 0 [(0, vR v0), (1, vI v1)] [] h 0 0 := by
  unfold f_X13_rain at hy
  have hkd := hy.kd
  have hy := hy.kb
  refine aw_aloadn (pc := 0) hX 0 rfl dX13_rain_0 ?_
  refine aw_iconst (pc := 1) hX 0 (by decide) dX13_rain_1 ?_
  refine aw_pI (pc := 2) hX hy fl_X13_51 rfl (Or.inl rfl) dX13_rain_2 (fun h1 hy => ?_)
  refine aw_aloadn (pc := 5) hX 0 rfl dX13_rain_5 ?_
  refine aw_gR (pc := 6) hX hy fl_X13_338 (fun _ _ => rfl) dX13_rain_6 (fun r2 hy => ?_)
  refine aw_ifnonnull (pc := 9) hX 18 (by decide) dX13_rain_9 (fun hc9 => ?_) (fun hc9 => ?_)
  · have hy := hy.f hc9
    refine aw_aloadn (pc := 18) hX 0 rfl dX13_rain_18 ?_
    refine aw_callV (pc := 19) (st := []) (a := v0) hX [] (con_X13_rains _ G _ v0 hy.bd) mc_X13_rains ml_X13_367 im_X13_rains se_X13_rains (by decide) hy.bd.kd rfl (rm_of hr (by decide)) (Nat.le_of_ble_eq_true rfl) rfl dX13_rain_19 (kpI rfl rfl (fun x3 hy => ?_))
    refine aw_iloadn (pc := 22) hX 1 rfl dX13_rain_22 ?_
    refine aw_ic_ne (pc := 23) hX 32 (by decide) dX13_rain_23 (fun hc9 => ?_) (fun hc9 => ?_)
    · have hy := hy.f hc9
      refine aw_aloadn (pc := 32) hX 0 rfl dX13_rain_32 ?_
      refine aw_callV (pc := 33) (st := []) (a := v0) hX [] (con_X13_remembers _ G _ v0 hy.bd) mc_X13_remembers ml_X13_536 im_X13_remembers se_X13_remembers (by decide) hy.bd.kd rfl (rm_of hr (by decide)) (Nat.le_of_ble_eq_true rfl) rfl dX13_rain_33 (kmV rfl rfl (fun h4 hy => ?_))
      refine aw_aloadn (pc := 36) hX 0 rfl dX13_rain_36 ?_
      refine aw_gR (pc := 37) hX hy fl_X13_17 (fun _ _ => rfl) dX13_rain_37 (fun r5 hy => ?_)
      refine aw_bipush (pc := 40) hX 20 (by decide) dX13_rain_40 ?_
      refine aw_iloadn (pc := 42) hX 1 rfl dX13_rain_42 ?_
      refine aw_if_eq (pc := 43) hX 50 (by decide) dX13_rain_43 (fun hc9 => ?_) (fun hc9 => ?_)
      · have hy := hy.t hc9
        refine aw_iconst (pc := 50) hX 0 (by decide) dX13_rain_50 ?_
        refine AW.sub [0] rfl ?_
        exact w_X13_rain_51 hX hN hr h4 v0 r5 20 0 hy
      · have hy := hy.f hc9
        refine aw_iconst (pc := 46) hX 1 (by decide) dX13_rain_46 ?_
        refine aw_goto (pc := 47) hX 51 (by decide) dX13_rain_47 ?_
        refine AW.sub [0] rfl ?_
        exact w_X13_rain_51 hX hN hr h4 v0 r5 20 1 hy
    · have hy := hy.t hc9
      refine aw_aloadn (pc := 26) hX 0 rfl dX13_rain_26 ?_
      refine aw_iconst (pc := 27) hX 5 (by decide) dX13_rain_27 ?_
      refine aw_callV (pc := 28) (st := []) (a := v0) hX [vI 5] (con_X13_denied _ G _ v0 5 hy.bd) mc_X13_denied ml_X13_539 im_X13_denied se_X13_denied (by decide) hy.bd.kd rfl (rm_of hr (by decide)) (Nat.le_of_ble_eq_true rfl) rfl dX13_rain_28 (kmI rfl rfl (fun q12 hy => ?_))
      exact aw_zret (pc := 31) hX hr (by decide) (by decide) dX13_rain_31 hy.rz.1 ⟨_, rfl, hy.rz.2⟩
  · have hy := hy.t hc9
    refine aw_aloadn (pc := 12) hX 0 rfl dX13_rain_12 ?_
    refine aw_iconst (pc := 13) hX 1 (by decide) dX13_rain_13 ?_
    refine aw_callV (pc := 14) (st := []) (a := v0) hX [vI 1] (con_X13_denied _ G _ v0 1 hy.bd) mc_X13_denied ml_X13_539 im_X13_denied se_X13_denied (by decide) hy.bd.kd rfl (rm_of hr (by decide)) (Nat.le_of_ble_eq_true rfl) rfl dX13_rain_14 (kmI rfl rfl (fun q15 hy => ?_))
    exact aw_zret (pc := 17) hX hr (by decide) (by decide) dX13_rain_17 hy.rz.1 ⟨_, rfl, hy.rz.2⟩
theorem con_X13_rain (l : Launch) (G : GE) (h : Mem) (v0 : Nat) (v1 : Int32) {P : (Int32 × Mem) → Prop} (hy : OK (f_X13_rain h v0 v1) P) : Con l G yX13_rain cX13_rain 2 (some .boolean) rm_X13_rain [vR v0, vI v1] h (pmI P) := Con.of (by decide) (Nat.le_of_ble_eq_true rfl) (fun X hX hr hN => w_X13_rain hX hN hr h v0 v1 hy)
/-! X13_undo -/
theorem dX13_undo_0 : decode cX13_undo 0 = .ok (.aload_n 0, 1) := by decide +kernel
theorem dX13_undo_1 : decode cX13_undo 1 = .ok (.iconst 0, 1) := by decide +kernel
theorem dX13_undo_2 : decode cX13_undo 2 = .ok (.putfield 51, 3) := by decide +kernel
theorem dX13_undo_5 : decode cX13_undo 5 = .ok (.aload_n 0, 1) := by decide +kernel
theorem dX13_undo_6 : decode cX13_undo 6 = .ok (.getfield 338, 3) := by decide +kernel
theorem dX13_undo_9 : decode cX13_undo 9 = .ok (.ifnull 10, 3) := by decide +kernel
theorem dX13_undo_12 : decode cX13_undo 12 = .ok (.aload_n 0, 1) := by decide +kernel
theorem dX13_undo_13 : decode cX13_undo 13 = .ok (.getfield 341, 3) := by decide +kernel
theorem dX13_undo_16 : decode cX13_undo 16 = .ok (.ifCond .ne 10, 3) := by decide +kernel
theorem dX13_undo_19 : decode cX13_undo 19 = .ok (.aload_n 0, 1) := by decide +kernel
theorem dX13_undo_20 : decode cX13_undo 20 = .ok (.bipush 6, 2) := by decide +kernel
theorem dX13_undo_22 : decode cX13_undo 22 = .ok (.invokevirtual 539, 3) := by decide +kernel
theorem dX13_undo_25 : decode cX13_undo 25 = .ok (.ireturn, 1) := by decide +kernel
theorem dX13_undo_26 : decode cX13_undo 26 = .ok (.aload_n 0, 1) := by decide +kernel
theorem dX13_undo_27 : decode cX13_undo 27 = .ok (.dup, 1) := by decide +kernel
theorem dX13_undo_28 : decode cX13_undo 28 = .ok (.getfield 341, 3) := by decide +kernel
theorem dX13_undo_31 : decode cX13_undo 31 = .ok (.iconst 1, 1) := by decide +kernel
theorem dX13_undo_32 : decode cX13_undo 32 = .ok (.isub, 1) := by decide +kernel
theorem dX13_undo_33 : decode cX13_undo 33 = .ok (.putfield 341, 3) := by decide +kernel
theorem dX13_undo_36 : decode cX13_undo 36 = .ok (.iconst 0, 1) := by decide +kernel
theorem dX13_undo_37 : decode cX13_undo 37 = .ok (.istore_n 1, 1) := by decide +kernel
theorem dX13_undo_38 : decode cX13_undo 38 = .ok (.iload_n 1, 1) := by decide +kernel
theorem dX13_undo_39 : decode cX13_undo 39 = .ok (.bipush 21, 2) := by decide +kernel
theorem dX13_undo_41 : decode cX13_undo 41 = .ok (.if_icmp .ge 29, 3) := by decide +kernel
theorem dX13_undo_44 : decode cX13_undo 44 = .ok (.aload_n 0, 1) := by decide +kernel
theorem dX13_undo_45 : decode cX13_undo 45 = .ok (.getfield 17, 3) := by decide +kernel
theorem dX13_undo_48 : decode cX13_undo 48 = .ok (.iload_n 1, 1) := by decide +kernel
theorem dX13_undo_49 : decode cX13_undo 49 = .ok (.aload_n 0, 1) := by decide +kernel
theorem dX13_undo_50 : decode cX13_undo 50 = .ok (.getfield 21, 3) := by decide +kernel
theorem dX13_undo_53 : decode cX13_undo 53 = .ok (.bipush 21, 2) := by decide +kernel
theorem dX13_undo_55 : decode cX13_undo 55 = .ok (.aload_n 0, 1) := by decide +kernel
theorem dX13_undo_56 : decode cX13_undo 56 = .ok (.getfield 341, 3) := by decide +kernel
theorem dX13_undo_59 : decode cX13_undo 59 = .ok (.imul, 1) := by decide +kernel
theorem dX13_undo_60 : decode cX13_undo 60 = .ok (.iload_n 1, 1) := by decide +kernel
theorem dX13_undo_61 : decode cX13_undo 61 = .ok (.iadd, 1) := by decide +kernel
theorem dX13_undo_62 : decode cX13_undo 62 = .ok (.iaload, 1) := by decide +kernel
theorem dX13_undo_63 : decode cX13_undo 63 = .ok (.iastore, 1) := by decide +kernel
theorem dX13_undo_64 : decode cX13_undo 64 = .ok (.iinc 1 1, 3) := by decide +kernel
theorem dX13_undo_67 : decode cX13_undo 67 = .ok (.goto (-29), 3) := by decide +kernel
theorem dX13_undo_70 : decode cX13_undo 70 = .ok (.aload_n 0, 1) := by decide +kernel
theorem dX13_undo_71 : decode cX13_undo 71 = .ok (.invokevirtual 542, 3) := by decide +kernel
theorem dX13_undo_74 : decode cX13_undo 74 = .ok (.ireturn, 1) := by decide +kernel
abbrev rm_X13_undo : Room := { frames := 2, cells := 0, slots := 0, locals := 42 }
def f_X13_undo_19 (h : Mem) (v0 : Nat) : Option (Int32 × Mem) :=
  (f_X13_denied h v0 6).bind fun q5 => retZ q5.1 (q5.1, q5.2)
set_option maxRecDepth 100000 in
set_option maxHeartbeats 4000000 in
theorem w_X13_undo_19 {G : GE} {X : CX} {l : Launch} (hX : Ok G X cX13_undo RX13) (hN : xn X = 2) {P : (Int32 × Mem) → Prop} (hr : Rt G X l yX13_undo (some .boolean) rm_X13_undo (pmI P)) (h : Mem) (v0 : Nat) (hy : OK (f_X13_undo_19 h v0) P) : AW G X 19 [(0, vR v0)] [] h 0 0 := by
  unfold f_X13_undo_19 at hy
  refine aw_aloadn (pc := 19) hX 0 rfl dX13_undo_19 ?_
  refine aw_bipush (pc := 20) hX 6 (by decide) dX13_undo_20 ?_
  refine aw_callV (pc := 22) (st := []) (a := v0) hX [vI 6] (con_X13_denied _ G _ v0 6 hy.bd) mc_X13_denied ml_X13_539 im_X13_denied se_X13_denied (by decide) hy.bd.kd rfl (rm_of hr (by decide)) (Nat.le_of_ble_eq_true rfl) rfl dX13_undo_22 (kmI rfl rfl (fun q5 hy => ?_))
  exact aw_zret (pc := 25) hX hr (by decide) (by decide) dX13_undo_25 hy.rz.1 ⟨_, rfl, hy.rz.2⟩
def b_X13_undo_38 (h : Mem) (v0 : Nat) (v1 : Int32) : Option ((Int32 × Mem) ⊕ Mem) :=
  (if 21 ≤ v1 then some (.inr h) else (gR h v0 16 11).bind fun r9 => (gR h v0 17 11).bind fun r10 => (gI h v0 19 11).bind fun x11 => (aI h r10 ((21 * x11) + v1)).bind fun x12 => (sI h r9 v1 x12).bind fun h13 => some (.inl ((v1 + 1), h13)))
set_option maxRecDepth 100000 in
set_option maxHeartbeats 4000000 in
theorem wb_X13_undo_38 {G : GE} {X : CX} {l : Launch} (hX : Ok G X cX13_undo RX13) (hN : xn X = 2) {P0 : (Int32 × Mem) → Prop} (hr : Rt G X l yX13_undo (some .boolean) rm_X13_undo (pmI P0))  (v0 : Nat) {P : ((Int32 × Mem) ⊕ Mem) → Prop} (hc : ∀ s, P (.inl s) → AW G X 38 [(0, vR v0), (1, vI s.1)] [] s.2 0 0) (he0 : ∀ e, P (.inr e) → AW G X 70 [(0, vR v0)] [] e 0 0) (h : Mem) (v1 : Int32) (hy : OK (b_X13_undo_38 h v0 v1) P) : AW G X 38 [(0, vR v0), (1, vI v1)] [] h 0 0 := by
  unfold b_X13_undo_38 at hy
  refine aw_iloadn (pc := 38) hX 1 rfl dX13_undo_38 ?_
  refine aw_bipush (pc := 39) hX 21 (by decide) dX13_undo_39 ?_
  refine aw_ic_ge (pc := 41) hX 70 (by decide) dX13_undo_41 (fun hc9 => ?_) (fun hc9 => ?_)
  · have hy := hy.t hc9
    refine AW.sub [0] rfl ?_
    exact he0 h hy.s
  · have hy := hy.f hc9
    refine aw_aloadn (pc := 44) hX 0 rfl dX13_undo_44 ?_
    refine aw_gR (pc := 45) hX hy fl_X13_17 (fun _ _ => rfl) dX13_undo_45 (fun r9 hy => ?_)
    refine aw_iloadn (pc := 48) hX 1 rfl dX13_undo_48 ?_
    refine aw_aloadn (pc := 49) hX 0 rfl dX13_undo_49 ?_
    refine aw_gR (pc := 50) hX hy fl_X13_21 (fun _ _ => rfl) dX13_undo_50 (fun r10 hy => ?_)
    refine aw_bipush (pc := 53) hX 21 (by decide) dX13_undo_53 ?_
    refine aw_aloadn (pc := 55) hX 0 rfl dX13_undo_55 ?_
    refine aw_gI (pc := 56) hX hy fl_X13_341 (fun _ _ => rfl) dX13_undo_56 (fun x11 hy => ?_)
    refine aw_imul (pc := 59) hX dX13_undo_59 ?_
    refine aw_iloadn (pc := 60) hX 1 rfl dX13_undo_60 ?_
    refine aw_iadd (pc := 61) hX dX13_undo_61 ?_
    refine aw_aI (pc := 62) hX hy dX13_undo_62 (fun x12 hy => ?_)
    refine aw_sI (pc := 63) hX hy dX13_undo_63 (fun h13 hy => ?_)
    refine aw_iinc (pc := 64) hX 1 (by decide) 1 rfl [(1, vI (v1 + 1)), (0, vR v0)] rfl (lt_n hN (by decide)) dX13_undo_64 ?_
    refine aw_goto (pc := 67) hX 38 (by decide) dX13_undo_67 ?_
    refine AW.sub [1, 0] rfl ?_
    exact hc ((v1 + 1), h13) hy.s
theorem wl_X13_undo_38 {G : GE} {X : CX} {l : Launch} (hX : Ok G X cX13_undo RX13) (hN : xn X = 2) {P0 : (Int32 × Mem) → Prop} (hr : Rt G X l yX13_undo (some .boolean) rm_X13_undo (pmI P0)) (v0 : Nat) {P : (Mem) → Prop} (he0 : ∀ e, P e → AW G X 70 [(0, vR v0)] [] e 0 0) : ∀ (n : Nat) (s : Int32 × Mem), OK (iter (fun (s : Int32 × Mem) => b_X13_undo_38 s.2 v0 s.1) n s) P → AW G X 38 [(0, vR v0), (1, vI s.1)] [] s.2 0 0 := by
  intro n
  induction n with
  | zero => exact fun s hy => hy.it0.elim
  | succ n ih =>
    intro s hy
    exact wb_X13_undo_38 hX hN hr v0 (fun s hs => ih s hs) (fun e hs => he0 e hs) s.2 s.1 hy.it
def f_X13_undo (h : Mem) (v0 : Nat) : Option (Int32 × Mem) :=
  (ck h v0 11).bind fun _ => (pI h v0 0 11 0).bind fun h1 => (gR h1 v0 3 11).bind fun r2 => (if r2 = 0 then f_X13_undo_19 h1 v0 else (gI h1 v0 19 11).bind fun x6 => (if x6 = 0 then f_X13_undo_19 h1 v0 else (gI h1 v0 19 11).bind fun x7 => (pI h1 v0 19 11 (x7 - 1)).bind fun h8 => (iter (fun (s : Int32 × Mem) => b_X13_undo_38 s.2 v0 s.1) FU (0, h8)).bind (fun q14 => (f_X13_granted q14 v0).bind fun q17 => retZ q17.1 (q17.1, q17.2))))
set_option maxRecDepth 100000 in
set_option maxHeartbeats 4000000 in
theorem w_X13_undo {G : GE} {X : CX} {l : Launch} (hX : Ok G X cX13_undo RX13) (hN : xn X = 2) {P : (Int32 × Mem) → Prop} (hr : Rt G X l yX13_undo (some .boolean) rm_X13_undo (pmI P)) (h : Mem) (v0 : Nat) (hy : OK (f_X13_undo h v0) P) : AW G X 0 [(0, vR v0)] [] h 0 0 := by
  unfold f_X13_undo at hy
  have hkd := hy.kd
  have hy := hy.kb
  refine aw_aloadn (pc := 0) hX 0 rfl dX13_undo_0 ?_
  refine aw_iconst (pc := 1) hX 0 (by decide) dX13_undo_1 ?_
  refine aw_pI (pc := 2) hX hy fl_X13_51 rfl (Or.inl rfl) dX13_undo_2 (fun h1 hy => ?_)
  refine aw_aloadn (pc := 5) hX 0 rfl dX13_undo_5 ?_
  refine aw_gR (pc := 6) hX hy fl_X13_338 (fun _ _ => rfl) dX13_undo_6 (fun r2 hy => ?_)
  refine aw_ifnull (pc := 9) hX 19 (by decide) dX13_undo_9 (fun hc9 => ?_) (fun hc9 => ?_)
  · have hy := hy.t hc9
    exact w_X13_undo_19 hX hN hr h1 v0 hy
  · have hy := hy.f hc9
    refine aw_aloadn (pc := 12) hX 0 rfl dX13_undo_12 ?_
    refine aw_gI (pc := 13) hX hy fl_X13_341 (fun _ _ => rfl) dX13_undo_13 (fun x6 hy => ?_)
    refine aw_if_ne (pc := 16) hX 26 (by decide) dX13_undo_16 (fun hc9 => ?_) (fun hc9 => ?_)
    · have hy := hy.f hc9
      refine aw_aloadn (pc := 26) hX 0 rfl dX13_undo_26 ?_
      refine aw_dup (pc := 27) hX rfl dX13_undo_27 ?_
      refine aw_gI (pc := 28) hX hy fl_X13_341 (fun _ _ => rfl) dX13_undo_28 (fun x7 hy => ?_)
      refine aw_iconst (pc := 31) hX 1 (by decide) dX13_undo_31 ?_
      refine aw_isub (pc := 32) hX dX13_undo_32 ?_
      refine aw_pI (pc := 33) hX hy fl_X13_341 rfl (Or.inl rfl) dX13_undo_33 (fun h8 hy => ?_)
      refine aw_iconst (pc := 36) hX 0 (by decide) dX13_undo_36 ?_
      refine aw_istoren (pc := 37) hX [(1, vI 0), (0, vR v0)] rfl (lt_n hN (by decide)) dX13_undo_37 ?_
      refine AW.sub [1, 0] rfl ?_
      refine wl_X13_undo_38 hX hN hr v0 ?_ FU (0, h8) hy.bd
      · intro q14 hy
        refine aw_aloadn (pc := 70) hX 0 rfl dX13_undo_70 ?_
        refine aw_callV (pc := 71) (st := []) (a := v0) hX [] (con_X13_granted _ G _ v0 hy.bd) mc_X13_granted ml_X13_542 im_X13_granted se_X13_granted (by decide) hy.bd.kd rfl (rm_of hr (by decide)) (Nat.le_of_ble_eq_true rfl) rfl dX13_undo_71 (kmI rfl rfl (fun q17 hy => ?_))
        exact aw_zret (pc := 74) hX hr (by decide) (by decide) dX13_undo_74 hy.rz.1 ⟨_, rfl, hy.rz.2⟩
    · have hy := hy.t hc9
      exact w_X13_undo_19 hX hN hr h1 v0 hy
theorem con_X13_undo (l : Launch) (G : GE) (h : Mem) (v0 : Nat) {P : (Int32 × Mem) → Prop} (hy : OK (f_X13_undo h v0) P) : Con l G yX13_undo cX13_undo 2 (some .boolean) rm_X13_undo [vR v0] h (pmI P) := Con.of (by decide) (Nat.le_of_ble_eq_true rfl) (fun X hX hr hN => w_X13_undo hX hN hr h v0 hy)
/-! X13_mark -/
theorem dX13_mark_0 : decode cX13_mark 0 = .ok (.aload_n 0, 1) := by decide +kernel
theorem dX13_mark_1 : decode cX13_mark 1 = .ok (.iconst 0, 1) := by decide +kernel
theorem dX13_mark_2 : decode cX13_mark 2 = .ok (.putfield 51, 3) := by decide +kernel
theorem dX13_mark_5 : decode cX13_mark 5 = .ok (.aload_n 0, 1) := by decide +kernel
theorem dX13_mark_6 : decode cX13_mark 6 = .ok (.getfield 338, 3) := by decide +kernel
theorem dX13_mark_9 : decode cX13_mark 9 = .ok (.ifnonnull 9, 3) := by decide +kernel
theorem dX13_mark_12 : decode cX13_mark 12 = .ok (.aload_n 0, 1) := by decide +kernel
theorem dX13_mark_13 : decode cX13_mark 13 = .ok (.iconst 1, 1) := by decide +kernel
theorem dX13_mark_14 : decode cX13_mark 14 = .ok (.invokevirtual 57, 3) := by decide +kernel
theorem dX13_mark_17 : decode cX13_mark 17 = .ok (.ireturn, 1) := by decide +kernel
theorem dX13_mark_18 : decode cX13_mark 18 = .ok (.aload_n 0, 1) := by decide +kernel
theorem dX13_mark_19 : decode cX13_mark 19 = .ok (.getfield 344, 3) := by decide +kernel
theorem dX13_mark_22 : decode cX13_mark 22 = .ok (.iconst 3, 1) := by decide +kernel
theorem dX13_mark_23 : decode cX13_mark 23 = .ok (.if_icmp .ne 9, 3) := by decide +kernel
theorem dX13_mark_26 : decode cX13_mark 26 = .ok (.aload_n 0, 1) := by decide +kernel
theorem dX13_mark_27 : decode cX13_mark 27 = .ok (.iconst 3, 1) := by decide +kernel
theorem dX13_mark_28 : decode cX13_mark 28 = .ok (.invokevirtual 57, 3) := by decide +kernel
theorem dX13_mark_31 : decode cX13_mark 31 = .ok (.ireturn, 1) := by decide +kernel
theorem dX13_mark_32 : decode cX13_mark 32 = .ok (.iconst 0, 1) := by decide +kernel
theorem dX13_mark_33 : decode cX13_mark 33 = .ok (.istore_n 1, 1) := by decide +kernel
theorem dX13_mark_34 : decode cX13_mark 34 = .ok (.iload_n 1, 1) := by decide +kernel
theorem dX13_mark_35 : decode cX13_mark 35 = .ok (.bipush 21, 2) := by decide +kernel
theorem dX13_mark_37 : decode cX13_mark 37 = .ok (.if_icmp .ge 29, 3) := by decide +kernel
theorem dX13_mark_40 : decode cX13_mark 40 = .ok (.aload_n 0, 1) := by decide +kernel
theorem dX13_mark_41 : decode cX13_mark 41 = .ok (.getfield 24, 3) := by decide +kernel
theorem dX13_mark_44 : decode cX13_mark 44 = .ok (.bipush 21, 2) := by decide +kernel
theorem dX13_mark_46 : decode cX13_mark 46 = .ok (.aload_n 0, 1) := by decide +kernel
theorem dX13_mark_47 : decode cX13_mark 47 = .ok (.getfield 344, 3) := by decide +kernel
theorem dX13_mark_50 : decode cX13_mark 50 = .ok (.imul, 1) := by decide +kernel
theorem dX13_mark_51 : decode cX13_mark 51 = .ok (.iload_n 1, 1) := by decide +kernel
theorem dX13_mark_52 : decode cX13_mark 52 = .ok (.iadd, 1) := by decide +kernel
theorem dX13_mark_53 : decode cX13_mark 53 = .ok (.aload_n 0, 1) := by decide +kernel
theorem dX13_mark_54 : decode cX13_mark 54 = .ok (.getfield 17, 3) := by decide +kernel
theorem dX13_mark_57 : decode cX13_mark 57 = .ok (.iload_n 1, 1) := by decide +kernel
theorem dX13_mark_58 : decode cX13_mark 58 = .ok (.iaload, 1) := by decide +kernel
theorem dX13_mark_59 : decode cX13_mark 59 = .ok (.iastore, 1) := by decide +kernel
theorem dX13_mark_60 : decode cX13_mark 60 = .ok (.iinc 1 1, 3) := by decide +kernel
theorem dX13_mark_63 : decode cX13_mark 63 = .ok (.goto (-29), 3) := by decide +kernel
theorem dX13_mark_66 : decode cX13_mark 66 = .ok (.aload_n 0, 1) := by decide +kernel
theorem dX13_mark_67 : decode cX13_mark 67 = .ok (.dup, 1) := by decide +kernel
theorem dX13_mark_68 : decode cX13_mark 68 = .ok (.getfield 344, 3) := by decide +kernel
theorem dX13_mark_71 : decode cX13_mark 71 = .ok (.iconst 1, 1) := by decide +kernel
theorem dX13_mark_72 : decode cX13_mark 72 = .ok (.iadd, 1) := by decide +kernel
theorem dX13_mark_73 : decode cX13_mark 73 = .ok (.putfield 344, 3) := by decide +kernel
theorem dX13_mark_76 : decode cX13_mark 76 = .ok (.aload_n 0, 1) := by decide +kernel
theorem dX13_mark_77 : decode cX13_mark 77 = .ok (.aload_n 0, 1) := by decide +kernel
theorem dX13_mark_78 : decode cX13_mark 78 = .ok (.getfield 344, 3) := by decide +kernel
theorem dX13_mark_81 : decode cX13_mark 81 = .ok (.iconst 1, 1) := by decide +kernel
theorem dX13_mark_82 : decode cX13_mark 82 = .ok (.isub, 1) := by decide +kernel
theorem dX13_mark_83 : decode cX13_mark 83 = .ok (.invokevirtual 61, 3) := by decide +kernel
theorem dX13_mark_86 : decode cX13_mark 86 = .ok (.ireturn, 1) := by decide +kernel
abbrev rm_X13_mark : Room := { frames := 1, cells := 0, slots := 0, locals := 21 }
def b_X13_mark_34 (h : Mem) (v0 : Nat) (v1 : Int32) : Option ((Int32 × Mem) ⊕ Mem) :=
  (if 21 ≤ v1 then some (.inr h) else (gR h v0 18 11).bind fun r4 => (gI h v0 20 11).bind fun x5 => (gR h v0 16 11).bind fun r6 => (aI h r6 v1).bind fun x7 => (sI h r4 ((21 * x5) + v1) x7).bind fun h8 => some (.inl ((v1 + 1), h8)))
set_option maxRecDepth 100000 in
set_option maxHeartbeats 4000000 in
theorem wb_X13_mark_34 {G : GE} {X : CX} {l : Launch} (hX : Ok G X cX13_mark RX13) (hN : xn X = 2) {P0 : (Int32 × Mem) → Prop} (hr : Rt G X l yX13_mark (some .int) rm_X13_mark (pmI P0))  (v0 : Nat) {P : ((Int32 × Mem) ⊕ Mem) → Prop} (hc : ∀ s, P (.inl s) → AW G X 34 [(0, vR v0), (1, vI s.1)] [] s.2 0 0) (he0 : ∀ e, P (.inr e) → AW G X 66 [(0, vR v0)] [] e 0 0) (h : Mem) (v1 : Int32) (hy : OK (b_X13_mark_34 h v0 v1) P) : AW G X 34 [(0, vR v0), (1, vI v1)] [] h 0 0 := by
  unfold b_X13_mark_34 at hy
  refine aw_iloadn (pc := 34) hX 1 rfl dX13_mark_34 ?_
  refine aw_bipush (pc := 35) hX 21 (by decide) dX13_mark_35 ?_
  refine aw_ic_ge (pc := 37) hX 66 (by decide) dX13_mark_37 (fun hc9 => ?_) (fun hc9 => ?_)
  · have hy := hy.t hc9
    refine AW.sub [0] rfl ?_
    exact he0 h hy.s
  · have hy := hy.f hc9
    refine aw_aloadn (pc := 40) hX 0 rfl dX13_mark_40 ?_
    refine aw_gR (pc := 41) hX hy fl_X13_24 (fun _ _ => rfl) dX13_mark_41 (fun r4 hy => ?_)
    refine aw_bipush (pc := 44) hX 21 (by decide) dX13_mark_44 ?_
    refine aw_aloadn (pc := 46) hX 0 rfl dX13_mark_46 ?_
    refine aw_gI (pc := 47) hX hy fl_X13_344 (fun _ _ => rfl) dX13_mark_47 (fun x5 hy => ?_)
    refine aw_imul (pc := 50) hX dX13_mark_50 ?_
    refine aw_iloadn (pc := 51) hX 1 rfl dX13_mark_51 ?_
    refine aw_iadd (pc := 52) hX dX13_mark_52 ?_
    refine aw_aloadn (pc := 53) hX 0 rfl dX13_mark_53 ?_
    refine aw_gR (pc := 54) hX hy fl_X13_17 (fun _ _ => rfl) dX13_mark_54 (fun r6 hy => ?_)
    refine aw_iloadn (pc := 57) hX 1 rfl dX13_mark_57 ?_
    refine aw_aI (pc := 58) hX hy dX13_mark_58 (fun x7 hy => ?_)
    refine aw_sI (pc := 59) hX hy dX13_mark_59 (fun h8 hy => ?_)
    refine aw_iinc (pc := 60) hX 1 (by decide) 1 rfl [(1, vI (v1 + 1)), (0, vR v0)] rfl (lt_n hN (by decide)) dX13_mark_60 ?_
    refine aw_goto (pc := 63) hX 34 (by decide) dX13_mark_63 ?_
    refine AW.sub [1, 0] rfl ?_
    exact hc ((v1 + 1), h8) hy.s
theorem wl_X13_mark_34 {G : GE} {X : CX} {l : Launch} (hX : Ok G X cX13_mark RX13) (hN : xn X = 2) {P0 : (Int32 × Mem) → Prop} (hr : Rt G X l yX13_mark (some .int) rm_X13_mark (pmI P0)) (v0 : Nat) {P : (Mem) → Prop} (he0 : ∀ e, P e → AW G X 66 [(0, vR v0)] [] e 0 0) : ∀ (n : Nat) (s : Int32 × Mem), OK (iter (fun (s : Int32 × Mem) => b_X13_mark_34 s.2 v0 s.1) n s) P → AW G X 34 [(0, vR v0), (1, vI s.1)] [] s.2 0 0 := by
  intro n
  induction n with
  | zero => exact fun s hy => hy.it0.elim
  | succ n ih =>
    intro s hy
    exact wb_X13_mark_34 hX hN hr v0 (fun s hs => ih s hs) (fun e hs => he0 e hs) s.2 s.1 hy.it
def f_X13_mark (h : Mem) (v0 : Nat) : Option (Int32 × Mem) :=
  (ck h v0 11).bind fun _ => (pI h v0 0 11 0).bind fun h1 => (gR h1 v0 3 11).bind fun r2 => (if r2 = 0 then (f_X13_refused h1 v0 1).bind fun q21 => some (q21.1, q21.2) else (gI h1 v0 20 11).bind fun x3 => (if x3 = 3 then (f_X13_refused h1 v0 3).bind fun q18 => some (q18.1, q18.2) else (iter (fun (s : Int32 × Mem) => b_X13_mark_34 s.2 v0 s.1) FU (0, h1)).bind (fun q9 => (gI q9 v0 20 11).bind fun x10 => (pI q9 v0 20 11 (x10 + 1)).bind fun h11 => (gI h11 v0 20 11).bind fun x12 => (f_X13_good h11 v0 (x12 - 1)).bind fun q15 => some (q15.1, q15.2))))
set_option maxRecDepth 100000 in
set_option maxHeartbeats 4000000 in
theorem w_X13_mark {G : GE} {X : CX} {l : Launch} (hX : Ok G X cX13_mark RX13) (hN : xn X = 2) {P : (Int32 × Mem) → Prop} (hr : Rt G X l yX13_mark (some .int) rm_X13_mark (pmI P)) (h : Mem) (v0 : Nat) (hy : OK (f_X13_mark h v0) P) : AW G X 0 [(0, vR v0)] [] h 0 0 := by
  unfold f_X13_mark at hy
  have hkd := hy.kd
  have hy := hy.kb
  refine aw_aloadn (pc := 0) hX 0 rfl dX13_mark_0 ?_
  refine aw_iconst (pc := 1) hX 0 (by decide) dX13_mark_1 ?_
  refine aw_pI (pc := 2) hX hy fl_X13_51 rfl (Or.inl rfl) dX13_mark_2 (fun h1 hy => ?_)
  refine aw_aloadn (pc := 5) hX 0 rfl dX13_mark_5 ?_
  refine aw_gR (pc := 6) hX hy fl_X13_338 (fun _ _ => rfl) dX13_mark_6 (fun r2 hy => ?_)
  refine aw_ifnonnull (pc := 9) hX 18 (by decide) dX13_mark_9 (fun hc9 => ?_) (fun hc9 => ?_)
  · have hy := hy.f hc9
    refine aw_aloadn (pc := 18) hX 0 rfl dX13_mark_18 ?_
    refine aw_gI (pc := 19) hX hy fl_X13_344 (fun _ _ => rfl) dX13_mark_19 (fun x3 hy => ?_)
    refine aw_iconst (pc := 22) hX 3 (by decide) dX13_mark_22 ?_
    refine aw_ic_ne (pc := 23) hX 32 (by decide) dX13_mark_23 (fun hc9 => ?_) (fun hc9 => ?_)
    · have hy := hy.f hc9
      refine aw_iconst (pc := 32) hX 0 (by decide) dX13_mark_32 ?_
      refine aw_istoren (pc := 33) hX [(1, vI 0), (0, vR v0)] rfl (lt_n hN (by decide)) dX13_mark_33 ?_
      refine AW.sub [1, 0] rfl ?_
      refine wl_X13_mark_34 hX hN hr v0 ?_ FU (0, h1) hy.bd
      · intro q9 hy
        refine aw_aloadn (pc := 66) hX 0 rfl dX13_mark_66 ?_
        refine aw_dup (pc := 67) hX rfl dX13_mark_67 ?_
        refine aw_gI (pc := 68) hX hy fl_X13_344 (fun _ _ => rfl) dX13_mark_68 (fun x10 hy => ?_)
        refine aw_iconst (pc := 71) hX 1 (by decide) dX13_mark_71 ?_
        refine aw_iadd (pc := 72) hX dX13_mark_72 ?_
        refine aw_pI (pc := 73) hX hy fl_X13_344 rfl (Or.inl rfl) dX13_mark_73 (fun h11 hy => ?_)
        refine aw_aloadn (pc := 76) hX 0 rfl dX13_mark_76 ?_
        refine aw_aloadn (pc := 77) hX 0 rfl dX13_mark_77 ?_
        refine aw_gI (pc := 78) hX hy fl_X13_344 (fun _ _ => rfl) dX13_mark_78 (fun x12 hy => ?_)
        refine aw_iconst (pc := 81) hX 1 (by decide) dX13_mark_81 ?_
        refine aw_isub (pc := 82) hX dX13_mark_82 ?_
        refine aw_callV (pc := 83) (st := []) (a := v0) hX [vI (x12 - 1)] (con_X13_good _ G _ v0 (x12 - 1) hy.bd) mc_X13_good ml_X13_61 im_X13_good se_X13_good (by decide) hy.bd.kd rfl (rm_of hr (by decide)) (Nat.le_of_ble_eq_true rfl) rfl dX13_mark_83 (kmI rfl rfl (fun q15 hy => ?_))
        exact aw_iret (pc := 86) hX hr (by decide) (by decide) dX13_mark_86 ⟨_, rfl, hy.s⟩
    · have hy := hy.t hc9
      refine aw_aloadn (pc := 26) hX 0 rfl dX13_mark_26 ?_
      refine aw_iconst (pc := 27) hX 3 (by decide) dX13_mark_27 ?_
      refine aw_callV (pc := 28) (st := []) (a := v0) hX [vI 3] (con_X13_refused _ G _ v0 3 hy.bd) mc_X13_refused ml_X13_57 im_X13_refused se_X13_refused (by decide) hy.bd.kd rfl (rm_of hr (by decide)) (Nat.le_of_ble_eq_true rfl) rfl dX13_mark_28 (kmI rfl rfl (fun q18 hy => ?_))
      exact aw_iret (pc := 31) hX hr (by decide) (by decide) dX13_mark_31 ⟨_, rfl, hy.s⟩
  · have hy := hy.t hc9
    refine aw_aloadn (pc := 12) hX 0 rfl dX13_mark_12 ?_
    refine aw_iconst (pc := 13) hX 1 (by decide) dX13_mark_13 ?_
    refine aw_callV (pc := 14) (st := []) (a := v0) hX [vI 1] (con_X13_refused _ G _ v0 1 hy.bd) mc_X13_refused ml_X13_57 im_X13_refused se_X13_refused (by decide) hy.bd.kd rfl (rm_of hr (by decide)) (Nat.le_of_ble_eq_true rfl) rfl dX13_mark_14 (kmI rfl rfl (fun q21 hy => ?_))
    exact aw_iret (pc := 17) hX hr (by decide) (by decide) dX13_mark_17 ⟨_, rfl, hy.s⟩
theorem con_X13_mark (l : Launch) (G : GE) (h : Mem) (v0 : Nat) {P : (Int32 × Mem) → Prop} (hy : OK (f_X13_mark h v0) P) : Con l G yX13_mark cX13_mark 2 (some .int) rm_X13_mark [vR v0] h (pmI P) := Con.of (by decide) (Nat.le_of_ble_eq_true rfl) (fun X hX hr hN => w_X13_mark hX hN hr h v0 hy)
/-! X13_back -/
theorem dX13_back_0 : decode cX13_back 0 = .ok (.aload_n 0, 1) := by decide +kernel
theorem dX13_back_1 : decode cX13_back 1 = .ok (.iconst 0, 1) := by decide +kernel
theorem dX13_back_2 : decode cX13_back 2 = .ok (.putfield 51, 3) := by decide +kernel
theorem dX13_back_5 : decode cX13_back 5 = .ok (.aload_n 0, 1) := by decide +kernel
theorem dX13_back_6 : decode cX13_back 6 = .ok (.getfield 338, 3) := by decide +kernel
theorem dX13_back_9 : decode cX13_back 9 = .ok (.ifnull 15, 3) := by decide +kernel
theorem dX13_back_12 : decode cX13_back 12 = .ok (.iload_n 1, 1) := by decide +kernel
theorem dX13_back_13 : decode cX13_back 13 = .ok (.ifCond .lt 11, 3) := by decide +kernel
theorem dX13_back_16 : decode cX13_back 16 = .ok (.iload_n 1, 1) := by decide +kernel
theorem dX13_back_17 : decode cX13_back 17 = .ok (.aload_n 0, 1) := by decide +kernel
theorem dX13_back_18 : decode cX13_back 18 = .ok (.getfield 344, 3) := by decide +kernel
theorem dX13_back_21 : decode cX13_back 21 = .ok (.if_icmp .lt 9, 3) := by decide +kernel
theorem dX13_back_24 : decode cX13_back 24 = .ok (.aload_n 0, 1) := by decide +kernel
theorem dX13_back_25 : decode cX13_back 25 = .ok (.iconst 1, 1) := by decide +kernel
theorem dX13_back_26 : decode cX13_back 26 = .ok (.invokevirtual 539, 3) := by decide +kernel
theorem dX13_back_29 : decode cX13_back 29 = .ok (.ireturn, 1) := by decide +kernel
theorem dX13_back_30 : decode cX13_back 30 = .ok (.iconst 0, 1) := by decide +kernel
theorem dX13_back_31 : decode cX13_back 31 = .ok (.istore_n 2, 1) := by decide +kernel
theorem dX13_back_32 : decode cX13_back 32 = .ok (.iload_n 2, 1) := by decide +kernel
theorem dX13_back_33 : decode cX13_back 33 = .ok (.bipush 21, 2) := by decide +kernel
theorem dX13_back_35 : decode cX13_back 35 = .ok (.if_icmp .ge 26, 3) := by decide +kernel
theorem dX13_back_38 : decode cX13_back 38 = .ok (.aload_n 0, 1) := by decide +kernel
theorem dX13_back_39 : decode cX13_back 39 = .ok (.getfield 17, 3) := by decide +kernel
theorem dX13_back_42 : decode cX13_back 42 = .ok (.iload_n 2, 1) := by decide +kernel
theorem dX13_back_43 : decode cX13_back 43 = .ok (.aload_n 0, 1) := by decide +kernel
theorem dX13_back_44 : decode cX13_back 44 = .ok (.getfield 24, 3) := by decide +kernel
theorem dX13_back_47 : decode cX13_back 47 = .ok (.bipush 21, 2) := by decide +kernel
theorem dX13_back_49 : decode cX13_back 49 = .ok (.iload_n 1, 1) := by decide +kernel
theorem dX13_back_50 : decode cX13_back 50 = .ok (.imul, 1) := by decide +kernel
theorem dX13_back_51 : decode cX13_back 51 = .ok (.iload_n 2, 1) := by decide +kernel
theorem dX13_back_52 : decode cX13_back 52 = .ok (.iadd, 1) := by decide +kernel
theorem dX13_back_53 : decode cX13_back 53 = .ok (.iaload, 1) := by decide +kernel
theorem dX13_back_54 : decode cX13_back 54 = .ok (.iastore, 1) := by decide +kernel
theorem dX13_back_55 : decode cX13_back 55 = .ok (.iinc 2 1, 3) := by decide +kernel
theorem dX13_back_58 : decode cX13_back 58 = .ok (.goto (-26), 3) := by decide +kernel
theorem dX13_back_61 : decode cX13_back 61 = .ok (.aload_n 0, 1) := by decide +kernel
theorem dX13_back_62 : decode cX13_back 62 = .ok (.iconst 0, 1) := by decide +kernel
theorem dX13_back_63 : decode cX13_back 63 = .ok (.putfield 341, 3) := by decide +kernel
theorem dX13_back_66 : decode cX13_back 66 = .ok (.aload_n 0, 1) := by decide +kernel
theorem dX13_back_67 : decode cX13_back 67 = .ok (.invokevirtual 542, 3) := by decide +kernel
theorem dX13_back_70 : decode cX13_back 70 = .ok (.ireturn, 1) := by decide +kernel
abbrev rm_X13_back : Room := { frames := 2, cells := 0, slots := 0, locals := 42 }
def f_X13_back_24 (h : Mem) (v0 : Nat) : Option (Int32 × Mem) :=
  (f_X13_denied h v0 1).bind fun q5 => retZ q5.1 (q5.1, q5.2)
set_option maxRecDepth 100000 in
set_option maxHeartbeats 4000000 in
theorem w_X13_back_24 {G : GE} {X : CX} {l : Launch} (hX : Ok G X cX13_back RX13) (hN : xn X = 3) {P : (Int32 × Mem) → Prop} (hr : Rt G X l yX13_back (some .boolean) rm_X13_back (pmI P)) (h : Mem) (v0 : Nat) (hy : OK (f_X13_back_24 h v0) P) : AW G X 24 [(0, vR v0)] [] h 0 0 := by
  unfold f_X13_back_24 at hy
  refine aw_aloadn (pc := 24) hX 0 rfl dX13_back_24 ?_
  refine aw_iconst (pc := 25) hX 1 (by decide) dX13_back_25 ?_
  refine aw_callV (pc := 26) (st := []) (a := v0) hX [vI 1] (con_X13_denied _ G _ v0 1 hy.bd) mc_X13_denied ml_X13_539 im_X13_denied se_X13_denied (by decide) hy.bd.kd rfl (rm_of hr (by decide)) (Nat.le_of_ble_eq_true rfl) rfl dX13_back_26 (kmI rfl rfl (fun q5 hy => ?_))
  exact aw_zret (pc := 29) hX hr (by decide) (by decide) dX13_back_29 hy.rz.1 ⟨_, rfl, hy.rz.2⟩
def b_X13_back_32 (h : Mem) (v0 : Nat) (v1 : Int32) (v2 : Int32) : Option ((Int32 × Mem) ⊕ Mem) :=
  (if 21 ≤ v2 then some (.inr h) else (gR h v0 16 11).bind fun r7 => (gR h v0 18 11).bind fun r8 => (aI h r8 ((21 * v1) + v2)).bind fun x9 => (sI h r7 v2 x9).bind fun h10 => some (.inl ((v2 + 1), h10)))
set_option maxRecDepth 100000 in
set_option maxHeartbeats 4000000 in
theorem wb_X13_back_32 {G : GE} {X : CX} {l : Launch} (hX : Ok G X cX13_back RX13) (hN : xn X = 3) {P0 : (Int32 × Mem) → Prop} (hr : Rt G X l yX13_back (some .boolean) rm_X13_back (pmI P0))  (v0 : Nat) (v1 : Int32) {P : ((Int32 × Mem) ⊕ Mem) → Prop} (hc : ∀ s, P (.inl s) → AW G X 32 [(0, vR v0), (1, vI v1), (2, vI s.1)] [] s.2 0 0) (he0 : ∀ e, P (.inr e) → AW G X 61 [(0, vR v0)] [] e 0 0) (h : Mem) (v2 : Int32) (hy : OK (b_X13_back_32 h v0 v1 v2) P) : AW G X 32 [(0, vR v0), (1, vI v1), (2, vI v2)] [] h 0 0 := by
  unfold b_X13_back_32 at hy
  refine aw_iloadn (pc := 32) hX 2 rfl dX13_back_32 ?_
  refine aw_bipush (pc := 33) hX 21 (by decide) dX13_back_33 ?_
  refine aw_ic_ge (pc := 35) hX 61 (by decide) dX13_back_35 (fun hc9 => ?_) (fun hc9 => ?_)
  · have hy := hy.t hc9
    refine AW.sub [0] rfl ?_
    exact he0 h hy.s
  · have hy := hy.f hc9
    refine aw_aloadn (pc := 38) hX 0 rfl dX13_back_38 ?_
    refine aw_gR (pc := 39) hX hy fl_X13_17 (fun _ _ => rfl) dX13_back_39 (fun r7 hy => ?_)
    refine aw_iloadn (pc := 42) hX 2 rfl dX13_back_42 ?_
    refine aw_aloadn (pc := 43) hX 0 rfl dX13_back_43 ?_
    refine aw_gR (pc := 44) hX hy fl_X13_24 (fun _ _ => rfl) dX13_back_44 (fun r8 hy => ?_)
    refine aw_bipush (pc := 47) hX 21 (by decide) dX13_back_47 ?_
    refine aw_iloadn (pc := 49) hX 1 rfl dX13_back_49 ?_
    refine aw_imul (pc := 50) hX dX13_back_50 ?_
    refine aw_iloadn (pc := 51) hX 2 rfl dX13_back_51 ?_
    refine aw_iadd (pc := 52) hX dX13_back_52 ?_
    refine aw_aI (pc := 53) hX hy dX13_back_53 (fun x9 hy => ?_)
    refine aw_sI (pc := 54) hX hy dX13_back_54 (fun h10 hy => ?_)
    refine aw_iinc (pc := 55) hX 1 (by decide) 2 rfl [(2, vI (v2 + 1)), (0, vR v0), (1, vI v1)] rfl (lt_n hN (by decide)) dX13_back_55 ?_
    refine aw_goto (pc := 58) hX 32 (by decide) dX13_back_58 ?_
    refine AW.sub [1, 2, 0] rfl ?_
    exact hc ((v2 + 1), h10) hy.s
theorem wl_X13_back_32 {G : GE} {X : CX} {l : Launch} (hX : Ok G X cX13_back RX13) (hN : xn X = 3) {P0 : (Int32 × Mem) → Prop} (hr : Rt G X l yX13_back (some .boolean) rm_X13_back (pmI P0)) (v0 : Nat) (v1 : Int32) {P : (Mem) → Prop} (he0 : ∀ e, P e → AW G X 61 [(0, vR v0)] [] e 0 0) : ∀ (n : Nat) (s : Int32 × Mem), OK (iter (fun (s : Int32 × Mem) => b_X13_back_32 s.2 v0 v1 s.1) n s) P → AW G X 32 [(0, vR v0), (1, vI v1), (2, vI s.1)] [] s.2 0 0 := by
  intro n
  induction n with
  | zero => exact fun s hy => hy.it0.elim
  | succ n ih =>
    intro s hy
    exact wb_X13_back_32 hX hN hr v0 v1 (fun s hs => ih s hs) (fun e hs => he0 e hs) s.2 s.1 hy.it
def f_X13_back (h : Mem) (v0 : Nat) (v1 : Int32) : Option (Int32 × Mem) :=
  (ck h v0 11).bind fun _ => (pI h v0 0 11 0).bind fun h1 => (gR h1 v0 3 11).bind fun r2 => (if r2 = 0 then f_X13_back_24 h1 v0 else (if v1 < 0 then f_X13_back_24 h1 v0 else (gI h1 v0 20 11).bind fun x6 => (if v1 < x6 then (iter (fun (s : Int32 × Mem) => b_X13_back_32 s.2 v0 v1 s.1) FU (0, h1)).bind (fun q11 => (pI q11 v0 19 11 0).bind fun h12 => (f_X13_granted h12 v0).bind fun q15 => retZ q15.1 (q15.1, q15.2)) else f_X13_back_24 h1 v0)))
set_option maxRecDepth 100000 in
set_option maxHeartbeats 4000000 in
theorem w_X13_back {G : GE} {X : CX} {l : Launch} (hX : Ok G X cX13_back RX13) (hN : xn X = 3) {P : (Int32 × Mem) → Prop} (hr : Rt G X l yX13_back (some .boolean) rm_X13_back (pmI P)) (h : Mem) (v0 : Nat) (v1 : Int32) (hy : OK (f_X13_back h v0 v1) P) : AW G X 0 [(0, vR v0), (1, vI v1)] [] h 0 0 := by
  unfold f_X13_back at hy
  have hkd := hy.kd
  have hy := hy.kb
  refine aw_aloadn (pc := 0) hX 0 rfl dX13_back_0 ?_
  refine aw_iconst (pc := 1) hX 0 (by decide) dX13_back_1 ?_
  refine aw_pI (pc := 2) hX hy fl_X13_51 rfl (Or.inl rfl) dX13_back_2 (fun h1 hy => ?_)
  refine aw_aloadn (pc := 5) hX 0 rfl dX13_back_5 ?_
  refine aw_gR (pc := 6) hX hy fl_X13_338 (fun _ _ => rfl) dX13_back_6 (fun r2 hy => ?_)
  refine aw_ifnull (pc := 9) hX 24 (by decide) dX13_back_9 (fun hc9 => ?_) (fun hc9 => ?_)
  · have hy := hy.t hc9
    refine AW.sub [0] rfl ?_
    exact w_X13_back_24 hX hN hr h1 v0 hy
  · have hy := hy.f hc9
    refine aw_iloadn (pc := 12) hX 1 rfl dX13_back_12 ?_
    refine aw_if_lt (pc := 13) hX 24 (by decide) dX13_back_13 (fun hc9 => ?_) (fun hc9 => ?_)
    · have hy := hy.t hc9
      refine AW.sub [0] rfl ?_
      exact w_X13_back_24 hX hN hr h1 v0 hy
    · have hy := hy.f hc9
      refine aw_iloadn (pc := 16) hX 1 rfl dX13_back_16 ?_
      refine aw_aloadn (pc := 17) hX 0 rfl dX13_back_17 ?_
      refine aw_gI (pc := 18) hX hy fl_X13_344 (fun _ _ => rfl) dX13_back_18 (fun x6 hy => ?_)
      refine aw_ic_lt (pc := 21) hX 30 (by decide) dX13_back_21 (fun hc9 => ?_) (fun hc9 => ?_)
      · have hy := hy.t hc9
        refine aw_iconst (pc := 30) hX 0 (by decide) dX13_back_30 ?_
        refine aw_istoren (pc := 31) hX [(2, vI 0), (0, vR v0), (1, vI v1)] rfl (lt_n hN (by decide)) dX13_back_31 ?_
        refine AW.sub [1, 2, 0] rfl ?_
        refine wl_X13_back_32 hX hN hr v0 v1 ?_ FU (0, h1) hy.bd
        · intro q11 hy
          refine aw_aloadn (pc := 61) hX 0 rfl dX13_back_61 ?_
          refine aw_iconst (pc := 62) hX 0 (by decide) dX13_back_62 ?_
          refine aw_pI (pc := 63) hX hy fl_X13_341 rfl (Or.inl rfl) dX13_back_63 (fun h12 hy => ?_)
          refine aw_aloadn (pc := 66) hX 0 rfl dX13_back_66 ?_
          refine aw_callV (pc := 67) (st := []) (a := v0) hX [] (con_X13_granted _ G _ v0 hy.bd) mc_X13_granted ml_X13_542 im_X13_granted se_X13_granted (by decide) hy.bd.kd rfl (rm_of hr (by decide)) (Nat.le_of_ble_eq_true rfl) rfl dX13_back_67 (kmI rfl rfl (fun q15 hy => ?_))
          exact aw_zret (pc := 70) hX hr (by decide) (by decide) dX13_back_70 hy.rz.1 ⟨_, rfl, hy.rz.2⟩
      · have hy := hy.f hc9
        refine AW.sub [0] rfl ?_
        exact w_X13_back_24 hX hN hr h1 v0 hy
theorem con_X13_back (l : Launch) (G : GE) (h : Mem) (v0 : Nat) (v1 : Int32) {P : (Int32 × Mem) → Prop} (hy : OK (f_X13_back h v0 v1) P) : Con l G yX13_back cX13_back 3 (some .boolean) rm_X13_back [vR v0, vI v1] h (pmI P) := Con.of (by decide) (Nat.le_of_ble_eq_true rfl) (fun X hX hr hN => w_X13_back hX hN hr h v0 v1 hy)
/-! X13_led -/
theorem dX13_led_0 : decode cX13_led 0 = .ok (.aload_n 0, 1) := by decide +kernel
theorem dX13_led_1 : decode cX13_led 1 = .ok (.iconst 0, 1) := by decide +kernel
theorem dX13_led_2 : decode cX13_led 2 = .ok (.putfield 51, 3) := by decide +kernel
theorem dX13_led_5 : decode cX13_led 5 = .ok (.iconst 0, 1) := by decide +kernel
theorem dX13_led_6 : decode cX13_led 6 = .ok (.istore_n 2, 1) := by decide +kernel
theorem dX13_led_7 : decode cX13_led 7 = .ok (.iconst 0, 1) := by decide +kernel
theorem dX13_led_8 : decode cX13_led 8 = .ok (.istore_n 3, 1) := by decide +kernel
theorem dX13_led_9 : decode cX13_led 9 = .ok (.aload_n 0, 1) := by decide +kernel
theorem dX13_led_10 : decode cX13_led 10 = .ok (.getfield 338, 3) := by decide +kernel
theorem dX13_led_13 : decode cX13_led 13 = .ok (.ifnull 45, 3) := by decide +kernel
theorem dX13_led_16 : decode cX13_led 16 = .ok (.iload_n 3, 1) := by decide +kernel
theorem dX13_led_17 : decode cX13_led 17 = .ok (.aload_n 0, 1) := by decide +kernel
theorem dX13_led_18 : decode cX13_led 18 = .ok (.getfield 338, 3) := by decide +kernel
theorem dX13_led_21 : decode cX13_led 21 = .ok (.getfield 306, 3) := by decide +kernel
theorem dX13_led_24 : decode cX13_led 24 = .ok (.if_icmp .ge 34, 3) := by decide +kernel
theorem dX13_led_27 : decode cX13_led 27 = .ok (.aload_n 0, 1) := by decide +kernel
theorem dX13_led_28 : decode cX13_led 28 = .ok (.getfield 17, 3) := by decide +kernel
theorem dX13_led_31 : decode cX13_led 31 = .ok (.bipush 12, 2) := by decide +kernel
theorem dX13_led_33 : decode cX13_led 33 = .ok (.iload_n 3, 1) := by decide +kernel
theorem dX13_led_34 : decode cX13_led 34 = .ok (.iadd, 1) := by decide +kernel
theorem dX13_led_35 : decode cX13_led 35 = .ok (.iaload, 1) := by decide +kernel
theorem dX13_led_36 : decode cX13_led 36 = .ok (.ifCond .ne 6, 3) := by decide +kernel
theorem dX13_led_39 : decode cX13_led 39 = .ok (.goto 13, 3) := by decide +kernel
theorem dX13_led_42 : decode cX13_led 42 = .ok (.iload_n 2, 1) := by decide +kernel
theorem dX13_led_43 : decode cX13_led 43 = .ok (.iload_n 1, 1) := by decide +kernel
theorem dX13_led_44 : decode cX13_led 44 = .ok (.if_icmp .ne 5, 3) := by decide +kernel
theorem dX13_led_47 : decode cX13_led 47 = .ok (.iload_n 3, 1) := by decide +kernel
theorem dX13_led_48 : decode cX13_led 48 = .ok (.ireturn, 1) := by decide +kernel
theorem dX13_led_49 : decode cX13_led 49 = .ok (.iinc 2 1, 3) := by decide +kernel
theorem dX13_led_52 : decode cX13_led 52 = .ok (.iinc 3 1, 3) := by decide +kernel
theorem dX13_led_55 : decode cX13_led 55 = .ok (.goto (-46), 3) := by decide +kernel
theorem dX13_led_58 : decode cX13_led 58 = .ok (.aload_n 0, 1) := by decide +kernel
theorem dX13_led_59 : decode cX13_led 59 = .ok (.iconst 1, 1) := by decide +kernel
theorem dX13_led_60 : decode cX13_led 60 = .ok (.putfield 51, 3) := by decide +kernel
theorem dX13_led_63 : decode cX13_led 63 = .ok (.iconst 0, 1) := by decide +kernel
theorem dX13_led_64 : decode cX13_led 64 = .ok (.ireturn, 1) := by decide +kernel
abbrev rm_X13_led : Room := { frames := 0, cells := 0, slots := 0, locals := 0 }
def f_X13_led_52 (h : Mem) (v0 : Nat) (v1 : Int32) (v2 : Int32) (v3 : Int32) : Option ((Int32 × Int32) ⊕ (Int32 ⊕ Unit)) :=
  some (.inl (v2, (v3 + 1)))
set_option maxRecDepth 100000 in
set_option maxHeartbeats 4000000 in
theorem w_X13_led_52 {G : GE} {X : CX} {l : Launch} (hX : Ok G X cX13_led RX13) (hN : xn X = 4) {P0 : (Int32 × Mem) → Prop} (hr : Rt G X l yX13_led (some .int) rm_X13_led (pmI P0)) (h : Mem)  (v0 : Nat) (v1 : Int32) {P : ((Int32 × Int32) ⊕ (Int32 ⊕ Unit)) → Prop} (hc : ∀ s, P (.inl s) → AW G X 9 [(0, vR v0), (1, vI v1), (2, vI s.1), (3, vI s.2)] [] h 0 0) (he0 : ∀ e, P (.inr (.inl e)) → AW G X 47 [(3, vI e)] [] h 0 0) (he1 : ∀ e, P (.inr (.inr e)) → AW G X 58 [(0, vR v0)] [] h 0 0) (v2 : Int32) (v3 : Int32) (hy : OK (f_X13_led_52 h v0 v1 v2 v3) P) : AW G X 52 [(0, vR v0), (1, vI v1), (2, vI v2), (3, vI v3)] [] h 0 0 := by
  unfold f_X13_led_52 at hy
  refine aw_iinc (pc := 52) hX 1 (by decide) 3 rfl [(3, vI (v3 + 1)), (0, vR v0), (1, vI v1), (2, vI v2)] rfl (lt_n hN (by decide)) dX13_led_52 ?_
  refine aw_goto (pc := 55) hX 9 (by decide) dX13_led_55 ?_
  refine AW.sub [1, 2, 3, 0] rfl ?_
  exact hc (v2, (v3 + 1)) hy.s
def b_X13_led_9 (h : Mem) (v0 : Nat) (v1 : Int32) (v2 : Int32) (v3 : Int32) : Option ((Int32 × Int32) ⊕ (Int32 ⊕ Unit)) :=
  (gR h v0 3 11).bind fun r2 => (if r2 = 0 then some (.inr (.inr ())) else (gR h v0 3 11).bind fun r3 => (gI h r3 6 10).bind fun x4 => (if x4 ≤ v3 then some (.inr (.inr ())) else (gR h v0 16 11).bind fun r5 => (aI h r5 (12 + v3)).bind fun x6 => (if x6 = 0 then f_X13_led_52 h v0 v1 v2 v3 else (if v2 = v1 then some (.inr (.inl v3)) else f_X13_led_52 h v0 v1 (v2 + 1) v3))))
set_option maxRecDepth 100000 in
set_option maxHeartbeats 4000000 in
theorem wb_X13_led_9 {G : GE} {X : CX} {l : Launch} (hX : Ok G X cX13_led RX13) (hN : xn X = 4) {P0 : (Int32 × Mem) → Prop} (hr : Rt G X l yX13_led (some .int) rm_X13_led (pmI P0)) (h : Mem)  (v0 : Nat) (v1 : Int32) {P : ((Int32 × Int32) ⊕ (Int32 ⊕ Unit)) → Prop} (hc : ∀ s, P (.inl s) → AW G X 9 [(0, vR v0), (1, vI v1), (2, vI s.1), (3, vI s.2)] [] h 0 0) (he0 : ∀ e, P (.inr (.inl e)) → AW G X 47 [(3, vI e)] [] h 0 0) (he1 : ∀ e, P (.inr (.inr e)) → AW G X 58 [(0, vR v0)] [] h 0 0) (v2 : Int32) (v3 : Int32) (hy : OK (b_X13_led_9 h v0 v1 v2 v3) P) : AW G X 9 [(0, vR v0), (1, vI v1), (2, vI v2), (3, vI v3)] [] h 0 0 := by
  unfold b_X13_led_9 at hy
  refine aw_aloadn (pc := 9) hX 0 rfl dX13_led_9 ?_
  refine aw_gR (pc := 10) hX hy fl_X13_338 (fun _ _ => rfl) dX13_led_10 (fun r2 hy => ?_)
  refine aw_ifnull (pc := 13) hX 58 (by decide) dX13_led_13 (fun hc9 => ?_) (fun hc9 => ?_)
  · have hy := hy.t hc9
    refine AW.sub [0] rfl ?_
    exact he1 () hy.s
  · have hy := hy.f hc9
    refine aw_iloadn (pc := 16) hX 3 rfl dX13_led_16 ?_
    refine aw_aloadn (pc := 17) hX 0 rfl dX13_led_17 ?_
    refine aw_gR (pc := 18) hX hy fl_X13_338 (fun _ _ => rfl) dX13_led_18 (fun r3 hy => ?_)
    refine aw_gI (pc := 21) hX hy fl_X13_306 (fun _ _ => rfl) dX13_led_21 (fun x4 hy => ?_)
    refine aw_ic_ge (pc := 24) hX 58 (by decide) dX13_led_24 (fun hc9 => ?_) (fun hc9 => ?_)
    · have hy := hy.t hc9
      refine AW.sub [0] rfl ?_
      exact he1 () hy.s
    · have hy := hy.f hc9
      refine aw_aloadn (pc := 27) hX 0 rfl dX13_led_27 ?_
      refine aw_gR (pc := 28) hX hy fl_X13_17 (fun _ _ => rfl) dX13_led_28 (fun r5 hy => ?_)
      refine aw_bipush (pc := 31) hX 12 (by decide) dX13_led_31 ?_
      refine aw_iloadn (pc := 33) hX 3 rfl dX13_led_33 ?_
      refine aw_iadd (pc := 34) hX dX13_led_34 ?_
      refine aw_aI (pc := 35) hX hy dX13_led_35 (fun x6 hy => ?_)
      refine aw_if_ne (pc := 36) hX 42 (by decide) dX13_led_36 (fun hc9 => ?_) (fun hc9 => ?_)
      · have hy := hy.f hc9
        refine aw_iloadn (pc := 42) hX 2 rfl dX13_led_42 ?_
        refine aw_iloadn (pc := 43) hX 1 rfl dX13_led_43 ?_
        refine aw_ic_ne (pc := 44) hX 49 (by decide) dX13_led_44 (fun hc9 => ?_) (fun hc9 => ?_)
        · have hy := hy.f hc9
          refine aw_iinc (pc := 49) hX 1 (by decide) 2 rfl [(2, vI (v2 + 1)), (0, vR v0), (1, vI v1), (3, vI v3)] rfl (lt_n hN (by decide)) dX13_led_49 ?_
          refine AW.sub [1, 2, 0, 3] rfl ?_
          exact w_X13_led_52 hX hN hr _ _ _ hc he0 he1 (v2 + 1) v3 hy
        · have hy := hy.t hc9
          refine AW.sub [3] rfl ?_
          exact he0 v3 hy.s
      · have hy := hy.t hc9
        refine aw_goto (pc := 39) hX 52 (by decide) dX13_led_39 ?_
        exact w_X13_led_52 hX hN hr _ _ _ hc he0 he1 v2 v3 hy
theorem wl_X13_led_9 {G : GE} {X : CX} {l : Launch} (hX : Ok G X cX13_led RX13) (hN : xn X = 4) {P0 : (Int32 × Mem) → Prop} (hr : Rt G X l yX13_led (some .int) rm_X13_led (pmI P0)) (h : Mem) (v0 : Nat) (v1 : Int32) {P : (Int32 ⊕ Unit) → Prop} (he0 : ∀ e, P (.inl e) → AW G X 47 [(3, vI e)] [] h 0 0) (he1 : ∀ e, P (.inr e) → AW G X 58 [(0, vR v0)] [] h 0 0) : ∀ (n : Nat) (s : Int32 × Int32), OK (iter (fun (s : Int32 × Int32) => b_X13_led_9 h v0 v1 s.1 s.2) n s) P → AW G X 9 [(0, vR v0), (1, vI v1), (2, vI s.1), (3, vI s.2)] [] h 0 0 := by
  intro n
  induction n with
  | zero => exact fun s hy => hy.it0.elim
  | succ n ih =>
    intro s hy
    exact wb_X13_led_9 hX hN hr h v0 v1 (fun s hs => ih s hs) (fun e hs => he0 e hs) (fun e hs => he1 e hs) s.1 s.2 hy.it
def f_X13_led (h : Mem) (v0 : Nat) (v1 : Int32) : Option (Int32 × Mem) :=
  (ck h v0 11).bind fun _ => (pI h v0 0 11 0).bind fun h1 => (iter (fun (s : Int32 × Int32) => b_X13_led_9 h1 v0 v1 s.1 s.2) FU (0, 0)).bind (Sum.elim (fun e8 => some (e8, h1)) (fun e9 => (pI h1 v0 0 11 1).bind fun h10 => some (0, h10)))
set_option maxRecDepth 100000 in
set_option maxHeartbeats 4000000 in
theorem w_X13_led {G : GE} {X : CX} {l : Launch} (hX : Ok G X cX13_led RX13) (hN : xn X = 4) {P : (Int32 × Mem) → Prop} (hr : Rt G X l yX13_led (some .int) rm_X13_led (pmI P)) (h : Mem) (v0 : Nat) (v1 : Int32) (hy : OK (f_X13_led h v0 v1) P) : AW G X 0 [(0, vR v0), (1, vI v1)] [] h 0 0 := by
  unfold f_X13_led at hy
  have hkd := hy.kd
  have hy := hy.kb
  refine aw_aloadn (pc := 0) hX 0 rfl dX13_led_0 ?_
  refine aw_iconst (pc := 1) hX 0 (by decide) dX13_led_1 ?_
  refine aw_pI (pc := 2) hX hy fl_X13_51 rfl (Or.inl rfl) dX13_led_2 (fun h1 hy => ?_)
  refine aw_iconst (pc := 5) hX 0 (by decide) dX13_led_5 ?_
  refine aw_istoren (pc := 6) hX [(2, vI 0), (0, vR v0), (1, vI v1)] rfl (lt_n hN (by decide)) dX13_led_6 ?_
  refine aw_iconst (pc := 7) hX 0 (by decide) dX13_led_7 ?_
  refine aw_istoren (pc := 8) hX [(3, vI 0), (2, vI 0), (0, vR v0), (1, vI v1)] rfl (lt_n hN (by decide)) dX13_led_8 ?_
  refine AW.sub [2, 3, 1, 0] rfl ?_
  refine wl_X13_led_9 hX hN hr _ v0 v1 ?_ ?_ FU (0, 0) hy.bd
  · intro e8 hy
    refine aw_iloadn (pc := 47) hX 0 rfl dX13_led_47 ?_
    exact aw_iret (pc := 48) hX hr (by decide) (by decide) dX13_led_48 ⟨_, rfl, hy.s⟩
  · intro e9 hy
    refine aw_aloadn (pc := 58) hX 0 rfl dX13_led_58 ?_
    refine aw_iconst (pc := 59) hX 1 (by decide) dX13_led_59 ?_
    refine aw_pI (pc := 60) hX hy fl_X13_51 rfl (Or.inl rfl) dX13_led_60 (fun h10 hy => ?_)
    refine aw_iconst (pc := 63) hX 0 (by decide) dX13_led_63 ?_
    exact aw_iret (pc := 64) hX hr (by decide) (by decide) dX13_led_64 ⟨_, rfl, hy.s⟩
theorem con_X13_led (l : Launch) (G : GE) (h : Mem) (v0 : Nat) (v1 : Int32) {P : (Int32 × Mem) → Prop} (hy : OK (f_X13_led h v0 v1) P) : Con l G yX13_led cX13_led 4 (some .int) rm_X13_led [vR v0, vI v1] h (pmI P) := Con.of (by decide) (Nat.le_of_ble_eq_true rfl) (fun X hX hr hN => w_X13_led hX hN hr h v0 v1 hy)
/-! X13_size -/
theorem dX13_size_0 : decode cX13_size 0 = .ok (.aload_n 0, 1) := by decide +kernel
theorem dX13_size_1 : decode cX13_size 1 = .ok (.iconst 0, 1) := by decide +kernel
theorem dX13_size_2 : decode cX13_size 2 = .ok (.putfield 51, 3) := by decide +kernel
theorem dX13_size_5 : decode cX13_size 5 = .ok (.iload_n 1, 1) := by decide +kernel
theorem dX13_size_6 : decode cX13_size 6 = .ok (.bipush 12, 2) := by decide +kernel
theorem dX13_size_8 : decode cX13_size 8 = .ok (.if_icmp .ne 8, 3) := by decide +kernel
theorem dX13_size_11 : decode cX13_size 11 = .ok (.aload_n 0, 1) := by decide +kernel
theorem dX13_size_12 : decode cX13_size 12 = .ok (.getfield 331, 3) := by decide +kernel
theorem dX13_size_15 : decode cX13_size 15 = .ok (.ireturn, 1) := by decide +kernel
theorem dX13_size_16 : decode cX13_size 16 = .ok (.iload_n 1, 1) := by decide +kernel
theorem dX13_size_17 : decode cX13_size 17 = .ok (.iconst 0, 1) := by decide +kernel
theorem dX13_size_18 : decode cX13_size 18 = .ok (.bipush 11, 2) := by decide +kernel
theorem dX13_size_20 : decode cX13_size 20 = .ok (.invokestatic 129, 3) := by decide +kernel
theorem dX13_size_23 : decode cX13_size 23 = .ok (.ifCond .ne 5, 3) := by decide +kernel
theorem dX13_size_26 : decode cX13_size 26 = .ok (.iconst (-1), 1) := by decide +kernel
theorem dX13_size_27 : decode cX13_size 27 = .ok (.ireturn, 1) := by decide +kernel
theorem dX13_size_28 : decode cX13_size 28 = .ok (.aload_n 0, 1) := by decide +kernel
theorem dX13_size_29 : decode cX13_size 29 = .ok (.getfield 338, 3) := by decide +kernel
theorem dX13_size_32 : decode cX13_size 32 = .ok (.ifnonnull 5, 3) := by decide +kernel
theorem dX13_size_35 : decode cX13_size 35 = .ok (.iconst 0, 1) := by decide +kernel
theorem dX13_size_36 : decode cX13_size 36 = .ok (.ireturn, 1) := by decide +kernel
theorem dX13_size_37 : decode cX13_size 37 = .ok (.iload_n 1, 1) := by decide +kernel
theorem dX13_size_38 : decode cX13_size 38 = .ok (.tableswitch 143 0 10 #[58, 66, 74, 82, 90, 98, 106, 114, 122, 130, 138], 58) := by decide +kernel
theorem dX13_size_96 : decode cX13_size 96 = .ok (.aload_n 0, 1) := by decide +kernel
theorem dX13_size_97 : decode cX13_size 97 = .ok (.getfield 338, 3) := by decide +kernel
theorem dX13_size_100 : decode cX13_size 100 = .ok (.getfield 162, 3) := by decide +kernel
theorem dX13_size_103 : decode cX13_size 103 = .ok (.ireturn, 1) := by decide +kernel
theorem dX13_size_104 : decode cX13_size 104 = .ok (.aload_n 0, 1) := by decide +kernel
theorem dX13_size_105 : decode cX13_size 105 = .ok (.getfield 338, 3) := by decide +kernel
theorem dX13_size_108 : decode cX13_size 108 = .ok (.getfield 239, 3) := by decide +kernel
theorem dX13_size_111 : decode cX13_size 111 = .ok (.ireturn, 1) := by decide +kernel
theorem dX13_size_112 : decode cX13_size 112 = .ok (.aload_n 0, 1) := by decide +kernel
theorem dX13_size_113 : decode cX13_size 113 = .ok (.getfield 338, 3) := by decide +kernel
theorem dX13_size_116 : decode cX13_size 116 = .ok (.getfield 197, 3) := by decide +kernel
theorem dX13_size_119 : decode cX13_size 119 = .ok (.ireturn, 1) := by decide +kernel
theorem dX13_size_120 : decode cX13_size 120 = .ok (.aload_n 0, 1) := by decide +kernel
theorem dX13_size_121 : decode cX13_size 121 = .ok (.getfield 338, 3) := by decide +kernel
theorem dX13_size_124 : decode cX13_size 124 = .ok (.getfield 256, 3) := by decide +kernel
theorem dX13_size_127 : decode cX13_size 127 = .ok (.ireturn, 1) := by decide +kernel
theorem dX13_size_128 : decode cX13_size 128 = .ok (.aload_n 0, 1) := by decide +kernel
theorem dX13_size_129 : decode cX13_size 129 = .ok (.getfield 338, 3) := by decide +kernel
theorem dX13_size_132 : decode cX13_size 132 = .ok (.getfield 284, 3) := by decide +kernel
theorem dX13_size_135 : decode cX13_size 135 = .ok (.ireturn, 1) := by decide +kernel
theorem dX13_size_136 : decode cX13_size 136 = .ok (.aload_n 0, 1) := by decide +kernel
theorem dX13_size_137 : decode cX13_size 137 = .ok (.getfield 338, 3) := by decide +kernel
theorem dX13_size_140 : decode cX13_size 140 = .ok (.getfield 287, 3) := by decide +kernel
theorem dX13_size_143 : decode cX13_size 143 = .ok (.ireturn, 1) := by decide +kernel
theorem dX13_size_144 : decode cX13_size 144 = .ok (.aload_n 0, 1) := by decide +kernel
theorem dX13_size_145 : decode cX13_size 145 = .ok (.getfield 338, 3) := by decide +kernel
theorem dX13_size_148 : decode cX13_size 148 = .ok (.getfield 306, 3) := by decide +kernel
theorem dX13_size_151 : decode cX13_size 151 = .ok (.ireturn, 1) := by decide +kernel
theorem dX13_size_152 : decode cX13_size 152 = .ok (.aload_n 0, 1) := by decide +kernel
theorem dX13_size_153 : decode cX13_size 153 = .ok (.getfield 338, 3) := by decide +kernel
theorem dX13_size_156 : decode cX13_size 156 = .ok (.getfield 317, 3) := by decide +kernel
theorem dX13_size_159 : decode cX13_size 159 = .ok (.ireturn, 1) := by decide +kernel
theorem dX13_size_160 : decode cX13_size 160 = .ok (.aload_n 0, 1) := by decide +kernel
theorem dX13_size_161 : decode cX13_size 161 = .ok (.getfield 338, 3) := by decide +kernel
theorem dX13_size_164 : decode cX13_size 164 = .ok (.getfield 326, 3) := by decide +kernel
theorem dX13_size_167 : decode cX13_size 167 = .ok (.ireturn, 1) := by decide +kernel
theorem dX13_size_168 : decode cX13_size 168 = .ok (.aload_n 0, 1) := by decide +kernel
theorem dX13_size_169 : decode cX13_size 169 = .ok (.getfield 17, 3) := by decide +kernel
theorem dX13_size_172 : decode cX13_size 172 = .ok (.bipush 20, 2) := by decide +kernel
theorem dX13_size_174 : decode cX13_size 174 = .ok (.iaload, 1) := by decide +kernel
theorem dX13_size_175 : decode cX13_size 175 = .ok (.ireturn, 1) := by decide +kernel
theorem dX13_size_176 : decode cX13_size 176 = .ok (.aload_n 0, 1) := by decide +kernel
theorem dX13_size_177 : decode cX13_size 177 = .ok (.getfield 341, 3) := by decide +kernel
theorem dX13_size_180 : decode cX13_size 180 = .ok (.ireturn, 1) := by decide +kernel
theorem dX13_size_181 : decode cX13_size 181 = .ok (.aload_n 0, 1) := by decide +kernel
theorem dX13_size_182 : decode cX13_size 182 = .ok (.getfield 344, 3) := by decide +kernel
theorem dX13_size_185 : decode cX13_size 185 = .ok (.ireturn, 1) := by decide +kernel
abbrev rm_X13_size : Room := { frames := 1, cells := 0, slots := 0, locals := 22 }
def f_X13_size (h : Mem) (v0 : Nat) (v1 : Int32) : Option (Int32 × Mem) :=
  (ck h v0 11).bind fun _ => (pI h v0 0 11 0).bind fun h1 => (if v1 = 12 then (gI h1 v0 6 11).bind fun x26 => some (x26, h1) else (f_X13_in h1 v1 0 11).bind fun x2 => (if x2 = 0 then some ((-1), h1) else (gR h1 v0 3 11).bind fun r3 => (if r3 = 0 then some (0, h1) else (if v1 = 0 then (gR h1 v0 3 11).bind fun r4 => (gI h1 r4 0 10).bind fun x5 => some (x5, h1) else if v1 = 1 then (gR h1 v0 3 11).bind fun r6 => (gI h1 r6 1 10).bind fun x7 => some (x7, h1) else if v1 = 2 then (gR h1 v0 3 11).bind fun r8 => (gI h1 r8 2 10).bind fun x9 => some (x9, h1) else if v1 = 3 then (gR h1 v0 3 11).bind fun r10 => (gI h1 r10 3 10).bind fun x11 => some (x11, h1) else if v1 = 4 then (gR h1 v0 3 11).bind fun r12 => (gI h1 r12 4 10).bind fun x13 => some (x13, h1) else if v1 = 5 then (gR h1 v0 3 11).bind fun r14 => (gI h1 r14 5 10).bind fun x15 => some (x15, h1) else if v1 = 6 then (gR h1 v0 3 11).bind fun r16 => (gI h1 r16 6 10).bind fun x17 => some (x17, h1) else if v1 = 7 then (gR h1 v0 3 11).bind fun r18 => (gI h1 r18 7 10).bind fun x19 => some (x19, h1) else if v1 = 8 then (gR h1 v0 3 11).bind fun r20 => (gI h1 r20 8 10).bind fun x21 => some (x21, h1) else if v1 = 9 then (gR h1 v0 16 11).bind fun r22 => (aI h1 r22 20).bind fun x23 => some (x23, h1) else if v1 = 10 then (gI h1 v0 19 11).bind fun x24 => some (x24, h1) else (gI h1 v0 20 11).bind fun x25 => some (x25, h1)))))
set_option maxRecDepth 100000 in
set_option maxHeartbeats 4000000 in
theorem w_X13_size {G : GE} {X : CX} {l : Launch} (hX : Ok G X cX13_size RX13) (hN : xn X = 2) {P : (Int32 × Mem) → Prop} (hr : Rt G X l yX13_size (some .int) rm_X13_size (pmI P)) (h : Mem) (v0 : Nat) (v1 : Int32) (hy : OK (f_X13_size h v0 v1) P) : AW G X 0 [(0, vR v0), (1, vI v1)] [] h 0 0 := by
  unfold f_X13_size at hy
  have hkd := hy.kd
  have hy := hy.kb
  refine aw_aloadn (pc := 0) hX 0 rfl dX13_size_0 ?_
  refine aw_iconst (pc := 1) hX 0 (by decide) dX13_size_1 ?_
  refine aw_pI (pc := 2) hX hy fl_X13_51 rfl (Or.inl rfl) dX13_size_2 (fun h1 hy => ?_)
  refine aw_iloadn (pc := 5) hX 1 rfl dX13_size_5 ?_
  refine aw_bipush (pc := 6) hX 12 (by decide) dX13_size_6 ?_
  refine aw_ic_ne (pc := 8) hX 16 (by decide) dX13_size_8 (fun hc9 => ?_) (fun hc9 => ?_)
  · have hy := hy.f hc9
    refine aw_iloadn (pc := 16) hX 1 rfl dX13_size_16 ?_
    refine aw_iconst (pc := 17) hX 0 (by decide) dX13_size_17 ?_
    refine aw_bipush (pc := 18) hX 11 (by decide) dX13_size_18 ?_
    refine aw_callS (pc := 20) (st := []) hX [vI v1, vI 0, vI 11] (con_X13_in _ G _ v1 0 11 hy.bd) mc_X13_in ml_X13_129 st_X13_in rfl (rm_of hr (by decide)) (Nat.le_of_ble_eq_true rfl) rfl dX13_size_20 (kpI rfl rfl (fun x2 hy => ?_))
    refine aw_if_ne (pc := 23) hX 28 (by decide) dX13_size_23 (fun hc9 => ?_) (fun hc9 => ?_)
    · have hy := hy.f hc9
      refine aw_aloadn (pc := 28) hX 0 rfl dX13_size_28 ?_
      refine aw_gR (pc := 29) hX hy fl_X13_338 (fun _ _ => rfl) dX13_size_29 (fun r3 hy => ?_)
      refine aw_ifnonnull (pc := 32) hX 37 (by decide) dX13_size_32 (fun hc9 => ?_) (fun hc9 => ?_)
      · have hy := hy.f hc9
        refine aw_iloadn (pc := 37) hX 1 rfl dX13_size_37 ?_
        rcases Decidable.em (v1 = 0) with hc9 | hn0
        · have hy := hy.t hc9
          refine aw_tin (pc := 38) hX 96 (by rw [hc9]; decide) (by rw [hc9]; decide) (by rw [hc9]; rfl) (by decide) dX13_size_38 ?_
          refine aw_aloadn (pc := 96) hX 0 rfl dX13_size_96 ?_
          refine aw_gR (pc := 97) hX hy fl_X13_338 (fun _ _ => rfl) dX13_size_97 (fun r4 hy => ?_)
          refine aw_gI (pc := 100) hX hy fl_X13_162 (fun _ _ => rfl) dX13_size_100 (fun x5 hy => ?_)
          exact aw_iret (pc := 103) hX hr (by decide) (by decide) dX13_size_103 ⟨_, rfl, hy.s⟩
        have hy := hy.f hn0
        rcases Decidable.em (v1 = 1) with hc9 | hn1
        · have hy := hy.t hc9
          refine aw_tin (pc := 38) hX 104 (by rw [hc9]; decide) (by rw [hc9]; decide) (by rw [hc9]; rfl) (by decide) dX13_size_38 ?_
          refine aw_aloadn (pc := 104) hX 0 rfl dX13_size_104 ?_
          refine aw_gR (pc := 105) hX hy fl_X13_338 (fun _ _ => rfl) dX13_size_105 (fun r6 hy => ?_)
          refine aw_gI (pc := 108) hX hy fl_X13_239 (fun _ _ => rfl) dX13_size_108 (fun x7 hy => ?_)
          exact aw_iret (pc := 111) hX hr (by decide) (by decide) dX13_size_111 ⟨_, rfl, hy.s⟩
        have hy := hy.f hn1
        rcases Decidable.em (v1 = 2) with hc9 | hn2
        · have hy := hy.t hc9
          refine aw_tin (pc := 38) hX 112 (by rw [hc9]; decide) (by rw [hc9]; decide) (by rw [hc9]; rfl) (by decide) dX13_size_38 ?_
          refine aw_aloadn (pc := 112) hX 0 rfl dX13_size_112 ?_
          refine aw_gR (pc := 113) hX hy fl_X13_338 (fun _ _ => rfl) dX13_size_113 (fun r8 hy => ?_)
          refine aw_gI (pc := 116) hX hy fl_X13_197 (fun _ _ => rfl) dX13_size_116 (fun x9 hy => ?_)
          exact aw_iret (pc := 119) hX hr (by decide) (by decide) dX13_size_119 ⟨_, rfl, hy.s⟩
        have hy := hy.f hn2
        rcases Decidable.em (v1 = 3) with hc9 | hn3
        · have hy := hy.t hc9
          refine aw_tin (pc := 38) hX 120 (by rw [hc9]; decide) (by rw [hc9]; decide) (by rw [hc9]; rfl) (by decide) dX13_size_38 ?_
          refine aw_aloadn (pc := 120) hX 0 rfl dX13_size_120 ?_
          refine aw_gR (pc := 121) hX hy fl_X13_338 (fun _ _ => rfl) dX13_size_121 (fun r10 hy => ?_)
          refine aw_gI (pc := 124) hX hy fl_X13_256 (fun _ _ => rfl) dX13_size_124 (fun x11 hy => ?_)
          exact aw_iret (pc := 127) hX hr (by decide) (by decide) dX13_size_127 ⟨_, rfl, hy.s⟩
        have hy := hy.f hn3
        rcases Decidable.em (v1 = 4) with hc9 | hn4
        · have hy := hy.t hc9
          refine aw_tin (pc := 38) hX 128 (by rw [hc9]; decide) (by rw [hc9]; decide) (by rw [hc9]; rfl) (by decide) dX13_size_38 ?_
          refine aw_aloadn (pc := 128) hX 0 rfl dX13_size_128 ?_
          refine aw_gR (pc := 129) hX hy fl_X13_338 (fun _ _ => rfl) dX13_size_129 (fun r12 hy => ?_)
          refine aw_gI (pc := 132) hX hy fl_X13_284 (fun _ _ => rfl) dX13_size_132 (fun x13 hy => ?_)
          exact aw_iret (pc := 135) hX hr (by decide) (by decide) dX13_size_135 ⟨_, rfl, hy.s⟩
        have hy := hy.f hn4
        rcases Decidable.em (v1 = 5) with hc9 | hn5
        · have hy := hy.t hc9
          refine aw_tin (pc := 38) hX 136 (by rw [hc9]; decide) (by rw [hc9]; decide) (by rw [hc9]; rfl) (by decide) dX13_size_38 ?_
          refine aw_aloadn (pc := 136) hX 0 rfl dX13_size_136 ?_
          refine aw_gR (pc := 137) hX hy fl_X13_338 (fun _ _ => rfl) dX13_size_137 (fun r14 hy => ?_)
          refine aw_gI (pc := 140) hX hy fl_X13_287 (fun _ _ => rfl) dX13_size_140 (fun x15 hy => ?_)
          exact aw_iret (pc := 143) hX hr (by decide) (by decide) dX13_size_143 ⟨_, rfl, hy.s⟩
        have hy := hy.f hn5
        rcases Decidable.em (v1 = 6) with hc9 | hn6
        · have hy := hy.t hc9
          refine aw_tin (pc := 38) hX 144 (by rw [hc9]; decide) (by rw [hc9]; decide) (by rw [hc9]; rfl) (by decide) dX13_size_38 ?_
          refine aw_aloadn (pc := 144) hX 0 rfl dX13_size_144 ?_
          refine aw_gR (pc := 145) hX hy fl_X13_338 (fun _ _ => rfl) dX13_size_145 (fun r16 hy => ?_)
          refine aw_gI (pc := 148) hX hy fl_X13_306 (fun _ _ => rfl) dX13_size_148 (fun x17 hy => ?_)
          exact aw_iret (pc := 151) hX hr (by decide) (by decide) dX13_size_151 ⟨_, rfl, hy.s⟩
        have hy := hy.f hn6
        rcases Decidable.em (v1 = 7) with hc9 | hn7
        · have hy := hy.t hc9
          refine aw_tin (pc := 38) hX 152 (by rw [hc9]; decide) (by rw [hc9]; decide) (by rw [hc9]; rfl) (by decide) dX13_size_38 ?_
          refine aw_aloadn (pc := 152) hX 0 rfl dX13_size_152 ?_
          refine aw_gR (pc := 153) hX hy fl_X13_338 (fun _ _ => rfl) dX13_size_153 (fun r18 hy => ?_)
          refine aw_gI (pc := 156) hX hy fl_X13_317 (fun _ _ => rfl) dX13_size_156 (fun x19 hy => ?_)
          exact aw_iret (pc := 159) hX hr (by decide) (by decide) dX13_size_159 ⟨_, rfl, hy.s⟩
        have hy := hy.f hn7
        rcases Decidable.em (v1 = 8) with hc9 | hn8
        · have hy := hy.t hc9
          refine aw_tin (pc := 38) hX 160 (by rw [hc9]; decide) (by rw [hc9]; decide) (by rw [hc9]; rfl) (by decide) dX13_size_38 ?_
          refine aw_aloadn (pc := 160) hX 0 rfl dX13_size_160 ?_
          refine aw_gR (pc := 161) hX hy fl_X13_338 (fun _ _ => rfl) dX13_size_161 (fun r20 hy => ?_)
          refine aw_gI (pc := 164) hX hy fl_X13_326 (fun _ _ => rfl) dX13_size_164 (fun x21 hy => ?_)
          exact aw_iret (pc := 167) hX hr (by decide) (by decide) dX13_size_167 ⟨_, rfl, hy.s⟩
        have hy := hy.f hn8
        rcases Decidable.em (v1 = 9) with hc9 | hn9
        · have hy := hy.t hc9
          refine aw_tin (pc := 38) hX 168 (by rw [hc9]; decide) (by rw [hc9]; decide) (by rw [hc9]; rfl) (by decide) dX13_size_38 ?_
          refine aw_aloadn (pc := 168) hX 0 rfl dX13_size_168 ?_
          refine aw_gR (pc := 169) hX hy fl_X13_17 (fun _ _ => rfl) dX13_size_169 (fun r22 hy => ?_)
          refine aw_bipush (pc := 172) hX 20 (by decide) dX13_size_172 ?_
          refine aw_aI (pc := 174) hX hy dX13_size_174 (fun x23 hy => ?_)
          exact aw_iret (pc := 175) hX hr (by decide) (by decide) dX13_size_175 ⟨_, rfl, hy.s⟩
        have hy := hy.f hn9
        rcases Decidable.em (v1 = 10) with hc9 | hn10
        · have hy := hy.t hc9
          refine aw_tin (pc := 38) hX 176 (by rw [hc9]; decide) (by rw [hc9]; decide) (by rw [hc9]; rfl) (by decide) dX13_size_38 ?_
          refine aw_aloadn (pc := 176) hX 0 rfl dX13_size_176 ?_
          refine aw_gI (pc := 177) hX hy fl_X13_341 (fun _ _ => rfl) dX13_size_177 (fun x24 hy => ?_)
          exact aw_iret (pc := 180) hX hr (by decide) (by decide) dX13_size_180 ⟨_, rfl, hy.s⟩
        have hy := hy.f hn10
        refine aw_tout (pc := 38) hX 181 (tsw_out (lo := 0) (hi := 10) (fun k h1 h2 => ?_)) (by decide) dX13_size_38 ?_
        · rcases (show k = 0 ∨ k = 1 ∨ k = 2 ∨ k = 3 ∨ k = 4 ∨ k = 5 ∨ k = 6 ∨ k = 7 ∨ k = 8 ∨ k = 9 ∨ k = 10 by omega) with rfl | rfl | rfl | rfl | rfl | rfl | rfl | rfl | rfl | rfl | rfl
          · exact lv_neT hn0 (by decide)
          · exact lv_neT hn1 (by decide)
          · exact lv_neT hn2 (by decide)
          · exact lv_neT hn3 (by decide)
          · exact lv_neT hn4 (by decide)
          · exact lv_neT hn5 (by decide)
          · exact lv_neT hn6 (by decide)
          · exact lv_neT hn7 (by decide)
          · exact lv_neT hn8 (by decide)
          · exact lv_neT hn9 (by decide)
          · exact lv_neT hn10 (by decide)
        · skip
          refine aw_aloadn (pc := 181) hX 0 rfl dX13_size_181 ?_
          refine aw_gI (pc := 182) hX hy fl_X13_344 (fun _ _ => rfl) dX13_size_182 (fun x25 hy => ?_)
          exact aw_iret (pc := 185) hX hr (by decide) (by decide) dX13_size_185 ⟨_, rfl, hy.s⟩
      · have hy := hy.t hc9
        refine aw_iconst (pc := 35) hX 0 (by decide) dX13_size_35 ?_
        exact aw_iret (pc := 36) hX hr (by decide) (by decide) dX13_size_36 ⟨_, rfl, hy.s⟩
    · have hy := hy.t hc9
      refine aw_iconst (pc := 26) hX (-1) (by decide) dX13_size_26 ?_
      exact aw_iret (pc := 27) hX hr (by decide) (by decide) dX13_size_27 ⟨_, rfl, hy.s⟩
  · have hy := hy.t hc9
    refine aw_aloadn (pc := 11) hX 0 rfl dX13_size_11 ?_
    refine aw_gI (pc := 12) hX hy fl_X13_331 (fun _ _ => rfl) dX13_size_12 (fun x26 hy => ?_)
    exact aw_iret (pc := 15) hX hr (by decide) (by decide) dX13_size_15 ⟨_, rfl, hy.s⟩
theorem con_X13_size (l : Launch) (G : GE) (h : Mem) (v0 : Nat) (v1 : Int32) {P : (Int32 × Mem) → Prop} (hy : OK (f_X13_size h v0 v1) P) : Con l G yX13_size cX13_size 2 (some .int) rm_X13_size [vR v0, vI v1] h (pmI P) := Con.of (by decide) (Nat.le_of_ble_eq_true rfl) (fun X hX hr hN => w_X13_size hX hN hr h v0 v1 hy)
/-! X13_trouble -/
theorem dX13_trouble_0 : decode cX13_trouble 0 = .ok (.aload_n 0, 1) := by decide +kernel
theorem dX13_trouble_1 : decode cX13_trouble 1 = .ok (.iconst 0, 1) := by decide +kernel
theorem dX13_trouble_2 : decode cX13_trouble 2 = .ok (.putfield 51, 3) := by decide +kernel
theorem dX13_trouble_5 : decode cX13_trouble 5 = .ok (.aload_n 0, 1) := by decide +kernel
theorem dX13_trouble_6 : decode cX13_trouble 6 = .ok (.getfield 54, 3) := by decide +kernel
theorem dX13_trouble_9 : decode cX13_trouble 9 = .ok (.ireturn, 1) := by decide +kernel
abbrev rm_X13_trouble : Room := { frames := 0, cells := 0, slots := 0, locals := 0 }
def f_X13_trouble (h : Mem) (v0 : Nat) : Option (Int32 × Mem) :=
  (ck h v0 11).bind fun _ => (pI h v0 0 11 0).bind fun h1 => (gI h1 v0 1 11).bind fun x2 => some (x2, h1)
set_option maxRecDepth 100000 in
set_option maxHeartbeats 4000000 in
theorem w_X13_trouble {G : GE} {X : CX} {l : Launch} (hX : Ok G X cX13_trouble RX13) (hN : xn X = 1) {P : (Int32 × Mem) → Prop} (hr : Rt G X l yX13_trouble (some .int) rm_X13_trouble (pmI P)) (h : Mem) (v0 : Nat) (hy : OK (f_X13_trouble h v0) P) : AW G X 0 [(0, vR v0)] [] h 0 0 := by
  unfold f_X13_trouble at hy
  have hkd := hy.kd
  have hy := hy.kb
  refine aw_aloadn (pc := 0) hX 0 rfl dX13_trouble_0 ?_
  refine aw_iconst (pc := 1) hX 0 (by decide) dX13_trouble_1 ?_
  refine aw_pI (pc := 2) hX hy fl_X13_51 rfl (Or.inl rfl) dX13_trouble_2 (fun h1 hy => ?_)
  refine aw_aloadn (pc := 5) hX 0 rfl dX13_trouble_5 ?_
  refine aw_gI (pc := 6) hX hy fl_X13_54 (fun _ _ => rfl) dX13_trouble_6 (fun x2 hy => ?_)
  exact aw_iret (pc := 9) hX hr (by decide) (by decide) dX13_trouble_9 ⟨_, rfl, hy.s⟩
theorem con_X13_trouble (l : Launch) (G : GE) (h : Mem) (v0 : Nat) {P : (Int32 × Mem) → Prop} (hy : OK (f_X13_trouble h v0) P) : Con l G yX13_trouble cX13_trouble 1 (some .int) rm_X13_trouble [vR v0] h (pmI P) := Con.of (by decide) (Nat.le_of_ble_eq_true rfl) (fun X hX hr hN => w_X13_trouble hX hN hr h v0 hy)
