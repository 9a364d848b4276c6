/-! X13_turnpike -/
theorem dX13_turnpike_0 : decode cX13_turnpike 0 = .ok (.aload_n 0, 1) := by decide +kernel
theorem dX13_turnpike_1 : decode cX13_turnpike 1 = .ok (.iconst 0, 1) := by decide +kernel
theorem dX13_turnpike_2 : decode cX13_turnpike 2 = .ok (.putfield 51, 3) := by decide +kernel
theorem dX13_turnpike_5 : decode cX13_turnpike 5 = .ok (.iload_n 1, 1) := by decide +kernel
theorem dX13_turnpike_6 : decode cX13_turnpike 6 = .ok (.ifCond .lt 11, 3) := by decide +kernel
theorem dX13_turnpike_9 : decode cX13_turnpike 9 = .ok (.iload_n 1, 1) := by decide +kernel
theorem dX13_turnpike_10 : decode cX13_turnpike 10 = .ok (.aload_n 0, 1) := by decide +kernel
theorem dX13_turnpike_11 : decode cX13_turnpike 11 = .ok (.getfield 331, 3) := by decide +kernel
theorem dX13_turnpike_14 : decode cX13_turnpike 14 = .ok (.if_icmp .le 9, 3) := by decide +kernel
theorem dX13_turnpike_17 : decode cX13_turnpike 17 = .ok (.aload_n 0, 1) := by decide +kernel
theorem dX13_turnpike_18 : decode cX13_turnpike 18 = .ok (.iconst 2, 1) := by decide +kernel
theorem dX13_turnpike_19 : decode cX13_turnpike 19 = .ok (.invokevirtual 57, 3) := by decide +kernel
theorem dX13_turnpike_22 : decode cX13_turnpike 22 = .ok (.ireturn, 1) := by decide +kernel
theorem dX13_turnpike_23 : decode cX13_turnpike 23 = .ok (.aload_n 0, 1) := by decide +kernel
theorem dX13_turnpike_24 : decode cX13_turnpike 24 = .ok (.iload_n 1, 1) := by decide +kernel
theorem dX13_turnpike_25 : decode cX13_turnpike 25 = .ok (.putfield 64, 3) := by decide +kernel
theorem dX13_turnpike_28 : decode cX13_turnpike 28 = .ok (.aload_n 0, 1) := by decide +kernel
theorem dX13_turnpike_29 : decode cX13_turnpike 29 = .ok (.iconst 0, 1) := by decide +kernel
theorem dX13_turnpike_30 : decode cX13_turnpike 30 = .ok (.putfield 331, 3) := by decide +kernel
theorem dX13_turnpike_33 : decode cX13_turnpike 33 = .ok (.aload_n 0, 1) := by decide +kernel
theorem dX13_turnpike_34 : decode cX13_turnpike 34 = .ok (.iconst 0, 1) := by decide +kernel
theorem dX13_turnpike_35 : decode cX13_turnpike 35 = .ok (.putfield 82, 3) := by decide +kernel
theorem dX13_turnpike_38 : decode cX13_turnpike 38 = .ok (.aload_n 0, 1) := by decide +kernel
theorem dX13_turnpike_39 : decode cX13_turnpike 39 = .ok (.iconst 0, 1) := by decide +kernel
theorem dX13_turnpike_40 : decode cX13_turnpike 40 = .ok (.putfield 108, 3) := by decide +kernel
theorem dX13_turnpike_43 : decode cX13_turnpike 43 = .ok (.aload_n 0, 1) := by decide +kernel
theorem dX13_turnpike_44 : decode cX13_turnpike 44 = .ok (.new 163, 3) := by decide +kernel
theorem dX13_turnpike_47 : decode cX13_turnpike 47 = .ok (.dup, 1) := by decide +kernel
theorem dX13_turnpike_48 : decode cX13_turnpike 48 = .ok (.invokespecial 334, 3) := by decide +kernel
theorem dX13_turnpike_51 : decode cX13_turnpike 51 = .ok (.putfield 158, 3) := by decide +kernel
theorem dX13_turnpike_54 : decode cX13_turnpike 54 = .ok (.aload_n 0, 1) := by decide +kernel
theorem dX13_turnpike_55 : decode cX13_turnpike 55 = .ok (.iconst 0, 1) := by decide +kernel
theorem dX13_turnpike_56 : decode cX13_turnpike 56 = .ok (.putfield 79, 3) := by decide +kernel
theorem dX13_turnpike_59 : decode cX13_turnpike 59 = .ok (.aload_n 0, 1) := by decide +kernel
theorem dX13_turnpike_60 : decode cX13_turnpike 60 = .ok (.invokevirtual 118, 3) := by decide +kernel
theorem dX13_turnpike_63 : decode cX13_turnpike 63 = .ok (.aload_n 0, 1) := by decide +kernel
theorem dX13_turnpike_64 : decode cX13_turnpike 64 = .ok (.invokevirtual 335, 3) := by decide +kernel
theorem dX13_turnpike_67 : decode cX13_turnpike 67 = .ok (.aload_n 0, 1) := by decide +kernel
theorem dX13_turnpike_68 : decode cX13_turnpike 68 = .ok (.getfield 108, 3) := by decide +kernel
theorem dX13_turnpike_71 : decode cX13_turnpike 71 = .ok (.ifCond .le 18, 3) := by decide +kernel
theorem dX13_turnpike_74 : decode cX13_turnpike 74 = .ok (.aload_n 0, 1) := by decide +kernel
theorem dX13_turnpike_75 : decode cX13_turnpike 75 = .ok (.iconst 4, 1) := by decide +kernel
theorem dX13_turnpike_76 : decode cX13_turnpike 76 = .ok (.putfield 54, 3) := by decide +kernel
theorem dX13_turnpike_79 : decode cX13_turnpike 79 = .ok (.aload_n 0, 1) := by decide +kernel
theorem dX13_turnpike_80 : decode cX13_turnpike 80 = .ok (.aload_n 0, 1) := by decide +kernel
theorem dX13_turnpike_81 : decode cX13_turnpike 81 = .ok (.getfield 111, 3) := by decide +kernel
theorem dX13_turnpike_84 : decode cX13_turnpike 84 = .ok (.putfield 9, 3) := by decide +kernel
theorem dX13_turnpike_87 : decode cX13_turnpike 87 = .ok (.iconst (-1), 1) := by decide +kernel
theorem dX13_turnpike_88 : decode cX13_turnpike 88 = .ok (.ireturn, 1) := by decide +kernel
theorem dX13_turnpike_89 : decode cX13_turnpike 89 = .ok (.aload_n 0, 1) := by decide +kernel
theorem dX13_turnpike_90 : decode cX13_turnpike 90 = .ok (.aload_n 0, 1) := by decide +kernel
theorem dX13_turnpike_91 : decode cX13_turnpike 91 = .ok (.getfield 158, 3) := by decide +kernel
theorem dX13_turnpike_94 : decode cX13_turnpike 94 = .ok (.putfield 338, 3) := by decide +kernel
theorem dX13_turnpike_97 : decode cX13_turnpike 97 = .ok (.iconst 0, 1) := by decide +kernel
theorem dX13_turnpike_98 : decode cX13_turnpike 98 = .ok (.istore_n 2, 1) := by decide +kernel
theorem dX13_turnpike_99 : decode cX13_turnpike 99 = .ok (.iload_n 2, 1) := by decide +kernel
theorem dX13_turnpike_100 : decode cX13_turnpike 100 = .ok (.bipush 21, 2) := by decide +kernel
theorem dX13_turnpike_102 : decode cX13_turnpike 102 = .ok (.if_icmp .ge 16, 3) := by decide +kernel
theorem dX13_turnpike_105 : decode cX13_turnpike 105 = .ok (.aload_n 0, 1) := by decide +kernel
theorem dX13_turnpike_106 : decode cX13_turnpike 106 = .ok (.getfield 17, 3) := by decide +kernel
theorem dX13_turnpike_109 : decode cX13_turnpike 109 = .ok (.iload_n 2, 1) := by decide +kernel
theorem dX13_turnpike_110 : decode cX13_turnpike 110 = .ok (.iconst 0, 1) := by decide +kernel
theorem dX13_turnpike_111 : decode cX13_turnpike 111 = .ok (.iastore, 1) := by decide +kernel
theorem dX13_turnpike_112 : decode cX13_turnpike 112 = .ok (.iinc 2 1, 3) := by decide +kernel
theorem dX13_turnpike_115 : decode cX13_turnpike 115 = .ok (.goto (-16), 3) := by decide +kernel
theorem dX13_turnpike_118 : decode cX13_turnpike 118 = .ok (.iconst 0, 1) := by decide +kernel
theorem dX13_turnpike_119 : decode cX13_turnpike 119 = .ok (.istore_n 2, 1) := by decide +kernel
theorem dX13_turnpike_120 : decode cX13_turnpike 120 = .ok (.iload_n 2, 1) := by decide +kernel
theorem dX13_turnpike_121 : decode cX13_turnpike 121 = .ok (.aload_n 0, 1) := by decide +kernel
theorem dX13_turnpike_122 : decode cX13_turnpike 122 = .ok (.getfield 338, 3) := by decide +kernel
theorem dX13_turnpike_125 : decode cX13_turnpike 125 = .ok (.getfield 306, 3) := by decide +kernel
theorem dX13_turnpike_128 : decode cX13_turnpike 128 = .ok (.if_icmp .ge 61, 3) := by decide +kernel
theorem dX13_turnpike_131 : decode cX13_turnpike 131 = .ok (.aload_n 0, 1) := by decide +kernel
theorem dX13_turnpike_132 : decode cX13_turnpike 132 = .ok (.getfield 17, 3) := by decide +kernel
theorem dX13_turnpike_135 : decode cX13_turnpike 135 = .ok (.iconst 0, 1) := by decide +kernel
theorem dX13_turnpike_136 : decode cX13_turnpike 136 = .ok (.iload_n 2, 1) := by decide +kernel
theorem dX13_turnpike_137 : decode cX13_turnpike 137 = .ok (.iadd, 1) := by decide +kernel
theorem dX13_turnpike_138 : decode cX13_turnpike 138 = .ok (.aload_n 0, 1) := by decide +kernel
theorem dX13_turnpike_139 : decode cX13_turnpike 139 = .ok (.getfield 338, 3) := by decide +kernel
theorem dX13_turnpike_142 : decode cX13_turnpike 142 = .ok (.getfield 313, 3) := by decide +kernel
theorem dX13_turnpike_145 : decode cX13_turnpike 145 = .ok (.iload_n 2, 1) := by decide +kernel
theorem dX13_turnpike_146 : decode cX13_turnpike 146 = .ok (.iaload, 1) := by decide +kernel
theorem dX13_turnpike_147 : decode cX13_turnpike 147 = .ok (.iastore, 1) := by decide +kernel
theorem dX13_turnpike_148 : decode cX13_turnpike 148 = .ok (.aload_n 0, 1) := by decide +kernel
theorem dX13_turnpike_149 : decode cX13_turnpike 149 = .ok (.getfield 17, 3) := by decide +kernel
theorem dX13_turnpike_152 : decode cX13_turnpike 152 = .ok (.iconst 4, 1) := by decide +kernel
theorem dX13_turnpike_153 : decode cX13_turnpike 153 = .ok (.iload_n 2, 1) := by decide +kernel
theorem dX13_turnpike_154 : decode cX13_turnpike 154 = .ok (.iadd, 1) := by decide +kernel
theorem dX13_turnpike_155 : decode cX13_turnpike 155 = .ok (.aload_n 0, 1) := by decide +kernel
theorem dX13_turnpike_156 : decode cX13_turnpike 156 = .ok (.getfield 338, 3) := by decide +kernel
theorem dX13_turnpike_159 : decode cX13_turnpike 159 = .ok (.getfield 315, 3) := by decide +kernel
theorem dX13_turnpike_162 : decode cX13_turnpike 162 = .ok (.iload_n 2, 1) := by decide +kernel
theorem dX13_turnpike_163 : decode cX13_turnpike 163 = .ok (.iaload, 1) := by decide +kernel
theorem dX13_turnpike_164 : decode cX13_turnpike 164 = .ok (.iastore, 1) := by decide +kernel
theorem dX13_turnpike_165 : decode cX13_turnpike 165 = .ok (.aload_n 0, 1) := by decide +kernel
theorem dX13_turnpike_166 : decode cX13_turnpike 166 = .ok (.getfield 17, 3) := by decide +kernel
theorem dX13_turnpike_169 : decode cX13_turnpike 169 = .ok (.bipush 8, 2) := by decide +kernel
theorem dX13_turnpike_171 : decode cX13_turnpike 171 = .ok (.iload_n 2, 1) := by decide +kernel
theorem dX13_turnpike_172 : decode cX13_turnpike 172 = .ok (.iadd, 1) := by decide +kernel
theorem dX13_turnpike_173 : decode cX13_turnpike 173 = .ok (.aload_n 0, 1) := by decide +kernel
theorem dX13_turnpike_174 : decode cX13_turnpike 174 = .ok (.getfield 338, 3) := by decide +kernel
theorem dX13_turnpike_177 : decode cX13_turnpike 177 = .ok (.getfield 320, 3) := by decide +kernel
theorem dX13_turnpike_180 : decode cX13_turnpike 180 = .ok (.iload_n 2, 1) := by decide +kernel
theorem dX13_turnpike_181 : decode cX13_turnpike 181 = .ok (.iaload, 1) := by decide +kernel
theorem dX13_turnpike_182 : decode cX13_turnpike 182 = .ok (.iastore, 1) := by decide +kernel
theorem dX13_turnpike_183 : decode cX13_turnpike 183 = .ok (.iinc 2 1, 3) := by decide +kernel
theorem dX13_turnpike_186 : decode cX13_turnpike 186 = .ok (.goto (-66), 3) := by decide +kernel
theorem dX13_turnpike_189 : decode cX13_turnpike 189 = .ok (.aload_n 0, 1) := by decide +kernel
theorem dX13_turnpike_190 : decode cX13_turnpike 190 = .ok (.iconst 0, 1) := by decide +kernel
theorem dX13_turnpike_191 : decode cX13_turnpike 191 = .ok (.putfield 341, 3) := by decide +kernel
theorem dX13_turnpike_194 : decode cX13_turnpike 194 = .ok (.aload_n 0, 1) := by decide +kernel
theorem dX13_turnpike_195 : decode cX13_turnpike 195 = .ok (.iconst 0, 1) := by decide +kernel
theorem dX13_turnpike_196 : decode cX13_turnpike 196 = .ok (.putfield 344, 3) := by decide +kernel
theorem dX13_turnpike_199 : decode cX13_turnpike 199 = .ok (.aload_n 0, 1) := by decide +kernel
theorem dX13_turnpike_200 : decode cX13_turnpike 200 = .ok (.aload_n 0, 1) := by decide +kernel
theorem dX13_turnpike_201 : decode cX13_turnpike 201 = .ok (.getfield 338, 3) := by decide +kernel
theorem dX13_turnpike_204 : decode cX13_turnpike 204 = .ok (.getfield 197, 3) := by decide +kernel
theorem dX13_turnpike_207 : decode cX13_turnpike 207 = .ok (.invokevirtual 61, 3) := by decide +kernel
theorem dX13_turnpike_210 : decode cX13_turnpike 210 = .ok (.ireturn, 1) := by decide +kernel
abbrev rm_X13_turnpike : Room := { frames := 12, cells := 19, slots := 341, locals := 284 }
def f_X13_turnpike_17 (h : Mem) (v0 : Nat) : Option (Int32 × Mem) :=
  (f_X13_refused h v0 2).bind fun q4 => some (q4.1, q4.2)
set_option maxRecDepth 100000 in
set_option maxHeartbeats 4000000 in
theorem w_X13_turnpike_17 {G : GE} {X : CX} {l : Launch} (hX : Ok G X cX13_turnpike RX13) (hN : xn X = 3) {P : (Int32 × Mem) → Prop} (hr : Rt G X l yX13_turnpike (some .int) rm_X13_turnpike (pmI P)) (h : Mem) (v0 : Nat) (hy : OK (f_X13_turnpike_17 h v0) P) : AW G X 17 [(0, vR v0)] [] h 0 0 := by
  unfold f_X13_turnpike_17 at hy
  refine aw_aloadn (pc := 17) hX 0 rfl dX13_turnpike_17 ?_
  refine aw_iconst (pc := 18) hX 2 (by decide) dX13_turnpike_18 ?_
  refine aw_callV (pc := 19) (st := []) (a := v0) hX [vI 2] (con_X13_refused _ G _ v0 2 hy.bd) mc_X13_refused ml_X13_57 im_X13_refused se_X13_refused (by decide) hy.bd.kd rfl (rm_of hr (by decide)) (Nat.le_of_ble_eq_true rfl) rfl dX13_turnpike_19 (kmI rfl rfl (fun q4 hy => ?_))
  exact aw_iret (pc := 22) hX hr (by decide) (by decide) dX13_turnpike_22 ⟨_, rfl, hy.s⟩
def b_X13_turnpike_99 (h : Mem) (v0 : Nat) (v2 : Int32) : Option ((Int32 × Mem) ⊕ Mem) :=
  (if 21 ≤ v2 then some (.inr h) else (gR h v0 16 11).bind fun r19 => (sI h r19 v2 0).bind fun h20 => some (.inl ((v2 + 1), h20)))
set_option maxRecDepth 100000 in
set_option maxHeartbeats 4000000 in
theorem wb_X13_turnpike_99 {G : GE} {X : CX} {l : Launch} (hX : Ok G X cX13_turnpike RX13) (hN : xn X = 3) {P0 : (Int32 × Mem) → Prop} (hr : Rt G X l yX13_turnpike (some .int) rm_X13_turnpike (pmI P0))  (v0 : Nat) {P : ((Int32 × Mem) ⊕ Mem) → Prop} (hc : ∀ s, P (.inl s) → AW G X 99 [(0, vR v0), (2, vI s.1)] [] s.2 19 341) (he0 : ∀ e, P (.inr e) → AW G X 118 [(0, vR v0)] [] e 19 341) (h : Mem) (v2 : Int32) (hy : OK (b_X13_turnpike_99 h v0 v2) P) : AW G X 99 [(0, vR v0), (2, vI v2)] [] h 19 341 := by
  unfold b_X13_turnpike_99 at hy
  refine aw_iloadn (pc := 99) hX 1 rfl dX13_turnpike_99 ?_
  refine aw_bipush (pc := 100) hX 21 (by decide) dX13_turnpike_100 ?_
  refine aw_ic_ge (pc := 102) hX 118 (by decide) dX13_turnpike_102 (fun hc9 => ?_) (fun hc9 => ?_)
  · have hy := hy.t hc9
    refine AW.sub [0] rfl ?_
    exact he0 h hy.s
  · have hy := hy.f hc9
    refine aw_aloadn (pc := 105) hX 0 rfl dX13_turnpike_105 ?_
    refine aw_gR (pc := 106) hX hy fl_X13_17 (fun _ _ => rfl) dX13_turnpike_106 (fun r19 hy => ?_)
    refine aw_iloadn (pc := 109) hX 1 rfl dX13_turnpike_109 ?_
    refine aw_iconst (pc := 110) hX 0 (by decide) dX13_turnpike_110 ?_
    refine aw_sI (pc := 111) hX hy dX13_turnpike_111 (fun h20 hy => ?_)
    refine aw_iinc (pc := 112) hX 1 (by decide) 1 rfl [(2, vI (v2 + 1)), (0, vR v0)] rfl (lt_n hN (by decide)) dX13_turnpike_112 ?_
    refine aw_goto (pc := 115) hX 99 (by decide) dX13_turnpike_115 ?_
    refine AW.sub [1, 0] rfl ?_
    exact hc ((v2 + 1), h20) hy.s
theorem wl_X13_turnpike_99 {G : GE} {X : CX} {l : Launch} (hX : Ok G X cX13_turnpike RX13) (hN : xn X = 3) {P0 : (Int32 × Mem) → Prop} (hr : Rt G X l yX13_turnpike (some .int) rm_X13_turnpike (pmI P0)) (v0 : Nat) {P : (Mem) → Prop} (he0 : ∀ e, P e → AW G X 118 [(0, vR v0)] [] e 19 341) : ∀ (n : Nat) (s : Int32 × Mem), OK (iter (fun (s : Int32 × Mem) => b_X13_turnpike_99 s.2 v0 s.1) n s) P → AW G X 99 [(0, vR v0), (2, vI s.1)] [] s.2 19 341 := by
  intro n
  induction n with
  | zero => exact fun s hy => hy.it0.elim
  | succ n ih =>
    intro s hy
    exact wb_X13_turnpike_99 hX hN hr v0 (fun s hs => ih s hs) (fun e hs => he0 e hs) s.2 s.1 hy.it
def b_X13_turnpike_120 (h : Mem) (v0 : Nat) (v2 : Int32) : Option ((Int32 × Mem) ⊕ Mem) :=
  (gR h v0 3 11).bind fun r22 => (gI h r22 6 10).bind fun x23 => (if x23 ≤ v2 then some (.inr h) else (gR h v0 16 11).bind fun r24 => (gR h v0 3 11).bind fun r25 => (gR h r25 21 10).bind fun r26 => (aI h r26 v2).bind fun x27 => (sI h r24 (0 + v2) x27).bind fun h28 => (gR h28 v0 16 11).bind fun r29 => (gR h28 v0 3 11).bind fun r30 => (gR h28 r30 22 10).bind fun r31 => (aI h28 r31 v2).bind fun x32 => (sI h28 r29 (4 + v2) x32).bind fun h33 => (gR h33 v0 16 11).bind fun r34 => (gR h33 v0 3 11).bind fun r35 => (gR h33 r35 23 10).bind fun r36 => (aI h33 r36 v2).bind fun x37 => (sI h33 r34 (8 + v2) x37).bind fun h38 => some (.inl ((v2 + 1), h38)))
set_option maxRecDepth 100000 in
set_option maxHeartbeats 4000000 in
theorem wb_X13_turnpike_120 {G : GE} {X : CX} {l : Launch} (hX : Ok G X cX13_turnpike RX13) (hN : xn X = 3) {P0 : (Int32 × Mem) → Prop} (hr : Rt G X l yX13_turnpike (some .int) rm_X13_turnpike (pmI P0))  (v0 : Nat) {P : ((Int32 × Mem) ⊕ Mem) → Prop} (hc : ∀ s, P (.inl s) → AW G X 120 [(0, vR v0), (2, vI s.1)] [] s.2 19 341) (he0 : ∀ e, P (.inr e) → AW G X 189 [(0, vR v0)] [] e 19 341) (h : Mem) (v2 : Int32) (hy : OK (b_X13_turnpike_120 h v0 v2) P) : AW G X 120 [(0, vR v0), (2, vI v2)] [] h 19 341 := by
  unfold b_X13_turnpike_120 at hy
  refine aw_iloadn (pc := 120) hX 1 rfl dX13_turnpike_120 ?_
  refine aw_aloadn (pc := 121) hX 0 rfl dX13_turnpike_121 ?_
  refine aw_gR (pc := 122) hX hy fl_X13_338 (fun _ _ => rfl) dX13_turnpike_122 (fun r22 hy => ?_)
  refine aw_gI (pc := 125) hX hy fl_X13_306 (fun _ _ => rfl) dX13_turnpike_125 (fun x23 hy => ?_)
  refine aw_ic_ge (pc := 128) hX 189 (by decide) dX13_turnpike_128 (fun hc9 => ?_) (fun hc9 => ?_)
  · have hy := hy.t hc9
    refine AW.sub [0] rfl ?_
    exact he0 h hy.s
  · have hy := hy.f hc9
    refine aw_aloadn (pc := 131) hX 0 rfl dX13_turnpike_131 ?_
    refine aw_gR (pc := 132) hX hy fl_X13_17 (fun _ _ => rfl) dX13_turnpike_132 (fun r24 hy => ?_)
    refine aw_iconst (pc := 135) hX 0 (by decide) dX13_turnpike_135 ?_
    refine aw_iloadn (pc := 136) hX 1 rfl dX13_turnpike_136 ?_
    refine aw_iadd (pc := 137) hX dX13_turnpike_137 ?_
    refine aw_aloadn (pc := 138) hX 0 rfl dX13_turnpike_138 ?_
    refine aw_gR (pc := 139) hX hy fl_X13_338 (fun _ _ => rfl) dX13_turnpike_139 (fun r25 hy => ?_)
    refine aw_gR (pc := 142) hX hy fl_X13_313 (fun _ _ => rfl) dX13_turnpike_142 (fun r26 hy => ?_)
    refine aw_iloadn (pc := 145) hX 1 rfl dX13_turnpike_145 ?_
    refine aw_aI (pc := 146) hX hy dX13_turnpike_146 (fun x27 hy => ?_)
    refine aw_sI (pc := 147) hX hy dX13_turnpike_147 (fun h28 hy => ?_)
    refine aw_aloadn (pc := 148) hX 0 rfl dX13_turnpike_148 ?_
    refine aw_gR (pc := 149) hX hy fl_X13_17 (fun _ _ => rfl) dX13_turnpike_149 (fun r29 hy => ?_)
    refine aw_iconst (pc := 152) hX 4 (by decide) dX13_turnpike_152 ?_
    refine aw_iloadn (pc := 153) hX 1 rfl dX13_turnpike_153 ?_
    refine aw_iadd (pc := 154) hX dX13_turnpike_154 ?_
    refine aw_aloadn (pc := 155) hX 0 rfl dX13_turnpike_155 ?_
    refine aw_gR (pc := 156) hX hy fl_X13_338 (fun _ _ => rfl) dX13_turnpike_156 (fun r30 hy => ?_)
    refine aw_gR (pc := 159) hX hy fl_X13_315 (fun _ _ => rfl) dX13_turnpike_159 (fun r31 hy => ?_)
    refine aw_iloadn (pc := 162) hX 1 rfl dX13_turnpike_162 ?_
    refine aw_aI (pc := 163) hX hy dX13_turnpike_163 (fun x32 hy => ?_)
    refine aw_sI (pc := 164) hX hy dX13_turnpike_164 (fun h33 hy => ?_)
    refine aw_aloadn (pc := 165) hX 0 rfl dX13_turnpike_165 ?_
    refine aw_gR (pc := 166) hX hy fl_X13_17 (fun _ _ => rfl) dX13_turnpike_166 (fun r34 hy => ?_)
    refine aw_bipush (pc := 169) hX 8 (by decide) dX13_turnpike_169 ?_
    refine aw_iloadn (pc := 171) hX 1 rfl dX13_turnpike_171 ?_
    refine aw_iadd (pc := 172) hX dX13_turnpike_172 ?_
    refine aw_aloadn (pc := 173) hX 0 rfl dX13_turnpike_173 ?_
    refine aw_gR (pc := 174) hX hy fl_X13_338 (fun _ _ => rfl) dX13_turnpike_174 (fun r35 hy => ?_)
    refine aw_gR (pc := 177) hX hy fl_X13_320 (fun _ _ => rfl) dX13_turnpike_177 (fun r36 hy => ?_)
    refine aw_iloadn (pc := 180) hX 1 rfl dX13_turnpike_180 ?_
    refine aw_aI (pc := 181) hX hy dX13_turnpike_181 (fun x37 hy => ?_)
    refine aw_sI (pc := 182) hX hy dX13_turnpike_182 (fun h38 hy => ?_)
    refine aw_iinc (pc := 183) hX 1 (by decide) 1 rfl [(2, vI (v2 + 1)), (0, vR v0)] rfl (lt_n hN (by decide)) dX13_turnpike_183 ?_
    refine aw_goto (pc := 186) hX 120 (by decide) dX13_turnpike_186 ?_
    refine AW.sub [1, 0] rfl ?_
    exact hc ((v2 + 1), h38) hy.s
theorem wl_X13_turnpike_120 {G : GE} {X : CX} {l : Launch} (hX : Ok G X cX13_turnpike RX13) (hN : xn X = 3) {P0 : (Int32 × Mem) → Prop} (hr : Rt G X l yX13_turnpike (some .int) rm_X13_turnpike (pmI P0)) (v0 : Nat) {P : (Mem) → Prop} (he0 : ∀ e, P e → AW G X 189 [(0, vR v0)] [] e 19 341) : ∀ (n : Nat) (s : Int32 × Mem), OK (iter (fun (s : Int32 × Mem) => b_X13_turnpike_120 s.2 v0 s.1) n s) P → AW G X 120 [(0, vR v0), (2, vI s.1)] [] s.2 19 341 := by
  intro n
  induction n with
  | zero => exact fun s hy => hy.it0.elim
  | succ n ih =>
    intro s hy
    exact wb_X13_turnpike_120 hX hN hr v0 (fun s hs => ih s hs) (fun e hs => he0 e hs) s.2 s.1 hy.it
def f_X13_turnpike (h : Mem) (v0 : Nat) (v1 : Int32) : Option (Int32 × Mem) :=
  (ck h v0 11).bind fun _ => (pI h v0 0 11 0).bind fun h1 => (if v1 < 0 then f_X13_turnpike_17 h1 v0 else (gI h1 v0 6 11).bind fun x5 => (if v1 ≤ x5 then (pI h1 v0 7 11 v1).bind fun h6 => (pI h6 v0 6 11 0).bind fun h7 => (pI h7 v0 8 11 0).bind fun h8 => (pI h8 v0 12 11 0).bind fun h9 => (f_X12_init (mNew h9 10 0) (mN h9)).bind fun h11 => (pR h11 v0 4 11 (mN h9)).bind fun h12 => (pI h12 v0 9 11 0).bind fun h13 => (f_X13_goesOn h13 v0).bind fun h14 => (f_X13_readAll h14 v0).bind fun h15 => (gI h15 v0 12 11).bind fun x16 => (if x16 ≤ 0 then (gR h15 v0 4 11).bind fun r17 => (pR h15 v0 3 11 r17).bind fun h18 => (iter (fun (s : Int32 × Mem) => b_X13_turnpike_99 s.2 v0 s.1) FU (0, h18)).bind (fun q21 => (iter (fun (s : Int32 × Mem) => b_X13_turnpike_120 s.2 v0 s.1) FU (0, q21)).bind (fun q39 => (pI q39 v0 19 11 0).bind fun h40 => (pI h40 v0 20 11 0).bind fun h41 => (gR h41 v0 3 11).bind fun r42 => (gI h41 r42 2 10).bind fun x43 => (f_X13_good h41 v0 x43).bind fun q46 => some (q46.1, q46.2))) else (pI h15 v0 1 11 4).bind fun h47 => (gI h47 v0 13 11).bind fun x48 => (pI h47 v0 2 11 x48).bind fun h49 => some ((-1), h49)) else f_X13_turnpike_17 h1 v0))
set_option maxRecDepth 100000 in
set_option maxHeartbeats 4000000 in
theorem w_X13_turnpike {G : GE} {X : CX} {l : Launch} (hX : Ok G X cX13_turnpike RX13) (hN : xn X = 3) {P : (Int32 × Mem) → Prop} (hr : Rt G X l yX13_turnpike (some .int) rm_X13_turnpike (pmI P)) (h : Mem) (v0 : Nat) (v1 : Int32) (hy : OK (f_X13_turnpike h v0 v1) P) : AW G X 0 [(0, vR v0), (1, vI v1)] [] h 0 0 := by
  unfold f_X13_turnpike at hy
  have hkd := hy.kd
  have hy := hy.kb
  refine aw_aloadn (pc := 0) hX 0 rfl dX13_turnpike_0 ?_
  refine aw_iconst (pc := 1) hX 0 (by decide) dX13_turnpike_1 ?_
  refine aw_pI (pc := 2) hX hy fl_X13_51 rfl (Or.inl rfl) dX13_turnpike_2 (fun h1 hy => ?_)
  refine aw_iloadn (pc := 5) hX 1 rfl dX13_turnpike_5 ?_
  refine aw_if_lt (pc := 6) hX 17 (by decide) dX13_turnpike_6 (fun hc9 => ?_) (fun hc9 => ?_)
  · have hy := hy.t hc9
    refine AW.sub [0] rfl ?_
    exact w_X13_turnpike_17 hX hN hr h1 v0 hy
  · have hy := hy.f hc9
    refine aw_iloadn (pc := 9) hX 1 rfl dX13_turnpike_9 ?_
    refine aw_aloadn (pc := 10) hX 0 rfl dX13_turnpike_10 ?_
    refine aw_gI (pc := 11) hX hy fl_X13_331 (fun _ _ => rfl) dX13_turnpike_11 (fun x5 hy => ?_)
    refine aw_ic_le (pc := 14) hX 23 (by decide) dX13_turnpike_14 (fun hc9 => ?_) (fun hc9 => ?_)
    · have hy := hy.t hc9
      refine aw_aloadn (pc := 23) hX 0 rfl dX13_turnpike_23 ?_
      refine aw_iloadn (pc := 24) hX 1 rfl dX13_turnpike_24 ?_
      refine aw_pI (pc := 25) hX hy fl_X13_64 rfl (Or.inl rfl) dX13_turnpike_25 (fun h6 hy => ?_)
      refine aw_aloadn (pc := 28) hX 0 rfl dX13_turnpike_28 ?_
      refine aw_iconst (pc := 29) hX 0 (by decide) dX13_turnpike_29 ?_
      refine aw_pI (pc := 30) hX hy fl_X13_331 rfl (Or.inl rfl) dX13_turnpike_30 (fun h7 hy => ?_)
      refine aw_aloadn (pc := 33) hX 0 rfl dX13_turnpike_33 ?_
      refine aw_iconst (pc := 34) hX 0 (by decide) dX13_turnpike_34 ?_
      refine aw_pI (pc := 35) hX hy fl_X13_82 rfl (Or.inl rfl) dX13_turnpike_35 (fun h8 hy => ?_)
      refine aw_aloadn (pc := 38) hX 0 rfl dX13_turnpike_38 ?_
      refine aw_iconst (pc := 39) hX 0 (by decide) dX13_turnpike_39 ?_
      refine aw_pI (pc := 40) hX hy fl_X13_108 rfl (Or.inl rfl) dX13_turnpike_40 (fun h9 hy => ?_)
      refine aw_aloadn (pc := 43) hX 0 rfl dX13_turnpike_43 ?_
      refine aw_new (pc := 44) hX (ci := 10) (by decide) cl_X13_163 ia_10 in_10 (le_c hr (by decide)) (le_s hr (by decide)) dX13_turnpike_44 ?_
      refine AW.eqa (ce' := 1) (sl' := 28) rfl rfl ?_
      refine aw_dup (pc := 47) hX rfl dX13_turnpike_47 ?_
      refine aw_callIk (pc := 48) (st := [vR (mN h9), vR v0]) (a := (mN h9)) hX [] (con_X12_init _ G _ (mN h9) hy.bd) mc_X12_init ml_X13_334 im_X12_init rfl hy.bd.kd (by decide) rfl (rm_of hr (by decide)) (Nat.le_of_ble_eq_true rfl) rfl dX13_turnpike_48 (kmVa (ce' := 19) (sl' := 341) rfl rfl (fun h11 hy => ?_))
      refine aw_pR (pc := 51) hX hy fl_X13_158 rfl (Or.inl rfl) dX13_turnpike_51 (fun h12 hy => ?_)
      refine aw_aloadn (pc := 54) hX 0 rfl dX13_turnpike_54 ?_
      refine aw_iconst (pc := 55) hX 0 (by decide) dX13_turnpike_55 ?_
      refine aw_pI (pc := 56) hX hy fl_X13_79 rfl (Or.inl rfl) dX13_turnpike_56 (fun h13 hy => ?_)
      refine aw_aloadn (pc := 59) hX 0 rfl dX13_turnpike_59 ?_
      refine aw_callV (pc := 60) (st := []) (a := v0) hX [] (con_X13_goesOn _ G _ v0 hy.bd) mc_X13_goesOn ml_X13_118 im_X13_goesOn se_X13_goesOn (by decide) hy.bd.kd rfl (rm_of hr (by decide)) (Nat.le_of_ble_eq_true rfl) rfl dX13_turnpike_60 (kmV rfl rfl (fun h14 hy => ?_))
      refine aw_aloadn (pc := 63) hX 0 rfl dX13_turnpike_63 ?_
      refine aw_callV (pc := 64) (st := []) (a := v0) hX [] (con_X13_readAll _ G _ v0 hy.bd) mc_X13_readAll ml_X13_335 im_X13_readAll se_X13_readAll (by decide) hy.bd.kd rfl (rm_of hr (by decide)) (Nat.le_of_ble_eq_true rfl) rfl dX13_turnpike_64 (kmV rfl rfl (fun h15 hy => ?_))
      refine aw_aloadn (pc := 67) hX 0 rfl dX13_turnpike_67 ?_
      refine aw_gI (pc := 68) hX hy fl_X13_108 (fun _ _ => rfl) dX13_turnpike_68 (fun x16 hy => ?_)
      refine aw_if_le (pc := 71) hX 89 (by decide) dX13_turnpike_71 (fun hc9 => ?_) (fun hc9 => ?_)
      · have hy := hy.t hc9
        refine aw_aloadn (pc := 89) hX 0 rfl dX13_turnpike_89 ?_
        refine aw_aloadn (pc := 90) hX 0 rfl dX13_turnpike_90 ?_
        refine aw_gR (pc := 91) hX hy fl_X13_158 (fun _ _ => rfl) dX13_turnpike_91 (fun r17 hy => ?_)
        refine aw_pR (pc := 94) hX hy fl_X13_338 rfl (Or.inl rfl) dX13_turnpike_94 (fun h18 hy => ?_)
        refine aw_iconst (pc := 97) hX 0 (by decide) dX13_turnpike_97 ?_
        refine aw_istoren (pc := 98) hX [(2, vI 0), (0, vR v0), (1, vI v1)] rfl (lt_n hN (by decide)) dX13_turnpike_98 ?_
        refine AW.sub [1, 0] rfl ?_
        refine wl_X13_turnpike_99 hX hN hr v0 ?_ FU (0, h18) hy.bd
        · intro q21 hy
          refine aw_iconst (pc := 118) hX 0 (by decide) dX13_turnpike_118 ?_
          refine aw_istoren (pc := 119) hX [(2, vI 0), (0, vR v0)] rfl (lt_n hN (by decide)) dX13_turnpike_119 ?_
          refine AW.sub [1, 0] rfl ?_
          refine wl_X13_turnpike_120 hX hN hr v0 ?_ FU (0, q21) hy.bd
          · intro q39 hy
            refine aw_aloadn (pc := 189) hX 0 rfl dX13_turnpike_189 ?_
            refine aw_iconst (pc := 190) hX 0 (by decide) dX13_turnpike_190 ?_
            refine aw_pI (pc := 191) hX hy fl_X13_341 rfl (Or.inl rfl) dX13_turnpike_191 (fun h40 hy => ?_)
            refine aw_aloadn (pc := 194) hX 0 rfl dX13_turnpike_194 ?_
            refine aw_iconst (pc := 195) hX 0 (by decide) dX13_turnpike_195 ?_
            refine aw_pI (pc := 196) hX hy fl_X13_344 rfl (Or.inl rfl) dX13_turnpike_196 (fun h41 hy => ?_)
            refine aw_aloadn (pc := 199) hX 0 rfl dX13_turnpike_199 ?_
            refine aw_aloadn (pc := 200) hX 0 rfl dX13_turnpike_200 ?_
            refine aw_gR (pc := 201) hX hy fl_X13_338 (fun _ _ => rfl) dX13_turnpike_201 (fun r42 hy => ?_)
            refine aw_gI (pc := 204) hX hy fl_X13_197 (fun _ _ => rfl) dX13_turnpike_204 (fun x43 hy => ?_)
            refine aw_callV (pc := 207) (st := []) (a := v0) hX [vI x43] (con_X13_good _ G _ v0 x43 hy.bd) mc_X13_good ml_X13_61 im_X13_good se_X13_good (by decide) hy.bd.kd rfl (rm_of hr (by decide)) (Nat.le_of_ble_eq_true rfl) rfl dX13_turnpike_207 (kmI rfl rfl (fun q46 hy => ?_))
            exact aw_iret (pc := 210) hX hr (by decide) (by decide) dX13_turnpike_210 ⟨_, rfl, hy.s⟩
      · have hy := hy.f hc9
        refine aw_aloadn (pc := 74) hX 0 rfl dX13_turnpike_74 ?_
        refine aw_iconst (pc := 75) hX 4 (by decide) dX13_turnpike_75 ?_
        refine aw_pI (pc := 76) hX hy fl_X13_54 rfl (Or.inl rfl) dX13_turnpike_76 (fun h47 hy => ?_)
        refine aw_aloadn (pc := 79) hX 0 rfl dX13_turnpike_79 ?_
        refine aw_aloadn (pc := 80) hX 0 rfl dX13_turnpike_80 ?_
        refine aw_gI (pc := 81) hX hy fl_X13_111 (fun _ _ => rfl) dX13_turnpike_81 (fun x48 hy => ?_)
        refine aw_pI (pc := 84) hX hy fl_X13_9 rfl (Or.inl rfl) dX13_turnpike_84 (fun h49 hy => ?_)
        refine aw_iconst (pc := 87) hX (-1) (by decide) dX13_turnpike_87 ?_
        exact aw_iret (pc := 88) hX hr (by decide) (by decide) dX13_turnpike_88 ⟨_, rfl, hy.s⟩
    · have hy := hy.f hc9
      refine AW.sub [0] rfl ?_
      exact w_X13_turnpike_17 hX hN hr h1 v0 hy
theorem con_X13_turnpike (l : Launch) (G : GE) (h : Mem) (v0 : Nat) (v1 : Int32) {P : (Int32 × Mem) → Prop} (hy : OK (f_X13_turnpike h v0 v1) P) : Con l G yX13_turnpike cX13_turnpike 3 (some .int) rm_X13_turnpike [vR v0, vI v1] h (pmI P) := Con.of (by decide) (Nat.le_of_ble_eq_true rfl) (fun X hX hr hN => w_X13_turnpike hX hN hr h v0 v1 hy)
/-! X13_fault -/
theorem dX13_fault_0 : decode cX13_fault 0 = .ok (.aload_n 0, 1) := by decide +kernel
theorem dX13_fault_1 : decode cX13_fault 1 = .ok (.iconst 0, 1) := by decide +kernel
theorem dX13_fault_2 : decode cX13_fault 2 = .ok (.putfield 51, 3) := by decide +kernel
theorem dX13_fault_5 : decode cX13_fault 5 = .ok (.aload_n 0, 1) := by decide +kernel
theorem dX13_fault_6 : decode cX13_fault 6 = .ok (.getfield 108, 3) := by decide +kernel
theorem dX13_fault_9 : decode cX13_fault 9 = .ok (.ireturn, 1) := by decide +kernel
abbrev rm_X13_fault : Room := { frames := 0, cells := 0, slots := 0, locals := 0 }
def f_X13_fault (h : Mem) (v0 : Nat) : Option (Int32 × Mem) :=
  (ck h v0 11).bind fun _ => (pI h v0 0 11 0).bind fun h1 => (gI h1 v0 12 11).bind fun x2 => some (x2, h1)
set_option maxRecDepth 100000 in
set_option maxHeartbeats 4000000 in
theorem w_X13_fault {G : GE} {X : CX} {l : Launch} (hX : Ok G X cX13_fault RX13) (hN : xn X = 1) {P : (Int32 × Mem) → Prop} (hr : Rt G X l yX13_fault (some .int) rm_X13_fault (pmI P)) (h : Mem) (v0 : Nat) (hy : OK (f_X13_fault h v0) P) : AW G X 0 [(0, vR v0)] [] h 0 0 := by
  unfold f_X13_fault at hy
  have hkd := hy.kd
  have hy := hy.kb
  refine aw_aloadn (pc := 0) hX 0 rfl dX13_fault_0 ?_
  refine aw_iconst (pc := 1) hX 0 (by decide) dX13_fault_1 ?_
  refine aw_pI (pc := 2) hX hy fl_X13_51 rfl (Or.inl rfl) dX13_fault_2 (fun h1 hy => ?_)
  refine aw_aloadn (pc := 5) hX 0 rfl dX13_fault_5 ?_
  refine aw_gI (pc := 6) hX hy fl_X13_108 (fun _ _ => rfl) dX13_fault_6 (fun x2 hy => ?_)
  exact aw_iret (pc := 9) hX hr (by decide) (by decide) dX13_fault_9 ⟨_, rfl, hy.s⟩
theorem con_X13_fault (l : Launch) (G : GE) (h : Mem) (v0 : Nat) {P : (Int32 × Mem) → Prop} (hy : OK (f_X13_fault h v0) P) : Con l G yX13_fault cX13_fault 1 (some .int) rm_X13_fault [vR v0] h (pmI P) := Con.of (by decide) (Nat.le_of_ble_eq_true rfl) (fun X hX hr hN => w_X13_fault hX hN hr h v0 hy)
/-! X13_where -/
theorem dX13_where_0 : decode cX13_where 0 = .ok (.aload_n 0, 1) := by decide +kernel
theorem dX13_where_1 : decode cX13_where 1 = .ok (.iconst 0, 1) := by decide +kernel
theorem dX13_where_2 : decode cX13_where 2 = .ok (.putfield 51, 3) := by decide +kernel
theorem dX13_where_5 : decode cX13_where 5 = .ok (.aload_n 0, 1) := by decide +kernel
theorem dX13_where_6 : decode cX13_where 6 = .ok (.getfield 9, 3) := by decide +kernel
theorem dX13_where_9 : decode cX13_where 9 = .ok (.ireturn, 1) := by decide +kernel
abbrev rm_X13_where : Room := { frames := 0, cells := 0, slots := 0, locals := 0 }
def f_X13_where (h : Mem) (v0 : Nat) : Option (Int32 × Mem) :=
  (ck h v0 11).bind fun _ => (pI h v0 0 11 0).bind fun h1 => (gI h1 v0 2 11).bind fun x2 => some (x2, h1)
set_option maxRecDepth 100000 in
set_option maxHeartbeats 4000000 in
theorem w_X13_where {G : GE} {X : CX} {l : Launch} (hX : Ok G X cX13_where RX13) (hN : xn X = 1) {P : (Int32 × Mem) → Prop} (hr : Rt G X l yX13_where (some .int) rm_X13_where (pmI P)) (h : Mem) (v0 : Nat) (hy : OK (f_X13_where h v0) P) : AW G X 0 [(0, vR v0)] [] h 0 0 := by
  unfold f_X13_where at hy
  have hkd := hy.kd
  have hy := hy.kb
  refine aw_aloadn (pc := 0) hX 0 rfl dX13_where_0 ?_
  refine aw_iconst (pc := 1) hX 0 (by decide) dX13_where_1 ?_
  refine aw_pI (pc := 2) hX hy fl_X13_51 rfl (Or.inl rfl) dX13_where_2 (fun h1 hy => ?_)
  refine aw_aloadn (pc := 5) hX 0 rfl dX13_where_5 ?_
  refine aw_gI (pc := 6) hX hy fl_X13_9 (fun _ _ => rfl) dX13_where_6 (fun x2 hy => ?_)
  exact aw_iret (pc := 9) hX hr (by decide) (by decide) dX13_where_9 ⟨_, rfl, hy.s⟩
theorem con_X13_where (l : Launch) (G : GE) (h : Mem) (v0 : Nat) {P : (Int32 × Mem) → Prop} (hy : OK (f_X13_where h v0) P) : Con l G yX13_where cX13_where 1 (some .int) rm_X13_where [vR v0] h (pmI P) := Con.of (by decide) (Nat.le_of_ble_eq_true rfl) (fun X hX hr hN => w_X13_where hX hN hr h v0 hy)
/-! X13_isTune -/
theorem dX13_isTune_0 : decode cX13_isTune 0 = .ok (.aload_n 0, 1) := by decide +kernel
theorem dX13_isTune_1 : decode cX13_isTune 1 = .ok (.getfield 338, 3) := by decide +kernel
theorem dX13_isTune_4 : decode cX13_isTune 4 = .ok (.ifnull 22, 3) := by decide +kernel
theorem dX13_isTune_7 : decode cX13_isTune 7 = .ok (.iload_n 1, 1) := by decide +kernel
theorem dX13_isTune_8 : decode cX13_isTune 8 = .ok (.ifCond .lt 18, 3) := by decide +kernel
theorem dX13_isTune_11 : decode cX13_isTune 11 = .ok (.iload_n 1, 1) := by decide +kernel
theorem dX13_isTune_12 : decode cX13_isTune 12 = .ok (.aload_n 0, 1) := by decide +kernel
theorem dX13_isTune_13 : decode cX13_isTune 13 = .ok (.getfield 338, 3) := by decide +kernel
theorem dX13_isTune_16 : decode cX13_isTune 16 = .ok (.getfield 239, 3) := by decide +kernel
theorem dX13_isTune_19 : decode cX13_isTune 19 = .ok (.if_icmp .ge 7, 3) := by decide +kernel
theorem dX13_isTune_22 : decode cX13_isTune 22 = .ok (.iconst 1, 1) := by decide +kernel
theorem dX13_isTune_23 : decode cX13_isTune 23 = .ok (.goto 4, 3) := by decide +kernel
theorem dX13_isTune_26 : decode cX13_isTune 26 = .ok (.iconst 0, 1) := by decide +kernel
theorem dX13_isTune_27 : decode cX13_isTune 27 = .ok (.ireturn, 1) := by decide +kernel
abbrev rm_X13_isTune : Room := { frames := 0, cells := 0, slots := 0, locals := 0 }
def f_X13_isTune_26 (h : Mem) : Option Int32 :=
  some 0
set_option maxRecDepth 100000 in
set_option maxHeartbeats 4000000 in
theorem w_X13_isTune_26 {G : GE} {X : CX} {l : Launch} (hX : Ok G X cX13_isTune RX13) (hN : xn X = 2) (h : Mem) {P : Int32 → Prop} (hr : Rt G X l yX13_isTune (some .boolean) rm_X13_isTune (ppI h P)) (hy : OK (f_X13_isTune_26 h) P) : AW G X 26 [] [] h 0 0 := by
  unfold f_X13_isTune_26 at hy
  refine aw_iconst (pc := 26) hX 0 (by decide) dX13_isTune_26 ?_
  exact aw_zret (pc := 27) hX hr (by decide) (by decide) dX13_isTune_27 (Or.inl rfl) ⟨rfl, _, rfl, hy.s⟩
def f_X13_isTune (h : Mem) (v0 : Nat) (v1 : Int32) : Option Int32 :=
  (ck h v0 11).bind fun _ => (gR h v0 3 11).bind fun r1 => (if r1 = 0 then f_X13_isTune_26 h else (if v1 < 0 then f_X13_isTune_26 h else (gR h v0 3 11).bind fun r2 => (gI h r2 1 10).bind fun x3 => (if x3 ≤ v1 then f_X13_isTune_26 h else some 1)))
set_option maxRecDepth 100000 in
set_option maxHeartbeats 4000000 in
theorem w_X13_isTune {G : GE} {X : CX} {l : Launch} (hX : Ok G X cX13_isTune RX13) (hN : xn X = 2) (h : Mem) {P : Int32 → Prop} (hr : Rt G X l yX13_isTune (some .boolean) rm_X13_isTune (ppI h P)) (v0 : Nat) (v1 : Int32) (hy : OK (f_X13_isTune h v0 v1) P) : AW G X 0 [(0, vR v0), (1, vI v1)] [] h 0 0 := by
  unfold f_X13_isTune at hy
  have hkd := hy.kd
  have hy := hy.kb
  refine aw_aloadn (pc := 0) hX 0 rfl dX13_isTune_0 ?_
  refine aw_gR (pc := 1) hX hy fl_X13_338 (fun _ _ => rfl) dX13_isTune_1 (fun r1 hy => ?_)
  refine aw_ifnull (pc := 4) hX 26 (by decide) dX13_isTune_4 (fun hc9 => ?_) (fun hc9 => ?_)
  · have hy := hy.t hc9
    refine AW.sub [] rfl ?_
    exact w_X13_isTune_26 hX hN _ hr hy
  · have hy := hy.f hc9
    refine aw_iloadn (pc := 7) hX 1 rfl dX13_isTune_7 ?_
    refine aw_if_lt (pc := 8) hX 26 (by decide) dX13_isTune_8 (fun hc9 => ?_) (fun hc9 => ?_)
    · have hy := hy.t hc9
      refine AW.sub [] rfl ?_
      exact w_X13_isTune_26 hX hN _ hr hy
    · have hy := hy.f hc9
      refine aw_iloadn (pc := 11) hX 1 rfl dX13_isTune_11 ?_
      refine aw_aloadn (pc := 12) hX 0 rfl dX13_isTune_12 ?_
      refine aw_gR (pc := 13) hX hy fl_X13_338 (fun _ _ => rfl) dX13_isTune_13 (fun r2 hy => ?_)
      refine aw_gI (pc := 16) hX hy fl_X13_239 (fun _ _ => rfl) dX13_isTune_16 (fun x3 hy => ?_)
      refine aw_ic_ge (pc := 19) hX 26 (by decide) dX13_isTune_19 (fun hc9 => ?_) (fun hc9 => ?_)
      · have hy := hy.t hc9
        refine AW.sub [] rfl ?_
        exact w_X13_isTune_26 hX hN _ hr hy
      · have hy := hy.f hc9
        refine aw_iconst (pc := 22) hX 1 (by decide) dX13_isTune_22 ?_
        refine aw_goto (pc := 23) hX 27 (by decide) dX13_isTune_23 ?_
        exact aw_zret (pc := 27) hX hr (by decide) (by decide) dX13_isTune_27 (Or.inr rfl) ⟨rfl, _, rfl, hy.s⟩
theorem con_X13_isTune (l : Launch) (G : GE) (h : Mem) (v0 : Nat) (v1 : Int32) {P : Int32 → Prop} (hy : OK (f_X13_isTune h v0 v1) P) : Con l G yX13_isTune cX13_isTune 2 (some .boolean) rm_X13_isTune [vR v0, vI v1] h (ppI h P) := Con.of (by decide) (Nat.le_of_ble_eq_true rfl) (fun X hX hr hN => w_X13_isTune hX hN h hr v0 v1 hy)
/-! X13_isPlace -/
theorem dX13_isPlace_0 : decode cX13_isPlace 0 = .ok (.aload_n 0, 1) := by decide +kernel
theorem dX13_isPlace_1 : decode cX13_isPlace 1 = .ok (.getfield 338, 3) := by decide +kernel
theorem dX13_isPlace_4 : decode cX13_isPlace 4 = .ok (.ifnull 22, 3) := by decide +kernel
theorem dX13_isPlace_7 : decode cX13_isPlace 7 = .ok (.iload_n 1, 1) := by decide +kernel
theorem dX13_isPlace_8 : decode cX13_isPlace 8 = .ok (.ifCond .lt 18, 3) := by decide +kernel
theorem dX13_isPlace_11 : decode cX13_isPlace 11 = .ok (.iload_n 1, 1) := by decide +kernel
theorem dX13_isPlace_12 : decode cX13_isPlace 12 = .ok (.aload_n 0, 1) := by decide +kernel
theorem dX13_isPlace_13 : decode cX13_isPlace 13 = .ok (.getfield 338, 3) := by decide +kernel
theorem dX13_isPlace_16 : decode cX13_isPlace 16 = .ok (.getfield 197, 3) := by decide +kernel
theorem dX13_isPlace_19 : decode cX13_isPlace 19 = .ok (.if_icmp .ge 7, 3) := by decide +kernel
theorem dX13_isPlace_22 : decode cX13_isPlace 22 = .ok (.iconst 1, 1) := by decide +kernel
theorem dX13_isPlace_23 : decode cX13_isPlace 23 = .ok (.goto 4, 3) := by decide +kernel
theorem dX13_isPlace_26 : decode cX13_isPlace 26 = .ok (.iconst 0, 1) := by decide +kernel
theorem dX13_isPlace_27 : decode cX13_isPlace 27 = .ok (.ireturn, 1) := by decide +kernel
abbrev rm_X13_isPlace : Room := { frames := 0, cells := 0, slots := 0, locals := 0 }
def f_X13_isPlace_26 (h : Mem) : Option Int32 :=
  some 0
set_option maxRecDepth 100000 in
set_option maxHeartbeats 4000000 in
theorem w_X13_isPlace_26 {G : GE} {X : CX} {l : Launch} (hX : Ok G X cX13_isPlace RX13) (hN : xn X = 2) (h : Mem) {P : Int32 → Prop} (hr : Rt G X l yX13_isPlace (some .boolean) rm_X13_isPlace (ppI h P)) (hy : OK (f_X13_isPlace_26 h) P) : AW G X 26 [] [] h 0 0 := by
  unfold f_X13_isPlace_26 at hy
  refine aw_iconst (pc := 26) hX 0 (by decide) dX13_isPlace_26 ?_
  exact aw_zret (pc := 27) hX hr (by decide) (by decide) dX13_isPlace_27 (Or.inl rfl) ⟨rfl, _, rfl, hy.s⟩
def f_X13_isPlace (h : Mem) (v0 : Nat) (v1 : Int32) : Option Int32 :=
  (ck h v0 11).bind fun _ => (gR h v0 3 11).bind fun r1 => (if r1 = 0 then f_X13_isPlace_26 h else (if v1 < 0 then f_X13_isPlace_26 h else (gR h v0 3 11).bind fun r2 => (gI h r2 2 10).bind fun x3 => (if x3 ≤ v1 then f_X13_isPlace_26 h else some 1)))
set_option maxRecDepth 100000 in
set_option maxHeartbeats 4000000 in
theorem w_X13_isPlace {G : GE} {X : CX} {l : Launch} (hX : Ok G X cX13_isPlace RX13) (hN : xn X = 2) (h : Mem) {P : Int32 → Prop} (hr : Rt G X l yX13_isPlace (some .boolean) rm_X13_isPlace (ppI h P)) (v0 : Nat) (v1 : Int32) (hy : OK (f_X13_isPlace h v0 v1) P) : AW G X 0 [(0, vR v0), (1, vI v1)] [] h 0 0 := by
  unfold f_X13_isPlace at hy
  have hkd := hy.kd
  have hy := hy.kb
  refine aw_aloadn (pc := 0) hX 0 rfl dX13_isPlace_0 ?_
  refine aw_gR (pc := 1) hX hy fl_X13_338 (fun _ _ => rfl) dX13_isPlace_1 (fun r1 hy => ?_)
  refine aw_ifnull (pc := 4) hX 26 (by decide) dX13_isPlace_4 (fun hc9 => ?_) (fun hc9 => ?_)
  · have hy := hy.t hc9
    refine AW.sub [] rfl ?_
    exact w_X13_isPlace_26 hX hN _ hr hy
  · have hy := hy.f hc9
    refine aw_iloadn (pc := 7) hX 1 rfl dX13_isPlace_7 ?_
    refine aw_if_lt (pc := 8) hX 26 (by decide) dX13_isPlace_8 (fun hc9 => ?_) (fun hc9 => ?_)
    · have hy := hy.t hc9
      refine AW.sub [] rfl ?_
      exact w_X13_isPlace_26 hX hN _ hr hy
    · have hy := hy.f hc9
      refine aw_iloadn (pc := 11) hX 1 rfl dX13_isPlace_11 ?_
      refine aw_aloadn (pc := 12) hX 0 rfl dX13_isPlace_12 ?_
      refine aw_gR (pc := 13) hX hy fl_X13_338 (fun _ _ => rfl) dX13_isPlace_13 (fun r2 hy => ?_)
      refine aw_gI (pc := 16) hX hy fl_X13_197 (fun _ _ => rfl) dX13_isPlace_16 (fun x3 hy => ?_)
      refine aw_ic_ge (pc := 19) hX 26 (by decide) dX13_isPlace_19 (fun hc9 => ?_) (fun hc9 => ?_)
      · have hy := hy.t hc9
        refine AW.sub [] rfl ?_
        exact w_X13_isPlace_26 hX hN _ hr hy
      · have hy := hy.f hc9
        refine aw_iconst (pc := 22) hX 1 (by decide) dX13_isPlace_22 ?_
        refine aw_goto (pc := 23) hX 27 (by decide) dX13_isPlace_23 ?_
        exact aw_zret (pc := 27) hX hr (by decide) (by decide) dX13_isPlace_27 (Or.inr rfl) ⟨rfl, _, rfl, hy.s⟩
theorem con_X13_isPlace (l : Launch) (G : GE) (h : Mem) (v0 : Nat) (v1 : Int32) {P : Int32 → Prop} (hy : OK (f_X13_isPlace h v0 v1) P) : Con l G yX13_isPlace cX13_isPlace 2 (some .boolean) rm_X13_isPlace [vR v0, vI v1] h (ppI h P) := Con.of (by decide) (Nat.le_of_ble_eq_true rfl) (fun X hX hr hN => w_X13_isPlace hX hN h hr v0 v1 hy)
/-! X13_areTwo -/
theorem dX13_areTwo_0 : decode cX13_areTwo 0 = .ok (.aload_n 0, 1) := by decide +kernel
theorem dX13_areTwo_1 : decode cX13_areTwo 1 = .ok (.iload_n 1, 1) := by decide +kernel
theorem dX13_areTwo_2 : decode cX13_areTwo 2 = .ok (.invokevirtual 347, 3) := by decide +kernel
theorem dX13_areTwo_5 : decode cX13_areTwo 5 = .ok (.ifCond .eq 20, 3) := by decide +kernel
theorem dX13_areTwo_8 : decode cX13_areTwo 8 = .ok (.aload_n 0, 1) := by decide +kernel
theorem dX13_areTwo_9 : decode cX13_areTwo 9 = .ok (.iload_n 2, 1) := by decide +kernel
theorem dX13_areTwo_10 : decode cX13_areTwo 10 = .ok (.invokevirtual 347, 3) := by decide +kernel
theorem dX13_areTwo_13 : decode cX13_areTwo 13 = .ok (.ifCond .eq 12, 3) := by decide +kernel
theorem dX13_areTwo_16 : decode cX13_areTwo 16 = .ok (.iload_n 1, 1) := by decide +kernel
theorem dX13_areTwo_17 : decode cX13_areTwo 17 = .ok (.iload_n 2, 1) := by decide +kernel
theorem dX13_areTwo_18 : decode cX13_areTwo 18 = .ok (.if_icmp .eq 7, 3) := by decide +kernel
theorem dX13_areTwo_21 : decode cX13_areTwo 21 = .ok (.iconst 1, 1) := by decide +kernel
theorem dX13_areTwo_22 : decode cX13_areTwo 22 = .ok (.goto 4, 3) := by decide +kernel
theorem dX13_areTwo_25 : decode cX13_areTwo 25 = .ok (.iconst 0, 1) := by decide +kernel
theorem dX13_areTwo_26 : decode cX13_areTwo 26 = .ok (.ireturn, 1) := by decide +kernel
abbrev rm_X13_areTwo : Room := { frames := 1, cells := 0, slots := 0, locals := 21 }
def f_X13_areTwo_25 (h : Mem) : Option Int32 :=
  some 0
set_option maxRecDepth 100000 in
set_option maxHeartbeats 4000000 in
theorem w_X13_areTwo_25 {G : GE} {X : CX} {l : Launch} (hX : Ok G X cX13_areTwo RX13) (hN : xn X = 3) (h : Mem) {P : Int32 → Prop} (hr : Rt G X l yX13_areTwo (some .boolean) rm_X13_areTwo (ppI h P)) (hy : OK (f_X13_areTwo_25 h) P) : AW G X 25 [] [] h 0 0 := by
  unfold f_X13_areTwo_25 at hy
  refine aw_iconst (pc := 25) hX 0 (by decide) dX13_areTwo_25 ?_
  exact aw_zret (pc := 26) hX hr (by decide) (by decide) dX13_areTwo_26 (Or.inl rfl) ⟨rfl, _, rfl, hy.s⟩
def f_X13_areTwo (h : Mem) (v0 : Nat) (v1 : Int32) (v2 : Int32) : Option Int32 :=
  (ck h v0 11).bind fun _ => (f_X13_isPlace h v0 v1).bind fun x1 => (if x1 = 0 then f_X13_areTwo_25 h else (f_X13_isPlace h v0 v2).bind fun x2 => (if x2 = 0 then f_X13_areTwo_25 h else (if v1 = v2 then f_X13_areTwo_25 h else some 1)))
set_option maxRecDepth 100000 in
set_option maxHeartbeats 4000000 in
theorem w_X13_areTwo {G : GE} {X : CX} {l : Launch} (hX : Ok G X cX13_areTwo RX13) (hN : xn X = 3) (h : Mem) {P : Int32 → Prop} (hr : Rt G X l yX13_areTwo (some .boolean) rm_X13_areTwo (ppI h P)) (v0 : Nat) (v1 : Int32) (v2 : Int32) (hy : OK (f_X13_areTwo h v0 v1 v2) P) : AW G X 0 [(0, vR v0), (1, vI v1), (2, vI v2)] [] h 0 0 := by
  unfold f_X13_areTwo at hy
  have hkd := hy.kd
  have hy := hy.kb
  refine aw_aloadn (pc := 0) hX 0 rfl dX13_areTwo_0 ?_
  refine aw_iloadn (pc := 1) hX 1 rfl dX13_areTwo_1 ?_
  refine aw_callV (pc := 2) (st := []) (a := v0) hX [vI v1] (con_X13_isPlace _ G _ v0 v1 hy.bd) mc_X13_isPlace ml_X13_347 im_X13_isPlace se_X13_isPlace (by decide) hy.bd.kd rfl (rm_of hr (by decide)) (Nat.le_of_ble_eq_true rfl) rfl dX13_areTwo_2 (kpI rfl rfl (fun x1 hy => ?_))
  refine aw_if_eq (pc := 5) hX 25 (by decide) dX13_areTwo_5 (fun hc9 => ?_) (fun hc9 => ?_)
  · have hy := hy.t hc9
    refine AW.sub [] rfl ?_
    exact w_X13_areTwo_25 hX hN _ hr hy
  · have hy := hy.f hc9
    refine aw_aloadn (pc := 8) hX 0 rfl dX13_areTwo_8 ?_
    refine aw_iloadn (pc := 9) hX 2 rfl dX13_areTwo_9 ?_
    refine aw_callV (pc := 10) (st := []) (a := v0) hX [vI v2] (con_X13_isPlace _ G _ v0 v2 hy.bd) mc_X13_isPlace ml_X13_347 im_X13_isPlace se_X13_isPlace (by decide) hy.bd.kd rfl (rm_of hr (by decide)) (Nat.le_of_ble_eq_true rfl) rfl dX13_areTwo_10 (kpI rfl rfl (fun x2 hy => ?_))
    refine aw_if_eq (pc := 13) hX 25 (by decide) dX13_areTwo_13 (fun hc9 => ?_) (fun hc9 => ?_)
    · have hy := hy.t hc9
      refine AW.sub [] rfl ?_
      exact w_X13_areTwo_25 hX hN _ hr hy
    · have hy := hy.f hc9
      refine aw_iloadn (pc := 16) hX 1 rfl dX13_areTwo_16 ?_
      refine aw_iloadn (pc := 17) hX 2 rfl dX13_areTwo_17 ?_
      refine aw_ic_eq (pc := 18) hX 25 (by decide) dX13_areTwo_18 (fun hc9 => ?_) (fun hc9 => ?_)
      · have hy := hy.t hc9
        refine AW.sub [] rfl ?_
        exact w_X13_areTwo_25 hX hN _ hr hy
      · have hy := hy.f hc9
        refine aw_iconst (pc := 21) hX 1 (by decide) dX13_areTwo_21 ?_
        refine aw_goto (pc := 22) hX 26 (by decide) dX13_areTwo_22 ?_
        exact aw_zret (pc := 26) hX hr (by decide) (by decide) dX13_areTwo_26 (Or.inr rfl) ⟨rfl, _, rfl, hy.s⟩
theorem con_X13_areTwo (l : Launch) (G : GE) (h : Mem) (v0 : Nat) (v1 : Int32) (v2 : Int32) {P : Int32 → Prop} (hy : OK (f_X13_areTwo h v0 v1 v2) P) : Con l G yX13_areTwo cX13_areTwo 3 (some .boolean) rm_X13_areTwo [vR v0, vI v1, vI v2] h (ppI h P) := Con.of (by decide) (Nat.le_of_ble_eq_true rfl) (fun X hX hr hN => w_X13_areTwo hX hN h hr v0 v1 v2 hy)
/-! X13_isPerson -/
theorem dX13_isPerson_0 : decode cX13_isPerson 0 = .ok (.aload_n 0, 1) := by decide +kernel
theorem dX13_isPerson_1 : decode cX13_isPerson 1 = .ok (.getfield 338, 3) := by decide +kernel
theorem dX13_isPerson_4 : decode cX13_isPerson 4 = .ok (.ifnull 22, 3) := by decide +kernel
theorem dX13_isPerson_7 : decode cX13_isPerson 7 = .ok (.iload_n 1, 1) := by decide +kernel
theorem dX13_isPerson_8 : decode cX13_isPerson 8 = .ok (.ifCond .lt 18, 3) := by decide +kernel
theorem dX13_isPerson_11 : decode cX13_isPerson 11 = .ok (.iload_n 1, 1) := by decide +kernel
theorem dX13_isPerson_12 : decode cX13_isPerson 12 = .ok (.aload_n 0, 1) := by decide +kernel
theorem dX13_isPerson_13 : decode cX13_isPerson 13 = .ok (.getfield 338, 3) := by decide +kernel
theorem dX13_isPerson_16 : decode cX13_isPerson 16 = .ok (.getfield 306, 3) := by decide +kernel
theorem dX13_isPerson_19 : decode cX13_isPerson 19 = .ok (.if_icmp .ge 7, 3) := by decide +kernel
theorem dX13_isPerson_22 : decode cX13_isPerson 22 = .ok (.iconst 1, 1) := by decide +kernel
theorem dX13_isPerson_23 : decode cX13_isPerson 23 = .ok (.goto 4, 3) := by decide +kernel
theorem dX13_isPerson_26 : decode cX13_isPerson 26 = .ok (.iconst 0, 1) := by decide +kernel
theorem dX13_isPerson_27 : decode cX13_isPerson 27 = .ok (.ireturn, 1) := by decide +kernel
abbrev rm_X13_isPerson : Room := { frames := 0, cells := 0, slots := 0, locals := 0 }
def f_X13_isPerson_26 (h : Mem) : Option Int32 :=
  some 0
set_option maxRecDepth 100000 in
set_option maxHeartbeats 4000000 in
theorem w_X13_isPerson_26 {G : GE} {X : CX} {l : Launch} (hX : Ok G X cX13_isPerson RX13) (hN : xn X = 2) (h : Mem) {P : Int32 → Prop} (hr : Rt G X l yX13_isPerson (some .boolean) rm_X13_isPerson (ppI h P)) (hy : OK (f_X13_isPerson_26 h) P) : AW G X 26 [] [] h 0 0 := by
  unfold f_X13_isPerson_26 at hy
  refine aw_iconst (pc := 26) hX 0 (by decide) dX13_isPerson_26 ?_
  exact aw_zret (pc := 27) hX hr (by decide) (by decide) dX13_isPerson_27 (Or.inl rfl) ⟨rfl, _, rfl, hy.s⟩
def f_X13_isPerson (h : Mem) (v0 : Nat) (v1 : Int32) : Option Int32 :=
  (ck h v0 11).bind fun _ => (gR h v0 3 11).bind fun r1 => (if r1 = 0 then f_X13_isPerson_26 h else (if v1 < 0 then f_X13_isPerson_26 h else (gR h v0 3 11).bind fun r2 => (gI h r2 6 10).bind fun x3 => (if x3 ≤ v1 then f_X13_isPerson_26 h else some 1)))
set_option maxRecDepth 100000 in
set_option maxHeartbeats 4000000 in
theorem w_X13_isPerson {G : GE} {X : CX} {l : Launch} (hX : Ok G X cX13_isPerson RX13) (hN : xn X = 2) (h : Mem) {P : Int32 → Prop} (hr : Rt G X l yX13_isPerson (some .boolean) rm_X13_isPerson (ppI h P)) (v0 : Nat) (v1 : Int32) (hy : OK (f_X13_isPerson h v0 v1) P) : AW G X 0 [(0, vR v0), (1, vI v1)] [] h 0 0 := by
  unfold f_X13_isPerson at hy
  have hkd := hy.kd
  have hy := hy.kb
  refine aw_aloadn (pc := 0) hX 0 rfl dX13_isPerson_0 ?_
  refine aw_gR (pc := 1) hX hy fl_X13_338 (fun _ _ => rfl) dX13_isPerson_1 (fun r1 hy => ?_)
  refine aw_ifnull (pc := 4) hX 26 (by decide) dX13_isPerson_4 (fun hc9 => ?_) (fun hc9 => ?_)
  · have hy := hy.t hc9
    refine AW.sub [] rfl ?_
    exact w_X13_isPerson_26 hX hN _ hr hy
  · have hy := hy.f hc9
    refine aw_iloadn (pc := 7) hX 1 rfl dX13_isPerson_7 ?_
    refine aw_if_lt (pc := 8) hX 26 (by decide) dX13_isPerson_8 (fun hc9 => ?_) (fun hc9 => ?_)
    · have hy := hy.t hc9
      refine AW.sub [] rfl ?_
      exact w_X13_isPerson_26 hX hN _ hr hy
    · have hy := hy.f hc9
      refine aw_iloadn (pc := 11) hX 1 rfl dX13_isPerson_11 ?_
      refine aw_aloadn (pc := 12) hX 0 rfl dX13_isPerson_12 ?_
      refine aw_gR (pc := 13) hX hy fl_X13_338 (fun _ _ => rfl) dX13_isPerson_13 (fun r2 hy => ?_)
      refine aw_gI (pc := 16) hX hy fl_X13_306 (fun _ _ => rfl) dX13_isPerson_16 (fun x3 hy => ?_)
      refine aw_ic_ge (pc := 19) hX 26 (by decide) dX13_isPerson_19 (fun hc9 => ?_) (fun hc9 => ?_)
      · have hy := hy.t hc9
        refine AW.sub [] rfl ?_
        exact w_X13_isPerson_26 hX hN _ hr hy
      · have hy := hy.f hc9
        refine aw_iconst (pc := 22) hX 1 (by decide) dX13_isPerson_22 ?_
        refine aw_goto (pc := 23) hX 27 (by decide) dX13_isPerson_23 ?_
        exact aw_zret (pc := 27) hX hr (by decide) (by decide) dX13_isPerson_27 (Or.inr rfl) ⟨rfl, _, rfl, hy.s⟩
theorem con_X13_isPerson (l : Launch) (G : GE) (h : Mem) (v0 : Nat) (v1 : Int32) {P : Int32 → Prop} (hy : OK (f_X13_isPerson h v0 v1) P) : Con l G yX13_isPerson cX13_isPerson 2 (some .boolean) rm_X13_isPerson [vR v0, vI v1] h (ppI h P) := Con.of (by decide) (Nat.le_of_ble_eq_true rfl) (fun X hX hr hN => w_X13_isPerson hX hN h hr v0 v1 hy)
/-! X13_rains -/
theorem dX13_rains_0 : decode cX13_rains 0 = .ok (.aload_n 0, 1) := by decide +kernel
theorem dX13_rains_1 : decode cX13_rains 1 = .ok (.getfield 17, 3) := by decide +kernel
theorem dX13_rains_4 : decode cX13_rains 4 = .ok (.bipush 20, 2) := by decide +kernel
theorem dX13_rains_6 : decode cX13_rains 6 = .ok (.iaload, 1) := by decide +kernel
theorem dX13_rains_7 : decode cX13_rains 7 = .ok (.iconst 1, 1) := by decide +kernel
theorem dX13_rains_8 : decode cX13_rains 8 = .ok (.if_icmp .ne 7, 3) := by decide +kernel
theorem dX13_rains_11 : decode cX13_rains 11 = .ok (.iconst 1, 1) := by decide +kernel
theorem dX13_rains_12 : decode cX13_rains 12 = .ok (.goto 4, 3) := by decide +kernel
theorem dX13_rains_15 : decode cX13_rains 15 = .ok (.iconst 0, 1) := by decide +kernel
theorem dX13_rains_16 : decode cX13_rains 16 = .ok (.ireturn, 1) := by decide +kernel
abbrev rm_X13_rains : Room := { frames := 0, cells := 0, slots := 0, locals := 0 }
def f_X13_rains (h : Mem) (v0 : Nat) : Option Int32 :=
  (ck h v0 11).bind fun _ => (gR h v0 16 11).bind fun r1 => (aI h r1 20).bind fun x2 => (if x2 = 1 then some 1 else some 0)
set_option maxRecDepth 100000 in
set_option maxHeartbeats 4000000 in
theorem w_X13_rains {G : GE} {X : CX} {l : Launch} (hX : Ok G X cX13_rains RX13) (hN : xn X = 1) (h : Mem) {P : Int32 → Prop} (hr : Rt G X l yX13_rains (some .boolean) rm_X13_rains (ppI h P)) (v0 : Nat) (hy : OK (f_X13_rains h v0) P) : AW G X 0 [(0, vR v0)] [] h 0 0 := by
  unfold f_X13_rains at hy
  have hkd := hy.kd
  have hy := hy.kb
  refine aw_aloadn (pc := 0) hX 0 rfl dX13_rains_0 ?_
  refine aw_gR (pc := 1) hX hy fl_X13_17 (fun _ _ => rfl) dX13_rains_1 (fun r1 hy => ?_)
  refine aw_bipush (pc := 4) hX 20 (by decide) dX13_rains_4 ?_
  refine aw_aI (pc := 6) hX hy dX13_rains_6 (fun x2 hy => ?_)
  refine aw_iconst (pc := 7) hX 1 (by decide) dX13_rains_7 ?_
  refine aw_ic_ne (pc := 8) hX 15 (by decide) dX13_rains_8 (fun hc9 => ?_) (fun hc9 => ?_)
  · have hy := hy.f hc9
    refine aw_iconst (pc := 15) hX 0 (by decide) dX13_rains_15 ?_
    exact aw_zret (pc := 16) hX hr (by decide) (by decide) dX13_rains_16 (Or.inl rfl) ⟨rfl, _, rfl, hy.s⟩
  · have hy := hy.t hc9
    refine aw_iconst (pc := 11) hX 1 (by decide) dX13_rains_11 ?_
    refine aw_goto (pc := 12) hX 16 (by decide) dX13_rains_12 ?_
    exact aw_zret (pc := 16) hX hr (by decide) (by decide) dX13_rains_16 (Or.inr rfl) ⟨rfl, _, rfl, hy.s⟩
theorem con_X13_rains (l : Launch) (G : GE) (h : Mem) (v0 : Nat) {P : Int32 → Prop} (hy : OK (f_X13_rains h v0) P) : Con l G yX13_rains cX13_rains 1 (some .boolean) rm_X13_rains [vR v0] h (ppI h P) := Con.of (by decide) (Nat.le_of_ble_eq_true rfl) (fun X hX hr hN => w_X13_rains hX hN h hr v0 hy)
/-! X13_of -/
theorem dX13_of_0 : decode cX13_of 0 = .ok (.aload_n 2, 1) := by decide +kernel
theorem dX13_of_1 : decode cX13_of 1 = .ok (.bipush 7, 2) := by decide +kernel
theorem dX13_of_3 : decode cX13_of 3 = .ok (.iload_n 0, 1) := by decide +kernel
theorem dX13_of_4 : decode cX13_of 4 = .ok (.imul, 1) := by decide +kernel
theorem dX13_of_5 : decode cX13_of 5 = .ok (.iload_n 1, 1) := by decide +kernel
theorem dX13_of_6 : decode cX13_of 6 = .ok (.iadd, 1) := by decide +kernel
theorem dX13_of_7 : decode cX13_of 7 = .ok (.iaload, 1) := by decide +kernel
theorem dX13_of_8 : decode cX13_of 8 = .ok (.ireturn, 1) := by decide +kernel
abbrev rm_X13_of : Room := { frames := 0, cells := 0, slots := 0, locals := 0 }
def f_X13_of (h : Mem) (v0 : Int32) (v1 : Int32) (v2 : Nat) : Option Int32 :=
  (aI h v2 ((7 * v0) + v1)).bind fun x1 => some x1
set_option maxRecDepth 100000 in
set_option maxHeartbeats 4000000 in
theorem w_X13_of {G : GE} {X : CX} {l : Launch} (hX : Ok G X cX13_of RX13) (hN : xn X = 3) (h : Mem) {P : Int32 → Prop} (hr : Rt G X l yX13_of (some .int) rm_X13_of (ppI h P)) (v0 : Int32) (v1 : Int32) (v2 : Nat) (hy : OK (f_X13_of h v0 v1 v2) P) : AW G X 0 [(0, vI v0), (1, vI v1), (2, vR v2)] [] h 0 0 := by
  unfold f_X13_of at hy
  refine aw_aloadn (pc := 0) hX 2 rfl dX13_of_0 ?_
  refine aw_bipush (pc := 1) hX 7 (by decide) dX13_of_1 ?_
  refine aw_iloadn (pc := 3) hX 0 rfl dX13_of_3 ?_
  refine aw_imul (pc := 4) hX dX13_of_4 ?_
  refine aw_iloadn (pc := 5) hX 1 rfl dX13_of_5 ?_
  refine aw_iadd (pc := 6) hX dX13_of_6 ?_
  refine aw_aI (pc := 7) hX hy dX13_of_7 (fun x1 hy => ?_)
  exact aw_iret (pc := 8) hX hr (by decide) (by decide) dX13_of_8 ⟨rfl, _, rfl, hy.s⟩
theorem con_X13_of (l : Launch) (G : GE) (h : Mem) (v0 : Int32) (v1 : Int32) (v2 : Nat) {P : Int32 → Prop} (hy : OK (f_X13_of h v0 v1 v2) P) : Con l G yX13_of cX13_of 3 (some .int) rm_X13_of [vI v0, vI v1, vR v2] h (ppI h P) := Con.of (by decide) (Nat.le_of_ble_eq_true rfl) (fun X hX hr hN => w_X13_of hX hN h hr v0 v1 v2 hy)
/-! X13_sungBy -/
theorem dX13_sungBy_0 : decode cX13_sungBy 0 = .ok (.aload_n 0, 1) := by decide +kernel
theorem dX13_sungBy_1 : decode cX13_sungBy 1 = .ok (.getfield 338, 3) := by decide +kernel
theorem dX13_sungBy_4 : decode cX13_sungBy 4 = .ok (.iload_n 1, 1) := by decide +kernel
theorem dX13_sungBy_5 : decode cX13_sungBy 5 = .ok (.iload_n 2, 1) := by decide +kernel
theorem dX13_sungBy_6 : decode cX13_sungBy 6 = .ok (.invokevirtual 350, 3) := by decide +kernel
theorem dX13_sungBy_9 : decode cX13_sungBy 9 = .ok (.istore 5, 2) := by decide +kernel
theorem dX13_sungBy_11 : decode cX13_sungBy 11 = .ok (.iload_n 2, 1) := by decide +kernel
theorem dX13_sungBy_12 : decode cX13_sungBy 12 = .ok (.aload_n 0, 1) := by decide +kernel
theorem dX13_sungBy_13 : decode cX13_sungBy 13 = .ok (.getfield 338, 3) := by decide +kernel
theorem dX13_sungBy_16 : decode cX13_sungBy 16 = .ok (.getfield 237, 3) := by decide +kernel
theorem dX13_sungBy_19 : decode cX13_sungBy 19 = .ok (.iload_n 1, 1) := by decide +kernel
theorem dX13_sungBy_20 : decode cX13_sungBy 20 = .ok (.iaload, 1) := by decide +kernel
theorem dX13_sungBy_21 : decode cX13_sungBy 21 = .ok (.iconst 1, 1) := by decide +kernel
theorem dX13_sungBy_22 : decode cX13_sungBy 22 = .ok (.isub, 1) := by decide +kernel
theorem dX13_sungBy_23 : decode cX13_sungBy 23 = .ok (.if_icmp .ge 6, 3) := by decide +kernel
theorem dX13_sungBy_26 : decode cX13_sungBy 26 = .ok (.iload 5, 2) := by decide +kernel
theorem dX13_sungBy_28 : decode cX13_sungBy 28 = .ok (.ireturn, 1) := by decide +kernel
theorem dX13_sungBy_29 : decode cX13_sungBy 29 = .ok (.iload_n 3, 1) := by decide +kernel
theorem dX13_sungBy_30 : decode cX13_sungBy 30 = .ok (.ifCond .eq 20, 3) := by decide +kernel
theorem dX13_sungBy_33 : decode cX13_sungBy 33 = .ok (.iload 5, 2) := by decide +kernel
theorem dX13_sungBy_35 : decode cX13_sungBy 35 = .ok (.bipush 6, 2) := by decide +kernel
theorem dX13_sungBy_37 : decode cX13_sungBy 37 = .ok (.if_icmp .ne 7, 3) := by decide +kernel
theorem dX13_sungBy_40 : decode cX13_sungBy 40 = .ok (.iconst 5, 1) := by decide +kernel
theorem dX13_sungBy_41 : decode cX13_sungBy 41 = .ok (.goto 7, 3) := by decide +kernel
theorem dX13_sungBy_44 : decode cX13_sungBy 44 = .ok (.iload 5, 2) := by decide +kernel
theorem dX13_sungBy_46 : decode cX13_sungBy 46 = .ok (.iconst 1, 1) := by decide +kernel
theorem dX13_sungBy_47 : decode cX13_sungBy 47 = .ok (.iadd, 1) := by decide +kernel
theorem dX13_sungBy_48 : decode cX13_sungBy 48 = .ok (.istore 5, 2) := by decide +kernel
theorem dX13_sungBy_50 : decode cX13_sungBy 50 = .ok (.iload 4, 2) := by decide +kernel
theorem dX13_sungBy_52 : decode cX13_sungBy 52 = .ok (.ifCond .eq 15, 3) := by decide +kernel
theorem dX13_sungBy_55 : decode cX13_sungBy 55 = .ok (.iload 5, 2) := by decide +kernel
theorem dX13_sungBy_57 : decode cX13_sungBy 57 = .ok (.ifCond .le 10, 3) := by decide +kernel
theorem dX13_sungBy_60 : decode cX13_sungBy 60 = .ok (.iload 5, 2) := by decide +kernel
theorem dX13_sungBy_62 : decode cX13_sungBy 62 = .ok (.iconst 1, 1) := by decide +kernel
theorem dX13_sungBy_63 : decode cX13_sungBy 63 = .ok (.isub, 1) := by decide +kernel
theorem dX13_sungBy_64 : decode cX13_sungBy 64 = .ok (.goto 5, 3) := by decide +kernel
theorem dX13_sungBy_67 : decode cX13_sungBy 67 = .ok (.iload 5, 2) := by decide +kernel
theorem dX13_sungBy_69 : decode cX13_sungBy 69 = .ok (.ireturn, 1) := by decide +kernel
abbrev rm_X13_sungBy : Room := { frames := 1, cells := 0, slots := 0, locals := 22 }
def f_X13_sungBy_67 (h : Mem) (v5 : Int32) : Option Int32 :=
  some v5
set_option maxRecDepth 100000 in
set_option maxHeartbeats 4000000 in
theorem w_X13_sungBy_67 {G : GE} {X : CX} {l : Launch} (hX : Ok G X cX13_sungBy RX13) (hN : xn X = 6) (h : Mem) {P : Int32 → Prop} (hr : Rt G X l yX13_sungBy (some .int) rm_X13_sungBy (ppI h P)) (v5 : Int32) (hy : OK (f_X13_sungBy_67 h v5) P) : AW G X 67 [(5, vI v5)] [] h 0 0 := by
  unfold f_X13_sungBy_67 at hy
  refine aw_iload (pc := 67) hX 0 rfl dX13_sungBy_67 ?_
  exact aw_iret (pc := 69) hX hr (by decide) (by decide) dX13_sungBy_69 ⟨rfl, _, rfl, hy.s⟩
def f_X13_sungBy_50 (h : Mem) (v4 : Int32) (v5 : Int32) : Option Int32 :=
  (if v4 = 0 then f_X13_sungBy_67 h v5 else (if v5 ≤ 0 then f_X13_sungBy_67 h v5 else some (v5 - 1)))
set_option maxRecDepth 100000 in
set_option maxHeartbeats 4000000 in
theorem w_X13_sungBy_50 {G : GE} {X : CX} {l : Launch} (hX : Ok G X cX13_sungBy RX13) (hN : xn X = 6) (h : Mem) {P : Int32 → Prop} (hr : Rt G X l yX13_sungBy (some .int) rm_X13_sungBy (ppI h P)) (v4 : Int32) (v5 : Int32) (hy : OK (f_X13_sungBy_50 h v4 v5) P) : AW G X 50 [(4, vI v4), (5, vI v5)] [] h 0 0 := by
  unfold f_X13_sungBy_50 at hy
  refine aw_iload (pc := 50) hX 0 rfl dX13_sungBy_50 ?_
  refine aw_if_eq (pc := 52) hX 67 (by decide) dX13_sungBy_52 (fun hc9 => ?_) (fun hc9 => ?_)
  · have hy := hy.t hc9
    refine AW.sub [1] rfl ?_
    exact w_X13_sungBy_67 hX hN _ hr v5 hy
  · have hy := hy.f hc9
    refine aw_iload (pc := 55) hX 1 rfl dX13_sungBy_55 ?_
    refine aw_if_le (pc := 57) hX 67 (by decide) dX13_sungBy_57 (fun hc9 => ?_) (fun hc9 => ?_)
    · have hy := hy.t hc9
      refine AW.sub [1] rfl ?_
      exact w_X13_sungBy_67 hX hN _ hr v5 hy
    · have hy := hy.f hc9
      refine aw_iload (pc := 60) hX 1 rfl dX13_sungBy_60 ?_
      refine aw_iconst (pc := 62) hX 1 (by decide) dX13_sungBy_62 ?_
      refine aw_isub (pc := 63) hX dX13_sungBy_63 ?_
      refine aw_goto (pc := 64) hX 69 (by decide) dX13_sungBy_64 ?_
      exact aw_iret (pc := 69) hX hr (by decide) (by decide) dX13_sungBy_69 ⟨rfl, _, rfl, hy.s⟩
def f_X13_sungBy_48 (h : Mem) (v4 : Int32) (s0 : Int32) : Option Int32 :=
  f_X13_sungBy_50 h v4 s0
set_option maxRecDepth 100000 in
set_option maxHeartbeats 4000000 in
theorem w_X13_sungBy_48 {G : GE} {X : CX} {l : Launch} (hX : Ok G X cX13_sungBy RX13) (hN : xn X = 6) (h : Mem) {P : Int32 → Prop} (hr : Rt G X l yX13_sungBy (some .int) rm_X13_sungBy (ppI h P)) (v4 : Int32) (s0 : Int32) (hy : OK (f_X13_sungBy_48 h v4 s0) P) : AW G X 48 [(4, vI v4)] [vI s0] h 0 0 := by
  unfold f_X13_sungBy_48 at hy
  refine aw_istore (pc := 48) hX [(5, vI s0), (4, vI v4)] rfl (lt_n hN (by decide)) dX13_sungBy_48 ?_
  refine AW.sub [1, 0] rfl ?_
  exact w_X13_sungBy_50 hX hN _ hr v4 s0 hy
def f_X13_sungBy (h : Mem) (v0 : Nat) (v1 : Int32) (v2 : Int32) (v3 : Int32) (v4 : Int32) : Option Int32 :=
  (ck h v0 11).bind fun _ => (gR h v0 3 11).bind fun r1 => (f_X12_note h r1 v1 v2).bind fun x2 => (gR h v0 3 11).bind fun r3 => (gR h r3 10 10).bind fun r4 => (aI h r4 v1).bind fun x5 => (if (x5 - 1) ≤ v2 then (if v3 = 0 then f_X13_sungBy_50 h v4 x2 else (if x2 = 6 then f_X13_sungBy_48 h v4 5 else f_X13_sungBy_48 h v4 (x2 + 1))) else some x2)
set_option maxRecDepth 100000 in
set_option maxHeartbeats 4000000 in
theorem w_X13_sungBy {G : GE} {X : CX} {l : Launch} (hX : Ok G X cX13_sungBy RX13) (hN : xn X = 6) (h : Mem) {P : Int32 → Prop} (hr : Rt G X l yX13_sungBy (some .int) rm_X13_sungBy (ppI h P)) (v0 : Nat) (v1 : Int32) (v2 : Int32) (v3 : Int32) (v4 : Int32) (hy : OK (f_X13_sungBy h v0 v1 v2 v3 v4) P) : AW G X 0 [(0, vR v0), (1, vI v1), (2, vI v2), (3, vI v3), (4, vI v4)] [] h 0 0 := by
  unfold f_X13_sungBy at hy
  have hkd := hy.kd
  have hy := hy.kb
  refine aw_aloadn (pc := 0) hX 0 rfl dX13_sungBy_0 ?_
  refine aw_gR (pc := 1) hX hy fl_X13_338 (fun _ _ => rfl) dX13_sungBy_1 (fun r1 hy => ?_)
  refine aw_iloadn (pc := 4) hX 1 rfl dX13_sungBy_4 ?_
  refine aw_iloadn (pc := 5) hX 2 rfl dX13_sungBy_5 ?_
  refine aw_callV (pc := 6) (st := []) (a := r1) hX [vI v1, vI v2] (con_X12_note _ G _ r1 v1 v2 hy.bd) mc_X12_note ml_X13_350 im_X12_note se_X12_note (by decide) hy.bd.kd rfl (rm_of hr (by decide)) (Nat.le_of_ble_eq_true rfl) rfl dX13_sungBy_6 (kpI rfl rfl (fun x2 hy => ?_))
  refine aw_istore (pc := 9) hX [(5, vI x2), (0, vR v0), (1, vI v1), (2, vI v2), (3, vI v3), (4, vI v4)] rfl (lt_n hN (by decide)) dX13_sungBy_9 ?_
  refine aw_iloadn (pc := 11) hX 3 rfl dX13_sungBy_11 ?_
  refine aw_aloadn (pc := 12) hX 1 rfl dX13_sungBy_12 ?_
  refine aw_gR (pc := 13) hX hy fl_X13_338 (fun _ _ => rfl) dX13_sungBy_13 (fun r3 hy => ?_)
  refine aw_gR (pc := 16) hX hy fl_X13_237 (fun _ _ => rfl) dX13_sungBy_16 (fun r4 hy => ?_)
  refine aw_iloadn (pc := 19) hX 2 rfl dX13_sungBy_19 ?_
  refine aw_aI (pc := 20) hX hy dX13_sungBy_20 (fun x5 hy => ?_)
  refine aw_iconst (pc := 21) hX 1 (by decide) dX13_sungBy_21 ?_
  refine aw_isub (pc := 22) hX dX13_sungBy_22 ?_
  refine aw_ic_ge (pc := 23) hX 29 (by decide) dX13_sungBy_23 (fun hc9 => ?_) (fun hc9 => ?_)
  · have hy := hy.t hc9
    refine aw_iloadn (pc := 29) hX 4 rfl dX13_sungBy_29 ?_
    refine aw_if_eq (pc := 30) hX 50 (by decide) dX13_sungBy_30 (fun hc9 => ?_) (fun hc9 => ?_)
    · have hy := hy.t hc9
      refine AW.sub [5, 0] rfl ?_
      exact w_X13_sungBy_50 hX hN _ hr v4 x2 hy
    · have hy := hy.f hc9
      refine aw_iload (pc := 33) hX 0 rfl dX13_sungBy_33 ?_
      refine aw_bipush (pc := 35) hX 6 (by decide) dX13_sungBy_35 ?_
      refine aw_ic_ne (pc := 37) hX 44 (by decide) dX13_sungBy_37 (fun hc9 => ?_) (fun hc9 => ?_)
      · have hy := hy.f hc9
        refine aw_iload (pc := 44) hX 0 rfl dX13_sungBy_44 ?_
        refine aw_iconst (pc := 46) hX 1 (by decide) dX13_sungBy_46 ?_
        refine aw_iadd (pc := 47) hX dX13_sungBy_47 ?_
        refine AW.sub [5] rfl ?_
        exact w_X13_sungBy_48 hX hN _ hr v4 (x2 + 1) hy
      · have hy := hy.t hc9
        refine aw_iconst (pc := 40) hX 5 (by decide) dX13_sungBy_40 ?_
        refine aw_goto (pc := 41) hX 48 (by decide) dX13_sungBy_41 ?_
        refine AW.sub [5] rfl ?_
        exact w_X13_sungBy_48 hX hN _ hr v4 5 hy
  · have hy := hy.f hc9
    refine aw_iload (pc := 26) hX 0 rfl dX13_sungBy_26 ?_
    exact aw_iret (pc := 28) hX hr (by decide) (by decide) dX13_sungBy_28 ⟨rfl, _, rfl, hy.s⟩
theorem con_X13_sungBy (l : Launch) (G : GE) (h : Mem) (v0 : Nat) (v1 : Int32) (v2 : Int32) (v3 : Int32) (v4 : Int32) {P : Int32 → Prop} (hy : OK (f_X13_sungBy h v0 v1 v2 v3 v4) P) : Con l G yX13_sungBy cX13_sungBy 6 (some .int) rm_X13_sungBy [vR v0, vI v1, vI v2, vI v3, vI v4] h (ppI h P) := Con.of (by decide) (Nat.le_of_ble_eq_true rfl) (fun X hX hr hN => w_X13_sungBy hX hN h hr v0 v1 v2 v3 v4 hy)
/-! X13_liftsTo -/
theorem dX13_liftsTo_0 : decode cX13_liftsTo 0 = .ok (.iload_n 1, 1) := by decide +kernel
theorem dX13_liftsTo_1 : decode cX13_liftsTo 1 = .ok (.iload_n 2, 1) := by decide +kernel
theorem dX13_liftsTo_2 : decode cX13_liftsTo 2 = .ok (.aload_n 0, 1) := by decide +kernel
theorem dX13_liftsTo_3 : decode cX13_liftsTo 3 = .ok (.getfield 338, 3) := by decide +kernel
theorem dX13_liftsTo_6 : decode cX13_liftsTo 6 = .ok (.getfield 272, 3) := by decide +kernel
theorem dX13_liftsTo_9 : decode cX13_liftsTo 9 = .ok (.invokestatic 352, 3) := by decide +kernel
theorem dX13_liftsTo_12 : decode cX13_liftsTo 12 = .ok (.istore 6, 2) := by decide +kernel
theorem dX13_liftsTo_14 : decode cX13_liftsTo 14 = .ok (.iload_n 1, 1) := by decide +kernel
theorem dX13_liftsTo_15 : decode cX13_liftsTo 15 = .ok (.iload_n 2, 1) := by decide +kernel
theorem dX13_liftsTo_16 : decode cX13_liftsTo 16 = .ok (.aload_n 0, 1) := by decide +kernel
theorem dX13_liftsTo_17 : decode cX13_liftsTo 17 = .ok (.getfield 338, 3) := by decide +kernel
theorem dX13_liftsTo_20 : decode cX13_liftsTo 20 = .ok (.getfield 282, 3) := by decide +kernel
theorem dX13_liftsTo_23 : decode cX13_liftsTo 23 = .ok (.invokestatic 352, 3) := by decide +kernel
theorem dX13_liftsTo_26 : decode cX13_liftsTo 26 = .ok (.istore 7, 2) := by decide +kernel
theorem dX13_liftsTo_28 : decode cX13_liftsTo 28 = .ok (.iload 6, 2) := by decide +kernel
theorem dX13_liftsTo_30 : decode cX13_liftsTo 30 = .ok (.bipush (-2), 2) := by decide +kernel
theorem dX13_liftsTo_32 : decode cX13_liftsTo 32 = .ok (.if_icmp .eq 9, 3) := by decide +kernel
theorem dX13_liftsTo_35 : decode cX13_liftsTo 35 = .ok (.iload 6, 2) := by decide +kernel
theorem dX13_liftsTo_37 : decode cX13_liftsTo 37 = .ok (.iconst 3, 1) := by decide +kernel
theorem dX13_liftsTo_38 : decode cX13_liftsTo 38 = .ok (.if_icmp .ne 5, 3) := by decide +kernel
theorem dX13_liftsTo_41 : decode cX13_liftsTo 41 = .ok (.iconst 1, 1) := by decide +kernel
theorem dX13_liftsTo_42 : decode cX13_liftsTo 42 = .ok (.ireturn, 1) := by decide +kernel
theorem dX13_liftsTo_43 : decode cX13_liftsTo 43 = .ok (.aload_n 0, 1) := by decide +kernel
theorem dX13_liftsTo_44 : decode cX13_liftsTo 44 = .ok (.getfield 338, 3) := by decide +kernel
theorem dX13_liftsTo_47 : decode cX13_liftsTo 47 = .ok (.getfield 237, 3) := by decide +kernel
theorem dX13_liftsTo_50 : decode cX13_liftsTo 50 = .ok (.iload 7, 2) := by decide +kernel
theorem dX13_liftsTo_52 : decode cX13_liftsTo 52 = .ok (.iaload, 1) := by decide +kernel
theorem dX13_liftsTo_53 : decode cX13_liftsTo 53 = .ok (.aload_n 0, 1) := by decide +kernel
theorem dX13_liftsTo_54 : decode cX13_liftsTo 54 = .ok (.getfield 338, 3) := by decide +kernel
theorem dX13_liftsTo_57 : decode cX13_liftsTo 57 = .ok (.getfield 237, 3) := by decide +kernel
theorem dX13_liftsTo_60 : decode cX13_liftsTo 60 = .ok (.iload_n 3, 1) := by decide +kernel
theorem dX13_liftsTo_61 : decode cX13_liftsTo 61 = .ok (.iaload, 1) := by decide +kernel
theorem dX13_liftsTo_62 : decode cX13_liftsTo 62 = .ok (.if_icmp .eq 5, 3) := by decide +kernel
theorem dX13_liftsTo_65 : decode cX13_liftsTo 65 = .ok (.iconst 0, 1) := by decide +kernel
theorem dX13_liftsTo_66 : decode cX13_liftsTo 66 = .ok (.ireturn, 1) := by decide +kernel
theorem dX13_liftsTo_67 : decode cX13_liftsTo 67 = .ok (.iconst 0, 1) := by decide +kernel
theorem dX13_liftsTo_68 : decode cX13_liftsTo 68 = .ok (.istore 8, 2) := by decide +kernel
theorem dX13_liftsTo_70 : decode cX13_liftsTo 70 = .ok (.iconst 0, 1) := by decide +kernel
theorem dX13_liftsTo_71 : decode cX13_liftsTo 71 = .ok (.istore 9, 2) := by decide +kernel
theorem dX13_liftsTo_73 : decode cX13_liftsTo 73 = .ok (.iload 9, 2) := by decide +kernel
theorem dX13_liftsTo_75 : decode cX13_liftsTo 75 = .ok (.aload_n 0, 1) := by decide +kernel
theorem dX13_liftsTo_76 : decode cX13_liftsTo 76 = .ok (.getfield 338, 3) := by decide +kernel
theorem dX13_liftsTo_79 : decode cX13_liftsTo 79 = .ok (.getfield 237, 3) := by decide +kernel
theorem dX13_liftsTo_82 : decode cX13_liftsTo 82 = .ok (.iload_n 3, 1) := by decide +kernel
theorem dX13_liftsTo_83 : decode cX13_liftsTo 83 = .ok (.iaload, 1) := by decide +kernel
theorem dX13_liftsTo_84 : decode cX13_liftsTo 84 = .ok (.if_icmp .ge 44, 3) := by decide +kernel
theorem dX13_liftsTo_87 : decode cX13_liftsTo 87 = .ok (.iload 8, 2) := by decide +kernel
theorem dX13_liftsTo_89 : decode cX13_liftsTo 89 = .ok (.aload_n 0, 1) := by decide +kernel
theorem dX13_liftsTo_90 : decode cX13_liftsTo 90 = .ok (.getfield 338, 3) := by decide +kernel
theorem dX13_liftsTo_93 : decode cX13_liftsTo 93 = .ok (.iload 7, 2) := by decide +kernel
theorem dX13_liftsTo_95 : decode cX13_liftsTo 95 = .ok (.iload 9, 2) := by decide +kernel
theorem dX13_liftsTo_97 : decode cX13_liftsTo 97 = .ok (.invokevirtual 350, 3) := by decide +kernel
theorem dX13_liftsTo_100 : decode cX13_liftsTo 100 = .ok (.aload_n 0, 1) := by decide +kernel
theorem dX13_liftsTo_101 : decode cX13_liftsTo 101 = .ok (.iload_n 3, 1) := by decide +kernel
theorem dX13_liftsTo_102 : decode cX13_liftsTo 102 = .ok (.iload 9, 2) := by decide +kernel
theorem dX13_liftsTo_104 : decode cX13_liftsTo 104 = .ok (.iload 4, 2) := by decide +kernel
theorem dX13_liftsTo_106 : decode cX13_liftsTo 106 = .ok (.iload 5, 2) := by decide +kernel
theorem dX13_liftsTo_108 : decode cX13_liftsTo 108 = .ok (.invokevirtual 356, 3) := by decide +kernel
theorem dX13_liftsTo_111 : decode cX13_liftsTo 111 = .ok (.if_icmp .eq 7, 3) := by decide +kernel
theorem dX13_liftsTo_114 : decode cX13_liftsTo 114 = .ok (.iconst 1, 1) := by decide +kernel
theorem dX13_liftsTo_115 : decode cX13_liftsTo 115 = .ok (.goto 4, 3) := by decide +kernel
theorem dX13_liftsTo_118 : decode cX13_liftsTo 118 = .ok (.iconst 0, 1) := by decide +kernel
theorem dX13_liftsTo_119 : decode cX13_liftsTo 119 = .ok (.iadd, 1) := by decide +kernel
theorem dX13_liftsTo_120 : decode cX13_liftsTo 120 = .ok (.istore 8, 2) := by decide +kernel
theorem dX13_liftsTo_122 : decode cX13_liftsTo 122 = .ok (.iinc 9 1, 3) := by decide +kernel
theorem dX13_liftsTo_125 : decode cX13_liftsTo 125 = .ok (.goto (-52), 3) := by decide +kernel
theorem dX13_liftsTo_128 : decode cX13_liftsTo 128 = .ok (.iload 6, 2) := by decide +kernel
theorem dX13_liftsTo_130 : decode cX13_liftsTo 130 = .ok (.iconst 2, 1) := by decide +kernel
theorem dX13_liftsTo_131 : decode cX13_liftsTo 131 = .ok (.if_icmp .eq 19, 3) := by decide +kernel
theorem dX13_liftsTo_134 : decode cX13_liftsTo 134 = .ok (.iload 8, 2) := by decide +kernel
theorem dX13_liftsTo_136 : decode cX13_liftsTo 136 = .ok (.iload 6, 2) := by decide +kernel
theorem dX13_liftsTo_138 : decode cX13_liftsTo 138 = .ok (.iconst 1, 1) := by decide +kernel
theorem dX13_liftsTo_139 : decode cX13_liftsTo 139 = .ok (.if_icmp .ne 7, 3) := by decide +kernel
theorem dX13_liftsTo_142 : decode cX13_liftsTo 142 = .ok (.iconst 1, 1) := by decide +kernel
theorem dX13_liftsTo_143 : decode cX13_liftsTo 143 = .ok (.goto 4, 3) := by decide +kernel
theorem dX13_liftsTo_146 : decode cX13_liftsTo 146 = .ok (.iconst 0, 1) := by decide +kernel
theorem dX13_liftsTo_147 : decode cX13_liftsTo 147 = .ok (.if_icmp .gt 7, 3) := by decide +kernel
theorem dX13_liftsTo_150 : decode cX13_liftsTo 150 = .ok (.iconst 1, 1) := by decide +kernel
theorem dX13_liftsTo_151 : decode cX13_liftsTo 151 = .ok (.goto 4, 3) := by decide +kernel
theorem dX13_liftsTo_154 : decode cX13_liftsTo 154 = .ok (.iconst 0, 1) := by decide +kernel
theorem dX13_liftsTo_155 : decode cX13_liftsTo 155 = .ok (.ireturn, 1) := by decide +kernel
abbrev rm_X13_liftsTo : Room := { frames := 2, cells := 0, slots := 0, locals := 47 }
def f_X13_liftsTo_119 (h : Mem) (v0 : Nat) (v3 : Int32) (v4 : Int32) (v5 : Int32) (v6 : Int32) (v7 : Int32) (v9 : Int32) (s0 : Int32) (s1 : Int32) : Option ((Int32 × Int32) ⊕ Int32) :=
  some (.inl ((s0 + s1), (v9 + 1)))
set_option maxRecDepth 100000 in
set_option maxHeartbeats 4000000 in
theorem w_X13_liftsTo_119 {G : GE} {X : CX} {l : Launch} (hX : Ok G X cX13_liftsTo RX13) (hN : xn X = 10) (h : Mem) {P0 : Int32 → Prop} (hr : Rt G X l yX13_liftsTo (some .boolean) rm_X13_liftsTo (ppI h P0))  (v0 : Nat) (v3 : Int32) (v4 : Int32) (v5 : Int32) (v6 : Int32) (v7 : Int32) {P : ((Int32 × Int32) ⊕ Int32) → Prop} (hc : ∀ s, P (.inl s) → AW G X 73 [(0, vR v0), (3, vI v3), (4, vI v4), (5, vI v5), (6, vI v6), (7, vI v7), (8, vI s.1), (9, vI s.2)] [] h 0 0) (he0 : ∀ e, P (.inr e) → AW G X 128 [(6, vI v6), (8, vI e)] [] h 0 0) (v9 : Int32) (s0 : Int32) (s1 : Int32) (hy : OK (f_X13_liftsTo_119 h v0 v3 v4 v5 v6 v7 v9 s0 s1) P) : AW G X 119 [(0, vR v0), (3, vI v3), (4, vI v4), (5, vI v5), (6, vI v6), (7, vI v7), (9, vI v9)] [vI s1, vI s0] h 0 0 := by
  unfold f_X13_liftsTo_119 at hy
  refine aw_iadd (pc := 119) hX dX13_liftsTo_119 ?_
  refine aw_istore (pc := 120) hX [(8, vI (s0 + s1)), (0, vR v0), (3, vI v3), (4, vI v4), (5, vI v5), (6, vI v6), (7, vI v7), (9, vI v9)] rfl (lt_n hN (by decide)) dX13_liftsTo_120 ?_
  refine aw_iinc (pc := 122) hX 1 (by decide) 7 rfl [(9, vI (v9 + 1)), (8, vI (s0 + s1)), (0, vR v0), (3, vI v3), (4, vI v4), (5, vI v5), (6, vI v6), (7, vI v7)] rfl (lt_n hN (by decide)) dX13_liftsTo_122 ?_
  refine aw_goto (pc := 125) hX 73 (by decide) dX13_liftsTo_125 ?_
  refine AW.sub [2, 3, 4, 5, 6, 7, 1, 0] rfl ?_
  exact hc ((s0 + s1), (v9 + 1)) hy.s
def b_X13_liftsTo_73 (h : Mem) (v0 : Nat) (v3 : Int32) (v4 : Int32) (v5 : Int32) (v6 : Int32) (v7 : Int32) (v8 : Int32) (v9 : Int32) : Option ((Int32 × Int32) ⊕ Int32) :=
  (gR h v0 3 11).bind fun r13 => (gR h r13 10 10).bind fun r14 => (aI h r14 v3).bind fun x15 => (if x15 ≤ v9 then some (.inr v8) else (gR h v0 3 11).bind fun r16 => (f_X12_note h r16 v7 v9).bind fun x17 => (f_X13_sungBy h v0 v3 v9 v4 v5).bind fun x18 => (if x17 = x18 then f_X13_liftsTo_119 h v0 v3 v4 v5 v6 v7 v9 v8 0 else f_X13_liftsTo_119 h v0 v3 v4 v5 v6 v7 v9 v8 1))
set_option maxRecDepth 100000 in
set_option maxHeartbeats 4000000 in
theorem wb_X13_liftsTo_73 {G : GE} {X : CX} {l : Launch} (hX : Ok G X cX13_liftsTo RX13) (hN : xn X = 10) (h : Mem) {P0 : Int32 → Prop} (hr : Rt G X l yX13_liftsTo (some .boolean) rm_X13_liftsTo (ppI h P0))  (v0 : Nat) (v3 : Int32) (v4 : Int32) (v5 : Int32) (v6 : Int32) (v7 : Int32) {P : ((Int32 × Int32) ⊕ Int32) → Prop} (hc : ∀ s, P (.inl s) → AW G X 73 [(0, vR v0), (3, vI v3), (4, vI v4), (5, vI v5), (6, vI v6), (7, vI v7), (8, vI s.1), (9, vI s.2)] [] h 0 0) (he0 : ∀ e, P (.inr e) → AW G X 128 [(6, vI v6), (8, vI e)] [] h 0 0) (v8 : Int32) (v9 : Int32) (hy : OK (b_X13_liftsTo_73 h v0 v3 v4 v5 v6 v7 v8 v9) P) : AW G X 73 [(0, vR v0), (3, vI v3), (4, vI v4), (5, vI v5), (6, vI v6), (7, vI v7), (8, vI v8), (9, vI v9)] [] h 0 0 := by
  unfold b_X13_liftsTo_73 at hy
  refine aw_iload (pc := 73) hX 7 rfl dX13_liftsTo_73 ?_
  refine aw_aloadn (pc := 75) hX 0 rfl dX13_liftsTo_75 ?_
  refine aw_gR (pc := 76) hX hy fl_X13_338 (fun _ _ => rfl) dX13_liftsTo_76 (fun r13 hy => ?_)
  refine aw_gR (pc := 79) hX hy fl_X13_237 (fun _ _ => rfl) dX13_liftsTo_79 (fun r14 hy => ?_)
  refine aw_iloadn (pc := 82) hX 1 rfl dX13_liftsTo_82 ?_
  refine aw_aI (pc := 83) hX hy dX13_liftsTo_83 (fun x15 hy => ?_)
  refine aw_ic_ge (pc := 84) hX 128 (by decide) dX13_liftsTo_84 (fun hc9 => ?_) (fun hc9 => ?_)
  · have hy := hy.t hc9
    refine AW.sub [4, 6] rfl ?_
    exact he0 v8 hy.s
  · have hy := hy.f hc9
    refine aw_iload (pc := 87) hX 6 rfl dX13_liftsTo_87 ?_
    refine aw_aloadn (pc := 89) hX 0 rfl dX13_liftsTo_89 ?_
    refine aw_gR (pc := 90) hX hy fl_X13_338 (fun _ _ => rfl) dX13_liftsTo_90 (fun r16 hy => ?_)
    refine aw_iload (pc := 93) hX 5 rfl dX13_liftsTo_93 ?_
    refine aw_iload (pc := 95) hX 7 rfl dX13_liftsTo_95 ?_
    refine aw_callV (pc := 97) (st := [vI v8]) (a := r16) hX [vI v7, vI v9] (con_X12_note _ G _ r16 v7 v9 hy.bd) mc_X12_note ml_X13_350 im_X12_note se_X12_note (by decide) hy.bd.kd rfl (rm_of hr (by decide)) (Nat.le_of_ble_eq_true rfl) rfl dX13_liftsTo_97 (kpI rfl rfl (fun x17 hy => ?_))
    refine aw_aloadn (pc := 100) hX 0 rfl dX13_liftsTo_100 ?_
    refine aw_iloadn (pc := 101) hX 1 rfl dX13_liftsTo_101 ?_
    refine aw_iload (pc := 102) hX 7 rfl dX13_liftsTo_102 ?_
    refine aw_iload (pc := 104) hX 2 rfl dX13_liftsTo_104 ?_
    refine aw_iload (pc := 106) hX 3 rfl dX13_liftsTo_106 ?_
    refine aw_callV (pc := 108) (st := [vI x17, vI v8]) (a := v0) hX [vI v3, vI v9, vI v4, vI v5] (con_X13_sungBy _ G _ v0 v3 v9 v4 v5 hy.bd) mc_X13_sungBy ml_X13_356 im_X13_sungBy se_X13_sungBy (by decide) hy.bd.kd rfl (rm_of hr (by decide)) (Nat.le_of_ble_eq_true rfl) rfl dX13_liftsTo_108 (kpI rfl rfl (fun x18 hy => ?_))
    refine aw_ic_eq (pc := 111) hX 118 (by decide) dX13_liftsTo_111 (fun hc9 => ?_) (fun hc9 => ?_)
    · have hy := hy.t hc9
      refine aw_iconst (pc := 118) hX 0 (by decide) dX13_liftsTo_118 ?_
      refine AW.sub [0, 1, 2, 3, 4, 5, 7] rfl ?_
      exact w_X13_liftsTo_119 hX hN _ hr _ _ _ _ _ _ hc he0 v9 v8 0 hy
    · have hy := hy.f hc9
      refine aw_iconst (pc := 114) hX 1 (by decide) dX13_liftsTo_114 ?_
      refine aw_goto (pc := 115) hX 119 (by decide) dX13_liftsTo_115 ?_
      refine AW.sub [0, 1, 2, 3, 4, 5, 7] rfl ?_
      exact w_X13_liftsTo_119 hX hN _ hr _ _ _ _ _ _ hc he0 v9 v8 1 hy
theorem wl_X13_liftsTo_73 {G : GE} {X : CX} {l : Launch} (hX : Ok G X cX13_liftsTo RX13) (hN : xn X = 10) (h : Mem) {P0 : Int32 → Prop} (hr : Rt G X l yX13_liftsTo (some .boolean) rm_X13_liftsTo (ppI h P0)) (v0 : Nat) (v3 : Int32) (v4 : Int32) (v5 : Int32) (v6 : Int32) (v7 : Int32) {P : (Int32) → Prop} (he0 : ∀ e, P e → AW G X 128 [(6, vI v6), (8, vI e)] [] h 0 0) : ∀ (n : Nat) (s : Int32 × Int32), OK (iter (fun (s : Int32 × Int32) => b_X13_liftsTo_73 h v0 v3 v4 v5 v6 v7 s.1 s.2) n s) P → AW G X 73 [(0, vR v0), (3, vI v3), (4, vI v4), (5, vI v5), (6, vI v6), (7, vI v7), (8, vI s.1), (9, vI s.2)] [] h 0 0 := by
  intro n
  induction n with
  | zero => exact fun s hy => hy.it0.elim
  | succ n ih =>
    intro s hy
    exact wb_X13_liftsTo_73 hX hN h hr v0 v3 v4 v5 v6 v7 (fun s hs => ih s hs) (fun e hs => he0 e hs) s.1 s.2 hy.it
def f_X13_liftsTo_150 (h : Mem) : Option Int32 :=
  some 1
set_option maxRecDepth 100000 in
set_option maxHeartbeats 4000000 in
theorem w_X13_liftsTo_150 {G : GE} {X : CX} {l : Launch} (hX : Ok G X cX13_liftsTo RX13) (hN : xn X = 10) (h : Mem) {P : Int32 → Prop} (hr : Rt G X l yX13_liftsTo (some .boolean) rm_X13_liftsTo (ppI h P)) (hy : OK (f_X13_liftsTo_150 h) P) : AW G X 150 [] [] h 0 0 := by
  unfold f_X13_liftsTo_150 at hy
  refine aw_iconst (pc := 150) hX 1 (by decide) dX13_liftsTo_150 ?_
  refine aw_goto (pc := 151) hX 155 (by decide) dX13_liftsTo_151 ?_
  exact aw_zret (pc := 155) hX hr (by decide) (by decide) dX13_liftsTo_155 (Or.inr rfl) ⟨rfl, _, rfl, hy.s⟩
def f_X13_liftsTo_147 (h : Mem) (s0 : Int32) (s1 : Int32) : Option Int32 :=
  (if s1 < s0 then some 0 else f_X13_liftsTo_150 h)
set_option maxRecDepth 100000 in
set_option maxHeartbeats 4000000 in
theorem w_X13_liftsTo_147 {G : GE} {X : CX} {l : Launch} (hX : Ok G X cX13_liftsTo RX13) (hN : xn X = 10) (h : Mem) {P : Int32 → Prop} (hr : Rt G X l yX13_liftsTo (some .boolean) rm_X13_liftsTo (ppI h P)) (s0 : Int32) (s1 : Int32) (hy : OK (f_X13_liftsTo_147 h s0 s1) P) : AW G X 147 [] [vI s1, vI s0] h 0 0 := by
  unfold f_X13_liftsTo_147 at hy
  refine aw_ic_gt (pc := 147) hX 154 (by decide) dX13_liftsTo_147 (fun hc9 => ?_) (fun hc9 => ?_)
  · have hy := hy.t hc9
    refine aw_iconst (pc := 154) hX 0 (by decide) dX13_liftsTo_154 ?_
    exact aw_zret (pc := 155) hX hr (by decide) (by decide) dX13_liftsTo_155 (Or.inl rfl) ⟨rfl, _, rfl, hy.s⟩
  · have hy := hy.f hc9
    exact w_X13_liftsTo_150 hX hN _ hr hy
def f_X13_liftsTo (h : Mem) (v0 : Nat) (v1 : Int32) (v2 : Int32) (v3 : Int32) (v4 : Int32) (v5 : Int32) : Option Int32 :=
  (ck h v0 11).bind fun _ => (gR h v0 3 11).bind fun r1 => (gR h r1 13 10).bind fun r2 => (f_X13_of h v1 v2 r2).bind fun x3 => (gR h v0 3 11).bind fun r4 => (gR h r4 14 10).bind fun r5 => (f_X13_of h v1 v2 r5).bind fun x6 => (if x3 = (-2) then some 1 else (if x3 = 3 then some 1 else (gR h v0 3 11).bind fun r7 => (gR h r7 10 10).bind fun r8 => (aI h r8 x6).bind fun x9 => (gR h v0 3 11).bind fun r10 => (gR h r10 10 10).bind fun r11 => (aI h r11 v3).bind fun x12 => (if x9 = x12 then (iter (fun (s : Int32 × Int32) => b_X13_liftsTo_73 h v0 v3 v4 v5 x3 x6 s.1 s.2) FU (0, 0)).bind (fun q19 => (if x3 = 2 then f_X13_liftsTo_150 h else (if x3 = 1 then f_X13_liftsTo_147 h q19 1 else f_X13_liftsTo_147 h q19 0))) else some 0)))
set_option maxRecDepth 100000 in
set_option maxHeartbeats 4000000 in
theorem w_X13_liftsTo {G : GE} {X : CX} {l : Launch} (hX : Ok G X cX13_liftsTo RX13) (hN : xn X = 10) (h : Mem) {P : Int32 → Prop} (hr : Rt G X l yX13_liftsTo (some .boolean) rm_X13_liftsTo (ppI h P)) (v0 : Nat) (v1 : Int32) (v2 : Int32) (v3 : Int32) (v4 : Int32) (v5 : Int32) (hy : OK (f_X13_liftsTo h v0 v1 v2 v3 v4 v5) P) : AW G X 0 [(0, vR v0), (1, vI v1), (2, vI v2), (3, vI v3), (4, vI v4), (5, vI v5)] [] h 0 0 := by
  unfold f_X13_liftsTo at hy
  have hkd := hy.kd
  have hy := hy.kb
  refine aw_iloadn (pc := 0) hX 1 rfl dX13_liftsTo_0 ?_
  refine aw_iloadn (pc := 1) hX 2 rfl dX13_liftsTo_1 ?_
  refine aw_aloadn (pc := 2) hX 0 rfl dX13_liftsTo_2 ?_
  refine aw_gR (pc := 3) hX hy fl_X13_338 (fun _ _ => rfl) dX13_liftsTo_3 (fun r1 hy => ?_)
  refine aw_gR (pc := 6) hX hy fl_X13_272 (fun _ _ => rfl) dX13_liftsTo_6 (fun r2 hy => ?_)
  refine aw_callS (pc := 9) (st := []) hX [vI v1, vI v2, vR r2] (con_X13_of _ G _ v1 v2 r2 hy.bd) mc_X13_of ml_X13_352 st_X13_of rfl (rm_of hr (by decide)) (Nat.le_of_ble_eq_true rfl) rfl dX13_liftsTo_9 (kpI rfl rfl (fun x3 hy => ?_))
  refine aw_istore (pc := 12) hX [(6, vI x3), (0, vR v0), (1, vI v1), (2, vI v2), (3, vI v3), (4, vI v4), (5, vI v5)] rfl (lt_n hN (by decide)) dX13_liftsTo_12 ?_
  refine aw_iloadn (pc := 14) hX 2 rfl dX13_liftsTo_14 ?_
  refine aw_iloadn (pc := 15) hX 3 rfl dX13_liftsTo_15 ?_
  refine aw_aloadn (pc := 16) hX 1 rfl dX13_liftsTo_16 ?_
  refine aw_gR (pc := 17) hX hy fl_X13_338 (fun _ _ => rfl) dX13_liftsTo_17 (fun r4 hy => ?_)
  refine aw_gR (pc := 20) hX hy fl_X13_282 (fun _ _ => rfl) dX13_liftsTo_20 (fun r5 hy => ?_)
  refine aw_callS (pc := 23) (st := []) hX [vI v1, vI v2, vR r5] (con_X13_of _ G _ v1 v2 r5 hy.bd) mc_X13_of ml_X13_352 st_X13_of rfl (rm_of hr (by decide)) (Nat.le_of_ble_eq_true rfl) rfl dX13_liftsTo_23 (kpI rfl rfl (fun x6 hy => ?_))
  refine aw_istore (pc := 26) hX [(7, vI x6), (6, vI x3), (0, vR v0), (1, vI v1), (2, vI v2), (3, vI v3), (4, vI v4), (5, vI v5)] rfl (lt_n hN (by decide)) dX13_liftsTo_26 ?_
  refine aw_iload (pc := 28) hX 1 rfl dX13_liftsTo_28 ?_
  refine aw_bipush (pc := 30) hX (-2) (by decide) dX13_liftsTo_30 ?_
  refine aw_ic_eq (pc := 32) hX 41 (by decide) dX13_liftsTo_32 (fun hc9 => ?_) (fun hc9 => ?_)
  · have hy := hy.t hc9
    refine aw_iconst (pc := 41) hX 1 (by decide) dX13_liftsTo_41 ?_
    exact aw_zret (pc := 42) hX hr (by decide) (by decide) dX13_liftsTo_42 (Or.inr rfl) ⟨rfl, _, rfl, hy.s⟩
  · have hy := hy.f hc9
    refine aw_iload (pc := 35) hX 1 rfl dX13_liftsTo_35 ?_
    refine aw_iconst (pc := 37) hX 3 (by decide) dX13_liftsTo_37 ?_
    refine aw_ic_ne (pc := 38) hX 43 (by decide) dX13_liftsTo_38 (fun hc9 => ?_) (fun hc9 => ?_)
    · have hy := hy.f hc9
      refine aw_aloadn (pc := 43) hX 2 rfl dX13_liftsTo_43 ?_
      refine aw_gR (pc := 44) hX hy fl_X13_338 (fun _ _ => rfl) dX13_liftsTo_44 (fun r7 hy => ?_)
      refine aw_gR (pc := 47) hX hy fl_X13_237 (fun _ _ => rfl) dX13_liftsTo_47 (fun r8 hy => ?_)
      refine aw_iload (pc := 50) hX 0 rfl dX13_liftsTo_50 ?_
      refine aw_aI (pc := 52) hX hy dX13_liftsTo_52 (fun x9 hy => ?_)
      refine aw_aloadn (pc := 53) hX 2 rfl dX13_liftsTo_53 ?_
      refine aw_gR (pc := 54) hX hy fl_X13_338 (fun _ _ => rfl) dX13_liftsTo_54 (fun r10 hy => ?_)
      refine aw_gR (pc := 57) hX hy fl_X13_237 (fun _ _ => rfl) dX13_liftsTo_57 (fun r11 hy => ?_)
      refine aw_iloadn (pc := 60) hX 5 rfl dX13_liftsTo_60 ?_
      refine aw_aI (pc := 61) hX hy dX13_liftsTo_61 (fun x12 hy => ?_)
      refine aw_ic_eq (pc := 62) hX 67 (by decide) dX13_liftsTo_62 (fun hc9 => ?_) (fun hc9 => ?_)
      · have hy := hy.t hc9
        refine aw_iconst (pc := 67) hX 0 (by decide) dX13_liftsTo_67 ?_
        refine aw_istore (pc := 68) hX [(8, vI 0), (7, vI x6), (6, vI x3), (0, vR v0), (1, vI v1), (2, vI v2), (3, vI v3), (4, vI v4), (5, vI v5)] rfl (lt_n hN (by decide)) dX13_liftsTo_68 ?_
        refine aw_iconst (pc := 70) hX 0 (by decide) dX13_liftsTo_70 ?_
        refine aw_istore (pc := 71) hX [(9, vI 0), (8, vI 0), (7, vI x6), (6, vI x3), (0, vR v0), (1, vI v1), (2, vI v2), (3, vI v3), (4, vI v4), (5, vI v5)] rfl (lt_n hN (by decide)) dX13_liftsTo_71 ?_
        refine AW.sub [4, 7, 8, 9, 3, 2, 1, 0] rfl ?_
        refine wl_X13_liftsTo_73 hX hN _ hr v0 v3 v4 v5 x3 x6 ?_ FU (0, 0) hy.bd
        · intro q19 hy
          refine aw_iload (pc := 128) hX 0 rfl dX13_liftsTo_128 ?_
          refine aw_iconst (pc := 130) hX 2 (by decide) dX13_liftsTo_130 ?_
          refine aw_ic_eq (pc := 131) hX 150 (by decide) dX13_liftsTo_131 (fun hc9 => ?_) (fun hc9 => ?_)
          · have hy := hy.t hc9
            refine AW.sub [] rfl ?_
            exact w_X13_liftsTo_150 hX hN _ hr hy
          · have hy := hy.f hc9
            refine aw_iload (pc := 134) hX 1 rfl dX13_liftsTo_134 ?_
            refine aw_iload (pc := 136) hX 0 rfl dX13_liftsTo_136 ?_
            refine aw_iconst (pc := 138) hX 1 (by decide) dX13_liftsTo_138 ?_
            refine aw_ic_ne (pc := 139) hX 146 (by decide) dX13_liftsTo_139 (fun hc9 => ?_) (fun hc9 => ?_)
            · have hy := hy.f hc9
              refine aw_iconst (pc := 146) hX 0 (by decide) dX13_liftsTo_146 ?_
              refine AW.sub [] rfl ?_
              exact w_X13_liftsTo_147 hX hN _ hr q19 0 hy
            · have hy := hy.t hc9
              refine aw_iconst (pc := 142) hX 1 (by decide) dX13_liftsTo_142 ?_
              refine aw_goto (pc := 143) hX 147 (by decide) dX13_liftsTo_143 ?_
              refine AW.sub [] rfl ?_
              exact w_X13_liftsTo_147 hX hN _ hr q19 1 hy
      · have hy := hy.f hc9
        refine aw_iconst (pc := 65) hX 0 (by decide) dX13_liftsTo_65 ?_
        exact aw_zret (pc := 66) hX hr (by decide) (by decide) dX13_liftsTo_66 (Or.inl rfl) ⟨rfl, _, rfl, hy.s⟩
    · have hy := hy.t hc9
      refine aw_iconst (pc := 41) hX 1 (by decide) dX13_liftsTo_41 ?_
      exact aw_zret (pc := 42) hX hr (by decide) (by decide) dX13_liftsTo_42 (Or.inr rfl) ⟨rfl, _, rfl, hy.s⟩
theorem con_X13_liftsTo (l : Launch) (G : GE) (h : Mem) (v0 : Nat) (v1 : Int32) (v2 : Int32) (v3 : Int32) (v4 : Int32) (v5 : Int32) {P : Int32 → Prop} (hy : OK (f_X13_liftsTo h v0 v1 v2 v3 v4 v5) P) : Con l G yX13_liftsTo cX13_liftsTo 10 (some .boolean) rm_X13_liftsTo [vR v0, vI v1, vI v2, vI v3, vI v4, vI v5] h (ppI h P) := Con.of (by decide) (Nat.le_of_ble_eq_true rfl) (fun X hX hr hN => w_X13_liftsTo hX hN h hr v0 v1 v2 v3 v4 v5 hy)
/-! X13_passesBy -/
theorem dX13_passesBy_0 : decode cX13_passesBy 0 = .ok (.iload_n 3, 1) := by decide +kernel
theorem dX13_passesBy_1 : decode cX13_passesBy 1 = .ok (.iload 4, 2) := by decide +kernel
theorem dX13_passesBy_3 : decode cX13_passesBy 3 = .ok (.aload_n 0, 1) := by decide +kernel
theorem dX13_passesBy_4 : decode cX13_passesBy 4 = .ok (.getfield 338, 3) := by decide +kernel
theorem dX13_passesBy_7 : decode cX13_passesBy 7 = .ok (.getfield 262, 3) := by decide +kernel
theorem dX13_passesBy_10 : decode cX13_passesBy 10 = .ok (.invokestatic 352, 3) := by decide +kernel
theorem dX13_passesBy_13 : decode cX13_passesBy 13 = .ok (.ifCond .ne 5, 3) := by decide +kernel
theorem dX13_passesBy_16 : decode cX13_passesBy 16 = .ok (.iconst 0, 1) := by decide +kernel
theorem dX13_passesBy_17 : decode cX13_passesBy 17 = .ok (.ireturn, 1) := by decide +kernel
theorem dX13_passesBy_18 : decode cX13_passesBy 18 = .ok (.iload_n 3, 1) := by decide +kernel
theorem dX13_passesBy_19 : decode cX13_passesBy 19 = .ok (.iload 4, 2) := by decide +kernel
theorem dX13_passesBy_21 : decode cX13_passesBy 21 = .ok (.aload_n 0, 1) := by decide +kernel
theorem dX13_passesBy_22 : decode cX13_passesBy 22 = .ok (.getfield 338, 3) := by decide +kernel
theorem dX13_passesBy_25 : decode cX13_passesBy 25 = .ok (.getfield 272, 3) := by decide +kernel
theorem dX13_passesBy_28 : decode cX13_passesBy 28 = .ok (.invokestatic 352, 3) := by decide +kernel
theorem dX13_passesBy_31 : decode cX13_passesBy 31 = .ok (.bipush (-2), 2) := by decide +kernel
theorem dX13_passesBy_33 : decode cX13_passesBy 33 = .ok (.if_icmp .ne 5, 3) := by decide +kernel
theorem dX13_passesBy_36 : decode cX13_passesBy 36 = .ok (.iconst 1, 1) := by decide +kernel
theorem dX13_passesBy_37 : decode cX13_passesBy 37 = .ok (.ireturn, 1) := by decide +kernel
theorem dX13_passesBy_38 : decode cX13_passesBy 38 = .ok (.iconst 0, 1) := by decide +kernel
theorem dX13_passesBy_39 : decode cX13_passesBy 39 = .ok (.istore 6, 2) := by decide +kernel
theorem dX13_passesBy_41 : decode cX13_passesBy 41 = .ok (.iload 6, 2) := by decide +kernel
theorem dX13_passesBy_43 : decode cX13_passesBy 43 = .ok (.aload_n 0, 1) := by decide +kernel
theorem dX13_passesBy_44 : decode cX13_passesBy 44 = .ok (.getfield 338, 3) := by decide +kernel
theorem dX13_passesBy_47 : decode cX13_passesBy 47 = .ok (.getfield 239, 3) := by decide +kernel
theorem dX13_passesBy_50 : decode cX13_passesBy 50 = .ok (.if_icmp .ge 61, 3) := by decide +kernel
theorem dX13_passesBy_53 : decode cX13_passesBy 53 = .ok (.iload_n 1, 1) := by decide +kernel
theorem dX13_passesBy_54 : decode cX13_passesBy 54 = .ok (.iload 6, 2) := by decide +kernel
theorem dX13_passesBy_56 : decode cX13_passesBy 56 = .ok (.invokestatic 322, 3) := by decide +kernel
theorem dX13_passesBy_59 : decode cX13_passesBy 59 = .ok (.ifCond .eq 20, 3) := by decide +kernel
theorem dX13_passesBy_62 : decode cX13_passesBy 62 = .ok (.aload_n 0, 1) := by decide +kernel
theorem dX13_passesBy_63 : decode cX13_passesBy 63 = .ok (.iload_n 3, 1) := by decide +kernel
theorem dX13_passesBy_64 : decode cX13_passesBy 64 = .ok (.iload 4, 2) := by decide +kernel
theorem dX13_passesBy_66 : decode cX13_passesBy 66 = .ok (.iload 6, 2) := by decide +kernel
theorem dX13_passesBy_68 : decode cX13_passesBy 68 = .ok (.iconst 0, 1) := by decide +kernel
theorem dX13_passesBy_69 : decode cX13_passesBy 69 = .ok (.iload 5, 2) := by decide +kernel
theorem dX13_passesBy_71 : decode cX13_passesBy 71 = .ok (.invokevirtual 360, 3) := by decide +kernel
theorem dX13_passesBy_74 : decode cX13_passesBy 74 = .ok (.ifCond .eq 5, 3) := by decide +kernel
theorem dX13_passesBy_77 : decode cX13_passesBy 77 = .ok (.iconst 1, 1) := by decide +kernel
theorem dX13_passesBy_78 : decode cX13_passesBy 78 = .ok (.ireturn, 1) := by decide +kernel
theorem dX13_passesBy_79 : decode cX13_passesBy 79 = .ok (.iload_n 2, 1) := by decide +kernel
theorem dX13_passesBy_80 : decode cX13_passesBy 80 = .ok (.iload 6, 2) := by decide +kernel
theorem dX13_passesBy_82 : decode cX13_passesBy 82 = .ok (.invokestatic 322, 3) := by decide +kernel
theorem dX13_passesBy_85 : decode cX13_passesBy 85 = .ok (.ifCond .eq 20, 3) := by decide +kernel
theorem dX13_passesBy_88 : decode cX13_passesBy 88 = .ok (.aload_n 0, 1) := by decide +kernel
theorem dX13_passesBy_89 : decode cX13_passesBy 89 = .ok (.iload_n 3, 1) := by decide +kernel
theorem dX13_passesBy_90 : decode cX13_passesBy 90 = .ok (.iload 4, 2) := by decide +kernel
theorem dX13_passesBy_92 : decode cX13_passesBy 92 = .ok (.iload 6, 2) := by decide +kernel
theorem dX13_passesBy_94 : decode cX13_passesBy 94 = .ok (.iconst 1, 1) := by decide +kernel
theorem dX13_passesBy_95 : decode cX13_passesBy 95 = .ok (.iload 5, 2) := by decide +kernel
theorem dX13_passesBy_97 : decode cX13_passesBy 97 = .ok (.invokevirtual 360, 3) := by decide +kernel
theorem dX13_passesBy_100 : decode cX13_passesBy 100 = .ok (.ifCond .eq 5, 3) := by decide +kernel
theorem dX13_passesBy_103 : decode cX13_passesBy 103 = .ok (.iconst 1, 1) := by decide +kernel
theorem dX13_passesBy_104 : decode cX13_passesBy 104 = .ok (.ireturn, 1) := by decide +kernel
theorem dX13_passesBy_105 : decode cX13_passesBy 105 = .ok (.iinc 6 1, 3) := by decide +kernel
theorem dX13_passesBy_108 : decode cX13_passesBy 108 = .ok (.goto (-67), 3) := by decide +kernel
theorem dX13_passesBy_111 : decode cX13_passesBy 111 = .ok (.iconst 0, 1) := by decide +kernel
theorem dX13_passesBy_112 : decode cX13_passesBy 112 = .ok (.ireturn, 1) := by decide +kernel
abbrev rm_X13_passesBy : Room := { frames := 3, cells := 0, slots := 0, locals := 76 }
def f_X13_passesBy_105 (h : Mem) (v0 : Nat) (v1 : Int32) (v2 : Int32) (v3 : Int32) (v4 : Int32) (v5 : Int32) (v6 : Int32) : Option (Int32 ⊕ (Unit ⊕ Unit ⊕ Unit)) :=
  some (.inl (v6 + 1))
set_option maxRecDepth 100000 in
set_option maxHeartbeats 4000000 in
theorem w_X13_passesBy_105 {G : GE} {X : CX} {l : Launch} (hX : Ok G X cX13_passesBy RX13) (hN : xn X = 7) (h : Mem) {P0 : Int32 → Prop} (hr : Rt G X l yX13_passesBy (some .boolean) rm_X13_passesBy (ppI h P0))  (v0 : Nat) (v1 : Int32) (v2 : Int32) (v3 : Int32) (v4 : Int32) (v5 : Int32) {P : (Int32 ⊕ (Unit ⊕ Unit ⊕ Unit)) → Prop} (hc : ∀ s, P (.inl s) → AW G X 41 [(0, vR v0), (1, vI v1), (2, vI v2), (3, vI v3), (4, vI v4), (5, vI v5), (6, vI s)] [] h 0 0) (he0 : ∀ e, P (.inr (.inl e)) → AW G X 77 [] [] h 0 0) (he1 : ∀ e, P (.inr (.inr (.inl e))) → AW G X 103 [] [] h 0 0) (he2 : ∀ e, P (.inr (.inr (.inr e))) → AW G X 111 [] [] h 0 0) (v6 : Int32) (hy : OK (f_X13_passesBy_105 h v0 v1 v2 v3 v4 v5 v6) P) : AW G X 105 [(0, vR v0), (1, vI v1), (2, vI v2), (3, vI v3), (4, vI v4), (5, vI v5), (6, vI v6)] [] h 0 0 := by
  unfold f_X13_passesBy_105 at hy
  refine aw_iinc (pc := 105) hX 1 (by decide) 6 rfl [(6, vI (v6 + 1)), (0, vR v0), (1, vI v1), (2, vI v2), (3, vI v3), (4, vI v4), (5, vI v5)] rfl (lt_n hN (by decide)) dX13_passesBy_105 ?_
  refine aw_goto (pc := 108) hX 41 (by decide) dX13_passesBy_108 ?_
  refine AW.sub [1, 2, 3, 4, 5, 6, 0] rfl ?_
  exact hc (v6 + 1) hy.s
def f_X13_passesBy_79 (h : Mem) (v0 : Nat) (v1 : Int32) (v2 : Int32) (v3 : Int32) (v4 : Int32) (v5 : Int32) (v6 : Int32) : Option (Int32 ⊕ (Unit ⊕ Unit ⊕ Unit)) :=
  (f_X13_bit h v2 v6).bind fun x10 => (if x10 = 0 then f_X13_passesBy_105 h v0 v1 v2 v3 v4 v5 v6 else (f_X13_liftsTo h v0 v3 v4 v6 1 v5).bind fun x11 => (if x11 = 0 then f_X13_passesBy_105 h v0 v1 v2 v3 v4 v5 v6 else some (.inr (.inr (.inl ())))))
set_option maxRecDepth 100000 in
set_option maxHeartbeats 4000000 in
theorem w_X13_passesBy_79 {G : GE} {X : CX} {l : Launch} (hX : Ok G X cX13_passesBy RX13) (hN : xn X = 7) (h : Mem) {P0 : Int32 → Prop} (hr : Rt G X l yX13_passesBy (some .boolean) rm_X13_passesBy (ppI h P0))  (v0 : Nat) (v1 : Int32) (v2 : Int32) (v3 : Int32) (v4 : Int32) (v5 : Int32) {P : (Int32 ⊕ (Unit ⊕ Unit ⊕ Unit)) → Prop} (hc : ∀ s, P (.inl s) → AW G X 41 [(0, vR v0), (1, vI v1), (2, vI v2), (3, vI v3), (4, vI v4), (5, vI v5), (6, vI s)] [] h 0 0) (he0 : ∀ e, P (.inr (.inl e)) → AW G X 77 [] [] h 0 0) (he1 : ∀ e, P (.inr (.inr (.inl e))) → AW G X 103 [] [] h 0 0) (he2 : ∀ e, P (.inr (.inr (.inr e))) → AW G X 111 [] [] h 0 0) (v6 : Int32) (hy : OK (f_X13_passesBy_79 h v0 v1 v2 v3 v4 v5 v6) P) : AW G X 79 [(0, vR v0), (1, vI v1), (2, vI v2), (3, vI v3), (4, vI v4), (5, vI v5), (6, vI v6)] [] h 0 0 := by
  unfold f_X13_passesBy_79 at hy
  refine aw_iloadn (pc := 79) hX 2 rfl dX13_passesBy_79 ?_
  refine aw_iload (pc := 80) hX 6 rfl dX13_passesBy_80 ?_
  refine aw_callS (pc := 82) (st := []) hX [vI v2, vI v6] (con_X13_bit _ G _ v2 v6 hy.bd) mc_X13_bit ml_X13_322 st_X13_bit rfl (rm_of hr (by decide)) (Nat.le_of_ble_eq_true rfl) rfl dX13_passesBy_82 (kpI rfl rfl (fun x10 hy => ?_))
  refine aw_if_eq (pc := 85) hX 105 (by decide) dX13_passesBy_85 (fun hc9 => ?_) (fun hc9 => ?_)
  · have hy := hy.t hc9
    exact w_X13_passesBy_105 hX hN _ hr _ _ _ _ _ _ hc he0 he1 he2 v6 hy
  · have hy := hy.f hc9
    refine aw_aloadn (pc := 88) hX 0 rfl dX13_passesBy_88 ?_
    refine aw_iloadn (pc := 89) hX 3 rfl dX13_passesBy_89 ?_
    refine aw_iload (pc := 90) hX 4 rfl dX13_passesBy_90 ?_
    refine aw_iload (pc := 92) hX 6 rfl dX13_passesBy_92 ?_
    refine aw_iconst (pc := 94) hX 1 (by decide) dX13_passesBy_94 ?_
    refine aw_iload (pc := 95) hX 5 rfl dX13_passesBy_95 ?_
    refine aw_callV (pc := 97) (st := []) (a := v0) hX [vI v3, vI v4, vI v6, vI 1, vI v5] (con_X13_liftsTo _ G _ v0 v3 v4 v6 1 v5 hy.bd) mc_X13_liftsTo ml_X13_360 im_X13_liftsTo se_X13_liftsTo (by decide) hy.bd.kd rfl (rm_of hr (by decide)) (Nat.le_of_ble_eq_true rfl) rfl dX13_passesBy_97 (kpI rfl rfl (fun x11 hy => ?_))
    refine aw_if_eq (pc := 100) hX 105 (by decide) dX13_passesBy_100 (fun hc9 => ?_) (fun hc9 => ?_)
    · have hy := hy.t hc9
      exact w_X13_passesBy_105 hX hN _ hr _ _ _ _ _ _ hc he0 he1 he2 v6 hy
    · have hy := hy.f hc9
      refine AW.sub [] rfl ?_
      exact he1 () hy.s
def b_X13_passesBy_41 (h : Mem) (v0 : Nat) (v1 : Int32) (v2 : Int32) (v3 : Int32) (v4 : Int32) (v5 : Int32) (v6 : Int32) : Option (Int32 ⊕ (Unit ⊕ Unit ⊕ Unit)) :=
  (gR h v0 3 11).bind fun r7 => (gI h r7 1 10).bind fun x8 => (if x8 ≤ v6 then some (.inr (.inr (.inr ()))) else (f_X13_bit h v1 v6).bind fun x9 => (if x9 = 0 then f_X13_passesBy_79 h v0 v1 v2 v3 v4 v5 v6 else (f_X13_liftsTo h v0 v3 v4 v6 0 v5).bind fun x12 => (if x12 = 0 then f_X13_passesBy_79 h v0 v1 v2 v3 v4 v5 v6 else some (.inr (.inl ())))))
set_option maxRecDepth 100000 in
set_option maxHeartbeats 4000000 in
theorem wb_X13_passesBy_41 {G : GE} {X : CX} {l : Launch} (hX : Ok G X cX13_passesBy RX13) (hN : xn X = 7) (h : Mem) {P0 : Int32 → Prop} (hr : Rt G X l yX13_passesBy (some .boolean) rm_X13_passesBy (ppI h P0))  (v0 : Nat) (v1 : Int32) (v2 : Int32) (v3 : Int32) (v4 : Int32) (v5 : Int32) {P : (Int32 ⊕ (Unit ⊕ Unit ⊕ Unit)) → Prop} (hc : ∀ s, P (.inl s) → AW G X 41 [(0, vR v0), (1, vI v1), (2, vI v2), (3, vI v3), (4, vI v4), (5, vI v5), (6, vI s)] [] h 0 0) (he0 : ∀ e, P (.inr (.inl e)) → AW G X 77 [] [] h 0 0) (he1 : ∀ e, P (.inr (.inr (.inl e))) → AW G X 103 [] [] h 0 0) (he2 : ∀ e, P (.inr (.inr (.inr e))) → AW G X 111 [] [] h 0 0) (v6 : Int32) (hy : OK (b_X13_passesBy_41 h v0 v1 v2 v3 v4 v5 v6) P) : AW G X 41 [(0, vR v0), (1, vI v1), (2, vI v2), (3, vI v3), (4, vI v4), (5, vI v5), (6, vI v6)] [] h 0 0 := by
  unfold b_X13_passesBy_41 at hy
  refine aw_iload (pc := 41) hX 6 rfl dX13_passesBy_41 ?_
  refine aw_aloadn (pc := 43) hX 0 rfl dX13_passesBy_43 ?_
  refine aw_gR (pc := 44) hX hy fl_X13_338 (fun _ _ => rfl) dX13_passesBy_44 (fun r7 hy => ?_)
  refine aw_gI (pc := 47) hX hy fl_X13_239 (fun _ _ => rfl) dX13_passesBy_47 (fun x8 hy => ?_)
  refine aw_ic_ge (pc := 50) hX 111 (by decide) dX13_passesBy_50 (fun hc9 => ?_) (fun hc9 => ?_)
  · have hy := hy.t hc9
    refine AW.sub [] rfl ?_
    exact he2 () hy.s
  · have hy := hy.f hc9
    refine aw_iloadn (pc := 53) hX 1 rfl dX13_passesBy_53 ?_
    refine aw_iload (pc := 54) hX 6 rfl dX13_passesBy_54 ?_
    refine aw_callS (pc := 56) (st := []) hX [vI v1, vI v6] (con_X13_bit _ G _ v1 v6 hy.bd) mc_X13_bit ml_X13_322 st_X13_bit rfl (rm_of hr (by decide)) (Nat.le_of_ble_eq_true rfl) rfl dX13_passesBy_56 (kpI rfl rfl (fun x9 hy => ?_))
    refine aw_if_eq (pc := 59) hX 79 (by decide) dX13_passesBy_59 (fun hc9 => ?_) (fun hc9 => ?_)
    · have hy := hy.t hc9
      exact w_X13_passesBy_79 hX hN _ hr _ _ _ _ _ _ hc he0 he1 he2 v6 hy
    · have hy := hy.f hc9
      refine aw_aloadn (pc := 62) hX 0 rfl dX13_passesBy_62 ?_
      refine aw_iloadn (pc := 63) hX 3 rfl dX13_passesBy_63 ?_
      refine aw_iload (pc := 64) hX 4 rfl dX13_passesBy_64 ?_
      refine aw_iload (pc := 66) hX 6 rfl dX13_passesBy_66 ?_
      refine aw_iconst (pc := 68) hX 0 (by decide) dX13_passesBy_68 ?_
      refine aw_iload (pc := 69) hX 5 rfl dX13_passesBy_69 ?_
      refine aw_callV (pc := 71) (st := []) (a := v0) hX [vI v3, vI v4, vI v6, vI 0, vI v5] (con_X13_liftsTo _ G _ v0 v3 v4 v6 0 v5 hy.bd) mc_X13_liftsTo ml_X13_360 im_X13_liftsTo se_X13_liftsTo (by decide) hy.bd.kd rfl (rm_of hr (by decide)) (Nat.le_of_ble_eq_true rfl) rfl dX13_passesBy_71 (kpI rfl rfl (fun x12 hy => ?_))
      refine aw_if_eq (pc := 74) hX 79 (by decide) dX13_passesBy_74 (fun hc9 => ?_) (fun hc9 => ?_)
      · have hy := hy.t hc9
        exact w_X13_passesBy_79 hX hN _ hr _ _ _ _ _ _ hc he0 he1 he2 v6 hy
      · have hy := hy.f hc9
        refine AW.sub [] rfl ?_
        exact he0 () hy.s
theorem wl_X13_passesBy_41 {G : GE} {X : CX} {l : Launch} (hX : Ok G X cX13_passesBy RX13) (hN : xn X = 7) (h : Mem) {P0 : Int32 → Prop} (hr : Rt G X l yX13_passesBy (some .boolean) rm_X13_passesBy (ppI h P0)) (v0 : Nat) (v1 : Int32) (v2 : Int32) (v3 : Int32) (v4 : Int32) (v5 : Int32) {P : (Unit ⊕ Unit ⊕ Unit) → Prop} (he0 : ∀ e, P (.inl e) → AW G X 77 [] [] h 0 0) (he1 : ∀ e, P (.inr (.inl e)) → AW G X 103 [] [] h 0 0) (he2 : ∀ e, P (.inr (.inr e)) → AW G X 111 [] [] h 0 0) : ∀ (n : Nat) (s : Int32), OK (iter (fun (s : Int32) => b_X13_passesBy_41 h v0 v1 v2 v3 v4 v5 s) n s) P → AW G X 41 [(0, vR v0), (1, vI v1), (2, vI v2), (3, vI v3), (4, vI v4), (5, vI v5), (6, vI s)] [] h 0 0 := by
  intro n
  induction n with
  | zero => exact fun s hy => hy.it0.elim
  | succ n ih =>
    intro s hy
    exact wb_X13_passesBy_41 hX hN h hr v0 v1 v2 v3 v4 v5 (fun s hs => ih s hs) (fun e hs => he0 e hs) (fun e hs => he1 e hs) (fun e hs => he2 e hs) s hy.it
def f_X13_passesBy (h : Mem) (v0 : Nat) (v1 : Int32) (v2 : Int32) (v3 : Int32) (v4 : Int32) (v5 : Int32) : Option Int32 :=
  (ck h v0 11).bind fun _ => (gR h v0 3 11).bind fun r1 => (gR h r1 12 10).bind fun r2 => (f_X13_of h v3 v4 r2).bind fun x3 => (if x3 = 0 then some 0 else (gR h v0 3 11).bind fun r4 => (gR h r4 13 10).bind fun r5 => (f_X13_of h v3 v4 r5).bind fun x6 => (if x6 = (-2) then some 1 else (iter (fun (s : Int32) => b_X13_passesBy_41 h v0 v1 v2 v3 v4 v5 s) FU 0).bind (Sum.elim (fun e14 => some 1) (Sum.elim (fun e15 => some 1) (fun e16 => some 0)))))
set_option maxRecDepth 100000 in
set_option maxHeartbeats 4000000 in
theorem w_X13_passesBy {G : GE} {X : CX} {l : Launch} (hX : Ok G X cX13_passesBy RX13) (hN : xn X = 7) (h : Mem) {P : Int32 → Prop} (hr : Rt G X l yX13_passesBy (some .boolean) rm_X13_passesBy (ppI h P)) (v0 : Nat) (v1 : Int32) (v2 : Int32) (v3 : Int32) (v4 : Int32) (v5 : Int32) (hy : OK (f_X13_passesBy h v0 v1 v2 v3 v4 v5) P) : AW G X 0 [(0, vR v0), (1, vI v1), (2, vI v2), (3, vI v3), (4, vI v4), (5, vI v5)] [] h 0 0 := by
  unfold f_X13_passesBy at hy
  have hkd := hy.kd
  have hy := hy.kb
  refine aw_iloadn (pc := 0) hX 3 rfl dX13_passesBy_0 ?_
  refine aw_iload (pc := 1) hX 4 rfl dX13_passesBy_1 ?_
  refine aw_aloadn (pc := 3) hX 0 rfl dX13_passesBy_3 ?_
  refine aw_gR (pc := 4) hX hy fl_X13_338 (fun _ _ => rfl) dX13_passesBy_4 (fun r1 hy => ?_)
  refine aw_gR (pc := 7) hX hy fl_X13_262 (fun _ _ => rfl) dX13_passesBy_7 (fun r2 hy => ?_)
  refine aw_callS (pc := 10) (st := []) hX [vI v3, vI v4, vR r2] (con_X13_of _ G _ v3 v4 r2 hy.bd) mc_X13_of ml_X13_352 st_X13_of rfl (rm_of hr (by decide)) (Nat.le_of_ble_eq_true rfl) rfl dX13_passesBy_10 (kpI rfl rfl (fun x3 hy => ?_))
  refine aw_if_ne (pc := 13) hX 18 (by decide) dX13_passesBy_13 (fun hc9 => ?_) (fun hc9 => ?_)
  · have hy := hy.f hc9
    refine aw_iloadn (pc := 18) hX 3 rfl dX13_passesBy_18 ?_
    refine aw_iload (pc := 19) hX 4 rfl dX13_passesBy_19 ?_
    refine aw_aloadn (pc := 21) hX 0 rfl dX13_passesBy_21 ?_
    refine aw_gR (pc := 22) hX hy fl_X13_338 (fun _ _ => rfl) dX13_passesBy_22 (fun r4 hy => ?_)
    refine aw_gR (pc := 25) hX hy fl_X13_272 (fun _ _ => rfl) dX13_passesBy_25 (fun r5 hy => ?_)
    refine aw_callS (pc := 28) (st := []) hX [vI v3, vI v4, vR r5] (con_X13_of _ G _ v3 v4 r5 hy.bd) mc_X13_of ml_X13_352 st_X13_of rfl (rm_of hr (by decide)) (Nat.le_of_ble_eq_true rfl) rfl dX13_passesBy_28 (kpI rfl rfl (fun x6 hy => ?_))
    refine aw_bipush (pc := 31) hX (-2) (by decide) dX13_passesBy_31 ?_
    refine aw_ic_ne (pc := 33) hX 38 (by decide) dX13_passesBy_33 (fun hc9 => ?_) (fun hc9 => ?_)
    · have hy := hy.f hc9
      refine aw_iconst (pc := 38) hX 0 (by decide) dX13_passesBy_38 ?_
      refine aw_istore (pc := 39) hX [(6, vI 0), (0, vR v0), (1, vI v1), (2, vI v2), (3, vI v3), (4, vI v4), (5, vI v5)] rfl (lt_n hN (by decide)) dX13_passesBy_39 ?_
      refine AW.sub [1, 2, 3, 4, 5, 6, 0] rfl ?_
      refine wl_X13_passesBy_41 hX hN _ hr v0 v1 v2 v3 v4 v5 ?_ ?_ ?_ FU 0 hy.bd
      · intro e14 hy
        refine aw_iconst (pc := 77) hX 1 (by decide) dX13_passesBy_77 ?_
        exact aw_zret (pc := 78) hX hr (by decide) (by decide) dX13_passesBy_78 (Or.inr rfl) ⟨rfl, _, rfl, hy.s⟩
      · intro e15 hy
        refine aw_iconst (pc := 103) hX 1 (by decide) dX13_passesBy_103 ?_
        exact aw_zret (pc := 104) hX hr (by decide) (by decide) dX13_passesBy_104 (Or.inr rfl) ⟨rfl, _, rfl, hy.s⟩
      · intro e16 hy
        refine aw_iconst (pc := 111) hX 0 (by decide) dX13_passesBy_111 ?_
        exact aw_zret (pc := 112) hX hr (by decide) (by decide) dX13_passesBy_112 (Or.inl rfl) ⟨rfl, _, rfl, hy.s⟩
    · have hy := hy.t hc9
      refine aw_iconst (pc := 36) hX 1 (by decide) dX13_passesBy_36 ?_
      exact aw_zret (pc := 37) hX hr (by decide) (by decide) dX13_passesBy_37 (Or.inr rfl) ⟨rfl, _, rfl, hy.s⟩
  · have hy := hy.t hc9
    refine aw_iconst (pc := 16) hX 0 (by decide) dX13_passesBy_16 ?_
    exact aw_zret (pc := 17) hX hr (by decide) (by decide) dX13_passesBy_17 (Or.inl rfl) ⟨rfl, _, rfl, hy.s⟩
theorem con_X13_passesBy (l : Launch) (G : GE) (h : Mem) (v0 : Nat) (v1 : Int32) (v2 : Int32) (v3 : Int32) (v4 : Int32) (v5 : Int32) {P : Int32 → Prop} (hy : OK (f_X13_passesBy h v0 v1 v2 v3 v4 v5) P) : Con l G yX13_passesBy cX13_passesBy 7 (some .boolean) rm_X13_passesBy [vR v0, vI v1, vI v2, vI v3, vI v4, vI v5] h (ppI h P) := Con.of (by decide) (Nat.le_of_ble_eq_true rfl) (fun X hX hr hN => w_X13_passesBy hX hN h hr v0 v1 v2 v3 v4 v5 hy)
/-! X13_length -/
theorem dX13_length_0 : decode cX13_length 0 = .ok (.aload_n 0, 1) := by decide +kernel
theorem dX13_length_1 : decode cX13_length 1 = .ok (.iconst 0, 1) := by decide +kernel
theorem dX13_length_2 : decode cX13_length 2 = .ok (.putfield 51, 3) := by decide +kernel
theorem dX13_length_5 : decode cX13_length 5 = .ok (.aload_n 0, 1) := by decide +kernel
theorem dX13_length_6 : decode cX13_length 6 = .ok (.iload_n 1, 1) := by decide +kernel
theorem dX13_length_7 : decode cX13_length 7 = .ok (.invokevirtual 364, 3) := by decide +kernel
theorem dX13_length_10 : decode cX13_length 10 = .ok (.ifCond .eq 19, 3) := by decide +kernel
theorem dX13_length_13 : decode cX13_length 13 = .ok (.aload_n 0, 1) := by decide +kernel
theorem dX13_length_14 : decode cX13_length 14 = .ok (.aload_n 0, 1) := by decide +kernel
theorem dX13_length_15 : decode cX13_length 15 = .ok (.getfield 338, 3) := by decide +kernel
theorem dX13_length_18 : decode cX13_length 18 = .ok (.getfield 237, 3) := by decide +kernel
theorem dX13_length_21 : decode cX13_length 21 = .ok (.iload_n 1, 1) := by decide +kernel
theorem dX13_length_22 : decode cX13_length 22 = .ok (.iaload, 1) := by decide +kernel
theorem dX13_length_23 : decode cX13_length 23 = .ok (.invokevirtual 61, 3) := by decide +kernel
theorem dX13_length_26 : decode cX13_length 26 = .ok (.goto 8, 3) := by decide +kernel
theorem dX13_length_29 : decode cX13_length 29 = .ok (.aload_n 0, 1) := by decide +kernel
theorem dX13_length_30 : decode cX13_length 30 = .ok (.iconst 1, 1) := by decide +kernel
theorem dX13_length_31 : decode cX13_length 31 = .ok (.invokevirtual 57, 3) := by decide +kernel
theorem dX13_length_34 : decode cX13_length 34 = .ok (.ireturn, 1) := by decide +kernel
abbrev rm_X13_length : Room := { frames := 1, cells := 0, slots := 0, locals := 21 }
def f_X13_length (h : Mem) (v0 : Nat) (v1 : Int32) : Option (Int32 × Mem) :=
  (ck h v0 11).bind fun _ => (pI h v0 0 11 0).bind fun h1 => (f_X13_isTune h1 v0 v1).bind fun x2 => (if x2 = 0 then (f_X13_refused h1 v0 1).bind fun q5 => some (q5.1, q5.2) else (gR h1 v0 3 11).bind fun r6 => (gR h1 r6 10 10).bind fun r7 => (aI h1 r7 v1).bind fun x8 => (f_X13_good h1 v0 x8).bind fun q11 => some (q11.1, q11.2))
set_option maxRecDepth 100000 in
set_option maxHeartbeats 4000000 in
theorem w_X13_length {G : GE} {X : CX} {l : Launch} (hX : Ok G X cX13_length RX13) (hN : xn X = 2) {P : (Int32 × Mem) → Prop} (hr : Rt G X l yX13_length (some .int) rm_X13_length (pmI P)) (h : Mem) (v0 : Nat) (v1 : Int32) (hy : OK (f_X13_length h v0 v1) P) : AW G X 0 [(0, vR v0), (1, vI v1)] [] h 0 0 := by
  unfold f_X13_length at hy
  have hkd := hy.kd
  have hy := hy.kb
  refine aw_aloadn (pc := 0) hX 0 rfl dX13_length_0 ?_
  refine aw_iconst (pc := 1) hX 0 (by decide) dX13_length_1 ?_
  refine aw_pI (pc := 2) hX hy fl_X13_51 rfl (Or.inl rfl) dX13_length_2 (fun h1 hy => ?_)
  refine aw_aloadn (pc := 5) hX 0 rfl dX13_length_5 ?_
  refine aw_iloadn (pc := 6) hX 1 rfl dX13_length_6 ?_
  refine aw_callV (pc := 7) (st := []) (a := v0) hX [vI v1] (con_X13_isTune _ G _ v0 v1 hy.bd) mc_X13_isTune ml_X13_364 im_X13_isTune se_X13_isTune (by decide) hy.bd.kd rfl (rm_of hr (by decide)) (Nat.le_of_ble_eq_true rfl) rfl dX13_length_7 (kpI rfl rfl (fun x2 hy => ?_))
  refine aw_if_eq (pc := 10) hX 29 (by decide) dX13_length_10 (fun hc9 => ?_) (fun hc9 => ?_)
  · have hy := hy.t hc9
    refine aw_aloadn (pc := 29) hX 0 rfl dX13_length_29 ?_
    refine aw_iconst (pc := 30) hX 1 (by decide) dX13_length_30 ?_
    refine aw_callV (pc := 31) (st := []) (a := v0) hX [vI 1] (con_X13_refused _ G _ v0 1 hy.bd) mc_X13_refused ml_X13_57 im_X13_refused se_X13_refused (by decide) hy.bd.kd rfl (rm_of hr (by decide)) (Nat.le_of_ble_eq_true rfl) rfl dX13_length_31 (kmI rfl rfl (fun q5 hy => ?_))
    exact aw_iret (pc := 34) hX hr (by decide) (by decide) dX13_length_34 ⟨_, rfl, hy.s⟩
  · have hy := hy.f hc9
    refine aw_aloadn (pc := 13) hX 0 rfl dX13_length_13 ?_
    refine aw_aloadn (pc := 14) hX 0 rfl dX13_length_14 ?_
    refine aw_gR (pc := 15) hX hy fl_X13_338 (fun _ _ => rfl) dX13_length_15 (fun r6 hy => ?_)
    refine aw_gR (pc := 18) hX hy fl_X13_237 (fun _ _ => rfl) dX13_length_18 (fun r7 hy => ?_)
    refine aw_iloadn (pc := 21) hX 1 rfl dX13_length_21 ?_
    refine aw_aI (pc := 22) hX hy dX13_length_22 (fun x8 hy => ?_)
    refine aw_callV (pc := 23) (st := []) (a := v0) hX [vI x8] (con_X13_good _ G _ v0 x8 hy.bd) mc_X13_good ml_X13_61 im_X13_good se_X13_good (by decide) hy.bd.kd rfl (rm_of hr (by decide)) (Nat.le_of_ble_eq_true rfl) rfl dX13_length_23 (kmI rfl rfl (fun q11 hy => ?_))
    refine aw_goto (pc := 26) hX 34 (by decide) dX13_length_26 ?_
    exact aw_iret (pc := 34) hX hr (by decide) (by decide) dX13_length_34 ⟨_, rfl, hy.s⟩
theorem con_X13_length (l : Launch) (G : GE) (h : Mem) (v0 : Nat) (v1 : Int32) {P : (Int32 × Mem) → Prop} (hy : OK (f_X13_length h v0 v1) P) : Con l G yX13_length cX13_length 2 (some .int) rm_X13_length [vR v0, vI v1] h (pmI P) := Con.of (by decide) (Nat.le_of_ble_eq_true rfl) (fun X hX hr hN => w_X13_length hX hN hr h v0 v1 hy)
/-! X13_sung -/
theorem dX13_sung_0 : decode cX13_sung 0 = .ok (.aload_n 0, 1) := by decide +kernel
theorem dX13_sung_1 : decode cX13_sung 1 = .ok (.iconst 0, 1) := by decide +kernel
theorem dX13_sung_2 : decode cX13_sung 2 = .ok (.putfield 51, 3) := by decide +kernel
theorem dX13_sung_5 : decode cX13_sung 5 = .ok (.aload_n 0, 1) := by decide +kernel
theorem dX13_sung_6 : decode cX13_sung 6 = .ok (.iload_n 1, 1) := by decide +kernel
theorem dX13_sung_7 : decode cX13_sung 7 = .ok (.invokevirtual 364, 3) := by decide +kernel
theorem dX13_sung_10 : decode cX13_sung 10 = .ok (.ifCond .eq 38, 3) := by decide +kernel
theorem dX13_sung_13 : decode cX13_sung 13 = .ok (.iload_n 2, 1) := by decide +kernel
theorem dX13_sung_14 : decode cX13_sung 14 = .ok (.ifCond .lt 34, 3) := by decide +kernel
theorem dX13_sung_17 : decode cX13_sung 17 = .ok (.iload_n 2, 1) := by decide +kernel
theorem dX13_sung_18 : decode cX13_sung 18 = .ok (.aload_n 0, 1) := by decide +kernel
theorem dX13_sung_19 : decode cX13_sung 19 = .ok (.getfield 338, 3) := by decide +kernel
theorem dX13_sung_22 : decode cX13_sung 22 = .ok (.getfield 237, 3) := by decide +kernel
theorem dX13_sung_25 : decode cX13_sung 25 = .ok (.iload_n 1, 1) := by decide +kernel
theorem dX13_sung_26 : decode cX13_sung 26 = .ok (.iaload, 1) := by decide +kernel
theorem dX13_sung_27 : decode cX13_sung 27 = .ok (.if_icmp .ge 21, 3) := by decide +kernel
theorem dX13_sung_30 : decode cX13_sung 30 = .ok (.aload_n 0, 1) := by decide +kernel
theorem dX13_sung_31 : decode cX13_sung 31 = .ok (.aload_n 0, 1) := by decide +kernel
theorem dX13_sung_32 : decode cX13_sung 32 = .ok (.iload_n 1, 1) := by decide +kernel
theorem dX13_sung_33 : decode cX13_sung 33 = .ok (.iload_n 2, 1) := by decide +kernel
theorem dX13_sung_34 : decode cX13_sung 34 = .ok (.iload_n 3, 1) := by decide +kernel
theorem dX13_sung_35 : decode cX13_sung 35 = .ok (.aload_n 0, 1) := by decide +kernel
theorem dX13_sung_36 : decode cX13_sung 36 = .ok (.invokevirtual 367, 3) := by decide +kernel
theorem dX13_sung_39 : decode cX13_sung 39 = .ok (.invokevirtual 356, 3) := by decide +kernel
theorem dX13_sung_42 : decode cX13_sung 42 = .ok (.invokevirtual 61, 3) := by decide +kernel
theorem dX13_sung_45 : decode cX13_sung 45 = .ok (.goto 8, 3) := by decide +kernel
theorem dX13_sung_48 : decode cX13_sung 48 = .ok (.aload_n 0, 1) := by decide +kernel
theorem dX13_sung_49 : decode cX13_sung 49 = .ok (.iconst 1, 1) := by decide +kernel
theorem dX13_sung_50 : decode cX13_sung 50 = .ok (.invokevirtual 57, 3) := by decide +kernel
theorem dX13_sung_53 : decode cX13_sung 53 = .ok (.ireturn, 1) := by decide +kernel
abbrev rm_X13_sung : Room := { frames := 2, cells := 0, slots := 0, locals := 47 }
def f_X13_sung_48 (h : Mem) (v0 : Nat) : Option (Int32 × Mem) :=
  (f_X13_refused h v0 1).bind fun q5 => some (q5.1, q5.2)
set_option maxRecDepth 100000 in
set_option maxHeartbeats 4000000 in
theorem w_X13_sung_48 {G : GE} {X : CX} {l : Launch} (hX : Ok G X cX13_sung RX13) (hN : xn X = 4) {P : (Int32 × Mem) → Prop} (hr : Rt G X l yX13_sung (some .int) rm_X13_sung (pmI P)) (h : Mem) (v0 : Nat) (hy : OK (f_X13_sung_48 h v0) P) : AW G X 48 [(0, vR v0)] [] h 0 0 := by
  unfold f_X13_sung_48 at hy
  refine aw_aloadn (pc := 48) hX 0 rfl dX13_sung_48 ?_
  refine aw_iconst (pc := 49) hX 1 (by decide) dX13_sung_49 ?_
  refine aw_callV (pc := 50) (st := []) (a := v0) hX [vI 1] (con_X13_refused _ G _ v0 1 hy.bd) mc_X13_refused ml_X13_57 im_X13_refused se_X13_refused (by decide) hy.bd.kd rfl (rm_of hr (by decide)) (Nat.le_of_ble_eq_true rfl) rfl dX13_sung_50 (kmI rfl rfl (fun q5 hy => ?_))
  exact aw_iret (pc := 53) hX hr (by decide) (by decide) dX13_sung_53 ⟨_, rfl, hy.s⟩
def f_X13_sung (h : Mem) (v0 : Nat) (v1 : Int32) (v2 : Int32) (v3 : Int32) : Option (Int32 × Mem) :=
  (ck h v0 11).bind fun _ => (pI h v0 0 11 0).bind fun h1 => (f_X13_isTune h1 v0 v1).bind fun x2 => (if x2 = 0 then f_X13_sung_48 h1 v0 else (if v2 < 0 then f_X13_sung_48 h1 v0 else (gR h1 v0 3 11).bind fun r6 => (gR h1 r6 10 10).bind fun r7 => (aI h1 r7 v1).bind fun x8 => (if x8 ≤ v2 then f_X13_sung_48 h1 v0 else (f_X13_rains h1 v0).bind fun x9 => (f_X13_sungBy h1 v0 v1 v2 v3 x9).bind fun x10 => (f_X13_good h1 v0 x10).bind fun q13 => some (q13.1, q13.2))))
set_option maxRecDepth 100000 in
set_option maxHeartbeats 4000000 in
theorem w_X13_sung {G : GE} {X : CX} {l : Launch} (hX : Ok G X cX13_sung RX13) (hN : xn X = 4) {P : (Int32 × Mem) → Prop} (hr : Rt G X l yX13_sung (some .int) rm_X13_sung (pmI P)) (h : Mem) (v0 : Nat) (v1 : Int32) (v2 : Int32) (v3 : Int32) (hy : OK (f_X13_sung h v0 v1 v2 v3) P) : AW G X 0 [(0, vR v0), (1, vI v1), (2, vI v2), (3, vI v3)] [] h 0 0 := by
  unfold f_X13_sung at hy
  have hkd := hy.kd
  have hy := hy.kb
  refine aw_aloadn (pc := 0) hX 0 rfl dX13_sung_0 ?_
  refine aw_iconst (pc := 1) hX 0 (by decide) dX13_sung_1 ?_
  refine aw_pI (pc := 2) hX hy fl_X13_51 rfl (Or.inl rfl) dX13_sung_2 (fun h1 hy => ?_)
  refine aw_aloadn (pc := 5) hX 0 rfl dX13_sung_5 ?_
  refine aw_iloadn (pc := 6) hX 1 rfl dX13_sung_6 ?_
  refine aw_callV (pc := 7) (st := []) (a := v0) hX [vI v1] (con_X13_isTune _ G _ v0 v1 hy.bd) mc_X13_isTune ml_X13_364 im_X13_isTune se_X13_isTune (by decide) hy.bd.kd rfl (rm_of hr (by decide)) (Nat.le_of_ble_eq_true rfl) rfl dX13_sung_7 (kpI rfl rfl (fun x2 hy => ?_))
  refine aw_if_eq (pc := 10) hX 48 (by decide) dX13_sung_10 (fun hc9 => ?_) (fun hc9 => ?_)
  · have hy := hy.t hc9
    refine AW.sub [0] rfl ?_
    exact w_X13_sung_48 hX hN hr h1 v0 hy
  · have hy := hy.f hc9
    refine aw_iloadn (pc := 13) hX 2 rfl dX13_sung_13 ?_
    refine aw_if_lt (pc := 14) hX 48 (by decide) dX13_sung_14 (fun hc9 => ?_) (fun hc9 => ?_)
    · have hy := hy.t hc9
      refine AW.sub [0] rfl ?_
      exact w_X13_sung_48 hX hN hr h1 v0 hy
    · have hy := hy.f hc9
      refine aw_iloadn (pc := 17) hX 2 rfl dX13_sung_17 ?_
      refine aw_aloadn (pc := 18) hX 0 rfl dX13_sung_18 ?_
      refine aw_gR (pc := 19) hX hy fl_X13_338 (fun _ _ => rfl) dX13_sung_19 (fun r6 hy => ?_)
      refine aw_gR (pc := 22) hX hy fl_X13_237 (fun _ _ => rfl) dX13_sung_22 (fun r7 hy => ?_)
      refine aw_iloadn (pc := 25) hX 1 rfl dX13_sung_25 ?_
      refine aw_aI (pc := 26) hX hy dX13_sung_26 (fun x8 hy => ?_)
      refine aw_ic_ge (pc := 27) hX 48 (by decide) dX13_sung_27 (fun hc9 => ?_) (fun hc9 => ?_)
      · have hy := hy.t hc9
        refine AW.sub [0] rfl ?_
        exact w_X13_sung_48 hX hN hr h1 v0 hy
      · have hy := hy.f hc9
        refine aw_aloadn (pc := 30) hX 0 rfl dX13_sung_30 ?_
        refine aw_aloadn (pc := 31) hX 0 rfl dX13_sung_31 ?_
        refine aw_iloadn (pc := 32) hX 1 rfl dX13_sung_32 ?_
        refine aw_iloadn (pc := 33) hX 2 rfl dX13_sung_33 ?_
        refine aw_iloadn (pc := 34) hX 3 rfl dX13_sung_34 ?_
        refine aw_aloadn (pc := 35) hX 0 rfl dX13_sung_35 ?_
        refine aw_callV (pc := 36) (st := [vI v3, vI v2, vI v1, vR v0, vR v0]) (a := v0) hX [] (con_X13_rains _ G _ v0 hy.bd) mc_X13_rains ml_X13_367 im_X13_rains se_X13_rains (by decide) hy.bd.kd rfl (rm_of hr (by decide)) (Nat.le_of_ble_eq_true rfl) rfl dX13_sung_36 (kpI rfl rfl (fun x9 hy => ?_))
        refine aw_callV (pc := 39) (st := [vR v0]) (a := v0) hX [vI v1, vI v2, vI v3, vI x9] (con_X13_sungBy _ G _ v0 v1 v2 v3 x9 hy.bd) mc_X13_sungBy ml_X13_356 im_X13_sungBy se_X13_sungBy (by decide) hy.bd.kd rfl (rm_of hr (by decide)) (Nat.le_of_ble_eq_true rfl) rfl dX13_sung_39 (kpI rfl rfl (fun x10 hy => ?_))
        refine aw_callV (pc := 42) (st := []) (a := v0) hX [vI x10] (con_X13_good _ G _ v0 x10 hy.bd) mc_X13_good ml_X13_61 im_X13_good se_X13_good (by decide) hy.bd.kd rfl (rm_of hr (by decide)) (Nat.le_of_ble_eq_true rfl) rfl dX13_sung_42 (kmI rfl rfl (fun q13 hy => ?_))
        refine aw_goto (pc := 45) hX 53 (by decide) dX13_sung_45 ?_
        exact aw_iret (pc := 53) hX hr (by decide) (by decide) dX13_sung_53 ⟨_, rfl, hy.s⟩
theorem con_X13_sung (l : Launch) (G : GE) (h : Mem) (v0 : Nat) (v1 : Int32) (v2 : Int32) (v3 : Int32) {P : (Int32 × Mem) → Prop} (hy : OK (f_X13_sung h v0 v1 v2 v3) P) : Con l G yX13_sung cX13_sung 4 (some .int) rm_X13_sung [vR v0, vI v1, vI v2, vI v3] h (pmI P) := Con.of (by decide) (Nat.le_of_ble_eq_true rfl) (fun X hX hr hN => w_X13_sung hX hN hr h v0 v1 v2 v3 hy)
/-! X13_road -/
theorem dX13_road_0 : decode cX13_road 0 = .ok (.aload_n 0, 1) := by decide +kernel
theorem dX13_road_1 : decode cX13_road 1 = .ok (.iconst 0, 1) := by decide +kernel
theorem dX13_road_2 : decode cX13_road 2 = .ok (.putfield 51, 3) := by decide +kernel
theorem dX13_road_5 : decode cX13_road 5 = .ok (.aload_n 0, 1) := by decide +kernel
theorem dX13_road_6 : decode cX13_road 6 = .ok (.iload_n 1, 1) := by decide +kernel
theorem dX13_road_7 : decode cX13_road 7 = .ok (.iload_n 2, 1) := by decide +kernel
theorem dX13_road_8 : decode cX13_road 8 = .ok (.invokevirtual 370, 3) := by decide +kernel
theorem dX13_road_11 : decode cX13_road 11 = .ok (.ifCond .ne 9, 3) := by decide +kernel
theorem dX13_road_14 : decode cX13_road 14 = .ok (.aload_n 0, 1) := by decide +kernel
theorem dX13_road_15 : decode cX13_road 15 = .ok (.iconst 1, 1) := by decide +kernel
theorem dX13_road_16 : decode cX13_road 16 = .ok (.invokevirtual 57, 3) := by decide +kernel
theorem dX13_road_19 : decode cX13_road 19 = .ok (.ireturn, 1) := by decide +kernel
theorem dX13_road_20 : decode cX13_road 20 = .ok (.iload_n 1, 1) := by decide +kernel
theorem dX13_road_21 : decode cX13_road 21 = .ok (.iload_n 2, 1) := by decide +kernel
theorem dX13_road_22 : decode cX13_road 22 = .ok (.aload_n 0, 1) := by decide +kernel
theorem dX13_road_23 : decode cX13_road 23 = .ok (.getfield 338, 3) := by decide +kernel
theorem dX13_road_26 : decode cX13_road 26 = .ok (.getfield 262, 3) := by decide +kernel
theorem dX13_road_29 : decode cX13_road 29 = .ok (.invokestatic 352, 3) := by decide +kernel
theorem dX13_road_32 : decode cX13_road 32 = .ok (.istore_n 3, 1) := by decide +kernel
theorem dX13_road_33 : decode cX13_road 33 = .ok (.aload_n 0, 1) := by decide +kernel
theorem dX13_road_34 : decode cX13_road 34 = .ok (.iload_n 3, 1) := by decide +kernel
theorem dX13_road_35 : decode cX13_road 35 = .ok (.ifCond .ne 8, 3) := by decide +kernel
theorem dX13_road_38 : decode cX13_road 38 = .ok (.bipush (-2), 2) := by decide +kernel
theorem dX13_road_40 : decode cX13_road 40 = .ok (.goto 4, 3) := by decide +kernel
theorem dX13_road_43 : decode cX13_road 43 = .ok (.iload_n 3, 1) := by decide +kernel
theorem dX13_road_44 : decode cX13_road 44 = .ok (.invokevirtual 61, 3) := by decide +kernel
theorem dX13_road_47 : decode cX13_road 47 = .ok (.ireturn, 1) := by decide +kernel
abbrev rm_X13_road : Room := { frames := 2, cells := 0, slots := 0, locals := 43 }
def f_X13_road_44 (h : Mem) (s0 : Nat) (s1 : Int32) : Option (Int32 × Mem) :=
  (f_X13_good h s0 s1).bind fun q8 => some (q8.1, q8.2)
set_option maxRecDepth 100000 in
set_option maxHeartbeats 4000000 in
theorem w_X13_road_44 {G : GE} {X : CX} {l : Launch} (hX : Ok G X cX13_road RX13) (hN : xn X = 4) {P : (Int32 × Mem) → Prop} (hr : Rt G X l yX13_road (some .int) rm_X13_road (pmI P)) (h : Mem) (s0 : Nat) (s1 : Int32) (hy : OK (f_X13_road_44 h s0 s1) P) : AW G X 44 [] [vI s1, vR s0] h 0 0 := by
  unfold f_X13_road_44 at hy
  refine aw_callV (pc := 44) (st := []) (a := s0) hX [vI s1] (con_X13_good _ G _ s0 s1 hy.bd) mc_X13_good ml_X13_61 im_X13_good se_X13_good (by decide) hy.bd.kd rfl (rm_of hr (by decide)) (Nat.le_of_ble_eq_true rfl) rfl dX13_road_44 (kmI rfl rfl (fun q8 hy => ?_))
  exact aw_iret (pc := 47) hX hr (by decide) (by decide) dX13_road_47 ⟨_, rfl, hy.s⟩
def f_X13_road (h : Mem) (v0 : Nat) (v1 : Int32) (v2 : Int32) : Option (Int32 × Mem) :=
  (ck h v0 11).bind fun _ => (pI h v0 0 11 0).bind fun h1 => (f_X13_areTwo h1 v0 v1 v2).bind fun x2 => (if x2 = 0 then (f_X13_refused h1 v0 1).bind fun q11 => some (q11.1, q11.2) else (gR h1 v0 3 11).bind fun r3 => (gR h1 r3 12 10).bind fun r4 => (f_X13_of h1 v1 v2 r4).bind fun x5 => (if x5 = 0 then f_X13_road_44 h1 v0 (-2) else f_X13_road_44 h1 v0 x5))
set_option maxRecDepth 100000 in
set_option maxHeartbeats 4000000 in
theorem w_X13_road {G : GE} {X : CX} {l : Launch} (hX : Ok G X cX13_road RX13) (hN : xn X = 4) {P : (Int32 × Mem) → Prop} (hr : Rt G X l yX13_road (some .int) rm_X13_road (pmI P)) (h : Mem) (v0 : Nat) (v1 : Int32) (v2 : Int32) (hy : OK (f_X13_road h v0 v1 v2) P) : AW G X 0 [(0, vR v0), (1, vI v1), (2, vI v2)] [] h 0 0 := by
  unfold f_X13_road at hy
  have hkd := hy.kd
  have hy := hy.kb
  refine aw_aloadn (pc := 0) hX 0 rfl dX13_road_0 ?_
  refine aw_iconst (pc := 1) hX 0 (by decide) dX13_road_1 ?_
  refine aw_pI (pc := 2) hX hy fl_X13_51 rfl (Or.inl rfl) dX13_road_2 (fun h1 hy => ?_)
  refine aw_aloadn (pc := 5) hX 0 rfl dX13_road_5 ?_
  refine aw_iloadn (pc := 6) hX 1 rfl dX13_road_6 ?_
  refine aw_iloadn (pc := 7) hX 2 rfl dX13_road_7 ?_
  refine aw_callV (pc := 8) (st := []) (a := v0) hX [vI v1, vI v2] (con_X13_areTwo _ G _ v0 v1 v2 hy.bd) mc_X13_areTwo ml_X13_370 im_X13_areTwo se_X13_areTwo (by decide) hy.bd.kd rfl (rm_of hr (by decide)) (Nat.le_of_ble_eq_true rfl) rfl dX13_road_8 (kpI rfl rfl (fun x2 hy => ?_))
  refine aw_if_ne (pc := 11) hX 20 (by decide) dX13_road_11 (fun hc9 => ?_) (fun hc9 => ?_)
  · have hy := hy.f hc9
    refine aw_iloadn (pc := 20) hX 1 rfl dX13_road_20 ?_
    refine aw_iloadn (pc := 21) hX 2 rfl dX13_road_21 ?_
    refine aw_aloadn (pc := 22) hX 0 rfl dX13_road_22 ?_
    refine aw_gR (pc := 23) hX hy fl_X13_338 (fun _ _ => rfl) dX13_road_23 (fun r3 hy => ?_)
    refine aw_gR (pc := 26) hX hy fl_X13_262 (fun _ _ => rfl) dX13_road_26 (fun r4 hy => ?_)
    refine aw_callS (pc := 29) (st := []) hX [vI v1, vI v2, vR r4] (con_X13_of _ G _ v1 v2 r4 hy.bd) mc_X13_of ml_X13_352 st_X13_of rfl (rm_of hr (by decide)) (Nat.le_of_ble_eq_true rfl) rfl dX13_road_29 (kpI rfl rfl (fun x5 hy => ?_))
    refine aw_istoren (pc := 32) hX [(3, vI x5), (0, vR v0), (1, vI v1), (2, vI v2)] rfl (lt_n hN (by decide)) dX13_road_32 ?_
    refine aw_aloadn (pc := 33) hX 1 rfl dX13_road_33 ?_
    refine aw_iloadn (pc := 34) hX 0 rfl dX13_road_34 ?_
    refine aw_if_ne (pc := 35) hX 43 (by decide) dX13_road_35 (fun hc9 => ?_) (fun hc9 => ?_)
    · have hy := hy.f hc9
      refine aw_iloadn (pc := 43) hX 0 rfl dX13_road_43 ?_
      refine AW.sub [] rfl ?_
      exact w_X13_road_44 hX hN hr h1 v0 x5 hy
    · have hy := hy.t hc9
      refine aw_bipush (pc := 38) hX (-2) (by decide) dX13_road_38 ?_
      refine aw_goto (pc := 40) hX 44 (by decide) dX13_road_40 ?_
      refine AW.sub [] rfl ?_
      exact w_X13_road_44 hX hN hr h1 v0 (-2) hy
  · have hy := hy.t hc9
    refine aw_aloadn (pc := 14) hX 0 rfl dX13_road_14 ?_
    refine aw_iconst (pc := 15) hX 1 (by decide) dX13_road_15 ?_
    refine aw_callV (pc := 16) (st := []) (a := v0) hX [vI 1] (con_X13_refused _ G _ v0 1 hy.bd) mc_X13_refused ml_X13_57 im_X13_refused se_X13_refused (by decide) hy.bd.kd rfl (rm_of hr (by decide)) (Nat.le_of_ble_eq_true rfl) rfl dX13_road_16 (kmI rfl rfl (fun q11 hy => ?_))
    exact aw_iret (pc := 19) hX hr (by decide) (by decide) dX13_road_19 ⟨_, rfl, hy.s⟩
theorem con_X13_road (l : Launch) (G : GE) (h : Mem) (v0 : Nat) (v1 : Int32) (v2 : Int32) {P : (Int32 × Mem) → Prop} (hy : OK (f_X13_road h v0 v1 v2) P) : Con l G yX13_road cX13_road 4 (some .int) rm_X13_road [vR v0, vI v1, vI v2] h (pmI P) := Con.of (by decide) (Nat.le_of_ble_eq_true rfl) (fun X hX hr hN => w_X13_road hX hN hr h v0 v1 v2 hy)
/-! X13_gate -/
theorem dX13_gate_0 : decode cX13_gate 0 = .ok (.aload_n 0, 1) := by decide +kernel
theorem dX13_gate_1 : decode cX13_gate 1 = .ok (.iconst 0, 1) := by decide +kernel
theorem dX13_gate_2 : decode cX13_gate 2 = .ok (.putfield 51, 3) := by decide +kernel
theorem dX13_gate_5 : decode cX13_gate 5 = .ok (.aload_n 0, 1) := by decide +kernel
theorem dX13_gate_6 : decode cX13_gate 6 = .ok (.iload_n 1, 1) := by decide +kernel
theorem dX13_gate_7 : decode cX13_gate 7 = .ok (.iload_n 2, 1) := by decide +kernel
theorem dX13_gate_8 : decode cX13_gate 8 = .ok (.invokevirtual 370, 3) := by decide +kernel
theorem dX13_gate_11 : decode cX13_gate 11 = .ok (.ifCond .eq 12, 3) := by decide +kernel
theorem dX13_gate_14 : decode cX13_gate 14 = .ok (.iload_n 3, 1) := by decide +kernel
theorem dX13_gate_15 : decode cX13_gate 15 = .ok (.iconst 0, 1) := by decide +kernel
theorem dX13_gate_16 : decode cX13_gate 16 = .ok (.iconst 1, 1) := by decide +kernel
theorem dX13_gate_17 : decode cX13_gate 17 = .ok (.invokestatic 129, 3) := by decide +kernel
theorem dX13_gate_20 : decode cX13_gate 20 = .ok (.ifCond .ne 9, 3) := by decide +kernel
theorem dX13_gate_23 : decode cX13_gate 23 = .ok (.aload_n 0, 1) := by decide +kernel
theorem dX13_gate_24 : decode cX13_gate 24 = .ok (.iconst 1, 1) := by decide +kernel
theorem dX13_gate_25 : decode cX13_gate 25 = .ok (.invokevirtual 57, 3) := by decide +kernel
theorem dX13_gate_28 : decode cX13_gate 28 = .ok (.ireturn, 1) := by decide +kernel
theorem dX13_gate_29 : decode cX13_gate 29 = .ok (.iload_n 1, 1) := by decide +kernel
theorem dX13_gate_30 : decode cX13_gate 30 = .ok (.iload_n 2, 1) := by decide +kernel
theorem dX13_gate_31 : decode cX13_gate 31 = .ok (.aload_n 0, 1) := by decide +kernel
theorem dX13_gate_32 : decode cX13_gate 32 = .ok (.getfield 338, 3) := by decide +kernel
theorem dX13_gate_35 : decode cX13_gate 35 = .ok (.getfield 272, 3) := by decide +kernel
theorem dX13_gate_38 : decode cX13_gate 38 = .ok (.invokestatic 352, 3) := by decide +kernel
theorem dX13_gate_41 : decode cX13_gate 41 = .ok (.istore 4, 2) := by decide +kernel
theorem dX13_gate_43 : decode cX13_gate 43 = .ok (.aload_n 0, 1) := by decide +kernel
theorem dX13_gate_44 : decode cX13_gate 44 = .ok (.iload 4, 2) := by decide +kernel
theorem dX13_gate_46 : decode cX13_gate 46 = .ok (.bipush (-2), 2) := by decide +kernel
theorem dX13_gate_48 : decode cX13_gate 48 = .ok (.if_icmp .ne 8, 3) := by decide +kernel
theorem dX13_gate_51 : decode cX13_gate 51 = .ok (.bipush (-2), 2) := by decide +kernel
theorem dX13_gate_53 : decode cX13_gate 53 = .ok (.goto 24, 3) := by decide +kernel
theorem dX13_gate_56 : decode cX13_gate 56 = .ok (.iload_n 3, 1) := by decide +kernel
theorem dX13_gate_57 : decode cX13_gate 57 = .ok (.ifCond .ne 8, 3) := by decide +kernel
theorem dX13_gate_60 : decode cX13_gate 60 = .ok (.iload 4, 2) := by decide +kernel
theorem dX13_gate_62 : decode cX13_gate 62 = .ok (.goto 15, 3) := by decide +kernel
theorem dX13_gate_65 : decode cX13_gate 65 = .ok (.iload_n 1, 1) := by decide +kernel
theorem dX13_gate_66 : decode cX13_gate 66 = .ok (.iload_n 2, 1) := by decide +kernel
theorem dX13_gate_67 : decode cX13_gate 67 = .ok (.aload_n 0, 1) := by decide +kernel
theorem dX13_gate_68 : decode cX13_gate 68 = .ok (.getfield 338, 3) := by decide +kernel
theorem dX13_gate_71 : decode cX13_gate 71 = .ok (.getfield 282, 3) := by decide +kernel
theorem dX13_gate_74 : decode cX13_gate 74 = .ok (.invokestatic 352, 3) := by decide +kernel
theorem dX13_gate_77 : decode cX13_gate 77 = .ok (.invokevirtual 61, 3) := by decide +kernel
theorem dX13_gate_80 : decode cX13_gate 80 = .ok (.ireturn, 1) := by decide +kernel
abbrev rm_X13_gate : Room := { frames := 2, cells := 0, slots := 0, locals := 43 }
def f_X13_gate_23 (h : Mem) (v0 : Nat) : Option (Int32 × Mem) :=
  (f_X13_refused h v0 1).bind fun q5 => some (q5.1, q5.2)
set_option maxRecDepth 100000 in
set_option maxHeartbeats 4000000 in
theorem w_X13_gate_23 {G : GE} {X : CX} {l : Launch} (hX : Ok G X cX13_gate RX13) (hN : xn X = 5) {P : (Int32 × Mem) → Prop} (hr : Rt G X l yX13_gate (some .int) rm_X13_gate (pmI P)) (h : Mem) (v0 : Nat) (hy : OK (f_X13_gate_23 h v0) P) : AW G X 23 [(0, vR v0)] [] h 0 0 := by
  unfold f_X13_gate_23 at hy
  refine aw_aloadn (pc := 23) hX 0 rfl dX13_gate_23 ?_
  refine aw_iconst (pc := 24) hX 1 (by decide) dX13_gate_24 ?_
  refine aw_callV (pc := 25) (st := []) (a := v0) hX [vI 1] (con_X13_refused _ G _ v0 1 hy.bd) mc_X13_refused ml_X13_57 im_X13_refused se_X13_refused (by decide) hy.bd.kd rfl (rm_of hr (by decide)) (Nat.le_of_ble_eq_true rfl) rfl dX13_gate_25 (kmI rfl rfl (fun q5 hy => ?_))
  exact aw_iret (pc := 28) hX hr (by decide) (by decide) dX13_gate_28 ⟨_, rfl, hy.s⟩
def f_X13_gate_77 (h : Mem) (s0 : Nat) (s1 : Int32) : Option (Int32 × Mem) :=
  (f_X13_good h s0 s1).bind fun q15 => some (q15.1, q15.2)
set_option maxRecDepth 100000 in
set_option maxHeartbeats 4000000 in
theorem w_X13_gate_77 {G : GE} {X : CX} {l : Launch} (hX : Ok G X cX13_gate RX13) (hN : xn X = 5) {P : (Int32 × Mem) → Prop} (hr : Rt G X l yX13_gate (some .int) rm_X13_gate (pmI P)) (h : Mem) (s0 : Nat) (s1 : Int32) (hy : OK (f_X13_gate_77 h s0 s1) P) : AW G X 77 [] [vI s1, vR s0] h 0 0 := by
  unfold f_X13_gate_77 at hy
  refine aw_callV (pc := 77) (st := []) (a := s0) hX [vI s1] (con_X13_good _ G _ s0 s1 hy.bd) mc_X13_good ml_X13_61 im_X13_good se_X13_good (by decide) hy.bd.kd rfl (rm_of hr (by decide)) (Nat.le_of_ble_eq_true rfl) rfl dX13_gate_77 (kmI rfl rfl (fun q15 hy => ?_))
  exact aw_iret (pc := 80) hX hr (by decide) (by decide) dX13_gate_80 ⟨_, rfl, hy.s⟩
def f_X13_gate (h : Mem) (v0 : Nat) (v1 : Int32) (v2 : Int32) (v3 : Int32) : Option (Int32 × Mem) :=
  (ck h v0 11).bind fun _ => (pI h v0 0 11 0).bind fun h1 => (f_X13_areTwo h1 v0 v1 v2).bind fun x2 => (if x2 = 0 then f_X13_gate_23 h1 v0 else (f_X13_in h1 v3 0 1).bind fun x6 => (if x6 = 0 then f_X13_gate_23 h1 v0 else (gR h1 v0 3 11).bind fun r7 => (gR h1 r7 13 10).bind fun r8 => (f_X13_of h1 v1 v2 r8).bind fun x9 => (if x9 = (-2) then f_X13_gate_77 h1 v0 (-2) else (if v3 = 0 then f_X13_gate_77 h1 v0 x9 else (gR h1 v0 3 11).bind fun r10 => (gR h1 r10 14 10).bind fun r11 => (f_X13_of h1 v1 v2 r11).bind fun x12 => f_X13_gate_77 h1 v0 x12))))
set_option maxRecDepth 100000 in
set_option maxHeartbeats 4000000 in
theorem w_X13_gate {G : GE} {X : CX} {l : Launch} (hX : Ok G X cX13_gate RX13) (hN : xn X = 5) {P : (Int32 × Mem) → Prop} (hr : Rt G X l yX13_gate (some .int) rm_X13_gate (pmI P)) (h : Mem) (v0 : Nat) (v1 : Int32) (v2 : Int32) (v3 : Int32) (hy : OK (f_X13_gate h v0 v1 v2 v3) P) : AW G X 0 [(0, vR v0), (1, vI v1), (2, vI v2), (3, vI v3)] [] h 0 0 := by
  unfold f_X13_gate at hy
  have hkd := hy.kd
  have hy := hy.kb
  refine aw_aloadn (pc := 0) hX 0 rfl dX13_gate_0 ?_
  refine aw_iconst (pc := 1) hX 0 (by decide) dX13_gate_1 ?_
  refine aw_pI (pc := 2) hX hy fl_X13_51 rfl (Or.inl rfl) dX13_gate_2 (fun h1 hy => ?_)
  refine aw_aloadn (pc := 5) hX 0 rfl dX13_gate_5 ?_
  refine aw_iloadn (pc := 6) hX 1 rfl dX13_gate_6 ?_
  refine aw_iloadn (pc := 7) hX 2 rfl dX13_gate_7 ?_
  refine aw_callV (pc := 8) (st := []) (a := v0) hX [vI v1, vI v2] (con_X13_areTwo _ G _ v0 v1 v2 hy.bd) mc_X13_areTwo ml_X13_370 im_X13_areTwo se_X13_areTwo (by decide) hy.bd.kd rfl (rm_of hr (by decide)) (Nat.le_of_ble_eq_true rfl) rfl dX13_gate_8 (kpI rfl rfl (fun x2 hy => ?_))
  refine aw_if_eq (pc := 11) hX 23 (by decide) dX13_gate_11 (fun hc9 => ?_) (fun hc9 => ?_)
  · have hy := hy.t hc9
    refine AW.sub [0] rfl ?_
    exact w_X13_gate_23 hX hN hr h1 v0 hy
  · have hy := hy.f hc9
    refine aw_iloadn (pc := 14) hX 3 rfl dX13_gate_14 ?_
    refine aw_iconst (pc := 15) hX 0 (by decide) dX13_gate_15 ?_
    refine aw_iconst (pc := 16) hX 1 (by decide) dX13_gate_16 ?_
    refine aw_callS (pc := 17) (st := []) hX [vI v3, vI 0, vI 1] (con_X13_in _ G _ v3 0 1 hy.bd) mc_X13_in ml_X13_129 st_X13_in rfl (rm_of hr (by decide)) (Nat.le_of_ble_eq_true rfl) rfl dX13_gate_17 (kpI rfl rfl (fun x6 hy => ?_))
    refine aw_if_ne (pc := 20) hX 29 (by decide) dX13_gate_20 (fun hc9 => ?_) (fun hc9 => ?_)
    · have hy := hy.f hc9
      refine aw_iloadn (pc := 29) hX 1 rfl dX13_gate_29 ?_
      refine aw_iloadn (pc := 30) hX 2 rfl dX13_gate_30 ?_
      refine aw_aloadn (pc := 31) hX 0 rfl dX13_gate_31 ?_
      refine aw_gR (pc := 32) hX hy fl_X13_338 (fun _ _ => rfl) dX13_gate_32 (fun r7 hy => ?_)
      refine aw_gR (pc := 35) hX hy fl_X13_272 (fun _ _ => rfl) dX13_gate_35 (fun r8 hy => ?_)
      refine aw_callS (pc := 38) (st := []) hX [vI v1, vI v2, vR r8] (con_X13_of _ G _ v1 v2 r8 hy.bd) mc_X13_of ml_X13_352 st_X13_of rfl (rm_of hr (by decide)) (Nat.le_of_ble_eq_true rfl) rfl dX13_gate_38 (kpI rfl rfl (fun x9 hy => ?_))
      refine aw_istore (pc := 41) hX [(4, vI x9), (0, vR v0), (1, vI v1), (2, vI v2), (3, vI v3)] rfl (lt_n hN (by decide)) dX13_gate_41 ?_
      refine aw_aloadn (pc := 43) hX 1 rfl dX13_gate_43 ?_
      refine aw_iload (pc := 44) hX 0 rfl dX13_gate_44 ?_
      refine aw_bipush (pc := 46) hX (-2) (by decide) dX13_gate_46 ?_
      refine aw_ic_ne (pc := 48) hX 56 (by decide) dX13_gate_48 (fun hc9 => ?_) (fun hc9 => ?_)
      · have hy := hy.f hc9
        refine aw_iloadn (pc := 56) hX 4 rfl dX13_gate_56 ?_
        refine aw_if_ne (pc := 57) hX 65 (by decide) dX13_gate_57 (fun hc9 => ?_) (fun hc9 => ?_)
        · have hy := hy.f hc9
          refine aw_iloadn (pc := 65) hX 2 rfl dX13_gate_65 ?_
          refine aw_iloadn (pc := 66) hX 3 rfl dX13_gate_66 ?_
          refine aw_aloadn (pc := 67) hX 1 rfl dX13_gate_67 ?_
          refine aw_gR (pc := 68) hX hy fl_X13_338 (fun _ _ => rfl) dX13_gate_68 (fun r10 hy => ?_)
          refine aw_gR (pc := 71) hX hy fl_X13_282 (fun _ _ => rfl) dX13_gate_71 (fun r11 hy => ?_)
          refine aw_callS (pc := 74) (st := [vR v0]) hX [vI v1, vI v2, vR r11] (con_X13_of _ G _ v1 v2 r11 hy.bd) mc_X13_of ml_X13_352 st_X13_of rfl (rm_of hr (by decide)) (Nat.le_of_ble_eq_true rfl) rfl dX13_gate_74 (kpI rfl rfl (fun x12 hy => ?_))
          refine AW.sub [] rfl ?_
          exact w_X13_gate_77 hX hN hr h1 v0 x12 hy
        · have hy := hy.t hc9
          refine aw_iload (pc := 60) hX 0 rfl dX13_gate_60 ?_
          refine aw_goto (pc := 62) hX 77 (by decide) dX13_gate_62 ?_
          refine AW.sub [] rfl ?_
          exact w_X13_gate_77 hX hN hr h1 v0 x9 hy
      · have hy := hy.t hc9
        refine aw_bipush (pc := 51) hX (-2) (by decide) dX13_gate_51 ?_
        refine aw_goto (pc := 53) hX 77 (by decide) dX13_gate_53 ?_
        refine AW.sub [] rfl ?_
        exact w_X13_gate_77 hX hN hr h1 v0 (-2) hy
    · have hy := hy.t hc9
      refine AW.sub [0] rfl ?_
      exact w_X13_gate_23 hX hN hr h1 v0 hy
theorem con_X13_gate (l : Launch) (G : GE) (h : Mem) (v0 : Nat) (v1 : Int32) (v2 : Int32) (v3 : Int32) {P : (Int32 × Mem) → Prop} (hy : OK (f_X13_gate h v0 v1 v2 v3) P) : Con l G yX13_gate cX13_gate 5 (some .int) rm_X13_gate [vR v0, vI v1, vI v2, vI v3] h (pmI P) := Con.of (by decide) (Nat.le_of_ble_eq_true rfl) (fun X hX hr hN => w_X13_gate hX hN hr h v0 v1 v2 v3 hy)
/-! X13_inn -/
theorem dX13_inn_0 : decode cX13_inn 0 = .ok (.aload_n 0, 1) := by decide +kernel
theorem dX13_inn_1 : decode cX13_inn 1 = .ok (.iconst 0, 1) := by decide +kernel
theorem dX13_inn_2 : decode cX13_inn 2 = .ok (.putfield 51, 3) := by decide +kernel
theorem dX13_inn_5 : decode cX13_inn 5 = .ok (.aload_n 0, 1) := by decide +kernel
theorem dX13_inn_6 : decode cX13_inn 6 = .ok (.getfield 338, 3) := by decide +kernel
theorem dX13_inn_9 : decode cX13_inn 9 = .ok (.ifnull 27, 3) := by decide +kernel
theorem dX13_inn_12 : decode cX13_inn 12 = .ok (.iload_n 1, 1) := by decide +kernel
theorem dX13_inn_13 : decode cX13_inn 13 = .ok (.ifCond .lt 23, 3) := by decide +kernel
theorem dX13_inn_16 : decode cX13_inn 16 = .ok (.iload_n 1, 1) := by decide +kernel
theorem dX13_inn_17 : decode cX13_inn 17 = .ok (.aload_n 0, 1) := by decide +kernel
theorem dX13_inn_18 : decode cX13_inn 18 = .ok (.getfield 338, 3) := by decide +kernel
theorem dX13_inn_21 : decode cX13_inn 21 = .ok (.getfield 287, 3) := by decide +kernel
theorem dX13_inn_24 : decode cX13_inn 24 = .ok (.if_icmp .ge 12, 3) := by decide +kernel
theorem dX13_inn_27 : decode cX13_inn 27 = .ok (.iload_n 2, 1) := by decide +kernel
theorem dX13_inn_28 : decode cX13_inn 28 = .ok (.iconst 0, 1) := by decide +kernel
theorem dX13_inn_29 : decode cX13_inn 29 = .ok (.iconst 3, 1) := by decide +kernel
theorem dX13_inn_30 : decode cX13_inn 30 = .ok (.invokestatic 129, 3) := by decide +kernel
theorem dX13_inn_33 : decode cX13_inn 33 = .ok (.ifCond .ne 9, 3) := by decide +kernel
theorem dX13_inn_36 : decode cX13_inn 36 = .ok (.aload_n 0, 1) := by decide +kernel
theorem dX13_inn_37 : decode cX13_inn 37 = .ok (.iconst 1, 1) := by decide +kernel
theorem dX13_inn_38 : decode cX13_inn 38 = .ok (.invokevirtual 57, 3) := by decide +kernel
theorem dX13_inn_41 : decode cX13_inn 41 = .ok (.ireturn, 1) := by decide +kernel
theorem dX13_inn_42 : decode cX13_inn 42 = .ok (.aload_n 0, 1) := by decide +kernel
theorem dX13_inn_43 : decode cX13_inn 43 = .ok (.iload_n 2, 1) := by decide +kernel
theorem dX13_inn_44 : decode cX13_inn 44 = .ok (.ifCond .ne 15, 3) := by decide +kernel
theorem dX13_inn_47 : decode cX13_inn 47 = .ok (.aload_n 0, 1) := by decide +kernel
theorem dX13_inn_48 : decode cX13_inn 48 = .ok (.getfield 338, 3) := by decide +kernel
theorem dX13_inn_51 : decode cX13_inn 51 = .ok (.getfield 296, 3) := by decide +kernel
theorem dX13_inn_54 : decode cX13_inn 54 = .ok (.iload_n 1, 1) := by decide +kernel
theorem dX13_inn_55 : decode cX13_inn 55 = .ok (.iaload, 1) := by decide +kernel
theorem dX13_inn_56 : decode cX13_inn 56 = .ok (.goto 46, 3) := by decide +kernel
theorem dX13_inn_59 : decode cX13_inn 59 = .ok (.iload_n 2, 1) := by decide +kernel
theorem dX13_inn_60 : decode cX13_inn 60 = .ok (.iconst 1, 1) := by decide +kernel
theorem dX13_inn_61 : decode cX13_inn 61 = .ok (.if_icmp .ne 15, 3) := by decide +kernel
theorem dX13_inn_64 : decode cX13_inn 64 = .ok (.aload_n 0, 1) := by decide +kernel
theorem dX13_inn_65 : decode cX13_inn 65 = .ok (.getfield 338, 3) := by decide +kernel
theorem dX13_inn_68 : decode cX13_inn 68 = .ok (.getfield 299, 3) := by decide +kernel
theorem dX13_inn_71 : decode cX13_inn 71 = .ok (.iload_n 1, 1) := by decide +kernel
theorem dX13_inn_72 : decode cX13_inn 72 = .ok (.iaload, 1) := by decide +kernel
theorem dX13_inn_73 : decode cX13_inn 73 = .ok (.goto 29, 3) := by decide +kernel
theorem dX13_inn_76 : decode cX13_inn 76 = .ok (.iload_n 2, 1) := by decide +kernel
theorem dX13_inn_77 : decode cX13_inn 77 = .ok (.iconst 2, 1) := by decide +kernel
theorem dX13_inn_78 : decode cX13_inn 78 = .ok (.if_icmp .ne 15, 3) := by decide +kernel
theorem dX13_inn_81 : decode cX13_inn 81 = .ok (.aload_n 0, 1) := by decide +kernel
theorem dX13_inn_82 : decode cX13_inn 82 = .ok (.getfield 338, 3) := by decide +kernel
theorem dX13_inn_85 : decode cX13_inn 85 = .ok (.getfield 302, 3) := by decide +kernel
theorem dX13_inn_88 : decode cX13_inn 88 = .ok (.iload_n 1, 1) := by decide +kernel
theorem dX13_inn_89 : decode cX13_inn 89 = .ok (.iaload, 1) := by decide +kernel
theorem dX13_inn_90 : decode cX13_inn 90 = .ok (.goto 12, 3) := by decide +kernel
theorem dX13_inn_93 : decode cX13_inn 93 = .ok (.aload_n 0, 1) := by decide +kernel
theorem dX13_inn_94 : decode cX13_inn 94 = .ok (.getfield 338, 3) := by decide +kernel
theorem dX13_inn_97 : decode cX13_inn 97 = .ok (.getfield 304, 3) := by decide +kernel
theorem dX13_inn_100 : decode cX13_inn 100 = .ok (.iload_n 1, 1) := by decide +kernel
theorem dX13_inn_101 : decode cX13_inn 101 = .ok (.iaload, 1) := by decide +kernel
theorem dX13_inn_102 : decode cX13_inn 102 = .ok (.invokevirtual 61, 3) := by decide +kernel
theorem dX13_inn_105 : decode cX13_inn 105 = .ok (.ireturn, 1) := by decide +kernel
abbrev rm_X13_inn : Room := { frames := 1, cells := 0, slots := 0, locals := 22 }
def f_X13_inn_36 (h : Mem) (v0 : Nat) : Option (Int32 × Mem) :=
  (f_X13_refused h v0 1).bind fun q5 => some (q5.1, q5.2)
set_option maxRecDepth 100000 in
set_option maxHeartbeats 4000000 in
theorem w_X13_inn_36 {G : GE} {X : CX} {l : Launch} (hX : Ok G X cX13_inn RX13) (hN : xn X = 3) {P : (Int32 × Mem) → Prop} (hr : Rt G X l yX13_inn (some .int) rm_X13_inn (pmI P)) (h : Mem) (v0 : Nat) (hy : OK (f_X13_inn_36 h v0) P) : AW G X 36 [(0, vR v0)] [] h 0 0 := by
  unfold f_X13_inn_36 at hy
  refine aw_aloadn (pc := 36) hX 0 rfl dX13_inn_36 ?_
  refine aw_iconst (pc := 37) hX 1 (by decide) dX13_inn_37 ?_
  refine aw_callV (pc := 38) (st := []) (a := v0) hX [vI 1] (con_X13_refused _ G _ v0 1 hy.bd) mc_X13_refused ml_X13_57 im_X13_refused se_X13_refused (by decide) hy.bd.kd rfl (rm_of hr (by decide)) (Nat.le_of_ble_eq_true rfl) rfl dX13_inn_38 (kmI rfl rfl (fun q5 hy => ?_))
  exact aw_iret (pc := 41) hX hr (by decide) (by decide) dX13_inn_41 ⟨_, rfl, hy.s⟩
def f_X13_inn_102 (h : Mem) (s0 : Nat) (s1 : Int32) : Option (Int32 × Mem) :=
  (f_X13_good h s0 s1).bind fun q14 => some (q14.1, q14.2)
set_option maxRecDepth 100000 in
set_option maxHeartbeats 4000000 in
theorem w_X13_inn_102 {G : GE} {X : CX} {l : Launch} (hX : Ok G X cX13_inn RX13) (hN : xn X = 3) {P : (Int32 × Mem) → Prop} (hr : Rt G X l yX13_inn (some .int) rm_X13_inn (pmI P)) (h : Mem) (s0 : Nat) (s1 : Int32) (hy : OK (f_X13_inn_102 h s0 s1) P) : AW G X 102 [] [vI s1, vR s0] h 0 0 := by
  unfold f_X13_inn_102 at hy
  refine aw_callV (pc := 102) (st := []) (a := s0) hX [vI s1] (con_X13_good _ G _ s0 s1 hy.bd) mc_X13_good ml_X13_61 im_X13_good se_X13_good (by decide) hy.bd.kd rfl (rm_of hr (by decide)) (Nat.le_of_ble_eq_true rfl) rfl dX13_inn_102 (kmI rfl rfl (fun q14 hy => ?_))
  exact aw_iret (pc := 105) hX hr (by decide) (by decide) dX13_inn_105 ⟨_, rfl, hy.s⟩
def f_X13_inn (h : Mem) (v0 : Nat) (v1 : Int32) (v2 : Int32) : Option (Int32 × Mem) :=
  (ck h v0 11).bind fun _ => (pI h v0 0 11 0).bind fun h1 => (gR h1 v0 3 11).bind fun r2 => (if r2 = 0 then f_X13_inn_36 h1 v0 else (if v1 < 0 then f_X13_inn_36 h1 v0 else (gR h1 v0 3 11).bind fun r6 => (gI h1 r6 5 10).bind fun x7 => (if x7 ≤ v1 then f_X13_inn_36 h1 v0 else (f_X13_in h1 v2 0 3).bind fun x8 => (if x8 = 0 then f_X13_inn_36 h1 v0 else (if v2 = 0 then (gR h1 v0 3 11).bind fun r21 => (gR h1 r21 17 10).bind fun r22 => (aI h1 r22 v1).bind fun x23 => f_X13_inn_102 h1 v0 x23 else (if v2 = 1 then (gR h1 v0 3 11).bind fun r18 => (gR h1 r18 18 10).bind fun r19 => (aI h1 r19 v1).bind fun x20 => f_X13_inn_102 h1 v0 x20 else (if v2 = 2 then (gR h1 v0 3 11).bind fun r15 => (gR h1 r15 19 10).bind fun r16 => (aI h1 r16 v1).bind fun x17 => f_X13_inn_102 h1 v0 x17 else (gR h1 v0 3 11).bind fun r9 => (gR h1 r9 20 10).bind fun r10 => (aI h1 r10 v1).bind fun x11 => f_X13_inn_102 h1 v0 x11)))))))
set_option maxRecDepth 100000 in
set_option maxHeartbeats 4000000 in
theorem w_X13_inn {G : GE} {X : CX} {l : Launch} (hX : Ok G X cX13_inn RX13) (hN : xn X = 3) {P : (Int32 × Mem) → Prop} (hr : Rt G X l yX13_inn (some .int) rm_X13_inn (pmI P)) (h : Mem) (v0 : Nat) (v1 : Int32) (v2 : Int32) (hy : OK (f_X13_inn h v0 v1 v2) P) : AW G X 0 [(0, vR v0), (1, vI v1), (2, vI v2)] [] h 0 0 := by
  unfold f_X13_inn at hy
  have hkd := hy.kd
  have hy := hy.kb
  refine aw_aloadn (pc := 0) hX 0 rfl dX13_inn_0 ?_
  refine aw_iconst (pc := 1) hX 0 (by decide) dX13_inn_1 ?_
  refine aw_pI (pc := 2) hX hy fl_X13_51 rfl (Or.inl rfl) dX13_inn_2 (fun h1 hy => ?_)
  refine aw_aloadn (pc := 5) hX 0 rfl dX13_inn_5 ?_
  refine aw_gR (pc := 6) hX hy fl_X13_338 (fun _ _ => rfl) dX13_inn_6 (fun r2 hy => ?_)
  refine aw_ifnull (pc := 9) hX 36 (by decide) dX13_inn_9 (fun hc9 => ?_) (fun hc9 => ?_)
  · have hy := hy.t hc9
    refine AW.sub [0] rfl ?_
    exact w_X13_inn_36 hX hN hr h1 v0 hy
  · have hy := hy.f hc9
    refine aw_iloadn (pc := 12) hX 1 rfl dX13_inn_12 ?_
    refine aw_if_lt (pc := 13) hX 36 (by decide) dX13_inn_13 (fun hc9 => ?_) (fun hc9 => ?_)
    · have hy := hy.t hc9
      refine AW.sub [0] rfl ?_
      exact w_X13_inn_36 hX hN hr h1 v0 hy
    · have hy := hy.f hc9
      refine aw_iloadn (pc := 16) hX 1 rfl dX13_inn_16 ?_
      refine aw_aloadn (pc := 17) hX 0 rfl dX13_inn_17 ?_
      refine aw_gR (pc := 18) hX hy fl_X13_338 (fun _ _ => rfl) dX13_inn_18 (fun r6 hy => ?_)
      refine aw_gI (pc := 21) hX hy fl_X13_287 (fun _ _ => rfl) dX13_inn_21 (fun x7 hy => ?_)
      refine aw_ic_ge (pc := 24) hX 36 (by decide) dX13_inn_24 (fun hc9 => ?_) (fun hc9 => ?_)
      · have hy := hy.t hc9
        refine AW.sub [0] rfl ?_
        exact w_X13_inn_36 hX hN hr h1 v0 hy
      · have hy := hy.f hc9
        refine aw_iloadn (pc := 27) hX 2 rfl dX13_inn_27 ?_
        refine aw_iconst (pc := 28) hX 0 (by decide) dX13_inn_28 ?_
        refine aw_iconst (pc := 29) hX 3 (by decide) dX13_inn_29 ?_
        refine aw_callS (pc := 30) (st := []) hX [vI v2, vI 0, vI 3] (con_X13_in _ G _ v2 0 3 hy.bd) mc_X13_in ml_X13_129 st_X13_in rfl (rm_of hr (by decide)) (Nat.le_of_ble_eq_true rfl) rfl dX13_inn_30 (kpI rfl rfl (fun x8 hy => ?_))
        refine aw_if_ne (pc := 33) hX 42 (by decide) dX13_inn_33 (fun hc9 => ?_) (fun hc9 => ?_)
        · have hy := hy.f hc9
          refine aw_aloadn (pc := 42) hX 0 rfl dX13_inn_42 ?_
          refine aw_iloadn (pc := 43) hX 2 rfl dX13_inn_43 ?_
          refine aw_if_ne (pc := 44) hX 59 (by decide) dX13_inn_44 (fun hc9 => ?_) (fun hc9 => ?_)
          · have hy := hy.f hc9
            refine aw_iloadn (pc := 59) hX 2 rfl dX13_inn_59 ?_
            refine aw_iconst (pc := 60) hX 1 (by decide) dX13_inn_60 ?_
            refine aw_ic_ne (pc := 61) hX 76 (by decide) dX13_inn_61 (fun hc9 => ?_) (fun hc9 => ?_)
            · have hy := hy.f hc9
              refine aw_iloadn (pc := 76) hX 2 rfl dX13_inn_76 ?_
              refine aw_iconst (pc := 77) hX 2 (by decide) dX13_inn_77 ?_
              refine aw_ic_ne (pc := 78) hX 93 (by decide) dX13_inn_78 (fun hc9 => ?_) (fun hc9 => ?_)
              · have hy := hy.f hc9
                refine aw_aloadn (pc := 93) hX 0 rfl dX13_inn_93 ?_
                refine aw_gR (pc := 94) hX hy fl_X13_338 (fun _ _ => rfl) dX13_inn_94 (fun r9 hy => ?_)
                refine aw_gR (pc := 97) hX hy fl_X13_304 (fun _ _ => rfl) dX13_inn_97 (fun r10 hy => ?_)
                refine aw_iloadn (pc := 100) hX 1 rfl dX13_inn_100 ?_
                refine aw_aI (pc := 101) hX hy dX13_inn_101 (fun x11 hy => ?_)
                refine AW.sub [] rfl ?_
                exact w_X13_inn_102 hX hN hr h1 v0 x11 hy
              · have hy := hy.t hc9
                refine aw_aloadn (pc := 81) hX 0 rfl dX13_inn_81 ?_
                refine aw_gR (pc := 82) hX hy fl_X13_338 (fun _ _ => rfl) dX13_inn_82 (fun r15 hy => ?_)
                refine aw_gR (pc := 85) hX hy fl_X13_302 (fun _ _ => rfl) dX13_inn_85 (fun r16 hy => ?_)
                refine aw_iloadn (pc := 88) hX 1 rfl dX13_inn_88 ?_
                refine aw_aI (pc := 89) hX hy dX13_inn_89 (fun x17 hy => ?_)
                refine aw_goto (pc := 90) hX 102 (by decide) dX13_inn_90 ?_
                refine AW.sub [] rfl ?_
                exact w_X13_inn_102 hX hN hr h1 v0 x17 hy
            · have hy := hy.t hc9
              refine aw_aloadn (pc := 64) hX 0 rfl dX13_inn_64 ?_
              refine aw_gR (pc := 65) hX hy fl_X13_338 (fun _ _ => rfl) dX13_inn_65 (fun r18 hy => ?_)
              refine aw_gR (pc := 68) hX hy fl_X13_299 (fun _ _ => rfl) dX13_inn_68 (fun r19 hy => ?_)
              refine aw_iloadn (pc := 71) hX 1 rfl dX13_inn_71 ?_
              refine aw_aI (pc := 72) hX hy dX13_inn_72 (fun x20 hy => ?_)
              refine aw_goto (pc := 73) hX 102 (by decide) dX13_inn_73 ?_
              refine AW.sub [] rfl ?_
              exact w_X13_inn_102 hX hN hr h1 v0 x20 hy
          · have hy := hy.t hc9
            refine aw_aloadn (pc := 47) hX 0 rfl dX13_inn_47 ?_
            refine aw_gR (pc := 48) hX hy fl_X13_338 (fun _ _ => rfl) dX13_inn_48 (fun r21 hy => ?_)
            refine aw_gR (pc := 51) hX hy fl_X13_296 (fun _ _ => rfl) dX13_inn_51 (fun r22 hy => ?_)
            refine aw_iloadn (pc := 54) hX 1 rfl dX13_inn_54 ?_
            refine aw_aI (pc := 55) hX hy dX13_inn_55 (fun x23 hy => ?_)
            refine aw_goto (pc := 56) hX 102 (by decide) dX13_inn_56 ?_
            refine AW.sub [] rfl ?_
            exact w_X13_inn_102 hX hN hr h1 v0 x23 hy
        · have hy := hy.t hc9
          refine AW.sub [0] rfl ?_
          exact w_X13_inn_36 hX hN hr h1 v0 hy
theorem con_X13_inn (l : Launch) (G : GE) (h : Mem) (v0 : Nat) (v1 : Int32) (v2 : Int32) {P : (Int32 × Mem) → Prop} (hy : OK (f_X13_inn h v0 v1 v2) P) : Con l G yX13_inn cX13_inn 3 (some .int) rm_X13_inn [vR v0, vI v1, vI v2] h (pmI P) := Con.of (by decide) (Nat.le_of_ble_eq_true rfl) (fun X hX hr hN => w_X13_inn hX hN hr h v0 v1 v2 hy)
/-! X13_person -/
theorem dX13_person_0 : decode cX13_person 0 = .ok (.aload_n 0, 1) := by decide +kernel
theorem dX13_person_1 : decode cX13_person 1 = .ok (.iconst 0, 1) := by decide +kernel
theorem dX13_person_2 : decode cX13_person 2 = .ok (.putfield 51, 3) := by decide +kernel
theorem dX13_person_5 : decode cX13_person 5 = .ok (.aload_n 0, 1) := by decide +kernel
theorem dX13_person_6 : decode cX13_person 6 = .ok (.iload_n 1, 1) := by decide +kernel
theorem dX13_person_7 : decode cX13_person 7 = .ok (.invokevirtual 373, 3) := by decide +kernel
theorem dX13_person_10 : decode cX13_person 10 = .ok (.ifCond .eq 12, 3) := by decide +kernel
theorem dX13_person_13 : decode cX13_person 13 = .ok (.iload_n 2, 1) := by decide +kernel
theorem dX13_person_14 : decode cX13_person 14 = .ok (.iconst 0, 1) := by decide +kernel
theorem dX13_person_15 : decode cX13_person 15 = .ok (.iconst 4, 1) := by decide +kernel
theorem dX13_person_16 : decode cX13_person 16 = .ok (.invokestatic 129, 3) := by decide +kernel
theorem dX13_person_19 : decode cX13_person 19 = .ok (.ifCond .ne 9, 3) := by decide +kernel
theorem dX13_person_22 : decode cX13_person 22 = .ok (.aload_n 0, 1) := by decide +kernel
theorem dX13_person_23 : decode cX13_person 23 = .ok (.iconst 1, 1) := by decide +kernel
theorem dX13_person_24 : decode cX13_person 24 = .ok (.invokevirtual 57, 3) := by decide +kernel
theorem dX13_person_27 : decode cX13_person 27 = .ok (.ireturn, 1) := by decide +kernel
theorem dX13_person_28 : decode cX13_person 28 = .ok (.aload_n 0, 1) := by decide +kernel
theorem dX13_person_29 : decode cX13_person 29 = .ok (.aload_n 0, 1) := by decide +kernel
theorem dX13_person_30 : decode cX13_person 30 = .ok (.getfield 17, 3) := by decide +kernel
theorem dX13_person_33 : decode cX13_person 33 = .ok (.iconst 4, 1) := by decide +kernel
theorem dX13_person_34 : decode cX13_person 34 = .ok (.iload_n 2, 1) := by decide +kernel
theorem dX13_person_35 : decode cX13_person 35 = .ok (.imul, 1) := by decide +kernel
theorem dX13_person_36 : decode cX13_person 36 = .ok (.iload_n 1, 1) := by decide +kernel
theorem dX13_person_37 : decode cX13_person 37 = .ok (.iadd, 1) := by decide +kernel
theorem dX13_person_38 : decode cX13_person 38 = .ok (.iaload, 1) := by decide +kernel
theorem dX13_person_39 : decode cX13_person 39 = .ok (.invokevirtual 61, 3) := by decide +kernel
theorem dX13_person_42 : decode cX13_person 42 = .ok (.ireturn, 1) := by decide +kernel
abbrev rm_X13_person : Room := { frames := 1, cells := 0, slots := 0, locals := 22 }
def f_X13_person_22 (h : Mem) (v0 : Nat) : Option (Int32 × Mem) :=
  (f_X13_refused h v0 1).bind fun q5 => some (q5.1, q5.2)
set_option maxRecDepth 100000 in
set_option maxHeartbeats 4000000 in
theorem w_X13_person_22 {G : GE} {X : CX} {l : Launch} (hX : Ok G X cX13_person RX13) (hN : xn X = 3) {P : (Int32 × Mem) → Prop} (hr : Rt G X l yX13_person (some .int) rm_X13_person (pmI P)) (h : Mem) (v0 : Nat) (hy : OK (f_X13_person_22 h v0) P) : AW G X 22 [(0, vR v0)] [] h 0 0 := by
  unfold f_X13_person_22 at hy
  refine aw_aloadn (pc := 22) hX 0 rfl dX13_person_22 ?_
  refine aw_iconst (pc := 23) hX 1 (by decide) dX13_person_23 ?_
  refine aw_callV (pc := 24) (st := []) (a := v0) hX [vI 1] (con_X13_refused _ G _ v0 1 hy.bd) mc_X13_refused ml_X13_57 im_X13_refused se_X13_refused (by decide) hy.bd.kd rfl (rm_of hr (by decide)) (Nat.le_of_ble_eq_true rfl) rfl dX13_person_24 (kmI rfl rfl (fun q5 hy => ?_))
  exact aw_iret (pc := 27) hX hr (by decide) (by decide) dX13_person_27 ⟨_, rfl, hy.s⟩
def f_X13_person (h : Mem) (v0 : Nat) (v1 : Int32) (v2 : Int32) : Option (Int32 × Mem) :=
  (ck h v0 11).bind fun _ => (pI h v0 0 11 0).bind fun h1 => (f_X13_isPerson h1 v0 v1).bind fun x2 => (if x2 = 0 then f_X13_person_22 h1 v0 else (f_X13_in h1 v2 0 4).bind fun x6 => (if x6 = 0 then f_X13_person_22 h1 v0 else (gR h1 v0 16 11).bind fun r7 => (aI h1 r7 ((4 * v2) + v1)).bind fun x8 => (f_X13_good h1 v0 x8).bind fun q11 => some (q11.1, q11.2)))
set_option maxRecDepth 100000 in
set_option maxHeartbeats 4000000 in
theorem w_X13_person {G : GE} {X : CX} {l : Launch} (hX : Ok G X cX13_person RX13) (hN : xn X = 3) {P : (Int32 × Mem) → Prop} (hr : Rt G X l yX13_person (some .int) rm_X13_person (pmI P)) (h : Mem) (v0 : Nat) (v1 : Int32) (v2 : Int32) (hy : OK (f_X13_person h v0 v1 v2) P) : AW G X 0 [(0, vR v0), (1, vI v1), (2, vI v2)] [] h 0 0 := by
  unfold f_X13_person at hy
  have hkd := hy.kd
  have hy := hy.kb
  refine aw_aloadn (pc := 0) hX 0 rfl dX13_person_0 ?_
  refine aw_iconst (pc := 1) hX 0 (by decide) dX13_person_1 ?_
  refine aw_pI (pc := 2) hX hy fl_X13_51 rfl (Or.inl rfl) dX13_person_2 (fun h1 hy => ?_)
  refine aw_aloadn (pc := 5) hX 0 rfl dX13_person_5 ?_
  refine aw_iloadn (pc := 6) hX 1 rfl dX13_person_6 ?_
  refine aw_callV (pc := 7) (st := []) (a := v0) hX [vI v1] (con_X13_isPerson _ G _ v0 v1 hy.bd) mc_X13_isPerson ml_X13_373 im_X13_isPerson se_X13_isPerson (by decide) hy.bd.kd rfl (rm_of hr (by decide)) (Nat.le_of_ble_eq_true rfl) rfl dX13_person_7 (kpI rfl rfl (fun x2 hy => ?_))
  refine aw_if_eq (pc := 10) hX 22 (by decide) dX13_person_10 (fun hc9 => ?_) (fun hc9 => ?_)
  · have hy := hy.t hc9
    refine AW.sub [0] rfl ?_
    exact w_X13_person_22 hX hN hr h1 v0 hy
  · have hy := hy.f hc9
    refine aw_iloadn (pc := 13) hX 2 rfl dX13_person_13 ?_
    refine aw_iconst (pc := 14) hX 0 (by decide) dX13_person_14 ?_
    refine aw_iconst (pc := 15) hX 4 (by decide) dX13_person_15 ?_
    refine aw_callS (pc := 16) (st := []) hX [vI v2, vI 0, vI 4] (con_X13_in _ G _ v2 0 4 hy.bd) mc_X13_in ml_X13_129 st_X13_in rfl (rm_of hr (by decide)) (Nat.le_of_ble_eq_true rfl) rfl dX13_person_16 (kpI rfl rfl (fun x6 hy => ?_))
    refine aw_if_ne (pc := 19) hX 28 (by decide) dX13_person_19 (fun hc9 => ?_) (fun hc9 => ?_)
    · have hy := hy.f hc9
      refine aw_aloadn (pc := 28) hX 0 rfl dX13_person_28 ?_
      refine aw_aloadn (pc := 29) hX 0 rfl dX13_person_29 ?_
      refine aw_gR (pc := 30) hX hy fl_X13_17 (fun _ _ => rfl) dX13_person_30 (fun r7 hy => ?_)
      refine aw_iconst (pc := 33) hX 4 (by decide) dX13_person_33 ?_
      refine aw_iloadn (pc := 34) hX 2 rfl dX13_person_34 ?_
      refine aw_imul (pc := 35) hX dX13_person_35 ?_
      refine aw_iloadn (pc := 36) hX 1 rfl dX13_person_36 ?_
      refine aw_iadd (pc := 37) hX dX13_person_37 ?_
      refine aw_aI (pc := 38) hX hy dX13_person_38 (fun x8 hy => ?_)
      refine aw_callV (pc := 39) (st := []) (a := v0) hX [vI x8] (con_X13_good _ G _ v0 x8 hy.bd) mc_X13_good ml_X13_61 im_X13_good se_X13_good (by decide) hy.bd.kd rfl (rm_of hr (by decide)) (Nat.le_of_ble_eq_true rfl) rfl dX13_person_39 (kmI rfl rfl (fun q11 hy => ?_))
      exact aw_iret (pc := 42) hX hr (by decide) (by decide) dX13_person_42 ⟨_, rfl, hy.s⟩
    · have hy := hy.t hc9
      refine AW.sub [0] rfl ?_
      exact w_X13_person_22 hX hN hr h1 v0 hy
theorem con_X13_person (l : Launch) (G : GE) (h : Mem) (v0 : Nat) (v1 : Int32) (v2 : Int32) {P : (Int32 × Mem) → Prop} (hy : OK (f_X13_person h v0 v1 v2) P) : Con l G yX13_person cX13_person 3 (some .int) rm_X13_person [vR v0, vI v1, vI v2] h (pmI P) := Con.of (by decide) (Nat.le_of_ble_eq_true rfl) (fun X hX hr hN => w_X13_person hX hN hr h v0 v1 v2 hy)
/-! X13_isRoad -/
theorem dX13_isRoad_0 : decode cX13_isRoad 0 = .ok (.aload_n 0, 1) := by decide +kernel
theorem dX13_isRoad_1 : decode cX13_isRoad 1 = .ok (.iload_n 1, 1) := by decide +kernel
theorem dX13_isRoad_2 : decode cX13_isRoad 2 = .ok (.iload_n 2, 1) := by decide +kernel
theorem dX13_isRoad_3 : decode cX13_isRoad 3 = .ok (.invokevirtual 370, 3) := by decide +kernel
theorem dX13_isRoad_6 : decode cX13_isRoad 6 = .ok (.ifCond .eq 22, 3) := by decide +kernel
theorem dX13_isRoad_9 : decode cX13_isRoad 9 = .ok (.iload_n 1, 1) := by decide +kernel
theorem dX13_isRoad_10 : decode cX13_isRoad 10 = .ok (.iload_n 2, 1) := by decide +kernel
theorem dX13_isRoad_11 : decode cX13_isRoad 11 = .ok (.aload_n 0, 1) := by decide +kernel
theorem dX13_isRoad_12 : decode cX13_isRoad 12 = .ok (.getfield 338, 3) := by decide +kernel
theorem dX13_isRoad_15 : decode cX13_isRoad 15 = .ok (.getfield 262, 3) := by decide +kernel
theorem dX13_isRoad_18 : decode cX13_isRoad 18 = .ok (.invokestatic 352, 3) := by decide +kernel
theorem dX13_isRoad_21 : decode cX13_isRoad 21 = .ok (.ifCond .le 7, 3) := by decide +kernel
theorem dX13_isRoad_24 : decode cX13_isRoad 24 = .ok (.iconst 1, 1) := by decide +kernel
theorem dX13_isRoad_25 : decode cX13_isRoad 25 = .ok (.goto 4, 3) := by decide +kernel
theorem dX13_isRoad_28 : decode cX13_isRoad 28 = .ok (.iconst 0, 1) := by decide +kernel
theorem dX13_isRoad_29 : decode cX13_isRoad 29 = .ok (.ireturn, 1) := by decide +kernel
abbrev rm_X13_isRoad : Room := { frames := 2, cells := 0, slots := 0, locals := 43 }
def f_X13_isRoad_28 (h : Mem) : Option Int32 :=
  some 0
set_option maxRecDepth 100000 in
set_option maxHeartbeats 4000000 in
theorem w_X13_isRoad_28 {G : GE} {X : CX} {l : Launch} (hX : Ok G X cX13_isRoad RX13) (hN : xn X = 3) (h : Mem) {P : Int32 → Prop} (hr : Rt G X l yX13_isRoad (some .boolean) rm_X13_isRoad (ppI h P)) (hy : OK (f_X13_isRoad_28 h) P) : AW G X 28 [] [] h 0 0 := by
  unfold f_X13_isRoad_28 at hy
  refine aw_iconst (pc := 28) hX 0 (by decide) dX13_isRoad_28 ?_
  exact aw_zret (pc := 29) hX hr (by decide) (by decide) dX13_isRoad_29 (Or.inl rfl) ⟨rfl, _, rfl, hy.s⟩
def f_X13_isRoad (h : Mem) (v0 : Nat) (v1 : Int32) (v2 : Int32) : Option Int32 :=
  (ck h v0 11).bind fun _ => (f_X13_areTwo h v0 v1 v2).bind fun x1 => (if x1 = 0 then f_X13_isRoad_28 h else (gR h v0 3 11).bind fun r2 => (gR h r2 12 10).bind fun r3 => (f_X13_of h v1 v2 r3).bind fun x4 => (if x4 ≤ 0 then f_X13_isRoad_28 h else some 1))
set_option maxRecDepth 100000 in
set_option maxHeartbeats 4000000 in
theorem w_X13_isRoad {G : GE} {X : CX} {l : Launch} (hX : Ok G X cX13_isRoad RX13) (hN : xn X = 3) (h : Mem) {P : Int32 → Prop} (hr : Rt G X l yX13_isRoad (some .boolean) rm_X13_isRoad (ppI h P)) (v0 : Nat) (v1 : Int32) (v2 : Int32) (hy : OK (f_X13_isRoad h v0 v1 v2) P) : AW G X 0 [(0, vR v0), (1, vI v1), (2, vI v2)] [] h 0 0 := by
  unfold f_X13_isRoad at hy
  have hkd := hy.kd
  have hy := hy.kb
  refine aw_aloadn (pc := 0) hX 0 rfl dX13_isRoad_0 ?_
  refine aw_iloadn (pc := 1) hX 1 rfl dX13_isRoad_1 ?_
  refine aw_iloadn (pc := 2) hX 2 rfl dX13_isRoad_2 ?_
  refine aw_callV (pc := 3) (st := []) (a := v0) hX [vI v1, vI v2] (con_X13_areTwo _ G _ v0 v1 v2 hy.bd) mc_X13_areTwo ml_X13_370 im_X13_areTwo se_X13_areTwo (by decide) hy.bd.kd rfl (rm_of hr (by decide)) (Nat.le_of_ble_eq_true rfl) rfl dX13_isRoad_3 (kpI rfl rfl (fun x1 hy => ?_))
  refine aw_if_eq (pc := 6) hX 28 (by decide) dX13_isRoad_6 (fun hc9 => ?_) (fun hc9 => ?_)
  · have hy := hy.t hc9
    refine AW.sub [] rfl ?_
    exact w_X13_isRoad_28 hX hN _ hr hy
  · have hy := hy.f hc9
    refine aw_iloadn (pc := 9) hX 1 rfl dX13_isRoad_9 ?_
    refine aw_iloadn (pc := 10) hX 2 rfl dX13_isRoad_10 ?_
    refine aw_aloadn (pc := 11) hX 0 rfl dX13_isRoad_11 ?_
    refine aw_gR (pc := 12) hX hy fl_X13_338 (fun _ _ => rfl) dX13_isRoad_12 (fun r2 hy => ?_)
    refine aw_gR (pc := 15) hX hy fl_X13_262 (fun _ _ => rfl) dX13_isRoad_15 (fun r3 hy => ?_)
    refine aw_callS (pc := 18) (st := []) hX [vI v1, vI v2, vR r3] (con_X13_of _ G _ v1 v2 r3 hy.bd) mc_X13_of ml_X13_352 st_X13_of rfl (rm_of hr (by decide)) (Nat.le_of_ble_eq_true rfl) rfl dX13_isRoad_18 (kpI rfl rfl (fun x4 hy => ?_))
    refine aw_if_le (pc := 21) hX 28 (by decide) dX13_isRoad_21 (fun hc9 => ?_) (fun hc9 => ?_)
    · have hy := hy.t hc9
      refine AW.sub [] rfl ?_
      exact w_X13_isRoad_28 hX hN _ hr hy
    · have hy := hy.f hc9
      refine aw_iconst (pc := 24) hX 1 (by decide) dX13_isRoad_24 ?_
      refine aw_goto (pc := 25) hX 29 (by decide) dX13_isRoad_25 ?_
      exact aw_zret (pc := 29) hX hr (by decide) (by decide) dX13_isRoad_29 (Or.inr rfl) ⟨rfl, _, rfl, hy.s⟩
theorem con_X13_isRoad (l : Launch) (G : GE) (h : Mem) (v0 : Nat) (v1 : Int32) (v2 : Int32) {P : Int32 → Prop} (hy : OK (f_X13_isRoad h v0 v1 v2) P) : Con l G yX13_isRoad cX13_isRoad 3 (some .boolean) rm_X13_isRoad [vR v0, vI v1, vI v2] h (ppI h P) := Con.of (by decide) (Nat.le_of_ble_eq_true rfl) (fun X hX hr hN => w_X13_isRoad hX hN h hr v0 v1 v2 hy)
/-! X13_lifts -/
theorem dX13_lifts_0 : decode cX13_lifts 0 = .ok (.aload_n 0, 1) := by decide +kernel
theorem dX13_lifts_1 : decode cX13_lifts 1 = .ok (.iconst 0, 1) := by decide +kernel
theorem dX13_lifts_2 : decode cX13_lifts 2 = .ok (.putfield 51, 3) := by decide +kernel
theorem dX13_lifts_5 : decode cX13_lifts 5 = .ok (.aload_n 0, 1) := by decide +kernel
theorem dX13_lifts_6 : decode cX13_lifts 6 = .ok (.iload_n 1, 1) := by decide +kernel
theorem dX13_lifts_7 : decode cX13_lifts 7 = .ok (.iload_n 2, 1) := by decide +kernel
theorem dX13_lifts_8 : decode cX13_lifts 8 = .ok (.invokevirtual 376, 3) := by decide +kernel
theorem dX13_lifts_11 : decode cX13_lifts 11 = .ok (.ifCond .eq 11, 3) := by decide +kernel
theorem dX13_lifts_14 : decode cX13_lifts 14 = .ok (.aload_n 0, 1) := by decide +kernel
theorem dX13_lifts_15 : decode cX13_lifts 15 = .ok (.iload_n 3, 1) := by decide +kernel
theorem dX13_lifts_16 : decode cX13_lifts 16 = .ok (.invokevirtual 364, 3) := by decide +kernel
theorem dX13_lifts_19 : decode cX13_lifts 19 = .ok (.ifCond .ne 9, 3) := by decide +kernel
theorem dX13_lifts_22 : decode cX13_lifts 22 = .ok (.aload_n 0, 1) := by decide +kernel
theorem dX13_lifts_23 : decode cX13_lifts 23 = .ok (.iconst 1, 1) := by decide +kernel
theorem dX13_lifts_24 : decode cX13_lifts 24 = .ok (.invokevirtual 57, 3) := by decide +kernel
theorem dX13_lifts_27 : decode cX13_lifts 27 = .ok (.ireturn, 1) := by decide +kernel
theorem dX13_lifts_28 : decode cX13_lifts 28 = .ok (.aload_n 0, 1) := by decide +kernel
theorem dX13_lifts_29 : decode cX13_lifts 29 = .ok (.aload_n 0, 1) := by decide +kernel
theorem dX13_lifts_30 : decode cX13_lifts 30 = .ok (.iload_n 1, 1) := by decide +kernel
theorem dX13_lifts_31 : decode cX13_lifts 31 = .ok (.iload_n 2, 1) := by decide +kernel
theorem dX13_lifts_32 : decode cX13_lifts 32 = .ok (.iload_n 3, 1) := by decide +kernel
theorem dX13_lifts_33 : decode cX13_lifts 33 = .ok (.iload 4, 2) := by decide +kernel
theorem dX13_lifts_35 : decode cX13_lifts 35 = .ok (.aload_n 0, 1) := by decide +kernel
theorem dX13_lifts_36 : decode cX13_lifts 36 = .ok (.invokevirtual 367, 3) := by decide +kernel
theorem dX13_lifts_39 : decode cX13_lifts 39 = .ok (.invokevirtual 360, 3) := by decide +kernel
theorem dX13_lifts_42 : decode cX13_lifts 42 = .ok (.ifCond .eq 7, 3) := by decide +kernel
theorem dX13_lifts_45 : decode cX13_lifts 45 = .ok (.iconst 1, 1) := by decide +kernel
theorem dX13_lifts_46 : decode cX13_lifts 46 = .ok (.goto 4, 3) := by decide +kernel
theorem dX13_lifts_49 : decode cX13_lifts 49 = .ok (.iconst 0, 1) := by decide +kernel
theorem dX13_lifts_50 : decode cX13_lifts 50 = .ok (.invokevirtual 61, 3) := by decide +kernel
theorem dX13_lifts_53 : decode cX13_lifts 53 = .ok (.ireturn, 1) := by decide +kernel
abbrev rm_X13_lifts : Room := { frames := 3, cells := 0, slots := 0, locals := 76 }
def f_X13_lifts_22 (h : Mem) (v0 : Nat) : Option (Int32 × Mem) :=
  (f_X13_refused h v0 1).bind fun q5 => some (q5.1, q5.2)
set_option maxRecDepth 100000 in
set_option maxHeartbeats 4000000 in
theorem w_X13_lifts_22 {G : GE} {X : CX} {l : Launch} (hX : Ok G X cX13_lifts RX13) (hN : xn X = 5) {P : (Int32 × Mem) → Prop} (hr : Rt G X l yX13_lifts (some .int) rm_X13_lifts (pmI P)) (h : Mem) (v0 : Nat) (hy : OK (f_X13_lifts_22 h v0) P) : AW G X 22 [(0, vR v0)] [] h 0 0 := by
  unfold f_X13_lifts_22 at hy
  refine aw_aloadn (pc := 22) hX 0 rfl dX13_lifts_22 ?_
  refine aw_iconst (pc := 23) hX 1 (by decide) dX13_lifts_23 ?_
  refine aw_callV (pc := 24) (st := []) (a := v0) hX [vI 1] (con_X13_refused _ G _ v0 1 hy.bd) mc_X13_refused ml_X13_57 im_X13_refused se_X13_refused (by decide) hy.bd.kd rfl (rm_of hr (by decide)) (Nat.le_of_ble_eq_true rfl) rfl dX13_lifts_24 (kmI rfl rfl (fun q5 hy => ?_))
  exact aw_iret (pc := 27) hX hr (by decide) (by decide) dX13_lifts_27 ⟨_, rfl, hy.s⟩
def f_X13_lifts_50 (h : Mem) (s0 : Nat) (s1 : Int32) : Option (Int32 × Mem) :=
  (f_X13_good h s0 s1).bind fun q11 => some (q11.1, q11.2)
set_option maxRecDepth 100000 in
set_option maxHeartbeats 4000000 in
theorem w_X13_lifts_50 {G : GE} {X : CX} {l : Launch} (hX : Ok G X cX13_lifts RX13) (hN : xn X = 5) {P : (Int32 × Mem) → Prop} (hr : Rt G X l yX13_lifts (some .int) rm_X13_lifts (pmI P)) (h : Mem) (s0 : Nat) (s1 : Int32) (hy : OK (f_X13_lifts_50 h s0 s1) P) : AW G X 50 [] [vI s1, vR s0] h 0 0 := by
  unfold f_X13_lifts_50 at hy
  refine aw_callV (pc := 50) (st := []) (a := s0) hX [vI s1] (con_X13_good _ G _ s0 s1 hy.bd) mc_X13_good ml_X13_61 im_X13_good se_X13_good (by decide) hy.bd.kd rfl (rm_of hr (by decide)) (Nat.le_of_ble_eq_true rfl) rfl dX13_lifts_50 (kmI rfl rfl (fun q11 hy => ?_))
  exact aw_iret (pc := 53) hX hr (by decide) (by decide) dX13_lifts_53 ⟨_, rfl, hy.s⟩
def f_X13_lifts (h : Mem) (v0 : Nat) (v1 : Int32) (v2 : Int32) (v3 : Int32) (v4 : Int32) : Option (Int32 × Mem) :=
  (ck h v0 11).bind fun _ => (pI h v0 0 11 0).bind fun h1 => (f_X13_isRoad h1 v0 v1 v2).bind fun x2 => (if x2 = 0 then f_X13_lifts_22 h1 v0 else (f_X13_isTune h1 v0 v3).bind fun x6 => (if x6 = 0 then f_X13_lifts_22 h1 v0 else (f_X13_rains h1 v0).bind fun x7 => (f_X13_liftsTo h1 v0 v1 v2 v3 v4 x7).bind fun x8 => (if x8 = 0 then f_X13_lifts_50 h1 v0 0 else f_X13_lifts_50 h1 v0 1)))
set_option maxRecDepth 100000 in
set_option maxHeartbeats 4000000 in
theorem w_X13_lifts {G : GE} {X : CX} {l : Launch} (hX : Ok G X cX13_lifts RX13) (hN : xn X = 5) {P : (Int32 × Mem) → Prop} (hr : Rt G X l yX13_lifts (some .int) rm_X13_lifts (pmI P)) (h : Mem) (v0 : Nat) (v1 : Int32) (v2 : Int32) (v3 : Int32) (v4 : Int32) (hy : OK (f_X13_lifts h v0 v1 v2 v3 v4) P) : AW G X 0 [(0, vR v0), (1, vI v1), (2, vI v2), (3, vI v3), (4, vI v4)] [] h 0 0 := by
  unfold f_X13_lifts at hy
  have hkd := hy.kd
  have hy := hy.kb
  refine aw_aloadn (pc := 0) hX 0 rfl dX13_lifts_0 ?_
  refine aw_iconst (pc := 1) hX 0 (by decide) dX13_lifts_1 ?_
  refine aw_pI (pc := 2) hX hy fl_X13_51 rfl (Or.inl rfl) dX13_lifts_2 (fun h1 hy => ?_)
  refine aw_aloadn (pc := 5) hX 0 rfl dX13_lifts_5 ?_
  refine aw_iloadn (pc := 6) hX 1 rfl dX13_lifts_6 ?_
  refine aw_iloadn (pc := 7) hX 2 rfl dX13_lifts_7 ?_
  refine aw_callV (pc := 8) (st := []) (a := v0) hX [vI v1, vI v2] (con_X13_isRoad _ G _ v0 v1 v2 hy.bd) mc_X13_isRoad ml_X13_376 im_X13_isRoad se_X13_isRoad (by decide) hy.bd.kd rfl (rm_of hr (by decide)) (Nat.le_of_ble_eq_true rfl) rfl dX13_lifts_8 (kpI rfl rfl (fun x2 hy => ?_))
  refine aw_if_eq (pc := 11) hX 22 (by decide) dX13_lifts_11 (fun hc9 => ?_) (fun hc9 => ?_)
  · have hy := hy.t hc9
    refine AW.sub [0] rfl ?_
    exact w_X13_lifts_22 hX hN hr h1 v0 hy
  · have hy := hy.f hc9
    refine aw_aloadn (pc := 14) hX 0 rfl dX13_lifts_14 ?_
    refine aw_iloadn (pc := 15) hX 3 rfl dX13_lifts_15 ?_
    refine aw_callV (pc := 16) (st := []) (a := v0) hX [vI v3] (con_X13_isTune _ G _ v0 v3 hy.bd) mc_X13_isTune ml_X13_364 im_X13_isTune se_X13_isTune (by decide) hy.bd.kd rfl (rm_of hr (by decide)) (Nat.le_of_ble_eq_true rfl) rfl dX13_lifts_16 (kpI rfl rfl (fun x6 hy => ?_))
    refine aw_if_ne (pc := 19) hX 28 (by decide) dX13_lifts_19 (fun hc9 => ?_) (fun hc9 => ?_)
    · have hy := hy.f hc9
      refine aw_aloadn (pc := 28) hX 0 rfl dX13_lifts_28 ?_
      refine aw_aloadn (pc := 29) hX 0 rfl dX13_lifts_29 ?_
      refine aw_iloadn (pc := 30) hX 1 rfl dX13_lifts_30 ?_
      refine aw_iloadn (pc := 31) hX 2 rfl dX13_lifts_31 ?_
      refine aw_iloadn (pc := 32) hX 3 rfl dX13_lifts_32 ?_
      refine aw_iload (pc := 33) hX 4 rfl dX13_lifts_33 ?_
      refine aw_aloadn (pc := 35) hX 0 rfl dX13_lifts_35 ?_
      refine aw_callV (pc := 36) (st := [vI v4, vI v3, vI v2, vI v1, vR v0, vR v0]) (a := v0) hX [] (con_X13_rains _ G _ v0 hy.bd) mc_X13_rains ml_X13_367 im_X13_rains se_X13_rains (by decide) hy.bd.kd rfl (rm_of hr (by decide)) (Nat.le_of_ble_eq_true rfl) rfl dX13_lifts_36 (kpI rfl rfl (fun x7 hy => ?_))
      refine aw_callV (pc := 39) (st := [vR v0]) (a := v0) hX [vI v1, vI v2, vI v3, vI v4, vI x7] (con_X13_liftsTo _ G _ v0 v1 v2 v3 v4 x7 hy.bd) mc_X13_liftsTo ml_X13_360 im_X13_liftsTo se_X13_liftsTo (by decide) hy.bd.kd rfl (rm_of hr (by decide)) (Nat.le_of_ble_eq_true rfl) rfl dX13_lifts_39 (kpI rfl rfl (fun x8 hy => ?_))
      refine aw_if_eq (pc := 42) hX 49 (by decide) dX13_lifts_42 (fun hc9 => ?_) (fun hc9 => ?_)
      · have hy := hy.t hc9
        refine aw_iconst (pc := 49) hX 0 (by decide) dX13_lifts_49 ?_
        refine AW.sub [] rfl ?_
        exact w_X13_lifts_50 hX hN hr h1 v0 0 hy
      · have hy := hy.f hc9
        refine aw_iconst (pc := 45) hX 1 (by decide) dX13_lifts_45 ?_
        refine aw_goto (pc := 46) hX 50 (by decide) dX13_lifts_46 ?_
        refine AW.sub [] rfl ?_
        exact w_X13_lifts_50 hX hN hr h1 v0 1 hy
    · have hy := hy.t hc9
      refine AW.sub [0] rfl ?_
      exact w_X13_lifts_22 hX hN hr h1 v0 hy
theorem con_X13_lifts (l : Launch) (G : GE) (h : Mem) (v0 : Nat) (v1 : Int32) (v2 : Int32) (v3 : Int32) (v4 : Int32) {P : (Int32 × Mem) → Prop} (hy : OK (f_X13_lifts h v0 v1 v2 v3 v4) P) : Con l G yX13_lifts cX13_lifts 5 (some .int) rm_X13_lifts [vR v0, vI v1, vI v2, vI v3, vI v4] h (pmI P) := Con.of (by decide) (Nat.le_of_ble_eq_true rfl) (fun X hX hr hN => w_X13_lifts hX hN hr h v0 v1 v2 v3 v4 hy)
/-! X13_passes -/
theorem dX13_passes_0 : decode cX13_passes 0 = .ok (.aload_n 0, 1) := by decide +kernel
theorem dX13_passes_1 : decode cX13_passes 1 = .ok (.iconst 0, 1) := by decide +kernel
theorem dX13_passes_2 : decode cX13_passes 2 = .ok (.putfield 51, 3) := by decide +kernel
theorem dX13_passes_5 : decode cX13_passes 5 = .ok (.aload_n 0, 1) := by decide +kernel
theorem dX13_passes_6 : decode cX13_passes 6 = .ok (.iload_n 1, 1) := by decide +kernel
theorem dX13_passes_7 : decode cX13_passes 7 = .ok (.invokevirtual 373, 3) := by decide +kernel
theorem dX13_passes_10 : decode cX13_passes 10 = .ok (.ifCond .eq 12, 3) := by decide +kernel
theorem dX13_passes_13 : decode cX13_passes 13 = .ok (.aload_n 0, 1) := by decide +kernel
theorem dX13_passes_14 : decode cX13_passes 14 = .ok (.iload_n 2, 1) := by decide +kernel
theorem dX13_passes_15 : decode cX13_passes 15 = .ok (.iload_n 3, 1) := by decide +kernel
theorem dX13_passes_16 : decode cX13_passes 16 = .ok (.invokevirtual 376, 3) := by decide +kernel
theorem dX13_passes_19 : decode cX13_passes 19 = .ok (.ifCond .ne 9, 3) := by decide +kernel
theorem dX13_passes_22 : decode cX13_passes 22 = .ok (.aload_n 0, 1) := by decide +kernel
theorem dX13_passes_23 : decode cX13_passes 23 = .ok (.iconst 1, 1) := by decide +kernel
theorem dX13_passes_24 : decode cX13_passes 24 = .ok (.invokevirtual 57, 3) := by decide +kernel
theorem dX13_passes_27 : decode cX13_passes 27 = .ok (.ireturn, 1) := by decide +kernel
theorem dX13_passes_28 : decode cX13_passes 28 = .ok (.aload_n 0, 1) := by decide +kernel
theorem dX13_passes_29 : decode cX13_passes 29 = .ok (.aload_n 0, 1) := by decide +kernel
theorem dX13_passes_30 : decode cX13_passes 30 = .ok (.aload_n 0, 1) := by decide +kernel
theorem dX13_passes_31 : decode cX13_passes 31 = .ok (.getfield 17, 3) := by decide +kernel
theorem dX13_passes_34 : decode cX13_passes 34 = .ok (.bipush 8, 2) := by decide +kernel
theorem dX13_passes_36 : decode cX13_passes 36 = .ok (.iload_n 1, 1) := by decide +kernel
theorem dX13_passes_37 : decode cX13_passes 37 = .ok (.iadd, 1) := by decide +kernel
theorem dX13_passes_38 : decode cX13_passes 38 = .ok (.iaload, 1) := by decide +kernel
theorem dX13_passes_39 : decode cX13_passes 39 = .ok (.aload_n 0, 1) := by decide +kernel
theorem dX13_passes_40 : decode cX13_passes 40 = .ok (.getfield 17, 3) := by decide +kernel
theorem dX13_passes_43 : decode cX13_passes 43 = .ok (.bipush 12, 2) := by decide +kernel
theorem dX13_passes_45 : decode cX13_passes 45 = .ok (.iload_n 1, 1) := by decide +kernel
theorem dX13_passes_46 : decode cX13_passes 46 = .ok (.iadd, 1) := by decide +kernel
theorem dX13_passes_47 : decode cX13_passes 47 = .ok (.iaload, 1) := by decide +kernel
theorem dX13_passes_48 : decode cX13_passes 48 = .ok (.iload_n 2, 1) := by decide +kernel
theorem dX13_passes_49 : decode cX13_passes 49 = .ok (.iload_n 3, 1) := by decide +kernel
theorem dX13_passes_50 : decode cX13_passes 50 = .ok (.aload_n 0, 1) := by decide +kernel
theorem dX13_passes_51 : decode cX13_passes 51 = .ok (.invokevirtual 367, 3) := by decide +kernel
theorem dX13_passes_54 : decode cX13_passes 54 = .ok (.invokevirtual 379, 3) := by decide +kernel
theorem dX13_passes_57 : decode cX13_passes 57 = .ok (.ifCond .eq 7, 3) := by decide +kernel
theorem dX13_passes_60 : decode cX13_passes 60 = .ok (.iconst 1, 1) := by decide +kernel
theorem dX13_passes_61 : decode cX13_passes 61 = .ok (.goto 4, 3) := by decide +kernel
theorem dX13_passes_64 : decode cX13_passes 64 = .ok (.iconst 0, 1) := by decide +kernel
theorem dX13_passes_65 : decode cX13_passes 65 = .ok (.invokevirtual 61, 3) := by decide +kernel
theorem dX13_passes_68 : decode cX13_passes 68 = .ok (.ireturn, 1) := by decide +kernel
abbrev rm_X13_passes : Room := { frames := 4, cells := 0, slots := 0, locals := 102 }
def f_X13_passes_22 (h : Mem) (v0 : Nat) : Option (Int32 × Mem) :=
  (f_X13_refused h v0 1).bind fun q5 => some (q5.1, q5.2)
set_option maxRecDepth 100000 in
set_option maxHeartbeats 4000000 in
theorem w_X13_passes_22 {G : GE} {X : CX} {l : Launch} (hX : Ok G X cX13_passes RX13) (hN : xn X = 4) {P : (Int32 × Mem) → Prop} (hr : Rt G X l yX13_passes (some .int) rm_X13_passes (pmI P)) (h : Mem) (v0 : Nat) (hy : OK (f_X13_passes_22 h v0) P) : AW G X 22 [(0, vR v0)] [] h 0 0 := by
  unfold f_X13_passes_22 at hy
  refine aw_aloadn (pc := 22) hX 0 rfl dX13_passes_22 ?_
  refine aw_iconst (pc := 23) hX 1 (by decide) dX13_passes_23 ?_
  refine aw_callV (pc := 24) (st := []) (a := v0) hX [vI 1] (con_X13_refused _ G _ v0 1 hy.bd) mc_X13_refused ml_X13_57 im_X13_refused se_X13_refused (by decide) hy.bd.kd rfl (rm_of hr (by decide)) (Nat.le_of_ble_eq_true rfl) rfl dX13_passes_24 (kmI rfl rfl (fun q5 hy => ?_))
  exact aw_iret (pc := 27) hX hr (by decide) (by decide) dX13_passes_27 ⟨_, rfl, hy.s⟩
def f_X13_passes_65 (h : Mem) (s0 : Nat) (s1 : Int32) : Option (Int32 × Mem) :=
  (f_X13_good h s0 s1).bind fun q15 => some (q15.1, q15.2)
set_option maxRecDepth 100000 in
set_option maxHeartbeats 4000000 in
theorem w_X13_passes_65 {G : GE} {X : CX} {l : Launch} (hX : Ok G X cX13_passes RX13) (hN : xn X = 4) {P : (Int32 × Mem) → Prop} (hr : Rt G X l yX13_passes (some .int) rm_X13_passes (pmI P)) (h : Mem) (s0 : Nat) (s1 : Int32) (hy : OK (f_X13_passes_65 h s0 s1) P) : AW G X 65 [] [vI s1, vR s0] h 0 0 := by
  unfold f_X13_passes_65 at hy
  refine aw_callV (pc := 65) (st := []) (a := s0) hX [vI s1] (con_X13_good _ G _ s0 s1 hy.bd) mc_X13_good ml_X13_61 im_X13_good se_X13_good (by decide) hy.bd.kd rfl (rm_of hr (by decide)) (Nat.le_of_ble_eq_true rfl) rfl dX13_passes_65 (kmI rfl rfl (fun q15 hy => ?_))
  exact aw_iret (pc := 68) hX hr (by decide) (by decide) dX13_passes_68 ⟨_, rfl, hy.s⟩
def f_X13_passes (h : Mem) (v0 : Nat) (v1 : Int32) (v2 : Int32) (v3 : Int32) : Option (Int32 × Mem) :=
  (ck h v0 11).bind fun _ => (pI h v0 0 11 0).bind fun h1 => (f_X13_isPerson h1 v0 v1).bind fun x2 => (if x2 = 0 then f_X13_passes_22 h1 v0 else (f_X13_isRoad h1 v0 v2 v3).bind fun x6 => (if x6 = 0 then f_X13_passes_22 h1 v0 else (gR h1 v0 16 11).bind fun r7 => (aI h1 r7 (8 + v1)).bind fun x8 => (gR h1 v0 16 11).bind fun r9 => (aI h1 r9 (12 + v1)).bind fun x10 => (f_X13_rains h1 v0).bind fun x11 => (f_X13_passesBy h1 v0 x8 x10 v2 v3 x11).bind fun x12 => (if x12 = 0 then f_X13_passes_65 h1 v0 0 else f_X13_passes_65 h1 v0 1)))
set_option maxRecDepth 100000 in
set_option maxHeartbeats 4000000 in
theorem w_X13_passes {G : GE} {X : CX} {l : Launch} (hX : Ok G X cX13_passes RX13) (hN : xn X = 4) {P : (Int32 × Mem) → Prop} (hr : Rt G X l yX13_passes (some .int) rm_X13_passes (pmI P)) (h : Mem) (v0 : Nat) (v1 : Int32) (v2 : Int32) (v3 : Int32) (hy : OK (f_X13_passes h v0 v1 v2 v3) P) : AW G X 0 [(0, vR v0), (1, vI v1), (2, vI v2), (3, vI v3)] [] h 0 0 := by
  unfold f_X13_passes at hy
  have hkd := hy.kd
  have hy := hy.kb
  refine aw_aloadn (pc := 0) hX 0 rfl dX13_passes_0 ?_
  refine aw_iconst (pc := 1) hX 0 (by decide) dX13_passes_1 ?_
  refine aw_pI (pc := 2) hX hy fl_X13_51 rfl (Or.inl rfl) dX13_passes_2 (fun h1 hy => ?_)
  refine aw_aloadn (pc := 5) hX 0 rfl dX13_passes_5 ?_
  refine aw_iloadn (pc := 6) hX 1 rfl dX13_passes_6 ?_
  refine aw_callV (pc := 7) (st := []) (a := v0) hX [vI v1] (con_X13_isPerson _ G _ v0 v1 hy.bd) mc_X13_isPerson ml_X13_373 im_X13_isPerson se_X13_isPerson (by decide) hy.bd.kd rfl (rm_of hr (by decide)) (Nat.le_of_ble_eq_true rfl) rfl dX13_passes_7 (kpI rfl rfl (fun x2 hy => ?_))
  refine aw_if_eq (pc := 10) hX 22 (by decide) dX13_passes_10 (fun hc9 => ?_) (fun hc9 => ?_)
  · have hy := hy.t hc9
    refine AW.sub [0] rfl ?_
    exact w_X13_passes_22 hX hN hr h1 v0 hy
  · have hy := hy.f hc9
    refine aw_aloadn (pc := 13) hX 0 rfl dX13_passes_13 ?_
    refine aw_iloadn (pc := 14) hX 2 rfl dX13_passes_14 ?_
    refine aw_iloadn (pc := 15) hX 3 rfl dX13_passes_15 ?_
    refine aw_callV (pc := 16) (st := []) (a := v0) hX [vI v2, vI v3] (con_X13_isRoad _ G _ v0 v2 v3 hy.bd) mc_X13_isRoad ml_X13_376 im_X13_isRoad se_X13_isRoad (by decide) hy.bd.kd rfl (rm_of hr (by decide)) (Nat.le_of_ble_eq_true rfl) rfl dX13_passes_16 (kpI rfl rfl (fun x6 hy => ?_))
    refine aw_if_ne (pc := 19) hX 28 (by decide) dX13_passes_19 (fun hc9 => ?_) (fun hc9 => ?_)
    · have hy := hy.f hc9
      refine aw_aloadn (pc := 28) hX 0 rfl dX13_passes_28 ?_
      refine aw_aloadn (pc := 29) hX 0 rfl dX13_passes_29 ?_
      refine aw_aloadn (pc := 30) hX 0 rfl dX13_passes_30 ?_
      refine aw_gR (pc := 31) hX hy fl_X13_17 (fun _ _ => rfl) dX13_passes_31 (fun r7 hy => ?_)
      refine aw_bipush (pc := 34) hX 8 (by decide) dX13_passes_34 ?_
      refine aw_iloadn (pc := 36) hX 1 rfl dX13_passes_36 ?_
      refine aw_iadd (pc := 37) hX dX13_passes_37 ?_
      refine aw_aI (pc := 38) hX hy dX13_passes_38 (fun x8 hy => ?_)
      refine aw_aloadn (pc := 39) hX 0 rfl dX13_passes_39 ?_
      refine aw_gR (pc := 40) hX hy fl_X13_17 (fun _ _ => rfl) dX13_passes_40 (fun r9 hy => ?_)
      refine aw_bipush (pc := 43) hX 12 (by decide) dX13_passes_43 ?_
      refine aw_iloadn (pc := 45) hX 1 rfl dX13_passes_45 ?_
      refine aw_iadd (pc := 46) hX dX13_passes_46 ?_
      refine aw_aI (pc := 47) hX hy dX13_passes_47 (fun x10 hy => ?_)
      refine aw_iloadn (pc := 48) hX 2 rfl dX13_passes_48 ?_
      refine aw_iloadn (pc := 49) hX 3 rfl dX13_passes_49 ?_
      refine aw_aloadn (pc := 50) hX 0 rfl dX13_passes_50 ?_
      refine aw_callV (pc := 51) (st := [vI v3, vI v2, vI x10, vI x8, vR v0, vR v0]) (a := v0) hX [] (con_X13_rains _ G _ v0 hy.bd) mc_X13_rains ml_X13_367 im_X13_rains se_X13_rains (by decide) hy.bd.kd rfl (rm_of hr (by decide)) (Nat.le_of_ble_eq_true rfl) rfl dX13_passes_51 (kpI rfl rfl (fun x11 hy => ?_))
      refine aw_callV (pc := 54) (st := [vR v0]) (a := v0) hX [vI x8, vI x10, vI v2, vI v3, vI x11] (con_X13_passesBy _ G _ v0 x8 x10 v2 v3 x11 hy.bd) mc_X13_passesBy ml_X13_379 im_X13_passesBy se_X13_passesBy (by decide) hy.bd.kd rfl (rm_of hr (by decide)) (Nat.le_of_ble_eq_true rfl) rfl dX13_passes_54 (kpI rfl rfl (fun x12 hy => ?_))
      refine aw_if_eq (pc := 57) hX 64 (by decide) dX13_passes_57 (fun hc9 => ?_) (fun hc9 => ?_)
      · have hy := hy.t hc9
        refine aw_iconst (pc := 64) hX 0 (by decide) dX13_passes_64 ?_
        refine AW.sub [] rfl ?_
        exact w_X13_passes_65 hX hN hr h1 v0 0 hy
      · have hy := hy.f hc9
        refine aw_iconst (pc := 60) hX 1 (by decide) dX13_passes_60 ?_
        refine aw_goto (pc := 61) hX 65 (by decide) dX13_passes_61 ?_
        refine AW.sub [] rfl ?_
        exact w_X13_passes_65 hX hN hr h1 v0 1 hy
    · have hy := hy.t hc9
      refine AW.sub [0] rfl ?_
      exact w_X13_passes_22 hX hN hr h1 v0 hy
theorem con_X13_passes (l : Launch) (G : GE) (h : Mem) (v0 : Nat) (v1 : Int32) (v2 : Int32) (v3 : Int32) {P : (Int32 × Mem) → Prop} (hy : OK (f_X13_passes h v0 v1 v2 v3) P) : Con l G yX13_passes cX13_passes 4 (some .int) rm_X13_passes [vR v0, vI v1, vI v2, vI v3] h (pmI P) := Con.of (by decide) (Nat.le_of_ble_eq_true rfl) (fun X hX hr hN => w_X13_passes hX hN hr h v0 v1 v2 v3 hy)
/-! X13_opens -/
theorem dX13_opens_0 : decode cX13_opens 0 = .ok (.aload_n 0, 1) := by decide +kernel
theorem dX13_opens_1 : decode cX13_opens 1 = .ok (.iconst 0, 1) := by decide +kernel
theorem dX13_opens_2 : decode cX13_opens 2 = .ok (.putfield 51, 3) := by decide +kernel
theorem dX13_opens_5 : decode cX13_opens 5 = .ok (.aload_n 0, 1) := by decide +kernel
theorem dX13_opens_6 : decode cX13_opens 6 = .ok (.iload_n 1, 1) := by decide +kernel
theorem dX13_opens_7 : decode cX13_opens 7 = .ok (.invokevirtual 364, 3) := by decide +kernel
theorem dX13_opens_10 : decode cX13_opens 10 = .ok (.ifCond .ne 9, 3) := by decide +kernel
theorem dX13_opens_13 : decode cX13_opens 13 = .ok (.aload_n 0, 1) := by decide +kernel
theorem dX13_opens_14 : decode cX13_opens 14 = .ok (.iconst 1, 1) := by decide +kernel
theorem dX13_opens_15 : decode cX13_opens 15 = .ok (.invokevirtual 57, 3) := by decide +kernel
theorem dX13_opens_18 : decode cX13_opens 18 = .ok (.ireturn, 1) := by decide +kernel
theorem dX13_opens_19 : decode cX13_opens 19 = .ok (.iconst 0, 1) := by decide +kernel
theorem dX13_opens_20 : decode cX13_opens 20 = .ok (.istore_n 2, 1) := by decide +kernel
theorem dX13_opens_21 : decode cX13_opens 21 = .ok (.iconst 0, 1) := by decide +kernel
theorem dX13_opens_22 : decode cX13_opens 22 = .ok (.istore_n 3, 1) := by decide +kernel
theorem dX13_opens_23 : decode cX13_opens 23 = .ok (.iload_n 3, 1) := by decide +kernel
theorem dX13_opens_24 : decode cX13_opens 24 = .ok (.aload_n 0, 1) := by decide +kernel
theorem dX13_opens_25 : decode cX13_opens 25 = .ok (.getfield 338, 3) := by decide +kernel
theorem dX13_opens_28 : decode cX13_opens 28 = .ok (.getfield 197, 3) := by decide +kernel
theorem dX13_opens_31 : decode cX13_opens 31 = .ok (.if_icmp .ge 66, 3) := by decide +kernel
theorem dX13_opens_34 : decode cX13_opens 34 = .ok (.iconst 0, 1) := by decide +kernel
theorem dX13_opens_35 : decode cX13_opens 35 = .ok (.istore 4, 2) := by decide +kernel
theorem dX13_opens_37 : decode cX13_opens 37 = .ok (.iload 4, 2) := by decide +kernel
theorem dX13_opens_39 : decode cX13_opens 39 = .ok (.iload_n 3, 1) := by decide +kernel
theorem dX13_opens_40 : decode cX13_opens 40 = .ok (.if_icmp .ge 51, 3) := by decide +kernel
theorem dX13_opens_43 : decode cX13_opens 43 = .ok (.iload_n 2, 1) := by decide +kernel
theorem dX13_opens_44 : decode cX13_opens 44 = .ok (.iload_n 3, 1) := by decide +kernel
theorem dX13_opens_45 : decode cX13_opens 45 = .ok (.iload 4, 2) := by decide +kernel
theorem dX13_opens_47 : decode cX13_opens 47 = .ok (.aload_n 0, 1) := by decide +kernel
theorem dX13_opens_48 : decode cX13_opens 48 = .ok (.getfield 338, 3) := by decide +kernel
theorem dX13_opens_51 : decode cX13_opens 51 = .ok (.getfield 272, 3) := by decide +kernel
theorem dX13_opens_54 : decode cX13_opens 54 = .ok (.invokestatic 352, 3) := by decide +kernel
theorem dX13_opens_57 : decode cX13_opens 57 = .ok (.bipush (-2), 2) := by decide +kernel
theorem dX13_opens_59 : decode cX13_opens 59 = .ok (.if_icmp .eq 23, 3) := by decide +kernel
theorem dX13_opens_62 : decode cX13_opens 62 = .ok (.aload_n 0, 1) := by decide +kernel
theorem dX13_opens_63 : decode cX13_opens 63 = .ok (.iload_n 3, 1) := by decide +kernel
theorem dX13_opens_64 : decode cX13_opens 64 = .ok (.iload 4, 2) := by decide +kernel
theorem dX13_opens_66 : decode cX13_opens 66 = .ok (.iload_n 1, 1) := by decide +kernel
theorem dX13_opens_67 : decode cX13_opens 67 = .ok (.iconst 0, 1) := by decide +kernel
theorem dX13_opens_68 : decode cX13_opens 68 = .ok (.aload_n 0, 1) := by decide +kernel
theorem dX13_opens_69 : decode cX13_opens 69 = .ok (.invokevirtual 367, 3) := by decide +kernel
theorem dX13_opens_72 : decode cX13_opens 72 = .ok (.invokevirtual 360, 3) := by decide +kernel
theorem dX13_opens_75 : decode cX13_opens 75 = .ok (.ifCond .eq 7, 3) := by decide +kernel
theorem dX13_opens_78 : decode cX13_opens 78 = .ok (.iconst 1, 1) := by decide +kernel
theorem dX13_opens_79 : decode cX13_opens 79 = .ok (.goto 4, 3) := by decide +kernel
theorem dX13_opens_82 : decode cX13_opens 82 = .ok (.iconst 0, 1) := by decide +kernel
theorem dX13_opens_83 : decode cX13_opens 83 = .ok (.iadd, 1) := by decide +kernel
theorem dX13_opens_84 : decode cX13_opens 84 = .ok (.istore_n 2, 1) := by decide +kernel
theorem dX13_opens_85 : decode cX13_opens 85 = .ok (.iinc 4 1, 3) := by decide +kernel
theorem dX13_opens_88 : decode cX13_opens 88 = .ok (.goto (-51), 3) := by decide +kernel
theorem dX13_opens_91 : decode cX13_opens 91 = .ok (.iinc 3 1, 3) := by decide +kernel
theorem dX13_opens_94 : decode cX13_opens 94 = .ok (.goto (-71), 3) := by decide +kernel
theorem dX13_opens_97 : decode cX13_opens 97 = .ok (.aload_n 0, 1) := by decide +kernel
theorem dX13_opens_98 : decode cX13_opens 98 = .ok (.iload_n 2, 1) := by decide +kernel
theorem dX13_opens_99 : decode cX13_opens 99 = .ok (.invokevirtual 61, 3) := by decide +kernel
theorem dX13_opens_102 : decode cX13_opens 102 = .ok (.ireturn, 1) := by decide +kernel
abbrev rm_X13_opens : Room := { frames := 3, cells := 0, slots := 0, locals := 76 }
def f_X13_opens_83 (h : Mem) (v0 : Nat) (v1 : Int32) (v3 : Int32) (v4 : Int32) (s0 : Int32) (s1 : Int32) : Option ((Int32 × Int32) ⊕ Int32) :=
  some (.inl ((s0 + s1), (v4 + 1)))
set_option maxRecDepth 100000 in
set_option maxHeartbeats 4000000 in
theorem w_X13_opens_83 {G : GE} {X : CX} {l : Launch} (hX : Ok G X cX13_opens RX13) (hN : xn X = 5) {P0 : (Int32 × Mem) → Prop} (hr : Rt G X l yX13_opens (some .int) rm_X13_opens (pmI P0)) (h : Mem)  (v0 : Nat) (v1 : Int32) (v3 : Int32) {P : ((Int32 × Int32) ⊕ Int32) → Prop} (hc : ∀ s, P (.inl s) → AW G X 37 [(0, vR v0), (1, vI v1), (2, vI s.1), (3, vI v3), (4, vI s.2)] [] h 0 0) (he0 : ∀ e, P (.inr e) → AW G X 91 [(0, vR v0), (1, vI v1), (2, vI e), (3, vI v3)] [] h 0 0) (v4 : Int32) (s0 : Int32) (s1 : Int32) (hy : OK (f_X13_opens_83 h v0 v1 v3 v4 s0 s1) P) : AW G X 83 [(0, vR v0), (1, vI v1), (3, vI v3), (4, vI v4)] [vI s1, vI s0] h 0 0 := by
  unfold f_X13_opens_83 at hy
  refine aw_iadd (pc := 83) hX dX13_opens_83 ?_
  refine aw_istoren (pc := 84) hX [(2, vI (s0 + s1)), (0, vR v0), (1, vI v1), (3, vI v3), (4, vI v4)] rfl (lt_n hN (by decide)) dX13_opens_84 ?_
  refine aw_iinc (pc := 85) hX 1 (by decide) 4 rfl [(4, vI (v4 + 1)), (2, vI (s0 + s1)), (0, vR v0), (1, vI v1), (3, vI v3)] rfl (lt_n hN (by decide)) dX13_opens_85 ?_
  refine aw_goto (pc := 88) hX 37 (by decide) dX13_opens_88 ?_
  refine AW.sub [2, 3, 1, 4, 0] rfl ?_
  exact hc ((s0 + s1), (v4 + 1)) hy.s
def f_X13_opens_82 (h : Mem) (v0 : Nat) (v1 : Int32) (v3 : Int32) (v4 : Int32) (s0 : Int32) : Option ((Int32 × Int32) ⊕ Int32) :=
  f_X13_opens_83 h v0 v1 v3 v4 s0 0
set_option maxRecDepth 100000 in
set_option maxHeartbeats 4000000 in
theorem w_X13_opens_82 {G : GE} {X : CX} {l : Launch} (hX : Ok G X cX13_opens RX13) (hN : xn X = 5) {P0 : (Int32 × Mem) → Prop} (hr : Rt G X l yX13_opens (some .int) rm_X13_opens (pmI P0)) (h : Mem)  (v0 : Nat) (v1 : Int32) (v3 : Int32) {P : ((Int32 × Int32) ⊕ Int32) → Prop} (hc : ∀ s, P (.inl s) → AW G X 37 [(0, vR v0), (1, vI v1), (2, vI s.1), (3, vI v3), (4, vI s.2)] [] h 0 0) (he0 : ∀ e, P (.inr e) → AW G X 91 [(0, vR v0), (1, vI v1), (2, vI e), (3, vI v3)] [] h 0 0) (v4 : Int32) (s0 : Int32) (hy : OK (f_X13_opens_82 h v0 v1 v3 v4 s0) P) : AW G X 82 [(0, vR v0), (1, vI v1), (3, vI v3), (4, vI v4)] [vI s0] h 0 0 := by
  unfold f_X13_opens_82 at hy
  refine aw_iconst (pc := 82) hX 0 (by decide) dX13_opens_82 ?_
  exact w_X13_opens_83 hX hN hr _ _ _ _ hc he0 v4 s0 0 hy
def b_X13_opens_37 (h : Mem) (v0 : Nat) (v1 : Int32) (v3 : Int32) (v2 : Int32) (v4 : Int32) : Option ((Int32 × Int32) ⊕ Int32) :=
  (if v3 ≤ v4 then some (.inr v2) else (gR h v0 3 11).bind fun r5 => (gR h r5 13 10).bind fun r6 => (f_X13_of h v3 v4 r6).bind fun x7 => (if x7 = (-2) then f_X13_opens_82 h v0 v1 v3 v4 v2 else (f_X13_rains h v0).bind fun x8 => (f_X13_liftsTo h v0 v3 v4 v1 0 x8).bind fun x9 => (if x9 = 0 then f_X13_opens_82 h v0 v1 v3 v4 v2 else f_X13_opens_83 h v0 v1 v3 v4 v2 1)))
set_option maxRecDepth 100000 in
set_option maxHeartbeats 4000000 in
theorem wb_X13_opens_37 {G : GE} {X : CX} {l : Launch} (hX : Ok G X cX13_opens RX13) (hN : xn X = 5) {P0 : (Int32 × Mem) → Prop} (hr : Rt G X l yX13_opens (some .int) rm_X13_opens (pmI P0)) (h : Mem)  (v0 : Nat) (v1 : Int32) (v3 : Int32) {P : ((Int32 × Int32) ⊕ Int32) → Prop} (hc : ∀ s, P (.inl s) → AW G X 37 [(0, vR v0), (1, vI v1), (2, vI s.1), (3, vI v3), (4, vI s.2)] [] h 0 0) (he0 : ∀ e, P (.inr e) → AW G X 91 [(0, vR v0), (1, vI v1), (2, vI e), (3, vI v3)] [] h 0 0) (v2 : Int32) (v4 : Int32) (hy : OK (b_X13_opens_37 h v0 v1 v3 v2 v4) P) : AW G X 37 [(0, vR v0), (1, vI v1), (2, vI v2), (3, vI v3), (4, vI v4)] [] h 0 0 := by
  unfold b_X13_opens_37 at hy
  refine aw_iload (pc := 37) hX 4 rfl dX13_opens_37 ?_
  refine aw_iloadn (pc := 39) hX 3 rfl dX13_opens_39 ?_
  refine aw_ic_ge (pc := 40) hX 91 (by decide) dX13_opens_40 (fun hc9 => ?_) (fun hc9 => ?_)
  · have hy := hy.t hc9
    refine AW.sub [0, 1, 2, 3] rfl ?_
    exact he0 v2 hy.s
  · have hy := hy.f hc9
    refine aw_iloadn (pc := 43) hX 2 rfl dX13_opens_43 ?_
    refine aw_iloadn (pc := 44) hX 3 rfl dX13_opens_44 ?_
    refine aw_iload (pc := 45) hX 4 rfl dX13_opens_45 ?_
    refine aw_aloadn (pc := 47) hX 0 rfl dX13_opens_47 ?_
    refine aw_gR (pc := 48) hX hy fl_X13_338 (fun _ _ => rfl) dX13_opens_48 (fun r5 hy => ?_)
    refine aw_gR (pc := 51) hX hy fl_X13_272 (fun _ _ => rfl) dX13_opens_51 (fun r6 hy => ?_)
    refine aw_callS (pc := 54) (st := [vI v2]) hX [vI v3, vI v4, vR r6] (con_X13_of _ G _ v3 v4 r6 hy.bd) mc_X13_of ml_X13_352 st_X13_of rfl (rm_of hr (by decide)) (Nat.le_of_ble_eq_true rfl) rfl dX13_opens_54 (kpI rfl rfl (fun x7 hy => ?_))
    refine aw_bipush (pc := 57) hX (-2) (by decide) dX13_opens_57 ?_
    refine aw_ic_eq (pc := 59) hX 82 (by decide) dX13_opens_59 (fun hc9 => ?_) (fun hc9 => ?_)
    · have hy := hy.t hc9
      refine AW.sub [0, 1, 3, 4] rfl ?_
      exact w_X13_opens_82 hX hN hr _ _ _ _ hc he0 v4 v2 hy
    · have hy := hy.f hc9
      refine aw_aloadn (pc := 62) hX 0 rfl dX13_opens_62 ?_
      refine aw_iloadn (pc := 63) hX 3 rfl dX13_opens_63 ?_
      refine aw_iload (pc := 64) hX 4 rfl dX13_opens_64 ?_
      refine aw_iloadn (pc := 66) hX 1 rfl dX13_opens_66 ?_
      refine aw_iconst (pc := 67) hX 0 (by decide) dX13_opens_67 ?_
      refine aw_aloadn (pc := 68) hX 0 rfl dX13_opens_68 ?_
      refine aw_callV (pc := 69) (st := [vI 0, vI v1, vI v4, vI v3, vR v0, vI v2]) (a := v0) hX [] (con_X13_rains _ G _ v0 hy.bd) mc_X13_rains ml_X13_367 im_X13_rains se_X13_rains (by decide) hy.bd.kd rfl (rm_of hr (by decide)) (Nat.le_of_ble_eq_true rfl) rfl dX13_opens_69 (kpI rfl rfl (fun x8 hy => ?_))
      refine aw_callV (pc := 72) (st := [vI v2]) (a := v0) hX [vI v3, vI v4, vI v1, vI 0, vI x8] (con_X13_liftsTo _ G _ v0 v3 v4 v1 0 x8 hy.bd) mc_X13_liftsTo ml_X13_360 im_X13_liftsTo se_X13_liftsTo (by decide) hy.bd.kd rfl (rm_of hr (by decide)) (Nat.le_of_ble_eq_true rfl) rfl dX13_opens_72 (kpI rfl rfl (fun x9 hy => ?_))
      refine aw_if_eq (pc := 75) hX 82 (by decide) dX13_opens_75 (fun hc9 => ?_) (fun hc9 => ?_)
      · have hy := hy.t hc9
        refine AW.sub [0, 1, 3, 4] rfl ?_
        exact w_X13_opens_82 hX hN hr _ _ _ _ hc he0 v4 v2 hy
      · have hy := hy.f hc9
        refine aw_iconst (pc := 78) hX 1 (by decide) dX13_opens_78 ?_
        refine aw_goto (pc := 79) hX 83 (by decide) dX13_opens_79 ?_
        refine AW.sub [0, 1, 3, 4] rfl ?_
        exact w_X13_opens_83 hX hN hr _ _ _ _ hc he0 v4 v2 1 hy
theorem wl_X13_opens_37 {G : GE} {X : CX} {l : Launch} (hX : Ok G X cX13_opens RX13) (hN : xn X = 5) {P0 : (Int32 × Mem) → Prop} (hr : Rt G X l yX13_opens (some .int) rm_X13_opens (pmI P0)) (h : Mem) (v0 : Nat) (v1 : Int32) (v3 : Int32) {P : (Int32) → Prop} (he0 : ∀ e, P e → AW G X 91 [(0, vR v0), (1, vI v1), (2, vI e), (3, vI v3)] [] h 0 0) : ∀ (n : Nat) (s : Int32 × Int32), OK (iter (fun (s : Int32 × Int32) => b_X13_opens_37 h v0 v1 v3 s.1 s.2) n s) P → AW G X 37 [(0, vR v0), (1, vI v1), (2, vI s.1), (3, vI v3), (4, vI s.2)] [] h 0 0 := by
  intro n
  induction n with
  | zero => exact fun s hy => hy.it0.elim
  | succ n ih =>
    intro s hy
    exact wb_X13_opens_37 hX hN hr h v0 v1 v3 (fun s hs => ih s hs) (fun e hs => he0 e hs) s.1 s.2 hy.it
def b_X13_opens_23 (h : Mem) (v0 : Nat) (v1 : Int32) (v2 : Int32) (v3 : Int32) : Option ((Int32 × Int32) ⊕ Int32) :=
  (gR h v0 3 11).bind fun r3 => (gI h r3 2 10).bind fun x4 => (if x4 ≤ v3 then some (.inr v2) else (iter (fun (s : Int32 × Int32) => b_X13_opens_37 h v0 v1 v3 s.1 s.2) FU (v2, 0)).bind (fun q10 => some (.inl (q10, (v3 + 1)))))
set_option maxRecDepth 100000 in
set_option maxHeartbeats 4000000 in
theorem wb_X13_opens_23 {G : GE} {X : CX} {l : Launch} (hX : Ok G X cX13_opens RX13) (hN : xn X = 5) {P0 : (Int32 × Mem) → Prop} (hr : Rt G X l yX13_opens (some .int) rm_X13_opens (pmI P0)) (h : Mem)  (v0 : Nat) (v1 : Int32) {P : ((Int32 × Int32) ⊕ Int32) → Prop} (hc : ∀ s, P (.inl s) → AW G X 23 [(0, vR v0), (1, vI v1), (2, vI s.1), (3, vI s.2)] [] h 0 0) (he0 : ∀ e, P (.inr e) → AW G X 97 [(0, vR v0), (2, vI e)] [] h 0 0) (v2 : Int32) (v3 : Int32) (hy : OK (b_X13_opens_23 h v0 v1 v2 v3) P) : AW G X 23 [(0, vR v0), (1, vI v1), (2, vI v2), (3, vI v3)] [] h 0 0 := by
  unfold b_X13_opens_23 at hy
  refine aw_iloadn (pc := 23) hX 3 rfl dX13_opens_23 ?_
  refine aw_aloadn (pc := 24) hX 0 rfl dX13_opens_24 ?_
  refine aw_gR (pc := 25) hX hy fl_X13_338 (fun _ _ => rfl) dX13_opens_25 (fun r3 hy => ?_)
  refine aw_gI (pc := 28) hX hy fl_X13_197 (fun _ _ => rfl) dX13_opens_28 (fun x4 hy => ?_)
  refine aw_ic_ge (pc := 31) hX 97 (by decide) dX13_opens_31 (fun hc9 => ?_) (fun hc9 => ?_)
  · have hy := hy.t hc9
    refine AW.sub [0, 2] rfl ?_
    exact he0 v2 hy.s
  · have hy := hy.f hc9
    refine aw_iconst (pc := 34) hX 0 (by decide) dX13_opens_34 ?_
    refine aw_istore (pc := 35) hX [(4, vI 0), (0, vR v0), (1, vI v1), (2, vI v2), (3, vI v3)] rfl (lt_n hN (by decide)) dX13_opens_35 ?_
    refine AW.sub [1, 2, 3, 4, 0] rfl ?_
    refine wl_X13_opens_37 hX hN hr _ v0 v1 v3 ?_ FU (v2, 0) hy.bd
    · intro q10 hy
      refine aw_iinc (pc := 91) hX 1 (by decide) 3 rfl [(3, vI (v3 + 1)), (0, vR v0), (1, vI v1), (2, vI q10)] rfl (lt_n hN (by decide)) dX13_opens_91 ?_
      refine aw_goto (pc := 94) hX 23 (by decide) dX13_opens_94 ?_
      refine AW.sub [1, 2, 3, 0] rfl ?_
      exact hc (q10, (v3 + 1)) hy.s
theorem wl_X13_opens_23 {G : GE} {X : CX} {l : Launch} (hX : Ok G X cX13_opens RX13) (hN : xn X = 5) {P0 : (Int32 × Mem) → Prop} (hr : Rt G X l yX13_opens (some .int) rm_X13_opens (pmI P0)) (h : Mem) (v0 : Nat) (v1 : Int32) {P : (Int32) → Prop} (he0 : ∀ e, P e → AW G X 97 [(0, vR v0), (2, vI e)] [] h 0 0) : ∀ (n : Nat) (s : Int32 × Int32), OK (iter (fun (s : Int32 × Int32) => b_X13_opens_23 h v0 v1 s.1 s.2) n s) P → AW G X 23 [(0, vR v0), (1, vI v1), (2, vI s.1), (3, vI s.2)] [] h 0 0 := by
  intro n
  induction n with
  | zero => exact fun s hy => hy.it0.elim
  | succ n ih =>
    intro s hy
    exact wb_X13_opens_23 hX hN hr h v0 v1 (fun s hs => ih s hs) (fun e hs => he0 e hs) s.1 s.2 hy.it
def f_X13_opens (h : Mem) (v0 : Nat) (v1 : Int32) : Option (Int32 × Mem) :=
  (ck h v0 11).bind fun _ => (pI h v0 0 11 0).bind fun h1 => (f_X13_isTune h1 v0 v1).bind fun x2 => (if x2 = 0 then (f_X13_refused h1 v0 1).bind fun q17 => some (q17.1, q17.2) else (iter (fun (s : Int32 × Int32) => b_X13_opens_23 h1 v0 v1 s.1 s.2) FU (0, 0)).bind (fun q11 => (f_X13_good h1 v0 q11).bind fun q14 => some (q14.1, q14.2)))
set_option maxRecDepth 100000 in
set_option maxHeartbeats 4000000 in
theorem w_X13_opens {G : GE} {X : CX} {l : Launch} (hX : Ok G X cX13_opens RX13) (hN : xn X = 5) {P : (Int32 × Mem) → Prop} (hr : Rt G X l yX13_opens (some .int) rm_X13_opens (pmI P)) (h : Mem) (v0 : Nat) (v1 : Int32) (hy : OK (f_X13_opens h v0 v1) P) : AW G X 0 [(0, vR v0), (1, vI v1)] [] h 0 0 := by
  unfold f_X13_opens at hy
  have hkd := hy.kd
  have hy := hy.kb
  refine aw_aloadn (pc := 0) hX 0 rfl dX13_opens_0 ?_
  refine aw_iconst (pc := 1) hX 0 (by decide) dX13_opens_1 ?_
  refine aw_pI (pc := 2) hX hy fl_X13_51 rfl (Or.inl rfl) dX13_opens_2 (fun h1 hy => ?_)
  refine aw_aloadn (pc := 5) hX 0 rfl dX13_opens_5 ?_
  refine aw_iloadn (pc := 6) hX 1 rfl dX13_opens_6 ?_
  refine aw_callV (pc := 7) (st := []) (a := v0) hX [vI v1] (con_X13_isTune _ G _ v0 v1 hy.bd) mc_X13_isTune ml_X13_364 im_X13_isTune se_X13_isTune (by decide) hy.bd.kd rfl (rm_of hr (by decide)) (Nat.le_of_ble_eq_true rfl) rfl dX13_opens_7 (kpI rfl rfl (fun x2 hy => ?_))
  refine aw_if_ne (pc := 10) hX 19 (by decide) dX13_opens_10 (fun hc9 => ?_) (fun hc9 => ?_)
  · have hy := hy.f hc9
    refine aw_iconst (pc := 19) hX 0 (by decide) dX13_opens_19 ?_
    refine aw_istoren (pc := 20) hX [(2, vI 0), (0, vR v0), (1, vI v1)] rfl (lt_n hN (by decide)) dX13_opens_20 ?_
    refine aw_iconst (pc := 21) hX 0 (by decide) dX13_opens_21 ?_
    refine aw_istoren (pc := 22) hX [(3, vI 0), (2, vI 0), (0, vR v0), (1, vI v1)] rfl (lt_n hN (by decide)) dX13_opens_22 ?_
    refine AW.sub [2, 3, 1, 0] rfl ?_
    refine wl_X13_opens_23 hX hN hr _ v0 v1 ?_ FU (0, 0) hy.bd
    · intro q11 hy
      refine aw_aloadn (pc := 97) hX 0 rfl dX13_opens_97 ?_
      refine aw_iloadn (pc := 98) hX 1 rfl dX13_opens_98 ?_
      refine aw_callV (pc := 99) (st := []) (a := v0) hX [vI q11] (con_X13_good _ G _ v0 q11 hy.bd) mc_X13_good ml_X13_61 im_X13_good se_X13_good (by decide) hy.bd.kd rfl (rm_of hr (by decide)) (Nat.le_of_ble_eq_true rfl) rfl dX13_opens_99 (kmI rfl rfl (fun q14 hy => ?_))
      exact aw_iret (pc := 102) hX hr (by decide) (by decide) dX13_opens_102 ⟨_, rfl, hy.s⟩
  · have hy := hy.t hc9
    refine aw_aloadn (pc := 13) hX 0 rfl dX13_opens_13 ?_
    refine aw_iconst (pc := 14) hX 1 (by decide) dX13_opens_14 ?_
    refine aw_callV (pc := 15) (st := []) (a := v0) hX [vI 1] (con_X13_refused _ G _ v0 1 hy.bd) mc_X13_refused ml_X13_57 im_X13_refused se_X13_refused (by decide) hy.bd.kd rfl (rm_of hr (by decide)) (Nat.le_of_ble_eq_true rfl) rfl dX13_opens_15 (kmI rfl rfl (fun q17 hy => ?_))
    exact aw_iret (pc := 18) hX hr (by decide) (by decide) dX13_opens_18 ⟨_, rfl, hy.s⟩
theorem con_X13_opens (l : Launch) (G : GE) (h : Mem) (v0 : Nat) (v1 : Int32) {P : (Int32 × Mem) → Prop} (hy : OK (f_X13_opens h v0 v1) P) : Con l G yX13_opens cX13_opens 5 (some .int) rm_X13_opens [vR v0, vI v1] h (pmI P) := Con.of (by decide) (Nat.le_of_ble_eq_true rfl) (fun X hX hr hN => w_X13_opens hX hN hr h v0 v1 hy)
/-! X13_alikeIn -/
theorem dX13_alikeIn_0 : decode cX13_alikeIn 0 = .ok (.iconst 0, 1) := by decide +kernel
theorem dX13_alikeIn_1 : decode cX13_alikeIn 1 = .ok (.istore_n 3, 1) := by decide +kernel
theorem dX13_alikeIn_2 : decode cX13_alikeIn 2 = .ok (.iconst 0, 1) := by decide +kernel
theorem dX13_alikeIn_3 : decode cX13_alikeIn 3 = .ok (.istore 4, 2) := by decide +kernel
theorem dX13_alikeIn_5 : decode cX13_alikeIn 5 = .ok (.iload 4, 2) := by decide +kernel
theorem dX13_alikeIn_7 : decode cX13_alikeIn 7 = .ok (.aload_n 0, 1) := by decide +kernel
theorem dX13_alikeIn_8 : decode cX13_alikeIn 8 = .ok (.getfield 338, 3) := by decide +kernel
theorem dX13_alikeIn_11 : decode cX13_alikeIn 11 = .ok (.getfield 237, 3) := by decide +kernel
theorem dX13_alikeIn_14 : decode cX13_alikeIn 14 = .ok (.iload_n 1, 1) := by decide +kernel
theorem dX13_alikeIn_15 : decode cX13_alikeIn 15 = .ok (.iaload, 1) := by decide +kernel
theorem dX13_alikeIn_16 : decode cX13_alikeIn 16 = .ok (.if_icmp .ge 40, 3) := by decide +kernel
theorem dX13_alikeIn_19 : decode cX13_alikeIn 19 = .ok (.iload_n 3, 1) := by decide +kernel
theorem dX13_alikeIn_20 : decode cX13_alikeIn 20 = .ok (.aload_n 0, 1) := by decide +kernel
theorem dX13_alikeIn_21 : decode cX13_alikeIn 21 = .ok (.getfield 338, 3) := by decide +kernel
theorem dX13_alikeIn_24 : decode cX13_alikeIn 24 = .ok (.iload_n 1, 1) := by decide +kernel
theorem dX13_alikeIn_25 : decode cX13_alikeIn 25 = .ok (.iload 4, 2) := by decide +kernel
theorem dX13_alikeIn_27 : decode cX13_alikeIn 27 = .ok (.invokevirtual 350, 3) := by decide +kernel
theorem dX13_alikeIn_30 : decode cX13_alikeIn 30 = .ok (.aload_n 0, 1) := by decide +kernel
theorem dX13_alikeIn_31 : decode cX13_alikeIn 31 = .ok (.getfield 338, 3) := by decide +kernel
theorem dX13_alikeIn_34 : decode cX13_alikeIn 34 = .ok (.iload_n 2, 1) := by decide +kernel
theorem dX13_alikeIn_35 : decode cX13_alikeIn 35 = .ok (.iload 4, 2) := by decide +kernel
theorem dX13_alikeIn_37 : decode cX13_alikeIn 37 = .ok (.invokevirtual 350, 3) := by decide +kernel
theorem dX13_alikeIn_40 : decode cX13_alikeIn 40 = .ok (.if_icmp .ne 7, 3) := by decide +kernel
theorem dX13_alikeIn_43 : decode cX13_alikeIn 43 = .ok (.iconst 1, 1) := by decide +kernel
theorem dX13_alikeIn_44 : decode cX13_alikeIn 44 = .ok (.goto 4, 3) := by decide +kernel
theorem dX13_alikeIn_47 : decode cX13_alikeIn 47 = .ok (.iconst 0, 1) := by decide +kernel
theorem dX13_alikeIn_48 : decode cX13_alikeIn 48 = .ok (.iadd, 1) := by decide +kernel
theorem dX13_alikeIn_49 : decode cX13_alikeIn 49 = .ok (.istore_n 3, 1) := by decide +kernel
theorem dX13_alikeIn_50 : decode cX13_alikeIn 50 = .ok (.iinc 4 1, 3) := by decide +kernel
theorem dX13_alikeIn_53 : decode cX13_alikeIn 53 = .ok (.goto (-48), 3) := by decide +kernel
theorem dX13_alikeIn_56 : decode cX13_alikeIn 56 = .ok (.iload_n 3, 1) := by decide +kernel
theorem dX13_alikeIn_57 : decode cX13_alikeIn 57 = .ok (.ireturn, 1) := by decide +kernel
abbrev rm_X13_alikeIn : Room := { frames := 1, cells := 0, slots := 0, locals := 22 }
def f_X13_alikeIn_48 (h : Mem) (v0 : Nat) (v1 : Int32) (v2 : Int32) (v4 : Int32) (s0 : Int32) (s1 : Int32) : Option ((Int32 × Int32) ⊕ Int32) :=
  some (.inl ((s0 + s1), (v4 + 1)))
set_option maxRecDepth 100000 in
set_option maxHeartbeats 4000000 in
theorem w_X13_alikeIn_48 {G : GE} {X : CX} {l : Launch} (hX : Ok G X cX13_alikeIn RX13) (hN : xn X = 5) (h : Mem) {P0 : Int32 → Prop} (hr : Rt G X l yX13_alikeIn (some .int) rm_X13_alikeIn (ppI h P0))  (v0 : Nat) (v1 : Int32) (v2 : Int32) {P : ((Int32 × Int32) ⊕ Int32) → Prop} (hc : ∀ s, P (.inl s) → AW G X 5 [(0, vR v0), (1, vI v1), (2, vI v2), (3, vI s.1), (4, vI s.2)] [] h 0 0) (he0 : ∀ e, P (.inr e) → AW G X 56 [(3, vI e)] [] h 0 0) (v4 : Int32) (s0 : Int32) (s1 : Int32) (hy : OK (f_X13_alikeIn_48 h v0 v1 v2 v4 s0 s1) P) : AW G X 48 [(0, vR v0), (1, vI v1), (2, vI v2), (4, vI v4)] [vI s1, vI s0] h 0 0 := by
  unfold f_X13_alikeIn_48 at hy
  refine aw_iadd (pc := 48) hX dX13_alikeIn_48 ?_
  refine aw_istoren (pc := 49) hX [(3, vI (s0 + s1)), (0, vR v0), (1, vI v1), (2, vI v2), (4, vI v4)] rfl (lt_n hN (by decide)) dX13_alikeIn_49 ?_
  refine aw_iinc (pc := 50) hX 1 (by decide) 4 rfl [(4, vI (v4 + 1)), (3, vI (s0 + s1)), (0, vR v0), (1, vI v1), (2, vI v2)] rfl (lt_n hN (by decide)) dX13_alikeIn_50 ?_
  refine aw_goto (pc := 53) hX 5 (by decide) dX13_alikeIn_53 ?_
  refine AW.sub [2, 3, 4, 1, 0] rfl ?_
  exact hc ((s0 + s1), (v4 + 1)) hy.s
def b_X13_alikeIn_5 (h : Mem) (v0 : Nat) (v1 : Int32) (v2 : Int32) (v3 : Int32) (v4 : Int32) : Option ((Int32 × Int32) ⊕ Int32) :=
  (gR h v0 3 11).bind fun r1 => (gR h r1 10 10).bind fun r2 => (aI h r2 v1).bind fun x3 => (if x3 ≤ v4 then some (.inr v3) else (gR h v0 3 11).bind fun r4 => (f_X12_note h r4 v1 v4).bind fun x5 => (gR h v0 3 11).bind fun r6 => (f_X12_note h r6 v2 v4).bind fun x7 => (if x5 = x7 then f_X13_alikeIn_48 h v0 v1 v2 v4 v3 1 else f_X13_alikeIn_48 h v0 v1 v2 v4 v3 0))
set_option maxRecDepth 100000 in
set_option maxHeartbeats 4000000 in
theorem wb_X13_alikeIn_5 {G : GE} {X : CX} {l : Launch} (hX : Ok G X cX13_alikeIn RX13) (hN : xn X = 5) (h : Mem) {P0 : Int32 → Prop} (hr : Rt G X l yX13_alikeIn (some .int) rm_X13_alikeIn (ppI h P0))  (v0 : Nat) (v1 : Int32) (v2 : Int32) {P : ((Int32 × Int32) ⊕ Int32) → Prop} (hc : ∀ s, P (.inl s) → AW G X 5 [(0, vR v0), (1, vI v1), (2, vI v2), (3, vI s.1), (4, vI s.2)] [] h 0 0) (he0 : ∀ e, P (.inr e) → AW G X 56 [(3, vI e)] [] h 0 0) (v3 : Int32) (v4 : Int32) (hy : OK (b_X13_alikeIn_5 h v0 v1 v2 v3 v4) P) : AW G X 5 [(0, vR v0), (1, vI v1), (2, vI v2), (3, vI v3), (4, vI v4)] [] h 0 0 := by
  unfold b_X13_alikeIn_5 at hy
  refine aw_iload (pc := 5) hX 4 rfl dX13_alikeIn_5 ?_
  refine aw_aloadn (pc := 7) hX 0 rfl dX13_alikeIn_7 ?_
  refine aw_gR (pc := 8) hX hy fl_X13_338 (fun _ _ => rfl) dX13_alikeIn_8 (fun r1 hy => ?_)
  refine aw_gR (pc := 11) hX hy fl_X13_237 (fun _ _ => rfl) dX13_alikeIn_11 (fun r2 hy => ?_)
  refine aw_iloadn (pc := 14) hX 1 rfl dX13_alikeIn_14 ?_
  refine aw_aI (pc := 15) hX hy dX13_alikeIn_15 (fun x3 hy => ?_)
  refine aw_ic_ge (pc := 16) hX 56 (by decide) dX13_alikeIn_16 (fun hc9 => ?_) (fun hc9 => ?_)
  · have hy := hy.t hc9
    refine AW.sub [3] rfl ?_
    exact he0 v3 hy.s
  · have hy := hy.f hc9
    refine aw_iloadn (pc := 19) hX 3 rfl dX13_alikeIn_19 ?_
    refine aw_aloadn (pc := 20) hX 0 rfl dX13_alikeIn_20 ?_
    refine aw_gR (pc := 21) hX hy fl_X13_338 (fun _ _ => rfl) dX13_alikeIn_21 (fun r4 hy => ?_)
    refine aw_iloadn (pc := 24) hX 1 rfl dX13_alikeIn_24 ?_
    refine aw_iload (pc := 25) hX 4 rfl dX13_alikeIn_25 ?_
    refine aw_callV (pc := 27) (st := [vI v3]) (a := r4) hX [vI v1, vI v4] (con_X12_note _ G _ r4 v1 v4 hy.bd) mc_X12_note ml_X13_350 im_X12_note se_X12_note (by decide) hy.bd.kd rfl (rm_of hr (by decide)) (Nat.le_of_ble_eq_true rfl) rfl dX13_alikeIn_27 (kpI rfl rfl (fun x5 hy => ?_))
    refine aw_aloadn (pc := 30) hX 0 rfl dX13_alikeIn_30 ?_
    refine aw_gR (pc := 31) hX hy fl_X13_338 (fun _ _ => rfl) dX13_alikeIn_31 (fun r6 hy => ?_)
    refine aw_iloadn (pc := 34) hX 2 rfl dX13_alikeIn_34 ?_
    refine aw_iload (pc := 35) hX 4 rfl dX13_alikeIn_35 ?_
    refine aw_callV (pc := 37) (st := [vI x5, vI v3]) (a := r6) hX [vI v2, vI v4] (con_X12_note _ G _ r6 v2 v4 hy.bd) mc_X12_note ml_X13_350 im_X12_note se_X12_note (by decide) hy.bd.kd rfl (rm_of hr (by decide)) (Nat.le_of_ble_eq_true rfl) rfl dX13_alikeIn_37 (kpI rfl rfl (fun x7 hy => ?_))
    refine aw_ic_ne (pc := 40) hX 47 (by decide) dX13_alikeIn_40 (fun hc9 => ?_) (fun hc9 => ?_)
    · have hy := hy.f hc9
      refine aw_iconst (pc := 47) hX 0 (by decide) dX13_alikeIn_47 ?_
      refine AW.sub [0, 1, 2, 4] rfl ?_
      exact w_X13_alikeIn_48 hX hN _ hr _ _ _ hc he0 v4 v3 0 hy
    · have hy := hy.t hc9
      refine aw_iconst (pc := 43) hX 1 (by decide) dX13_alikeIn_43 ?_
      refine aw_goto (pc := 44) hX 48 (by decide) dX13_alikeIn_44 ?_
      refine AW.sub [0, 1, 2, 4] rfl ?_
      exact w_X13_alikeIn_48 hX hN _ hr _ _ _ hc he0 v4 v3 1 hy
theorem wl_X13_alikeIn_5 {G : GE} {X : CX} {l : Launch} (hX : Ok G X cX13_alikeIn RX13) (hN : xn X = 5) (h : Mem) {P0 : Int32 → Prop} (hr : Rt G X l yX13_alikeIn (some .int) rm_X13_alikeIn (ppI h P0)) (v0 : Nat) (v1 : Int32) (v2 : Int32) {P : (Int32) → Prop} (he0 : ∀ e, P e → AW G X 56 [(3, vI e)] [] h 0 0) : ∀ (n : Nat) (s : Int32 × Int32), OK (iter (fun (s : Int32 × Int32) => b_X13_alikeIn_5 h v0 v1 v2 s.1 s.2) n s) P → AW G X 5 [(0, vR v0), (1, vI v1), (2, vI v2), (3, vI s.1), (4, vI s.2)] [] h 0 0 := by
  intro n
  induction n with
  | zero => exact fun s hy => hy.it0.elim
  | succ n ih =>
    intro s hy
    exact wb_X13_alikeIn_5 hX hN h hr v0 v1 v2 (fun s hs => ih s hs) (fun e hs => he0 e hs) s.1 s.2 hy.it
def f_X13_alikeIn (h : Mem) (v0 : Nat) (v1 : Int32) (v2 : Int32) : Option Int32 :=
  (ck h v0 11).bind fun _ => (iter (fun (s : Int32 × Int32) => b_X13_alikeIn_5 h v0 v1 v2 s.1 s.2) FU (0, 0)).bind (fun q8 => some q8)
set_option maxRecDepth 100000 in
set_option maxHeartbeats 4000000 in
theorem w_X13_alikeIn {G : GE} {X : CX} {l : Launch} (hX : Ok G X cX13_alikeIn RX13) (hN : xn X = 5) (h : Mem) {P : Int32 → Prop} (hr : Rt G X l yX13_alikeIn (some .int) rm_X13_alikeIn (ppI h P)) (v0 : Nat) (v1 : Int32) (v2 : Int32) (hy : OK (f_X13_alikeIn h v0 v1 v2) P) : AW G X 0 [(0, vR v0), (1, vI v1), (2, vI v2)] [] h 0 0 := by
  unfold f_X13_alikeIn at hy
  have hkd := hy.kd
  have hy := hy.kb
  refine aw_iconst (pc := 0) hX 0 (by decide) dX13_alikeIn_0 ?_
  refine aw_istoren (pc := 1) hX [(3, vI 0), (0, vR v0), (1, vI v1), (2, vI v2)] rfl (lt_n hN (by decide)) dX13_alikeIn_1 ?_
  refine aw_iconst (pc := 2) hX 0 (by decide) dX13_alikeIn_2 ?_
  refine aw_istore (pc := 3) hX [(4, vI 0), (3, vI 0), (0, vR v0), (1, vI v1), (2, vI v2)] rfl (lt_n hN (by decide)) dX13_alikeIn_3 ?_
  refine AW.sub [2, 3, 4, 1, 0] rfl ?_
  refine wl_X13_alikeIn_5 hX hN _ hr v0 v1 v2 ?_ FU (0, 0) hy.bd
  · intro q8 hy
    refine aw_iloadn (pc := 56) hX 0 rfl dX13_alikeIn_56 ?_
    exact aw_iret (pc := 57) hX hr (by decide) (by decide) dX13_alikeIn_57 ⟨rfl, _, rfl, hy.s⟩
theorem con_X13_alikeIn (l : Launch) (G : GE) (h : Mem) (v0 : Nat) (v1 : Int32) (v2 : Int32) {P : Int32 → Prop} (hy : OK (f_X13_alikeIn h v0 v1 v2) P) : Con l G yX13_alikeIn cX13_alikeIn 5 (some .int) rm_X13_alikeIn [vR v0, vI v1, vI v2] h (ppI h P) := Con.of (by decide) (Nat.le_of_ble_eq_true rfl) (fun X hX hr hN => w_X13_alikeIn hX hN h hr v0 v1 v2 hy)
/-! X13_likest -/
theorem dX13_likest_0 : decode cX13_likest 0 = .ok (.aload_n 0, 1) := by decide +kernel
theorem dX13_likest_1 : decode cX13_likest 1 = .ok (.iconst 0, 1) := by decide +kernel
theorem dX13_likest_2 : decode cX13_likest 2 = .ok (.putfield 51, 3) := by decide +kernel
theorem dX13_likest_5 : decode cX13_likest 5 = .ok (.aload_n 0, 1) := by decide +kernel
theorem dX13_likest_6 : decode cX13_likest 6 = .ok (.getfield 338, 3) := by decide +kernel
theorem dX13_likest_9 : decode cX13_likest 9 = .ok (.ifnonnull 9, 3) := by decide +kernel
theorem dX13_likest_12 : decode cX13_likest 12 = .ok (.aload_n 0, 1) := by decide +kernel
theorem dX13_likest_13 : decode cX13_likest 13 = .ok (.iconst 1, 1) := by decide +kernel
theorem dX13_likest_14 : decode cX13_likest 14 = .ok (.invokevirtual 57, 3) := by decide +kernel
theorem dX13_likest_17 : decode cX13_likest 17 = .ok (.ireturn, 1) := by decide +kernel
theorem dX13_likest_18 : decode cX13_likest 18 = .ok (.bipush (-2), 2) := by decide +kernel
theorem dX13_likest_20 : decode cX13_likest 20 = .ok (.istore_n 1, 1) := by decide +kernel
theorem dX13_likest_21 : decode cX13_likest 21 = .ok (.iconst (-1), 1) := by decide +kernel
theorem dX13_likest_22 : decode cX13_likest 22 = .ok (.istore_n 2, 1) := by decide +kernel
theorem dX13_likest_23 : decode cX13_likest 23 = .ok (.iconst 0, 1) := by decide +kernel
theorem dX13_likest_24 : decode cX13_likest 24 = .ok (.istore_n 3, 1) := by decide +kernel
theorem dX13_likest_25 : decode cX13_likest 25 = .ok (.iload_n 3, 1) := by decide +kernel
theorem dX13_likest_26 : decode cX13_likest 26 = .ok (.aload_n 0, 1) := by decide +kernel
theorem dX13_likest_27 : decode cX13_likest 27 = .ok (.getfield 338, 3) := by decide +kernel
theorem dX13_likest_30 : decode cX13_likest 30 = .ok (.getfield 239, 3) := by decide +kernel
theorem dX13_likest_33 : decode cX13_likest 33 = .ok (.if_icmp .ge 84, 3) := by decide +kernel
theorem dX13_likest_36 : decode cX13_likest 36 = .ok (.iload_n 3, 1) := by decide +kernel
theorem dX13_likest_37 : decode cX13_likest 37 = .ok (.iconst 1, 1) := by decide +kernel
theorem dX13_likest_38 : decode cX13_likest 38 = .ok (.iadd, 1) := by decide +kernel
theorem dX13_likest_39 : decode cX13_likest 39 = .ok (.istore 4, 2) := by decide +kernel
theorem dX13_likest_41 : decode cX13_likest 41 = .ok (.iload 4, 2) := by decide +kernel
theorem dX13_likest_43 : decode cX13_likest 43 = .ok (.aload_n 0, 1) := by decide +kernel
theorem dX13_likest_44 : decode cX13_likest 44 = .ok (.getfield 338, 3) := by decide +kernel
theorem dX13_likest_47 : decode cX13_likest 47 = .ok (.getfield 239, 3) := by decide +kernel
theorem dX13_likest_50 : decode cX13_likest 50 = .ok (.if_icmp .ge 61, 3) := by decide +kernel
theorem dX13_likest_53 : decode cX13_likest 53 = .ok (.aload_n 0, 1) := by decide +kernel
theorem dX13_likest_54 : decode cX13_likest 54 = .ok (.getfield 338, 3) := by decide +kernel
theorem dX13_likest_57 : decode cX13_likest 57 = .ok (.getfield 237, 3) := by decide +kernel
theorem dX13_likest_60 : decode cX13_likest 60 = .ok (.iload_n 3, 1) := by decide +kernel
theorem dX13_likest_61 : decode cX13_likest 61 = .ok (.iaload, 1) := by decide +kernel
theorem dX13_likest_62 : decode cX13_likest 62 = .ok (.aload_n 0, 1) := by decide +kernel
theorem dX13_likest_63 : decode cX13_likest 63 = .ok (.getfield 338, 3) := by decide +kernel
theorem dX13_likest_66 : decode cX13_likest 66 = .ok (.getfield 237, 3) := by decide +kernel
theorem dX13_likest_69 : decode cX13_likest 69 = .ok (.iload 4, 2) := by decide +kernel
theorem dX13_likest_71 : decode cX13_likest 71 = .ok (.iaload, 1) := by decide +kernel
theorem dX13_likest_72 : decode cX13_likest 72 = .ok (.if_icmp .ne 33, 3) := by decide +kernel
theorem dX13_likest_75 : decode cX13_likest 75 = .ok (.aload_n 0, 1) := by decide +kernel
theorem dX13_likest_76 : decode cX13_likest 76 = .ok (.iload_n 3, 1) := by decide +kernel
theorem dX13_likest_77 : decode cX13_likest 77 = .ok (.iload 4, 2) := by decide +kernel
theorem dX13_likest_79 : decode cX13_likest 79 = .ok (.invokevirtual 383, 3) := by decide +kernel
theorem dX13_likest_82 : decode cX13_likest 82 = .ok (.iload_n 2, 1) := by decide +kernel
theorem dX13_likest_83 : decode cX13_likest 83 = .ok (.if_icmp .gt 6, 3) := by decide +kernel
theorem dX13_likest_86 : decode cX13_likest 86 = .ok (.goto 19, 3) := by decide +kernel
theorem dX13_likest_89 : decode cX13_likest 89 = .ok (.aload_n 0, 1) := by decide +kernel
theorem dX13_likest_90 : decode cX13_likest 90 = .ok (.iload_n 3, 1) := by decide +kernel
theorem dX13_likest_91 : decode cX13_likest 91 = .ok (.iload 4, 2) := by decide +kernel
theorem dX13_likest_93 : decode cX13_likest 93 = .ok (.invokevirtual 383, 3) := by decide +kernel
theorem dX13_likest_96 : decode cX13_likest 96 = .ok (.istore_n 2, 1) := by decide +kernel
theorem dX13_likest_97 : decode cX13_likest 97 = .ok (.bipush 10, 2) := by decide +kernel
theorem dX13_likest_99 : decode cX13_likest 99 = .ok (.iload_n 3, 1) := by decide +kernel
theorem dX13_likest_100 : decode cX13_likest 100 = .ok (.imul, 1) := by decide +kernel
theorem dX13_likest_101 : decode cX13_likest 101 = .ok (.iload 4, 2) := by decide +kernel
theorem dX13_likest_103 : decode cX13_likest 103 = .ok (.iadd, 1) := by decide +kernel
theorem dX13_likest_104 : decode cX13_likest 104 = .ok (.istore_n 1, 1) := by decide +kernel
theorem dX13_likest_105 : decode cX13_likest 105 = .ok (.iinc 4 1, 3) := by decide +kernel
theorem dX13_likest_108 : decode cX13_likest 108 = .ok (.goto (-67), 3) := by decide +kernel
theorem dX13_likest_111 : decode cX13_likest 111 = .ok (.iinc 3 1, 3) := by decide +kernel
theorem dX13_likest_114 : decode cX13_likest 114 = .ok (.goto (-89), 3) := by decide +kernel
theorem dX13_likest_117 : decode cX13_likest 117 = .ok (.aload_n 0, 1) := by decide +kernel
theorem dX13_likest_118 : decode cX13_likest 118 = .ok (.iload_n 1, 1) := by decide +kernel
theorem dX13_likest_119 : decode cX13_likest 119 = .ok (.invokevirtual 61, 3) := by decide +kernel
theorem dX13_likest_122 : decode cX13_likest 122 = .ok (.ireturn, 1) := by decide +kernel
abbrev rm_X13_likest : Room := { frames := 2, cells := 0, slots := 0, locals := 46 }
def f_X13_likest_105 (h : Mem) (v0 : Nat) (v1 : Int32) (v2 : Int32) (v3 : Int32) (v4 : Int32) : Option ((Int32 × Int32 × Int32) ⊕ ((Int32 × Int32))) :=
  some (.inl (v1, v2, (v4 + 1)))
set_option maxRecDepth 100000 in
set_option maxHeartbeats 4000000 in
theorem w_X13_likest_105 {G : GE} {X : CX} {l : Launch} (hX : Ok G X cX13_likest RX13) (hN : xn X = 5) {P0 : (Int32 × Mem) → Prop} (hr : Rt G X l yX13_likest (some .int) rm_X13_likest (pmI P0)) (h : Mem)  (v0 : Nat) (v3 : Int32) {P : ((Int32 × Int32 × Int32) ⊕ ((Int32 × Int32))) → Prop} (hc : ∀ s, P (.inl s) → AW G X 41 [(0, vR v0), (1, vI s.1), (2, vI s.2.1), (3, vI v3), (4, vI s.2.2)] [] h 0 0) (he0 : ∀ e, P (.inr e) → AW G X 111 [(0, vR v0), (1, vI e.1), (2, vI e.2), (3, vI v3)] [] h 0 0) (v1 : Int32) (v2 : Int32) (v4 : Int32) (hy : OK (f_X13_likest_105 h v0 v1 v2 v3 v4) P) : AW G X 105 [(0, vR v0), (1, vI v1), (2, vI v2), (3, vI v3), (4, vI v4)] [] h 0 0 := by
  unfold f_X13_likest_105 at hy
  refine aw_iinc (pc := 105) hX 1 (by decide) 4 rfl [(4, vI (v4 + 1)), (0, vR v0), (1, vI v1), (2, vI v2), (3, vI v3)] rfl (lt_n hN (by decide)) dX13_likest_105 ?_
  refine aw_goto (pc := 108) hX 41 (by decide) dX13_likest_108 ?_
  refine AW.sub [1, 2, 3, 4, 0] rfl ?_
  exact hc (v1, v2, (v4 + 1)) hy.s
def b_X13_likest_41 (h : Mem) (v0 : Nat) (v3 : Int32) (v1 : Int32) (v2 : Int32) (v4 : Int32) : Option ((Int32 × Int32 × Int32) ⊕ ((Int32 × Int32))) :=
  (gR h v0 3 11).bind fun r5 => (gI h r5 1 10).bind fun x6 => (if x6 ≤ v4 then some (.inr (v1, v2)) else (gR h v0 3 11).bind fun r7 => (gR h r7 10 10).bind fun r8 => (aI h r8 v3).bind fun x9 => (gR h v0 3 11).bind fun r10 => (gR h r10 10 10).bind fun r11 => (aI h r11 v4).bind fun x12 => (if x9 = x12 then (f_X13_alikeIn h v0 v3 v4).bind fun x13 => (if v2 < x13 then (f_X13_alikeIn h v0 v3 v4).bind fun x14 => f_X13_likest_105 h v0 ((10 * v3) + v4) x14 v3 v4 else f_X13_likest_105 h v0 v1 v2 v3 v4) else f_X13_likest_105 h v0 v1 v2 v3 v4))
set_option maxRecDepth 100000 in
set_option maxHeartbeats 4000000 in
theorem wb_X13_likest_41 {G : GE} {X : CX} {l : Launch} (hX : Ok G X cX13_likest RX13) (hN : xn X = 5) {P0 : (Int32 × Mem) → Prop} (hr : Rt G X l yX13_likest (some .int) rm_X13_likest (pmI P0)) (h : Mem)  (v0 : Nat) (v3 : Int32) {P : ((Int32 × Int32 × Int32) ⊕ ((Int32 × Int32))) → Prop} (hc : ∀ s, P (.inl s) → AW G X 41 [(0, vR v0), (1, vI s.1), (2, vI s.2.1), (3, vI v3), (4, vI s.2.2)] [] h 0 0) (he0 : ∀ e, P (.inr e) → AW G X 111 [(0, vR v0), (1, vI e.1), (2, vI e.2), (3, vI v3)] [] h 0 0) (v1 : Int32) (v2 : Int32) (v4 : Int32) (hy : OK (b_X13_likest_41 h v0 v3 v1 v2 v4) P) : AW G X 41 [(0, vR v0), (1, vI v1), (2, vI v2), (3, vI v3), (4, vI v4)] [] h 0 0 := by
  unfold b_X13_likest_41 at hy
  refine aw_iload (pc := 41) hX 4 rfl dX13_likest_41 ?_
  refine aw_aloadn (pc := 43) hX 0 rfl dX13_likest_43 ?_
  refine aw_gR (pc := 44) hX hy fl_X13_338 (fun _ _ => rfl) dX13_likest_44 (fun r5 hy => ?_)
  refine aw_gI (pc := 47) hX hy fl_X13_239 (fun _ _ => rfl) dX13_likest_47 (fun x6 hy => ?_)
  refine aw_ic_ge (pc := 50) hX 111 (by decide) dX13_likest_50 (fun hc9 => ?_) (fun hc9 => ?_)
  · have hy := hy.t hc9
    refine AW.sub [0, 1, 2, 3] rfl ?_
    exact he0 (v1, v2) hy.s
  · have hy := hy.f hc9
    refine aw_aloadn (pc := 53) hX 0 rfl dX13_likest_53 ?_
    refine aw_gR (pc := 54) hX hy fl_X13_338 (fun _ _ => rfl) dX13_likest_54 (fun r7 hy => ?_)
    refine aw_gR (pc := 57) hX hy fl_X13_237 (fun _ _ => rfl) dX13_likest_57 (fun r8 hy => ?_)
    refine aw_iloadn (pc := 60) hX 3 rfl dX13_likest_60 ?_
    refine aw_aI (pc := 61) hX hy dX13_likest_61 (fun x9 hy => ?_)
    refine aw_aloadn (pc := 62) hX 0 rfl dX13_likest_62 ?_
    refine aw_gR (pc := 63) hX hy fl_X13_338 (fun _ _ => rfl) dX13_likest_63 (fun r10 hy => ?_)
    refine aw_gR (pc := 66) hX hy fl_X13_237 (fun _ _ => rfl) dX13_likest_66 (fun r11 hy => ?_)
    refine aw_iload (pc := 69) hX 4 rfl dX13_likest_69 ?_
    refine aw_aI (pc := 71) hX hy dX13_likest_71 (fun x12 hy => ?_)
    refine aw_ic_ne (pc := 72) hX 105 (by decide) dX13_likest_72 (fun hc9 => ?_) (fun hc9 => ?_)
    · have hy := hy.f hc9
      exact w_X13_likest_105 hX hN hr _ _ _ hc he0 v1 v2 v4 hy
    · have hy := hy.t hc9
      refine aw_aloadn (pc := 75) hX 0 rfl dX13_likest_75 ?_
      refine aw_iloadn (pc := 76) hX 3 rfl dX13_likest_76 ?_
      refine aw_iload (pc := 77) hX 4 rfl dX13_likest_77 ?_
      refine aw_callV (pc := 79) (st := []) (a := v0) hX [vI v3, vI v4] (con_X13_alikeIn _ G _ v0 v3 v4 hy.bd) mc_X13_alikeIn ml_X13_383 im_X13_alikeIn se_X13_alikeIn (by decide) hy.bd.kd rfl (rm_of hr (by decide)) (Nat.le_of_ble_eq_true rfl) rfl dX13_likest_79 (kpI rfl rfl (fun x13 hy => ?_))
      refine aw_iloadn (pc := 82) hX 2 rfl dX13_likest_82 ?_
      refine aw_ic_gt (pc := 83) hX 89 (by decide) dX13_likest_83 (fun hc9 => ?_) (fun hc9 => ?_)
      · have hy := hy.t hc9
        refine aw_aloadn (pc := 89) hX 0 rfl dX13_likest_89 ?_
        refine aw_iloadn (pc := 90) hX 3 rfl dX13_likest_90 ?_
        refine aw_iload (pc := 91) hX 4 rfl dX13_likest_91 ?_
        refine aw_callV (pc := 93) (st := []) (a := v0) hX [vI v3, vI v4] (con_X13_alikeIn _ G _ v0 v3 v4 hy.bd) mc_X13_alikeIn ml_X13_383 im_X13_alikeIn se_X13_alikeIn (by decide) hy.bd.kd rfl (rm_of hr (by decide)) (Nat.le_of_ble_eq_true rfl) rfl dX13_likest_93 (kpI rfl rfl (fun x14 hy => ?_))
        refine aw_istoren (pc := 96) hX [(2, vI x14), (0, vR v0), (1, vI v1), (3, vI v3), (4, vI v4)] rfl (lt_n hN (by decide)) dX13_likest_96 ?_
        refine aw_bipush (pc := 97) hX 10 (by decide) dX13_likest_97 ?_
        refine aw_iloadn (pc := 99) hX 3 rfl dX13_likest_99 ?_
        refine aw_imul (pc := 100) hX dX13_likest_100 ?_
        refine aw_iload (pc := 101) hX 4 rfl dX13_likest_101 ?_
        refine aw_iadd (pc := 103) hX dX13_likest_103 ?_
        refine aw_istoren (pc := 104) hX [(1, vI ((10 * v3) + v4)), (2, vI x14), (0, vR v0), (3, vI v3), (4, vI v4)] rfl (lt_n hN (by decide)) dX13_likest_104 ?_
        refine AW.sub [2, 0, 1, 3, 4] rfl ?_
        exact w_X13_likest_105 hX hN hr _ _ _ hc he0 ((10 * v3) + v4) x14 v4 hy
      · have hy := hy.f hc9
        refine aw_goto (pc := 86) hX 105 (by decide) dX13_likest_86 ?_
        exact w_X13_likest_105 hX hN hr _ _ _ hc he0 v1 v2 v4 hy
theorem wl_X13_likest_41 {G : GE} {X : CX} {l : Launch} (hX : Ok G X cX13_likest RX13) (hN : xn X = 5) {P0 : (Int32 × Mem) → Prop} (hr : Rt G X l yX13_likest (some .int) rm_X13_likest (pmI P0)) (h : Mem) (v0 : Nat) (v3 : Int32) {P : ((Int32 × Int32)) → Prop} (he0 : ∀ e, P e → AW G X 111 [(0, vR v0), (1, vI e.1), (2, vI e.2), (3, vI v3)] [] h 0 0) : ∀ (n : Nat) (s : Int32 × Int32 × Int32), OK (iter (fun (s : Int32 × Int32 × Int32) => b_X13_likest_41 h v0 v3 s.1 s.2.1 s.2.2) n s) P → AW G X 41 [(0, vR v0), (1, vI s.1), (2, vI s.2.1), (3, vI v3), (4, vI s.2.2)] [] h 0 0 := by
  intro n
  induction n with
  | zero => exact fun s hy => hy.it0.elim
  | succ n ih =>
    intro s hy
    exact wb_X13_likest_41 hX hN hr h v0 v3 (fun s hs => ih s hs) (fun e hs => he0 e hs) s.1 s.2.1 s.2.2 hy.it
def b_X13_likest_25 (h : Mem) (v0 : Nat) (v1 : Int32) (v2 : Int32) (v3 : Int32) : Option ((Int32 × Int32 × Int32) ⊕ Int32) :=
  (gR h v0 3 11).bind fun r3 => (gI h r3 1 10).bind fun x4 => (if x4 ≤ v3 then some (.inr v1) else (iter (fun (s : Int32 × Int32 × Int32) => b_X13_likest_41 h v0 v3 s.1 s.2.1 s.2.2) FU (v1, v2, (v3 + 1))).bind (fun q15 => some (.inl (q15.1, q15.2, (v3 + 1)))))
set_option maxRecDepth 100000 in
set_option maxHeartbeats 4000000 in
theorem wb_X13_likest_25 {G : GE} {X : CX} {l : Launch} (hX : Ok G X cX13_likest RX13) (hN : xn X = 5) {P0 : (Int32 × Mem) → Prop} (hr : Rt G X l yX13_likest (some .int) rm_X13_likest (pmI P0)) (h : Mem)  (v0 : Nat) {P : ((Int32 × Int32 × Int32) ⊕ Int32) → Prop} (hc : ∀ s, P (.inl s) → AW G X 25 [(0, vR v0), (1, vI s.1), (2, vI s.2.1), (3, vI s.2.2)] [] h 0 0) (he0 : ∀ e, P (.inr e) → AW G X 117 [(0, vR v0), (1, vI e)] [] h 0 0) (v1 : Int32) (v2 : Int32) (v3 : Int32) (hy : OK (b_X13_likest_25 h v0 v1 v2 v3) P) : AW G X 25 [(0, vR v0), (1, vI v1), (2, vI v2), (3, vI v3)] [] h 0 0 := by
  unfold b_X13_likest_25 at hy
  refine aw_iloadn (pc := 25) hX 3 rfl dX13_likest_25 ?_
  refine aw_aloadn (pc := 26) hX 0 rfl dX13_likest_26 ?_
  refine aw_gR (pc := 27) hX hy fl_X13_338 (fun _ _ => rfl) dX13_likest_27 (fun r3 hy => ?_)
  refine aw_gI (pc := 30) hX hy fl_X13_239 (fun _ _ => rfl) dX13_likest_30 (fun x4 hy => ?_)
  refine aw_ic_ge (pc := 33) hX 117 (by decide) dX13_likest_33 (fun hc9 => ?_) (fun hc9 => ?_)
  · have hy := hy.t hc9
    refine AW.sub [0, 1] rfl ?_
    exact he0 v1 hy.s
  · have hy := hy.f hc9
    refine aw_iloadn (pc := 36) hX 3 rfl dX13_likest_36 ?_
    refine aw_iconst (pc := 37) hX 1 (by decide) dX13_likest_37 ?_
    refine aw_iadd (pc := 38) hX dX13_likest_38 ?_
    refine aw_istore (pc := 39) hX [(4, vI (v3 + 1)), (0, vR v0), (1, vI v1), (2, vI v2), (3, vI v3)] rfl (lt_n hN (by decide)) dX13_likest_39 ?_
    refine AW.sub [1, 2, 3, 4, 0] rfl ?_
    refine wl_X13_likest_41 hX hN hr _ v0 v3 ?_ FU (v1, v2, (v3 + 1)) hy.bd
    · intro q15 hy
      refine aw_iinc (pc := 111) hX 1 (by decide) 3 rfl [(3, vI (v3 + 1)), (0, vR v0), (1, vI q15.1), (2, vI q15.2)] rfl (lt_n hN (by decide)) dX13_likest_111 ?_
      refine aw_goto (pc := 114) hX 25 (by decide) dX13_likest_114 ?_
      refine AW.sub [1, 2, 3, 0] rfl ?_
      exact hc (q15.1, q15.2, (v3 + 1)) hy.s
theorem wl_X13_likest_25 {G : GE} {X : CX} {l : Launch} (hX : Ok G X cX13_likest RX13) (hN : xn X = 5) {P0 : (Int32 × Mem) → Prop} (hr : Rt G X l yX13_likest (some .int) rm_X13_likest (pmI P0)) (h : Mem) (v0 : Nat) {P : (Int32) → Prop} (he0 : ∀ e, P e → AW G X 117 [(0, vR v0), (1, vI e)] [] h 0 0) : ∀ (n : Nat) (s : Int32 × Int32 × Int32), OK (iter (fun (s : Int32 × Int32 × Int32) => b_X13_likest_25 h v0 s.1 s.2.1 s.2.2) n s) P → AW G X 25 [(0, vR v0), (1, vI s.1), (2, vI s.2.1), (3, vI s.2.2)] [] h 0 0 := by
  intro n
  induction n with
  | zero => exact fun s hy => hy.it0.elim
  | succ n ih =>
    intro s hy
    exact wb_X13_likest_25 hX hN hr h v0 (fun s hs => ih s hs) (fun e hs => he0 e hs) s.1 s.2.1 s.2.2 hy.it
def f_X13_likest (h : Mem) (v0 : Nat) : Option (Int32 × Mem) :=
  (ck h v0 11).bind fun _ => (pI h v0 0 11 0).bind fun h1 => (gR h1 v0 3 11).bind fun r2 => (if r2 = 0 then (f_X13_refused h1 v0 1).bind fun q22 => some (q22.1, q22.2) else (iter (fun (s : Int32 × Int32 × Int32) => b_X13_likest_25 h1 v0 s.1 s.2.1 s.2.2) FU ((-2), (-1), 0)).bind (fun q16 => (f_X13_good h1 v0 q16).bind fun q19 => some (q19.1, q19.2)))
set_option maxRecDepth 100000 in
set_option maxHeartbeats 4000000 in
theorem w_X13_likest {G : GE} {X : CX} {l : Launch} (hX : Ok G X cX13_likest RX13) (hN : xn X = 5) {P : (Int32 × Mem) → Prop} (hr : Rt G X l yX13_likest (some .int) rm_X13_likest (pmI P)) (h : Mem) (v0 : Nat) (hy : OK (f_X13_likest h v0) P) : AW G X 0 [(0, vR v0)] [] h 0 0 := by
  unfold f_X13_likest at hy
  have hkd := hy.kd
  have hy := hy.kb
  refine aw_aloadn (pc := 0) hX 0 rfl dX13_likest_0 ?_
  refine aw_iconst (pc := 1) hX 0 (by decide) dX13_likest_1 ?_
  refine aw_pI (pc := 2) hX hy fl_X13_51 rfl (Or.inl rfl) dX13_likest_2 (fun h1 hy => ?_)
  refine aw_aloadn (pc := 5) hX 0 rfl dX13_likest_5 ?_
  refine aw_gR (pc := 6) hX hy fl_X13_338 (fun _ _ => rfl) dX13_likest_6 (fun r2 hy => ?_)
  refine aw_ifnonnull (pc := 9) hX 18 (by decide) dX13_likest_9 (fun hc9 => ?_) (fun hc9 => ?_)
  · have hy := hy.f hc9
    refine aw_bipush (pc := 18) hX (-2) (by decide) dX13_likest_18 ?_
    refine aw_istoren (pc := 20) hX [(1, vI (-2)), (0, vR v0)] rfl (lt_n hN (by decide)) dX13_likest_20 ?_
    refine aw_iconst (pc := 21) hX (-1) (by decide) dX13_likest_21 ?_
    refine aw_istoren (pc := 22) hX [(2, vI (-1)), (1, vI (-2)), (0, vR v0)] rfl (lt_n hN (by decide)) dX13_likest_22 ?_
    refine aw_iconst (pc := 23) hX 0 (by decide) dX13_likest_23 ?_
    refine aw_istoren (pc := 24) hX [(3, vI 0), (2, vI (-1)), (1, vI (-2)), (0, vR v0)] rfl (lt_n hN (by decide)) dX13_likest_24 ?_
    refine AW.sub [3, 2, 1, 0] rfl ?_
    refine wl_X13_likest_25 hX hN hr _ v0 ?_ FU ((-2), (-1), 0) hy.bd
    · intro q16 hy
      refine aw_aloadn (pc := 117) hX 0 rfl dX13_likest_117 ?_
      refine aw_iloadn (pc := 118) hX 1 rfl dX13_likest_118 ?_
      refine aw_callV (pc := 119) (st := []) (a := v0) hX [vI q16] (con_X13_good _ G _ v0 q16 hy.bd) mc_X13_good ml_X13_61 im_X13_good se_X13_good (by decide) hy.bd.kd rfl (rm_of hr (by decide)) (Nat.le_of_ble_eq_true rfl) rfl dX13_likest_119 (kmI rfl rfl (fun q19 hy => ?_))
      exact aw_iret (pc := 122) hX hr (by decide) (by decide) dX13_likest_122 ⟨_, rfl, hy.s⟩
  · have hy := hy.t hc9
    refine aw_aloadn (pc := 12) hX 0 rfl dX13_likest_12 ?_
    refine aw_iconst (pc := 13) hX 1 (by decide) dX13_likest_13 ?_
    refine aw_callV (pc := 14) (st := []) (a := v0) hX [vI 1] (con_X13_refused _ G _ v0 1 hy.bd) mc_X13_refused ml_X13_57 im_X13_refused se_X13_refused (by decide) hy.bd.kd rfl (rm_of hr (by decide)) (Nat.le_of_ble_eq_true rfl) rfl dX13_likest_14 (kmI rfl rfl (fun q22 hy => ?_))
    exact aw_iret (pc := 17) hX hr (by decide) (by decide) dX13_likest_17 ⟨_, rfl, hy.s⟩
theorem con_X13_likest (l : Launch) (G : GE) (h : Mem) (v0 : Nat) {P : (Int32 × Mem) → Prop} (hy : OK (f_X13_likest h v0) P) : Con l G yX13_likest cX13_likest 5 (some .int) rm_X13_likest [vR v0] h (pmI P) := Con.of (by decide) (Nat.le_of_ble_eq_true rfl) (fun X hX hr hN => w_X13_likest hX hN hr h v0 hy)
