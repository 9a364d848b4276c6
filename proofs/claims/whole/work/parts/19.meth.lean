/-! X13_ways -/
theorem dX13_ways_0 : decode cX13_ways 0 = .ok (.aload_n 0, 1) := by decide +kernel
theorem dX13_ways_1 : decode cX13_ways 1 = .ok (.getfield 338, 3) := by decide +kernel
theorem dX13_ways_4 : decode cX13_ways 4 = .ok (.getfield 197, 3) := by decide +kernel
theorem dX13_ways_7 : decode cX13_ways 7 = .ok (.istore 4, 2) := by decide +kernel
theorem dX13_ways_9 : decode cX13_ways 9 = .ok (.iconst 0, 1) := by decide +kernel
theorem dX13_ways_10 : decode cX13_ways 10 = .ok (.istore 5, 2) := by decide +kernel
theorem dX13_ways_12 : decode cX13_ways 12 = .ok (.iload 5, 2) := by decide +kernel
theorem dX13_ways_14 : decode cX13_ways 14 = .ok (.iload 4, 2) := by decide +kernel
theorem dX13_ways_16 : decode cX13_ways 16 = .ok (.if_icmp .ge 83, 3) := by decide +kernel
theorem dX13_ways_19 : decode cX13_ways 19 = .ok (.iconst 0, 1) := by decide +kernel
theorem dX13_ways_20 : decode cX13_ways 20 = .ok (.istore 6, 2) := by decide +kernel
theorem dX13_ways_22 : decode cX13_ways 22 = .ok (.iload 6, 2) := by decide +kernel
theorem dX13_ways_24 : decode cX13_ways 24 = .ok (.iload 4, 2) := by decide +kernel
theorem dX13_ways_26 : decode cX13_ways 26 = .ok (.if_icmp .ge 67, 3) := by decide +kernel
theorem dX13_ways_29 : decode cX13_ways 29 = .ok (.aload_n 0, 1) := by decide +kernel
theorem dX13_ways_30 : decode cX13_ways 30 = .ok (.getfield 27, 3) := by decide +kernel
theorem dX13_ways_33 : decode cX13_ways 33 = .ok (.bipush 7, 2) := by decide +kernel
theorem dX13_ways_35 : decode cX13_ways 35 = .ok (.iload 5, 2) := by decide +kernel
theorem dX13_ways_37 : decode cX13_ways 37 = .ok (.imul, 1) := by decide +kernel
theorem dX13_ways_38 : decode cX13_ways 38 = .ok (.iload 6, 2) := by decide +kernel
theorem dX13_ways_40 : decode cX13_ways 40 = .ok (.iadd, 1) := by decide +kernel
theorem dX13_ways_41 : decode cX13_ways 41 = .ok (.iload 5, 2) := by decide +kernel
theorem dX13_ways_43 : decode cX13_ways 43 = .ok (.iload 6, 2) := by decide +kernel
theorem dX13_ways_45 : decode cX13_ways 45 = .ok (.if_icmp .ne 7, 3) := by decide +kernel
theorem dX13_ways_48 : decode cX13_ways 48 = .ok (.iconst 0, 1) := by decide +kernel
theorem dX13_ways_49 : decode cX13_ways 49 = .ok (.goto 37, 3) := by decide +kernel
theorem dX13_ways_52 : decode cX13_ways 52 = .ok (.aload_n 0, 1) := by decide +kernel
theorem dX13_ways_53 : decode cX13_ways 53 = .ok (.iload_n 1, 1) := by decide +kernel
theorem dX13_ways_54 : decode cX13_ways 54 = .ok (.iload_n 2, 1) := by decide +kernel
theorem dX13_ways_55 : decode cX13_ways 55 = .ok (.iload 5, 2) := by decide +kernel
theorem dX13_ways_57 : decode cX13_ways 57 = .ok (.iload 6, 2) := by decide +kernel
theorem dX13_ways_59 : decode cX13_ways 59 = .ok (.iload_n 3, 1) := by decide +kernel
theorem dX13_ways_60 : decode cX13_ways 60 = .ok (.invokevirtual 379, 3) := by decide +kernel
theorem dX13_ways_63 : decode cX13_ways 63 = .ok (.ifCond .eq 20, 3) := by decide +kernel
theorem dX13_ways_66 : decode cX13_ways 66 = .ok (.iload 5, 2) := by decide +kernel
theorem dX13_ways_68 : decode cX13_ways 68 = .ok (.iload 6, 2) := by decide +kernel
theorem dX13_ways_70 : decode cX13_ways 70 = .ok (.aload_n 0, 1) := by decide +kernel
theorem dX13_ways_71 : decode cX13_ways 71 = .ok (.getfield 338, 3) := by decide +kernel
theorem dX13_ways_74 : decode cX13_ways 74 = .ok (.getfield 262, 3) := by decide +kernel
theorem dX13_ways_77 : decode cX13_ways 77 = .ok (.invokestatic 352, 3) := by decide +kernel
theorem dX13_ways_80 : decode cX13_ways 80 = .ok (.goto 6, 3) := by decide +kernel
theorem dX13_ways_83 : decode cX13_ways 83 = .ok (.ldc_w 386, 3) := by decide +kernel
theorem dX13_ways_86 : decode cX13_ways 86 = .ok (.iastore, 1) := by decide +kernel
theorem dX13_ways_87 : decode cX13_ways 87 = .ok (.iinc 6 1, 3) := by decide +kernel
theorem dX13_ways_90 : decode cX13_ways 90 = .ok (.goto (-68), 3) := by decide +kernel
theorem dX13_ways_93 : decode cX13_ways 93 = .ok (.iinc 5 1, 3) := by decide +kernel
theorem dX13_ways_96 : decode cX13_ways 96 = .ok (.goto (-84), 3) := by decide +kernel
theorem dX13_ways_99 : decode cX13_ways 99 = .ok (.iconst 0, 1) := by decide +kernel
theorem dX13_ways_100 : decode cX13_ways 100 = .ok (.istore 5, 2) := by decide +kernel
theorem dX13_ways_102 : decode cX13_ways 102 = .ok (.iload 5, 2) := by decide +kernel
theorem dX13_ways_104 : decode cX13_ways 104 = .ok (.iload 4, 2) := by decide +kernel
theorem dX13_ways_106 : decode cX13_ways 106 = .ok (.if_icmp .ge 104, 3) := by decide +kernel
theorem dX13_ways_109 : decode cX13_ways 109 = .ok (.iconst 0, 1) := by decide +kernel
theorem dX13_ways_110 : decode cX13_ways 110 = .ok (.istore 6, 2) := by decide +kernel
theorem dX13_ways_112 : decode cX13_ways 112 = .ok (.iload 6, 2) := by decide +kernel
theorem dX13_ways_114 : decode cX13_ways 114 = .ok (.iload 4, 2) := by decide +kernel
theorem dX13_ways_116 : decode cX13_ways 116 = .ok (.iload 4, 2) := by decide +kernel
theorem dX13_ways_118 : decode cX13_ways 118 = .ok (.imul, 1) := by decide +kernel
theorem dX13_ways_119 : decode cX13_ways 119 = .ok (.if_icmp .ge 85, 3) := by decide +kernel
theorem dX13_ways_122 : decode cX13_ways 122 = .ok (.iload 6, 2) := by decide +kernel
theorem dX13_ways_124 : decode cX13_ways 124 = .ok (.iload 4, 2) := by decide +kernel
theorem dX13_ways_126 : decode cX13_ways 126 = .ok (.idiv, 1) := by decide +kernel
theorem dX13_ways_127 : decode cX13_ways 127 = .ok (.istore 7, 2) := by decide +kernel
theorem dX13_ways_129 : decode cX13_ways 129 = .ok (.iload 6, 2) := by decide +kernel
theorem dX13_ways_131 : decode cX13_ways 131 = .ok (.iload 4, 2) := by decide +kernel
theorem dX13_ways_133 : decode cX13_ways 133 = .ok (.irem, 1) := by decide +kernel
theorem dX13_ways_134 : decode cX13_ways 134 = .ok (.istore 8, 2) := by decide +kernel
theorem dX13_ways_136 : decode cX13_ways 136 = .ok (.aload_n 0, 1) := by decide +kernel
theorem dX13_ways_137 : decode cX13_ways 137 = .ok (.getfield 27, 3) := by decide +kernel
theorem dX13_ways_140 : decode cX13_ways 140 = .ok (.bipush 7, 2) := by decide +kernel
theorem dX13_ways_142 : decode cX13_ways 142 = .ok (.iload 7, 2) := by decide +kernel
theorem dX13_ways_144 : decode cX13_ways 144 = .ok (.imul, 1) := by decide +kernel
theorem dX13_ways_145 : decode cX13_ways 145 = .ok (.iload 5, 2) := by decide +kernel
theorem dX13_ways_147 : decode cX13_ways 147 = .ok (.iadd, 1) := by decide +kernel
theorem dX13_ways_148 : decode cX13_ways 148 = .ok (.iaload, 1) := by decide +kernel
theorem dX13_ways_149 : decode cX13_ways 149 = .ok (.aload_n 0, 1) := by decide +kernel
theorem dX13_ways_150 : decode cX13_ways 150 = .ok (.getfield 27, 3) := by decide +kernel
theorem dX13_ways_153 : decode cX13_ways 153 = .ok (.bipush 7, 2) := by decide +kernel
theorem dX13_ways_155 : decode cX13_ways 155 = .ok (.iload 5, 2) := by decide +kernel
theorem dX13_ways_157 : decode cX13_ways 157 = .ok (.imul, 1) := by decide +kernel
theorem dX13_ways_158 : decode cX13_ways 158 = .ok (.iload 8, 2) := by decide +kernel
theorem dX13_ways_160 : decode cX13_ways 160 = .ok (.iadd, 1) := by decide +kernel
theorem dX13_ways_161 : decode cX13_ways 161 = .ok (.iaload, 1) := by decide +kernel
theorem dX13_ways_162 : decode cX13_ways 162 = .ok (.iadd, 1) := by decide +kernel
theorem dX13_ways_163 : decode cX13_ways 163 = .ok (.istore 9, 2) := by decide +kernel
theorem dX13_ways_165 : decode cX13_ways 165 = .ok (.iload 9, 2) := by decide +kernel
theorem dX13_ways_167 : decode cX13_ways 167 = .ok (.aload_n 0, 1) := by decide +kernel
theorem dX13_ways_168 : decode cX13_ways 168 = .ok (.getfield 27, 3) := by decide +kernel
theorem dX13_ways_171 : decode cX13_ways 171 = .ok (.bipush 7, 2) := by decide +kernel
theorem dX13_ways_173 : decode cX13_ways 173 = .ok (.iload 7, 2) := by decide +kernel
theorem dX13_ways_175 : decode cX13_ways 175 = .ok (.imul, 1) := by decide +kernel
theorem dX13_ways_176 : decode cX13_ways 176 = .ok (.iload 8, 2) := by decide +kernel
theorem dX13_ways_178 : decode cX13_ways 178 = .ok (.iadd, 1) := by decide +kernel
theorem dX13_ways_179 : decode cX13_ways 179 = .ok (.iaload, 1) := by decide +kernel
theorem dX13_ways_180 : decode cX13_ways 180 = .ok (.if_icmp .ge 18, 3) := by decide +kernel
theorem dX13_ways_183 : decode cX13_ways 183 = .ok (.aload_n 0, 1) := by decide +kernel
theorem dX13_ways_184 : decode cX13_ways 184 = .ok (.getfield 27, 3) := by decide +kernel
theorem dX13_ways_187 : decode cX13_ways 187 = .ok (.bipush 7, 2) := by decide +kernel
theorem dX13_ways_189 : decode cX13_ways 189 = .ok (.iload 7, 2) := by decide +kernel
theorem dX13_ways_191 : decode cX13_ways 191 = .ok (.imul, 1) := by decide +kernel
theorem dX13_ways_192 : decode cX13_ways 192 = .ok (.iload 8, 2) := by decide +kernel
theorem dX13_ways_194 : decode cX13_ways 194 = .ok (.iadd, 1) := by decide +kernel
theorem dX13_ways_195 : decode cX13_ways 195 = .ok (.iload 9, 2) := by decide +kernel
theorem dX13_ways_197 : decode cX13_ways 197 = .ok (.iastore, 1) := by decide +kernel
theorem dX13_ways_198 : decode cX13_ways 198 = .ok (.iinc 6 1, 3) := by decide +kernel
theorem dX13_ways_201 : decode cX13_ways 201 = .ok (.goto (-89), 3) := by decide +kernel
theorem dX13_ways_204 : decode cX13_ways 204 = .ok (.iinc 5 1, 3) := by decide +kernel
theorem dX13_ways_207 : decode cX13_ways 207 = .ok (.goto (-105), 3) := by decide +kernel
theorem dX13_ways_210 : decode cX13_ways 210 = .ok (.return_, 1) := by decide +kernel
abbrev rm_X13_ways : Room := { frames := 4, cells := 0, slots := 0, locals := 102 }
def f_X13_ways_86 (h : Mem) (v0 : Nat) (v1 : Int32) (v2 : Int32) (v3 : Int32) (v4 : Int32) (v5 : Int32) (v6 : Int32) (s0 : Nat) (s1 : Int32) (s2 : Int32) : Option ((Int32 × Mem) ⊕ Mem) :=
  (sI h s0 s1 s2).bind fun h5 => some (.inl ((v6 + 1), h5))
set_option maxRecDepth 100000 in
set_option maxHeartbeats 4000000 in
theorem w_X13_ways_86 {G : GE} {X : CX} {l : Launch} (hX : Ok G X cX13_ways RX13) (hN : xn X = 10) {P0 : Mem → Prop} (hr : Rt G X l yX13_ways none rm_X13_ways (pmV P0))  (v0 : Nat) (v1 : Int32) (v2 : Int32) (v3 : Int32) (v4 : Int32) (v5 : Int32) {P : ((Int32 × Mem) ⊕ Mem) → Prop} (hc : ∀ s, P (.inl s) → AW G X 22 [(0, vR v0), (1, vI v1), (2, vI v2), (3, vI v3), (4, vI v4), (5, vI v5), (6, vI s.1)] [] s.2 0 0) (he0 : ∀ e, P (.inr e) → AW G X 93 [(0, vR v0), (1, vI v1), (2, vI v2), (3, vI v3), (4, vI v4), (5, vI v5)] [] e 0 0) (h : Mem) (v6 : Int32) (s0 : Nat) (s1 : Int32) (s2 : Int32) (hy : OK (f_X13_ways_86 h v0 v1 v2 v3 v4 v5 v6 s0 s1 s2) P) : AW G X 86 [(0, vR v0), (1, vI v1), (2, vI v2), (3, vI v3), (4, vI v4), (5, vI v5), (6, vI v6)] [vI s2, vI s1, vR s0] h 0 0 := by
  unfold f_X13_ways_86 at hy
  refine aw_sI (pc := 86) hX hy dX13_ways_86 (fun h5 hy => ?_)
  refine aw_iinc (pc := 87) hX 1 (by decide) 6 rfl [(6, vI (v6 + 1)), (0, vR v0), (1, vI v1), (2, vI v2), (3, vI v3), (4, vI v4), (5, vI v5)] rfl (lt_n hN (by decide)) dX13_ways_87 ?_
  refine aw_goto (pc := 90) hX 22 (by decide) dX13_ways_90 ?_
  refine AW.sub [1, 2, 3, 4, 5, 6, 0] rfl ?_
  exact hc ((v6 + 1), h5) hy.s
def b_X13_ways_22 (h : Mem) (v0 : Nat) (v1 : Int32) (v2 : Int32) (v3 : Int32) (v4 : Int32) (v5 : Int32) (v6 : Int32) : Option ((Int32 × Mem) ⊕ Mem) :=
  (if v4 ≤ v6 then some (.inr h) else (gR h v0 21 11).bind fun r3 => (if v5 = v6 then f_X13_ways_86 h v0 v1 v2 v3 v4 v5 v6 r3 ((7 * v5) + v6) 0 else (f_X13_passesBy h v0 v1 v2 v5 v6 v3).bind fun x4 => (if x4 = 0 then f_X13_ways_86 h v0 v1 v2 v3 v4 v5 v6 r3 ((7 * v5) + v6) 99999 else (gR h v0 3 11).bind fun r6 => (gR h r6 12 10).bind fun r7 => (f_X13_of h v5 v6 r7).bind fun x8 => f_X13_ways_86 h v0 v1 v2 v3 v4 v5 v6 r3 ((7 * v5) + v6) x8)))
set_option maxRecDepth 100000 in
set_option maxHeartbeats 4000000 in
theorem wb_X13_ways_22 {G : GE} {X : CX} {l : Launch} (hX : Ok G X cX13_ways RX13) (hN : xn X = 10) {P0 : Mem → Prop} (hr : Rt G X l yX13_ways none rm_X13_ways (pmV P0))  (v0 : Nat) (v1 : Int32) (v2 : Int32) (v3 : Int32) (v4 : Int32) (v5 : Int32) {P : ((Int32 × Mem) ⊕ Mem) → Prop} (hc : ∀ s, P (.inl s) → AW G X 22 [(0, vR v0), (1, vI v1), (2, vI v2), (3, vI v3), (4, vI v4), (5, vI v5), (6, vI s.1)] [] s.2 0 0) (he0 : ∀ e, P (.inr e) → AW G X 93 [(0, vR v0), (1, vI v1), (2, vI v2), (3, vI v3), (4, vI v4), (5, vI v5)] [] e 0 0) (h : Mem) (v6 : Int32) (hy : OK (b_X13_ways_22 h v0 v1 v2 v3 v4 v5 v6) P) : AW G X 22 [(0, vR v0), (1, vI v1), (2, vI v2), (3, vI v3), (4, vI v4), (5, vI v5), (6, vI v6)] [] h 0 0 := by
  unfold b_X13_ways_22 at hy
  refine aw_iload (pc := 22) hX 6 rfl dX13_ways_22 ?_
  refine aw_iload (pc := 24) hX 4 rfl dX13_ways_24 ?_
  refine aw_ic_ge (pc := 26) hX 93 (by decide) dX13_ways_26 (fun hc9 => ?_) (fun hc9 => ?_)
  · have hy := hy.t hc9
    refine AW.sub [0, 1, 2, 3, 4, 5] rfl ?_
    exact he0 h hy.s
  · have hy := hy.f hc9
    refine aw_aloadn (pc := 29) hX 0 rfl dX13_ways_29 ?_
    refine aw_gR (pc := 30) hX hy fl_X13_27 (fun _ _ => rfl) dX13_ways_30 (fun r3 hy => ?_)
    refine aw_bipush (pc := 33) hX 7 (by decide) dX13_ways_33 ?_
    refine aw_iload (pc := 35) hX 5 rfl dX13_ways_35 ?_
    refine aw_imul (pc := 37) hX dX13_ways_37 ?_
    refine aw_iload (pc := 38) hX 6 rfl dX13_ways_38 ?_
    refine aw_iadd (pc := 40) hX dX13_ways_40 ?_
    refine aw_iload (pc := 41) hX 5 rfl dX13_ways_41 ?_
    refine aw_iload (pc := 43) hX 6 rfl dX13_ways_43 ?_
    refine aw_ic_ne (pc := 45) hX 52 (by decide) dX13_ways_45 (fun hc9 => ?_) (fun hc9 => ?_)
    · have hy := hy.f hc9
      refine aw_aloadn (pc := 52) hX 0 rfl dX13_ways_52 ?_
      refine aw_iloadn (pc := 53) hX 1 rfl dX13_ways_53 ?_
      refine aw_iloadn (pc := 54) hX 2 rfl dX13_ways_54 ?_
      refine aw_iload (pc := 55) hX 5 rfl dX13_ways_55 ?_
      refine aw_iload (pc := 57) hX 6 rfl dX13_ways_57 ?_
      refine aw_iloadn (pc := 59) hX 3 rfl dX13_ways_59 ?_
      refine aw_callV (pc := 60) (st := [vI ((7 * v5) + v6), vR r3]) (a := v0) hX [vI v1, vI v2, vI v5, vI v6, vI v3] (con_X13_passesBy _ G _ v0 v1 v2 v5 v6 v3 hy.bd) mc_X13_passesBy ml_X13_379 im_X13_passesBy se_X13_passesBy (by decide) hy.bd.kd rfl (rm_of hr (by decide)) (Nat.le_of_ble_eq_true rfl) rfl dX13_ways_60 (kpI rfl rfl (fun x4 hy => ?_))
      refine aw_if_eq (pc := 63) hX 83 (by decide) dX13_ways_63 (fun hc9 => ?_) (fun hc9 => ?_)
      · have hy := hy.t hc9
        refine aw_ldcw (pc := 83) hX kc_X13_386 dX13_ways_83 ?_
        exact w_X13_ways_86 hX hN hr _ _ _ _ _ _ hc he0 h v6 r3 ((7 * v5) + v6) 99999 hy
      · have hy := hy.f hc9
        refine aw_iload (pc := 66) hX 5 rfl dX13_ways_66 ?_
        refine aw_iload (pc := 68) hX 6 rfl dX13_ways_68 ?_
        refine aw_aloadn (pc := 70) hX 0 rfl dX13_ways_70 ?_
        refine aw_gR (pc := 71) hX hy fl_X13_338 (fun _ _ => rfl) dX13_ways_71 (fun r6 hy => ?_)
        refine aw_gR (pc := 74) hX hy fl_X13_262 (fun _ _ => rfl) dX13_ways_74 (fun r7 hy => ?_)
        refine aw_callS (pc := 77) (st := [vI ((7 * v5) + v6), vR r3]) hX [vI v5, vI v6, vR r7] (con_X13_of _ G _ v5 v6 r7 hy.bd) mc_X13_of ml_X13_352 st_X13_of rfl (rm_of hr (by decide)) (Nat.le_of_ble_eq_true rfl) rfl dX13_ways_77 (kpI rfl rfl (fun x8 hy => ?_))
        refine aw_goto (pc := 80) hX 86 (by decide) dX13_ways_80 ?_
        exact w_X13_ways_86 hX hN hr _ _ _ _ _ _ hc he0 h v6 r3 ((7 * v5) + v6) x8 hy
    · have hy := hy.t hc9
      refine aw_iconst (pc := 48) hX 0 (by decide) dX13_ways_48 ?_
      refine aw_goto (pc := 49) hX 86 (by decide) dX13_ways_49 ?_
      exact w_X13_ways_86 hX hN hr _ _ _ _ _ _ hc he0 h v6 r3 ((7 * v5) + v6) 0 hy
theorem wl_X13_ways_22 {G : GE} {X : CX} {l : Launch} (hX : Ok G X cX13_ways RX13) (hN : xn X = 10) {P0 : Mem → Prop} (hr : Rt G X l yX13_ways none rm_X13_ways (pmV P0)) (v0 : Nat) (v1 : Int32) (v2 : Int32) (v3 : Int32) (v4 : Int32) (v5 : Int32) {P : (Mem) → Prop} (he0 : ∀ e, P e → AW G X 93 [(0, vR v0), (1, vI v1), (2, vI v2), (3, vI v3), (4, vI v4), (5, vI v5)] [] e 0 0) : ∀ (n : Nat) (s : Int32 × Mem), OK (iter (fun (s : Int32 × Mem) => b_X13_ways_22 s.2 v0 v1 v2 v3 v4 v5 s.1) n s) P → AW G X 22 [(0, vR v0), (1, vI v1), (2, vI v2), (3, vI v3), (4, vI v4), (5, vI v5), (6, vI s.1)] [] s.2 0 0 := by
  intro n
  induction n with
  | zero => exact fun s hy => hy.it0.elim
  | succ n ih =>
    intro s hy
    exact wb_X13_ways_22 hX hN hr v0 v1 v2 v3 v4 v5 (fun s hs => ih s hs) (fun e hs => he0 e hs) s.2 s.1 hy.it
def b_X13_ways_12 (h : Mem) (v0 : Nat) (v1 : Int32) (v2 : Int32) (v3 : Int32) (v4 : Int32) (v5 : Int32) : Option ((Int32 × Mem) ⊕ Mem) :=
  (if v4 ≤ v5 then some (.inr h) else (iter (fun (s : Int32 × Mem) => b_X13_ways_22 s.2 v0 v1 v2 v3 v4 v5 s.1) FU (0, h)).bind (fun q9 => some (.inl ((v5 + 1), q9))))
set_option maxRecDepth 100000 in
set_option maxHeartbeats 4000000 in
theorem wb_X13_ways_12 {G : GE} {X : CX} {l : Launch} (hX : Ok G X cX13_ways RX13) (hN : xn X = 10) {P0 : Mem → Prop} (hr : Rt G X l yX13_ways none rm_X13_ways (pmV P0))  (v0 : Nat) (v1 : Int32) (v2 : Int32) (v3 : Int32) (v4 : Int32) {P : ((Int32 × Mem) ⊕ Mem) → Prop} (hc : ∀ s, P (.inl s) → AW G X 12 [(0, vR v0), (1, vI v1), (2, vI v2), (3, vI v3), (4, vI v4), (5, vI s.1)] [] s.2 0 0) (he0 : ∀ e, P (.inr e) → AW G X 99 [(0, vR v0), (4, vI v4)] [] e 0 0) (h : Mem) (v5 : Int32) (hy : OK (b_X13_ways_12 h v0 v1 v2 v3 v4 v5) P) : AW G X 12 [(0, vR v0), (1, vI v1), (2, vI v2), (3, vI v3), (4, vI v4), (5, vI v5)] [] h 0 0 := by
  unfold b_X13_ways_12 at hy
  refine aw_iload (pc := 12) hX 5 rfl dX13_ways_12 ?_
  refine aw_iload (pc := 14) hX 4 rfl dX13_ways_14 ?_
  refine aw_ic_ge (pc := 16) hX 99 (by decide) dX13_ways_16 (fun hc9 => ?_) (fun hc9 => ?_)
  · have hy := hy.t hc9
    refine AW.sub [0, 4] rfl ?_
    exact he0 h hy.s
  · have hy := hy.f hc9
    refine aw_iconst (pc := 19) hX 0 (by decide) dX13_ways_19 ?_
    refine aw_istore (pc := 20) hX [(6, vI 0), (0, vR v0), (1, vI v1), (2, vI v2), (3, vI v3), (4, vI v4), (5, vI v5)] rfl (lt_n hN (by decide)) dX13_ways_20 ?_
    refine AW.sub [1, 2, 3, 4, 5, 6, 0] rfl ?_
    refine wl_X13_ways_22 hX hN hr v0 v1 v2 v3 v4 v5 ?_ FU (0, h) hy.bd
    · intro q9 hy
      refine aw_iinc (pc := 93) hX 1 (by decide) 5 rfl [(5, vI (v5 + 1)), (0, vR v0), (1, vI v1), (2, vI v2), (3, vI v3), (4, vI v4)] rfl (lt_n hN (by decide)) dX13_ways_93 ?_
      refine aw_goto (pc := 96) hX 12 (by decide) dX13_ways_96 ?_
      refine AW.sub [1, 2, 3, 4, 5, 0] rfl ?_
      exact hc ((v5 + 1), q9) hy.s
theorem wl_X13_ways_12 {G : GE} {X : CX} {l : Launch} (hX : Ok G X cX13_ways RX13) (hN : xn X = 10) {P0 : Mem → Prop} (hr : Rt G X l yX13_ways none rm_X13_ways (pmV P0)) (v0 : Nat) (v1 : Int32) (v2 : Int32) (v3 : Int32) (v4 : Int32) {P : (Mem) → Prop} (he0 : ∀ e, P e → AW G X 99 [(0, vR v0), (4, vI v4)] [] e 0 0) : ∀ (n : Nat) (s : Int32 × Mem), OK (iter (fun (s : Int32 × Mem) => b_X13_ways_12 s.2 v0 v1 v2 v3 v4 s.1) n s) P → AW G X 12 [(0, vR v0), (1, vI v1), (2, vI v2), (3, vI v3), (4, vI v4), (5, vI s.1)] [] s.2 0 0 := by
  intro n
  induction n with
  | zero => exact fun s hy => hy.it0.elim
  | succ n ih =>
    intro s hy
    exact wb_X13_ways_12 hX hN hr v0 v1 v2 v3 v4 (fun s hs => ih s hs) (fun e hs => he0 e hs) s.2 s.1 hy.it
def f_X13_ways_198 (h : Mem) (v0 : Nat) (v4 : Int32) (v5 : Int32) (v6 : Int32) : Option ((Int32 × Mem) ⊕ Mem) :=
  some (.inl ((v6 + 1), h))
set_option maxRecDepth 100000 in
set_option maxHeartbeats 4000000 in
theorem w_X13_ways_198 {G : GE} {X : CX} {l : Launch} (hX : Ok G X cX13_ways RX13) (hN : xn X = 10) {P0 : Mem → Prop} (hr : Rt G X l yX13_ways none rm_X13_ways (pmV P0))  (v0 : Nat) (v4 : Int32) (v5 : Int32) {P : ((Int32 × Mem) ⊕ Mem) → Prop} (hc : ∀ s, P (.inl s) → AW G X 112 [(0, vR v0), (4, vI v4), (5, vI v5), (6, vI s.1)] [] s.2 0 0) (he0 : ∀ e, P (.inr e) → AW G X 204 [(0, vR v0), (4, vI v4), (5, vI v5)] [] e 0 0) (h : Mem) (v6 : Int32) (hy : OK (f_X13_ways_198 h v0 v4 v5 v6) P) : AW G X 198 [(0, vR v0), (4, vI v4), (5, vI v5), (6, vI v6)] [] h 0 0 := by
  unfold f_X13_ways_198 at hy
  refine aw_iinc (pc := 198) hX 1 (by decide) 3 rfl [(6, vI (v6 + 1)), (0, vR v0), (4, vI v4), (5, vI v5)] rfl (lt_n hN (by decide)) dX13_ways_198 ?_
  refine aw_goto (pc := 201) hX 112 (by decide) dX13_ways_201 ?_
  refine AW.sub [1, 2, 3, 0] rfl ?_
  exact hc ((v6 + 1), h) hy.s
def b_X13_ways_112 (h : Mem) (v0 : Nat) (v4 : Int32) (v5 : Int32) (v6 : Int32) : Option ((Int32 × Mem) ⊕ Mem) :=
  (if (v4 * v4) ≤ v6 then some (.inr h) else (idv v6 v4).bind fun x11 => (irm v6 v4).bind fun x12 => (gR h v0 21 11).bind fun r13 => (aI h r13 ((7 * x11) + v5)).bind fun x14 => (gR h v0 21 11).bind fun r15 => (aI h r15 ((7 * v5) + x12)).bind fun x16 => (gR h v0 21 11).bind fun r17 => (aI h r17 ((7 * x11) + x12)).bind fun x18 => (if x18 ≤ (x14 + x16) then f_X13_ways_198 h v0 v4 v5 v6 else (gR h v0 21 11).bind fun r19 => (sI h r19 ((7 * x11) + x12) (x14 + x16)).bind fun h20 => f_X13_ways_198 h20 v0 v4 v5 v6))
set_option maxRecDepth 100000 in
set_option maxHeartbeats 4000000 in
theorem wb_X13_ways_112 {G : GE} {X : CX} {l : Launch} (hX : Ok G X cX13_ways RX13) (hN : xn X = 10) {P0 : Mem → Prop} (hr : Rt G X l yX13_ways none rm_X13_ways (pmV P0))  (v0 : Nat) (v4 : Int32) (v5 : Int32) {P : ((Int32 × Mem) ⊕ Mem) → Prop} (hc : ∀ s, P (.inl s) → AW G X 112 [(0, vR v0), (4, vI v4), (5, vI v5), (6, vI s.1)] [] s.2 0 0) (he0 : ∀ e, P (.inr e) → AW G X 204 [(0, vR v0), (4, vI v4), (5, vI v5)] [] e 0 0) (h : Mem) (v6 : Int32) (hy : OK (b_X13_ways_112 h v0 v4 v5 v6) P) : AW G X 112 [(0, vR v0), (4, vI v4), (5, vI v5), (6, vI v6)] [] h 0 0 := by
  unfold b_X13_ways_112 at hy
  refine aw_iload (pc := 112) hX 3 rfl dX13_ways_112 ?_
  refine aw_iload (pc := 114) hX 1 rfl dX13_ways_114 ?_
  refine aw_iload (pc := 116) hX 1 rfl dX13_ways_116 ?_
  refine aw_imul (pc := 118) hX dX13_ways_118 ?_
  refine aw_ic_ge (pc := 119) hX 204 (by decide) dX13_ways_119 (fun hc9 => ?_) (fun hc9 => ?_)
  · have hy := hy.t hc9
    refine AW.sub [0, 1, 2] rfl ?_
    exact he0 h hy.s
  · have hy := hy.f hc9
    refine aw_iload (pc := 122) hX 3 rfl dX13_ways_122 ?_
    refine aw_iload (pc := 124) hX 1 rfl dX13_ways_124 ?_
    refine aw_idiv (pc := 126) hX hy dX13_ways_126 (fun x11 hy => ?_)
    refine aw_istore (pc := 127) hX [(7, vI x11), (0, vR v0), (4, vI v4), (5, vI v5), (6, vI v6)] rfl (lt_n hN (by decide)) dX13_ways_127 ?_
    refine aw_iload (pc := 129) hX 4 rfl dX13_ways_129 ?_
    refine aw_iload (pc := 131) hX 2 rfl dX13_ways_131 ?_
    refine aw_irem (pc := 133) hX hy dX13_ways_133 (fun x12 hy => ?_)
    refine aw_istore (pc := 134) hX [(8, vI x12), (7, vI x11), (0, vR v0), (4, vI v4), (5, vI v5), (6, vI v6)] rfl (lt_n hN (by decide)) dX13_ways_134 ?_
    refine aw_aloadn (pc := 136) hX 2 rfl dX13_ways_136 ?_
    refine aw_gR (pc := 137) hX hy fl_X13_27 (fun _ _ => rfl) dX13_ways_137 (fun r13 hy => ?_)
    refine aw_bipush (pc := 140) hX 7 (by decide) dX13_ways_140 ?_
    refine aw_iload (pc := 142) hX 1 rfl dX13_ways_142 ?_
    refine aw_imul (pc := 144) hX dX13_ways_144 ?_
    refine aw_iload (pc := 145) hX 4 rfl dX13_ways_145 ?_
    refine aw_iadd (pc := 147) hX dX13_ways_147 ?_
    refine aw_aI (pc := 148) hX hy dX13_ways_148 (fun x14 hy => ?_)
    refine aw_aloadn (pc := 149) hX 2 rfl dX13_ways_149 ?_
    refine aw_gR (pc := 150) hX hy fl_X13_27 (fun _ _ => rfl) dX13_ways_150 (fun r15 hy => ?_)
    refine aw_bipush (pc := 153) hX 7 (by decide) dX13_ways_153 ?_
    refine aw_iload (pc := 155) hX 4 rfl dX13_ways_155 ?_
    refine aw_imul (pc := 157) hX dX13_ways_157 ?_
    refine aw_iload (pc := 158) hX 0 rfl dX13_ways_158 ?_
    refine aw_iadd (pc := 160) hX dX13_ways_160 ?_
    refine aw_aI (pc := 161) hX hy dX13_ways_161 (fun x16 hy => ?_)
    refine aw_iadd (pc := 162) hX dX13_ways_162 ?_
    refine aw_istore (pc := 163) hX [(9, vI (x14 + x16)), (8, vI x12), (7, vI x11), (0, vR v0), (4, vI v4), (5, vI v5), (6, vI v6)] rfl (lt_n hN (by decide)) dX13_ways_163 ?_
    refine aw_iload (pc := 165) hX 0 rfl dX13_ways_165 ?_
    refine aw_aloadn (pc := 167) hX 3 rfl dX13_ways_167 ?_
    refine aw_gR (pc := 168) hX hy fl_X13_27 (fun _ _ => rfl) dX13_ways_168 (fun r17 hy => ?_)
    refine aw_bipush (pc := 171) hX 7 (by decide) dX13_ways_171 ?_
    refine aw_iload (pc := 173) hX 2 rfl dX13_ways_173 ?_
    refine aw_imul (pc := 175) hX dX13_ways_175 ?_
    refine aw_iload (pc := 176) hX 1 rfl dX13_ways_176 ?_
    refine aw_iadd (pc := 178) hX dX13_ways_178 ?_
    refine aw_aI (pc := 179) hX hy dX13_ways_179 (fun x18 hy => ?_)
    refine aw_ic_ge (pc := 180) hX 198 (by decide) dX13_ways_180 (fun hc9 => ?_) (fun hc9 => ?_)
    · have hy := hy.t hc9
      refine AW.sub [3, 4, 5, 6] rfl ?_
      exact w_X13_ways_198 hX hN hr _ _ _ hc he0 h v6 hy
    · have hy := hy.f hc9
      refine aw_aloadn (pc := 183) hX 3 rfl dX13_ways_183 ?_
      refine aw_gR (pc := 184) hX hy fl_X13_27 (fun _ _ => rfl) dX13_ways_184 (fun r19 hy => ?_)
      refine aw_bipush (pc := 187) hX 7 (by decide) dX13_ways_187 ?_
      refine aw_iload (pc := 189) hX 2 rfl dX13_ways_189 ?_
      refine aw_imul (pc := 191) hX dX13_ways_191 ?_
      refine aw_iload (pc := 192) hX 1 rfl dX13_ways_192 ?_
      refine aw_iadd (pc := 194) hX dX13_ways_194 ?_
      refine aw_iload (pc := 195) hX 0 rfl dX13_ways_195 ?_
      refine aw_sI (pc := 197) hX hy dX13_ways_197 (fun h20 hy => ?_)
      refine AW.sub [3, 4, 5, 6] rfl ?_
      exact w_X13_ways_198 hX hN hr _ _ _ hc he0 h20 v6 hy
theorem wl_X13_ways_112 {G : GE} {X : CX} {l : Launch} (hX : Ok G X cX13_ways RX13) (hN : xn X = 10) {P0 : Mem → Prop} (hr : Rt G X l yX13_ways none rm_X13_ways (pmV P0)) (v0 : Nat) (v4 : Int32) (v5 : Int32) {P : (Mem) → Prop} (he0 : ∀ e, P e → AW G X 204 [(0, vR v0), (4, vI v4), (5, vI v5)] [] e 0 0) : ∀ (n : Nat) (s : Int32 × Mem), OK (iter (fun (s : Int32 × Mem) => b_X13_ways_112 s.2 v0 v4 v5 s.1) n s) P → AW G X 112 [(0, vR v0), (4, vI v4), (5, vI v5), (6, vI s.1)] [] s.2 0 0 := by
  intro n
  induction n with
  | zero => exact fun s hy => hy.it0.elim
  | succ n ih =>
    intro s hy
    exact wb_X13_ways_112 hX hN hr v0 v4 v5 (fun s hs => ih s hs) (fun e hs => he0 e hs) s.2 s.1 hy.it
def b_X13_ways_102 (h : Mem) (v0 : Nat) (v4 : Int32) (v5 : Int32) : Option ((Int32 × Mem) ⊕ Mem) :=
  (if v4 ≤ v5 then some (.inr h) else (iter (fun (s : Int32 × Mem) => b_X13_ways_112 s.2 v0 v4 v5 s.1) FU (0, h)).bind (fun q21 => some (.inl ((v5 + 1), q21))))
set_option maxRecDepth 100000 in
set_option maxHeartbeats 4000000 in
theorem wb_X13_ways_102 {G : GE} {X : CX} {l : Launch} (hX : Ok G X cX13_ways RX13) (hN : xn X = 10) {P0 : Mem → Prop} (hr : Rt G X l yX13_ways none rm_X13_ways (pmV P0))  (v0 : Nat) (v4 : Int32) {P : ((Int32 × Mem) ⊕ Mem) → Prop} (hc : ∀ s, P (.inl s) → AW G X 102 [(0, vR v0), (4, vI v4), (5, vI s.1)] [] s.2 0 0) (he0 : ∀ e, P (.inr e) → AW G X 210 [] [] e 0 0) (h : Mem) (v5 : Int32) (hy : OK (b_X13_ways_102 h v0 v4 v5) P) : AW G X 102 [(0, vR v0), (4, vI v4), (5, vI v5)] [] h 0 0 := by
  unfold b_X13_ways_102 at hy
  refine aw_iload (pc := 102) hX 2 rfl dX13_ways_102 ?_
  refine aw_iload (pc := 104) hX 1 rfl dX13_ways_104 ?_
  refine aw_ic_ge (pc := 106) hX 210 (by decide) dX13_ways_106 (fun hc9 => ?_) (fun hc9 => ?_)
  · have hy := hy.t hc9
    refine AW.sub [] rfl ?_
    exact he0 h hy.s
  · have hy := hy.f hc9
    refine aw_iconst (pc := 109) hX 0 (by decide) dX13_ways_109 ?_
    refine aw_istore (pc := 110) hX [(6, vI 0), (0, vR v0), (4, vI v4), (5, vI v5)] rfl (lt_n hN (by decide)) dX13_ways_110 ?_
    refine AW.sub [1, 2, 3, 0] rfl ?_
    refine wl_X13_ways_112 hX hN hr v0 v4 v5 ?_ FU (0, h) hy.bd
    · intro q21 hy
      refine aw_iinc (pc := 204) hX 1 (by decide) 2 rfl [(5, vI (v5 + 1)), (0, vR v0), (4, vI v4)] rfl (lt_n hN (by decide)) dX13_ways_204 ?_
      refine aw_goto (pc := 207) hX 102 (by decide) dX13_ways_207 ?_
      refine AW.sub [1, 2, 0] rfl ?_
      exact hc ((v5 + 1), q21) hy.s
theorem wl_X13_ways_102 {G : GE} {X : CX} {l : Launch} (hX : Ok G X cX13_ways RX13) (hN : xn X = 10) {P0 : Mem → Prop} (hr : Rt G X l yX13_ways none rm_X13_ways (pmV P0)) (v0 : Nat) (v4 : Int32) {P : (Mem) → Prop} (he0 : ∀ e, P e → AW G X 210 [] [] e 0 0) : ∀ (n : Nat) (s : Int32 × Mem), OK (iter (fun (s : Int32 × Mem) => b_X13_ways_102 s.2 v0 v4 s.1) n s) P → AW G X 102 [(0, vR v0), (4, vI v4), (5, vI s.1)] [] s.2 0 0 := by
  intro n
  induction n with
  | zero => exact fun s hy => hy.it0.elim
  | succ n ih =>
    intro s hy
    exact wb_X13_ways_102 hX hN hr v0 v4 (fun s hs => ih s hs) (fun e hs => he0 e hs) s.2 s.1 hy.it
def f_X13_ways (h : Mem) (v0 : Nat) (v1 : Int32) (v2 : Int32) (v3 : Int32) : Option Mem :=
  (ck h v0 11).bind fun _ => (gR h v0 3 11).bind fun r1 => (gI h r1 2 10).bind fun x2 => (iter (fun (s : Int32 × Mem) => b_X13_ways_12 s.2 v0 v1 v2 v3 x2 s.1) FU (0, h)).bind (fun q10 => (iter (fun (s : Int32 × Mem) => b_X13_ways_102 s.2 v0 x2 s.1) FU (0, q10)).bind (fun q22 => some q22))
set_option maxRecDepth 100000 in
set_option maxHeartbeats 4000000 in
theorem w_X13_ways {G : GE} {X : CX} {l : Launch} (hX : Ok G X cX13_ways RX13) (hN : xn X = 10) {P : Mem → Prop} (hr : Rt G X l yX13_ways none rm_X13_ways (pmV P)) (h : Mem) (v0 : Nat) (v1 : Int32) (v2 : Int32) (v3 : Int32) (hy : OK (f_X13_ways h v0 v1 v2 v3) P) : AW G X 0 [(0, vR v0), (1, vI v1), (2, vI v2), (3, vI v3)] [] h 0 0 := by
  unfold f_X13_ways at hy
  have hkd := hy.kd
  have hy := hy.kb
  refine aw_aloadn (pc := 0) hX 0 rfl dX13_ways_0 ?_
  refine aw_gR (pc := 1) hX hy fl_X13_338 (fun _ _ => rfl) dX13_ways_1 (fun r1 hy => ?_)
  refine aw_gI (pc := 4) hX hy fl_X13_197 (fun _ _ => rfl) dX13_ways_4 (fun x2 hy => ?_)
  refine aw_istore (pc := 7) hX [(4, vI x2), (0, vR v0), (1, vI v1), (2, vI v2), (3, vI v3)] rfl (lt_n hN (by decide)) dX13_ways_7 ?_
  refine aw_iconst (pc := 9) hX 0 (by decide) dX13_ways_9 ?_
  refine aw_istore (pc := 10) hX [(5, vI 0), (4, vI x2), (0, vR v0), (1, vI v1), (2, vI v2), (3, vI v3)] rfl (lt_n hN (by decide)) dX13_ways_10 ?_
  refine AW.sub [2, 3, 4, 5, 1, 0] rfl ?_
  refine wl_X13_ways_12 hX hN hr v0 v1 v2 v3 x2 ?_ FU (0, h) hy.bd
  · intro q10 hy
    refine aw_iconst (pc := 99) hX 0 (by decide) dX13_ways_99 ?_
    refine aw_istore (pc := 100) hX [(5, vI 0), (0, vR v0), (4, vI x2)] rfl (lt_n hN (by decide)) dX13_ways_100 ?_
    refine AW.sub [1, 2, 0] rfl ?_
    refine wl_X13_ways_102 hX hN hr v0 x2 ?_ FU (0, q10) hy.bd
    · intro q22 hy
      exact aw_vret (pc := 210) hX hr (by decide) (by decide) dX13_ways_210 ⟨rfl, hy.s⟩
theorem con_X13_ways (l : Launch) (G : GE) (h : Mem) (v0 : Nat) (v1 : Int32) (v2 : Int32) (v3 : Int32) {P : Mem → Prop} (hy : OK (f_X13_ways h v0 v1 v2 v3) P) : Con l G yX13_ways cX13_ways 10 none rm_X13_ways [vR v0, vI v1, vI v2, vI v3] h (pmV P) := Con.of (by decide) (Nat.le_of_ble_eq_true rfl) (fun X hX hr hN => w_X13_ways hX hN hr h v0 v1 v2 v3 hy)
/-! X13_waysOf -/
theorem dX13_waysOf_0 : decode cX13_waysOf 0 = .ok (.aload_n 0, 1) := by decide +kernel
theorem dX13_waysOf_1 : decode cX13_waysOf 1 = .ok (.aload_n 0, 1) := by decide +kernel
theorem dX13_waysOf_2 : decode cX13_waysOf 2 = .ok (.getfield 17, 3) := by decide +kernel
theorem dX13_waysOf_5 : decode cX13_waysOf 5 = .ok (.bipush 8, 2) := by decide +kernel
theorem dX13_waysOf_7 : decode cX13_waysOf 7 = .ok (.iload_n 1, 1) := by decide +kernel
theorem dX13_waysOf_8 : decode cX13_waysOf 8 = .ok (.iadd, 1) := by decide +kernel
theorem dX13_waysOf_9 : decode cX13_waysOf 9 = .ok (.iaload, 1) := by decide +kernel
theorem dX13_waysOf_10 : decode cX13_waysOf 10 = .ok (.aload_n 0, 1) := by decide +kernel
theorem dX13_waysOf_11 : decode cX13_waysOf 11 = .ok (.getfield 17, 3) := by decide +kernel
theorem dX13_waysOf_14 : decode cX13_waysOf 14 = .ok (.bipush 12, 2) := by decide +kernel
theorem dX13_waysOf_16 : decode cX13_waysOf 16 = .ok (.iload_n 1, 1) := by decide +kernel
theorem dX13_waysOf_17 : decode cX13_waysOf 17 = .ok (.iadd, 1) := by decide +kernel
theorem dX13_waysOf_18 : decode cX13_waysOf 18 = .ok (.iaload, 1) := by decide +kernel
theorem dX13_waysOf_19 : decode cX13_waysOf 19 = .ok (.aload_n 0, 1) := by decide +kernel
theorem dX13_waysOf_20 : decode cX13_waysOf 20 = .ok (.invokevirtual 367, 3) := by decide +kernel
theorem dX13_waysOf_23 : decode cX13_waysOf 23 = .ok (.invokevirtual 387, 3) := by decide +kernel
theorem dX13_waysOf_26 : decode cX13_waysOf 26 = .ok (.return_, 1) := by decide +kernel
abbrev rm_X13_waysOf : Room := { frames := 5, cells := 0, slots := 0, locals := 131 }
def f_X13_waysOf (h : Mem) (v0 : Nat) (v1 : Int32) : Option Mem :=
  (ck h v0 11).bind fun _ => (gR h v0 16 11).bind fun r1 => (aI h r1 (8 + v1)).bind fun x2 => (gR h v0 16 11).bind fun r3 => (aI h r3 (12 + v1)).bind fun x4 => (f_X13_rains h v0).bind fun x5 => (f_X13_ways h v0 x2 x4 x5).bind fun h6 => some h6
set_option maxRecDepth 100000 in
set_option maxHeartbeats 4000000 in
theorem w_X13_waysOf {G : GE} {X : CX} {l : Launch} (hX : Ok G X cX13_waysOf RX13) (hN : xn X = 2) {P : Mem → Prop} (hr : Rt G X l yX13_waysOf none rm_X13_waysOf (pmV P)) (h : Mem) (v0 : Nat) (v1 : Int32) (hy : OK (f_X13_waysOf h v0 v1) P) : AW G X 0 [(0, vR v0), (1, vI v1)] [] h 0 0 := by
  unfold f_X13_waysOf at hy
  have hkd := hy.kd
  have hy := hy.kb
  refine aw_aloadn (pc := 0) hX 0 rfl dX13_waysOf_0 ?_
  refine aw_aloadn (pc := 1) hX 0 rfl dX13_waysOf_1 ?_
  refine aw_gR (pc := 2) hX hy fl_X13_17 (fun _ _ => rfl) dX13_waysOf_2 (fun r1 hy => ?_)
  refine aw_bipush (pc := 5) hX 8 (by decide) dX13_waysOf_5 ?_
  refine aw_iloadn (pc := 7) hX 1 rfl dX13_waysOf_7 ?_
  refine aw_iadd (pc := 8) hX dX13_waysOf_8 ?_
  refine aw_aI (pc := 9) hX hy dX13_waysOf_9 (fun x2 hy => ?_)
  refine aw_aloadn (pc := 10) hX 0 rfl dX13_waysOf_10 ?_
  refine aw_gR (pc := 11) hX hy fl_X13_17 (fun _ _ => rfl) dX13_waysOf_11 (fun r3 hy => ?_)
  refine aw_bipush (pc := 14) hX 12 (by decide) dX13_waysOf_14 ?_
  refine aw_iloadn (pc := 16) hX 1 rfl dX13_waysOf_16 ?_
  refine aw_iadd (pc := 17) hX dX13_waysOf_17 ?_
  refine aw_aI (pc := 18) hX hy dX13_waysOf_18 (fun x4 hy => ?_)
  refine aw_aloadn (pc := 19) hX 0 rfl dX13_waysOf_19 ?_
  refine aw_callV (pc := 20) (st := [vI x4, vI x2, vR v0]) (a := v0) hX [] (con_X13_rains _ G _ v0 hy.bd) mc_X13_rains ml_X13_367 im_X13_rains se_X13_rains (by decide) hy.bd.kd rfl (rm_of hr (by decide)) (Nat.le_of_ble_eq_true rfl) rfl dX13_waysOf_20 (kpI rfl rfl (fun x5 hy => ?_))
  refine aw_callV (pc := 23) (st := []) (a := v0) hX [vI x2, vI x4, vI x5] (con_X13_ways _ G _ v0 x2 x4 x5 hy.bd) mc_X13_ways ml_X13_387 im_X13_ways se_X13_ways (by decide) hy.bd.kd rfl (rm_of hr (by decide)) (Nat.le_of_ble_eq_true rfl) rfl dX13_waysOf_23 (kmV rfl rfl (fun h6 hy => ?_))
  exact aw_vret (pc := 26) hX hr (by decide) (by decide) dX13_waysOf_26 ⟨rfl, hy.s⟩
theorem con_X13_waysOf (l : Launch) (G : GE) (h : Mem) (v0 : Nat) (v1 : Int32) {P : Mem → Prop} (hy : OK (f_X13_waysOf h v0 v1) P) : Con l G yX13_waysOf cX13_waysOf 2 none rm_X13_waysOf [vR v0, vI v1] h (pmV P) := Con.of (by decide) (Nat.le_of_ble_eq_true rfl) (fun X hX hr hN => w_X13_waysOf hX hN hr h v0 v1 hy)
/-! X13_farTo -/
theorem dX13_farTo_0 : decode cX13_farTo 0 = .ok (.aload_n 0, 1) := by decide +kernel
theorem dX13_farTo_1 : decode cX13_farTo 1 = .ok (.getfield 27, 3) := by decide +kernel
theorem dX13_farTo_4 : decode cX13_farTo 4 = .ok (.bipush 7, 2) := by decide +kernel
theorem dX13_farTo_6 : decode cX13_farTo 6 = .ok (.aload_n 0, 1) := by decide +kernel
theorem dX13_farTo_7 : decode cX13_farTo 7 = .ok (.getfield 17, 3) := by decide +kernel
theorem dX13_farTo_10 : decode cX13_farTo 10 = .ok (.iconst 0, 1) := by decide +kernel
theorem dX13_farTo_11 : decode cX13_farTo 11 = .ok (.iload_n 1, 1) := by decide +kernel
theorem dX13_farTo_12 : decode cX13_farTo 12 = .ok (.iadd, 1) := by decide +kernel
theorem dX13_farTo_13 : decode cX13_farTo 13 = .ok (.iaload, 1) := by decide +kernel
theorem dX13_farTo_14 : decode cX13_farTo 14 = .ok (.imul, 1) := by decide +kernel
theorem dX13_farTo_15 : decode cX13_farTo 15 = .ok (.iload_n 2, 1) := by decide +kernel
theorem dX13_farTo_16 : decode cX13_farTo 16 = .ok (.iadd, 1) := by decide +kernel
theorem dX13_farTo_17 : decode cX13_farTo 17 = .ok (.iaload, 1) := by decide +kernel
theorem dX13_farTo_18 : decode cX13_farTo 18 = .ok (.ireturn, 1) := by decide +kernel
abbrev rm_X13_farTo : Room := { frames := 0, cells := 0, slots := 0, locals := 0 }
def f_X13_farTo (h : Mem) (v0 : Nat) (v1 : Int32) (v2 : Int32) : Option Int32 :=
  (ck h v0 11).bind fun _ => (gR h v0 21 11).bind fun r1 => (gR h v0 16 11).bind fun r2 => (aI h r2 (0 + v1)).bind fun x3 => (aI h r1 ((7 * x3) + v2)).bind fun x4 => some x4
set_option maxRecDepth 100000 in
set_option maxHeartbeats 4000000 in
theorem w_X13_farTo {G : GE} {X : CX} {l : Launch} (hX : Ok G X cX13_farTo RX13) (hN : xn X = 3) (h : Mem) {P : Int32 → Prop} (hr : Rt G X l yX13_farTo (some .int) rm_X13_farTo (ppI h P)) (v0 : Nat) (v1 : Int32) (v2 : Int32) (hy : OK (f_X13_farTo h v0 v1 v2) P) : AW G X 0 [(0, vR v0), (1, vI v1), (2, vI v2)] [] h 0 0 := by
  unfold f_X13_farTo at hy
  have hkd := hy.kd
  have hy := hy.kb
  refine aw_aloadn (pc := 0) hX 0 rfl dX13_farTo_0 ?_
  refine aw_gR (pc := 1) hX hy fl_X13_27 (fun _ _ => rfl) dX13_farTo_1 (fun r1 hy => ?_)
  refine aw_bipush (pc := 4) hX 7 (by decide) dX13_farTo_4 ?_
  refine aw_aloadn (pc := 6) hX 0 rfl dX13_farTo_6 ?_
  refine aw_gR (pc := 7) hX hy fl_X13_17 (fun _ _ => rfl) dX13_farTo_7 (fun r2 hy => ?_)
  refine aw_iconst (pc := 10) hX 0 (by decide) dX13_farTo_10 ?_
  refine aw_iloadn (pc := 11) hX 1 rfl dX13_farTo_11 ?_
  refine aw_iadd (pc := 12) hX dX13_farTo_12 ?_
  refine aw_aI (pc := 13) hX hy dX13_farTo_13 (fun x3 hy => ?_)
  refine aw_imul (pc := 14) hX dX13_farTo_14 ?_
  refine aw_iloadn (pc := 15) hX 2 rfl dX13_farTo_15 ?_
  refine aw_iadd (pc := 16) hX dX13_farTo_16 ?_
  refine aw_aI (pc := 17) hX hy dX13_farTo_17 (fun x4 hy => ?_)
  exact aw_iret (pc := 18) hX hr (by decide) (by decide) dX13_farTo_18 ⟨rfl, _, rfl, hy.s⟩
theorem con_X13_farTo (l : Launch) (G : GE) (h : Mem) (v0 : Nat) (v1 : Int32) (v2 : Int32) {P : Int32 → Prop} (hy : OK (f_X13_farTo h v0 v1 v2) P) : Con l G yX13_farTo cX13_farTo 3 (some .int) rm_X13_farTo [vR v0, vI v1, vI v2] h (ppI h P) := Con.of (by decide) (Nat.le_of_ble_eq_true rfl) (fun X hX hr hN => w_X13_farTo hX hN h hr v0 v1 v2 hy)
/-! X13_reached -/
theorem dX13_reached_0 : decode cX13_reached 0 = .ok (.iconst 0, 1) := by decide +kernel
theorem dX13_reached_1 : decode cX13_reached 1 = .ok (.istore_n 2, 1) := by decide +kernel
theorem dX13_reached_2 : decode cX13_reached 2 = .ok (.iconst 0, 1) := by decide +kernel
theorem dX13_reached_3 : decode cX13_reached 3 = .ok (.istore_n 3, 1) := by decide +kernel
theorem dX13_reached_4 : decode cX13_reached 4 = .ok (.iload_n 3, 1) := by decide +kernel
theorem dX13_reached_5 : decode cX13_reached 5 = .ok (.aload_n 0, 1) := by decide +kernel
theorem dX13_reached_6 : decode cX13_reached 6 = .ok (.getfield 338, 3) := by decide +kernel
theorem dX13_reached_9 : decode cX13_reached 9 = .ok (.getfield 197, 3) := by decide +kernel
theorem dX13_reached_12 : decode cX13_reached 12 = .ok (.if_icmp .ge 31, 3) := by decide +kernel
theorem dX13_reached_15 : decode cX13_reached 15 = .ok (.iload_n 2, 1) := by decide +kernel
theorem dX13_reached_16 : decode cX13_reached 16 = .ok (.aload_n 0, 1) := by decide +kernel
theorem dX13_reached_17 : decode cX13_reached 17 = .ok (.iload_n 1, 1) := by decide +kernel
theorem dX13_reached_18 : decode cX13_reached 18 = .ok (.iload_n 3, 1) := by decide +kernel
theorem dX13_reached_19 : decode cX13_reached 19 = .ok (.invokevirtual 391, 3) := by decide +kernel
theorem dX13_reached_22 : decode cX13_reached 22 = .ok (.ldc_w 386, 3) := by decide +kernel
theorem dX13_reached_25 : decode cX13_reached 25 = .ok (.if_icmp .ge 9, 3) := by decide +kernel
theorem dX13_reached_28 : decode cX13_reached 28 = .ok (.iconst 1, 1) := by decide +kernel
theorem dX13_reached_29 : decode cX13_reached 29 = .ok (.iload_n 3, 1) := by decide +kernel
theorem dX13_reached_30 : decode cX13_reached 30 = .ok (.ishl, 1) := by decide +kernel
theorem dX13_reached_31 : decode cX13_reached 31 = .ok (.goto 4, 3) := by decide +kernel
theorem dX13_reached_34 : decode cX13_reached 34 = .ok (.iconst 0, 1) := by decide +kernel
theorem dX13_reached_35 : decode cX13_reached 35 = .ok (.ior, 1) := by decide +kernel
theorem dX13_reached_36 : decode cX13_reached 36 = .ok (.istore_n 2, 1) := by decide +kernel
theorem dX13_reached_37 : decode cX13_reached 37 = .ok (.iinc 3 1, 3) := by decide +kernel
theorem dX13_reached_40 : decode cX13_reached 40 = .ok (.goto (-36), 3) := by decide +kernel
theorem dX13_reached_43 : decode cX13_reached 43 = .ok (.iload_n 2, 1) := by decide +kernel
theorem dX13_reached_44 : decode cX13_reached 44 = .ok (.ireturn, 1) := by decide +kernel
abbrev rm_X13_reached : Room := { frames := 1, cells := 0, slots := 0, locals := 22 }
def f_X13_reached_35 (h : Mem) (v0 : Nat) (v1 : Int32) (v3 : Int32) (s0 : Int32) (s1 : Int32) : Option ((Int32 × Int32) ⊕ Int32) :=
  some (.inl ((s0 ||| s1), (v3 + 1)))
set_option maxRecDepth 100000 in
set_option maxHeartbeats 4000000 in
theorem w_X13_reached_35 {G : GE} {X : CX} {l : Launch} (hX : Ok G X cX13_reached RX13) (hN : xn X = 4) (h : Mem) {P0 : Int32 → Prop} (hr : Rt G X l yX13_reached (some .int) rm_X13_reached (ppI h P0))  (v0 : Nat) (v1 : Int32) {P : ((Int32 × Int32) ⊕ Int32) → Prop} (hc : ∀ s, P (.inl s) → AW G X 4 [(0, vR v0), (1, vI v1), (2, vI s.1), (3, vI s.2)] [] h 0 0) (he0 : ∀ e, P (.inr e) → AW G X 43 [(2, vI e)] [] h 0 0) (v3 : Int32) (s0 : Int32) (s1 : Int32) (hy : OK (f_X13_reached_35 h v0 v1 v3 s0 s1) P) : AW G X 35 [(0, vR v0), (1, vI v1), (3, vI v3)] [vI s1, vI s0] h 0 0 := by
  unfold f_X13_reached_35 at hy
  refine aw_ior (pc := 35) hX dX13_reached_35 ?_
  refine aw_istoren (pc := 36) hX [(2, vI (s0 ||| s1)), (0, vR v0), (1, vI v1), (3, vI v3)] rfl (lt_n hN (by decide)) dX13_reached_36 ?_
  refine aw_iinc (pc := 37) hX 1 (by decide) 3 rfl [(3, vI (v3 + 1)), (2, vI (s0 ||| s1)), (0, vR v0), (1, vI v1)] rfl (lt_n hN (by decide)) dX13_reached_37 ?_
  refine aw_goto (pc := 40) hX 4 (by decide) dX13_reached_40 ?_
  refine AW.sub [2, 3, 1, 0] rfl ?_
  exact hc ((s0 ||| s1), (v3 + 1)) hy.s
def b_X13_reached_4 (h : Mem) (v0 : Nat) (v1 : Int32) (v2 : Int32) (v3 : Int32) : Option ((Int32 × Int32) ⊕ Int32) :=
  (gR h v0 3 11).bind fun r1 => (gI h r1 2 10).bind fun x2 => (if x2 ≤ v3 then some (.inr v2) else (f_X13_farTo h v0 v1 v3).bind fun x3 => (if 99999 ≤ x3 then f_X13_reached_35 h v0 v1 v3 v2 0 else f_X13_reached_35 h v0 v1 v3 v2 ((1 : Int32) <<< (v3 &&& 31))))
set_option maxRecDepth 100000 in
set_option maxHeartbeats 4000000 in
theorem wb_X13_reached_4 {G : GE} {X : CX} {l : Launch} (hX : Ok G X cX13_reached RX13) (hN : xn X = 4) (h : Mem) {P0 : Int32 → Prop} (hr : Rt G X l yX13_reached (some .int) rm_X13_reached (ppI h P0))  (v0 : Nat) (v1 : Int32) {P : ((Int32 × Int32) ⊕ Int32) → Prop} (hc : ∀ s, P (.inl s) → AW G X 4 [(0, vR v0), (1, vI v1), (2, vI s.1), (3, vI s.2)] [] h 0 0) (he0 : ∀ e, P (.inr e) → AW G X 43 [(2, vI e)] [] h 0 0) (v2 : Int32) (v3 : Int32) (hy : OK (b_X13_reached_4 h v0 v1 v2 v3) P) : AW G X 4 [(0, vR v0), (1, vI v1), (2, vI v2), (3, vI v3)] [] h 0 0 := by
  unfold b_X13_reached_4 at hy
  refine aw_iloadn (pc := 4) hX 3 rfl dX13_reached_4 ?_
  refine aw_aloadn (pc := 5) hX 0 rfl dX13_reached_5 ?_
  refine aw_gR (pc := 6) hX hy fl_X13_338 (fun _ _ => rfl) dX13_reached_6 (fun r1 hy => ?_)
  refine aw_gI (pc := 9) hX hy fl_X13_197 (fun _ _ => rfl) dX13_reached_9 (fun x2 hy => ?_)
  refine aw_ic_ge (pc := 12) hX 43 (by decide) dX13_reached_12 (fun hc9 => ?_) (fun hc9 => ?_)
  · have hy := hy.t hc9
    refine AW.sub [2] rfl ?_
    exact he0 v2 hy.s
  · have hy := hy.f hc9
    refine aw_iloadn (pc := 15) hX 2 rfl dX13_reached_15 ?_
    refine aw_aloadn (pc := 16) hX 0 rfl dX13_reached_16 ?_
    refine aw_iloadn (pc := 17) hX 1 rfl dX13_reached_17 ?_
    refine aw_iloadn (pc := 18) hX 3 rfl dX13_reached_18 ?_
    refine aw_callV (pc := 19) (st := [vI v2]) (a := v0) hX [vI v1, vI v3] (con_X13_farTo _ G _ v0 v1 v3 hy.bd) mc_X13_farTo ml_X13_391 im_X13_farTo se_X13_farTo (by decide) hy.bd.kd rfl (rm_of hr (by decide)) (Nat.le_of_ble_eq_true rfl) rfl dX13_reached_19 (kpI rfl rfl (fun x3 hy => ?_))
    refine aw_ldcw (pc := 22) hX kc_X13_386 dX13_reached_22 ?_
    refine aw_ic_ge (pc := 25) hX 34 (by decide) dX13_reached_25 (fun hc9 => ?_) (fun hc9 => ?_)
    · have hy := hy.t hc9
      refine aw_iconst (pc := 34) hX 0 (by decide) dX13_reached_34 ?_
      refine AW.sub [0, 1, 3] rfl ?_
      exact w_X13_reached_35 hX hN _ hr _ _ hc he0 v3 v2 0 hy
    · have hy := hy.f hc9
      refine aw_iconst (pc := 28) hX 1 (by decide) dX13_reached_28 ?_
      refine aw_iloadn (pc := 29) hX 3 rfl dX13_reached_29 ?_
      refine aw_ishl (pc := 30) hX dX13_reached_30 ?_
      refine aw_goto (pc := 31) hX 35 (by decide) dX13_reached_31 ?_
      refine AW.sub [0, 1, 3] rfl ?_
      exact w_X13_reached_35 hX hN _ hr _ _ hc he0 v3 v2 ((1 : Int32) <<< (v3 &&& 31)) hy
theorem wl_X13_reached_4 {G : GE} {X : CX} {l : Launch} (hX : Ok G X cX13_reached RX13) (hN : xn X = 4) (h : Mem) {P0 : Int32 → Prop} (hr : Rt G X l yX13_reached (some .int) rm_X13_reached (ppI h P0)) (v0 : Nat) (v1 : Int32) {P : (Int32) → Prop} (he0 : ∀ e, P e → AW G X 43 [(2, vI e)] [] h 0 0) : ∀ (n : Nat) (s : Int32 × Int32), OK (iter (fun (s : Int32 × Int32) => b_X13_reached_4 h v0 v1 s.1 s.2) n s) P → AW G X 4 [(0, vR v0), (1, vI v1), (2, vI s.1), (3, vI s.2)] [] h 0 0 := by
  intro n
  induction n with
  | zero => exact fun s hy => hy.it0.elim
  | succ n ih =>
    intro s hy
    exact wb_X13_reached_4 hX hN h hr v0 v1 (fun s hs => ih s hs) (fun e hs => he0 e hs) s.1 s.2 hy.it
def f_X13_reached (h : Mem) (v0 : Nat) (v1 : Int32) : Option Int32 :=
  (ck h v0 11).bind fun _ => (iter (fun (s : Int32 × Int32) => b_X13_reached_4 h v0 v1 s.1 s.2) FU (0, 0)).bind (fun q4 => some q4)
set_option maxRecDepth 100000 in
set_option maxHeartbeats 4000000 in
theorem w_X13_reached {G : GE} {X : CX} {l : Launch} (hX : Ok G X cX13_reached RX13) (hN : xn X = 4) (h : Mem) {P : Int32 → Prop} (hr : Rt G X l yX13_reached (some .int) rm_X13_reached (ppI h P)) (v0 : Nat) (v1 : Int32) (hy : OK (f_X13_reached h v0 v1) P) : AW G X 0 [(0, vR v0), (1, vI v1)] [] h 0 0 := by
  unfold f_X13_reached at hy
  have hkd := hy.kd
  have hy := hy.kb
  refine aw_iconst (pc := 0) hX 0 (by decide) dX13_reached_0 ?_
  refine aw_istoren (pc := 1) hX [(2, vI 0), (0, vR v0), (1, vI v1)] rfl (lt_n hN (by decide)) dX13_reached_1 ?_
  refine aw_iconst (pc := 2) hX 0 (by decide) dX13_reached_2 ?_
  refine aw_istoren (pc := 3) hX [(3, vI 0), (2, vI 0), (0, vR v0), (1, vI v1)] rfl (lt_n hN (by decide)) dX13_reached_3 ?_
  refine AW.sub [2, 3, 1, 0] rfl ?_
  refine wl_X13_reached_4 hX hN _ hr v0 v1 ?_ FU (0, 0) hy.bd
  · intro q4 hy
    refine aw_iloadn (pc := 43) hX 0 rfl dX13_reached_43 ?_
    exact aw_iret (pc := 44) hX hr (by decide) (by decide) dX13_reached_44 ⟨rfl, _, rfl, hy.s⟩
theorem con_X13_reached (l : Launch) (G : GE) (h : Mem) (v0 : Nat) (v1 : Int32) {P : Int32 → Prop} (hy : OK (f_X13_reached h v0 v1) P) : Con l G yX13_reached cX13_reached 4 (some .int) rm_X13_reached [vR v0, vI v1] h (ppI h P) := Con.of (by decide) (Nat.le_of_ble_eq_true rfl) (fun X hX hr hN => w_X13_reached hX hN h hr v0 v1 hy)
/-! X13_way -/
theorem dX13_way_0 : decode cX13_way 0 = .ok (.aload_n 0, 1) := by decide +kernel
theorem dX13_way_1 : decode cX13_way 1 = .ok (.iconst 0, 1) := by decide +kernel
theorem dX13_way_2 : decode cX13_way 2 = .ok (.putfield 51, 3) := by decide +kernel
theorem dX13_way_5 : decode cX13_way 5 = .ok (.aload_n 0, 1) := by decide +kernel
theorem dX13_way_6 : decode cX13_way 6 = .ok (.iload_n 1, 1) := by decide +kernel
theorem dX13_way_7 : decode cX13_way 7 = .ok (.invokevirtual 373, 3) := by decide +kernel
theorem dX13_way_10 : decode cX13_way 10 = .ok (.ifCond .eq 11, 3) := by decide +kernel
theorem dX13_way_13 : decode cX13_way 13 = .ok (.aload_n 0, 1) := by decide +kernel
theorem dX13_way_14 : decode cX13_way 14 = .ok (.iload_n 2, 1) := by decide +kernel
theorem dX13_way_15 : decode cX13_way 15 = .ok (.invokevirtual 347, 3) := by decide +kernel
theorem dX13_way_18 : decode cX13_way 18 = .ok (.ifCond .ne 9, 3) := by decide +kernel
theorem dX13_way_21 : decode cX13_way 21 = .ok (.aload_n 0, 1) := by decide +kernel
theorem dX13_way_22 : decode cX13_way 22 = .ok (.iconst 1, 1) := by decide +kernel
theorem dX13_way_23 : decode cX13_way 23 = .ok (.invokevirtual 57, 3) := by decide +kernel
theorem dX13_way_26 : decode cX13_way 26 = .ok (.ireturn, 1) := by decide +kernel
theorem dX13_way_27 : decode cX13_way 27 = .ok (.aload_n 0, 1) := by decide +kernel
theorem dX13_way_28 : decode cX13_way 28 = .ok (.iload_n 1, 1) := by decide +kernel
theorem dX13_way_29 : decode cX13_way 29 = .ok (.invokevirtual 394, 3) := by decide +kernel
theorem dX13_way_32 : decode cX13_way 32 = .ok (.aload_n 0, 1) := by decide +kernel
theorem dX13_way_33 : decode cX13_way 33 = .ok (.aload_n 0, 1) := by decide +kernel
theorem dX13_way_34 : decode cX13_way 34 = .ok (.iload_n 1, 1) := by decide +kernel
theorem dX13_way_35 : decode cX13_way 35 = .ok (.iload_n 2, 1) := by decide +kernel
theorem dX13_way_36 : decode cX13_way 36 = .ok (.invokevirtual 391, 3) := by decide +kernel
theorem dX13_way_39 : decode cX13_way 39 = .ok (.ldc_w 386, 3) := by decide +kernel
theorem dX13_way_42 : decode cX13_way 42 = .ok (.if_icmp .ge 12, 3) := by decide +kernel
theorem dX13_way_45 : decode cX13_way 45 = .ok (.aload_n 0, 1) := by decide +kernel
theorem dX13_way_46 : decode cX13_way 46 = .ok (.iload_n 1, 1) := by decide +kernel
theorem dX13_way_47 : decode cX13_way 47 = .ok (.iload_n 2, 1) := by decide +kernel
theorem dX13_way_48 : decode cX13_way 48 = .ok (.invokevirtual 391, 3) := by decide +kernel
theorem dX13_way_51 : decode cX13_way 51 = .ok (.goto 5, 3) := by decide +kernel
theorem dX13_way_54 : decode cX13_way 54 = .ok (.bipush (-2), 2) := by decide +kernel
theorem dX13_way_56 : decode cX13_way 56 = .ok (.invokevirtual 61, 3) := by decide +kernel
theorem dX13_way_59 : decode cX13_way 59 = .ok (.ireturn, 1) := by decide +kernel
abbrev rm_X13_way : Room := { frames := 6, cells := 0, slots := 0, locals := 152 }
def f_X13_way_21 (h : Mem) (v0 : Nat) : Option (Int32 × Mem) :=
  (f_X13_refused h v0 1).bind fun q5 => some (q5.1, q5.2)
set_option maxRecDepth 100000 in
set_option maxHeartbeats 4000000 in
theorem w_X13_way_21 {G : GE} {X : CX} {l : Launch} (hX : Ok G X cX13_way RX13) (hN : xn X = 3) {P : (Int32 × Mem) → Prop} (hr : Rt G X l yX13_way (some .int) rm_X13_way (pmI P)) (h : Mem) (v0 : Nat) (hy : OK (f_X13_way_21 h v0) P) : AW G X 21 [(0, vR v0)] [] h 0 0 := by
  unfold f_X13_way_21 at hy
  refine aw_aloadn (pc := 21) hX 0 rfl dX13_way_21 ?_
  refine aw_iconst (pc := 22) hX 1 (by decide) dX13_way_22 ?_
  refine aw_callV (pc := 23) (st := []) (a := v0) hX [vI 1] (con_X13_refused _ G _ v0 1 hy.bd) mc_X13_refused ml_X13_57 im_X13_refused se_X13_refused (by decide) hy.bd.kd rfl (rm_of hr (by decide)) (Nat.le_of_ble_eq_true rfl) rfl dX13_way_23 (kmI rfl rfl (fun q5 hy => ?_))
  exact aw_iret (pc := 26) hX hr (by decide) (by decide) dX13_way_26 ⟨_, rfl, hy.s⟩
def f_X13_way_56 (h : Mem) (s0 : Nat) (s1 : Int32) : Option (Int32 × Mem) :=
  (f_X13_good h s0 s1).bind fun q11 => some (q11.1, q11.2)
set_option maxRecDepth 100000 in
set_option maxHeartbeats 4000000 in
theorem w_X13_way_56 {G : GE} {X : CX} {l : Launch} (hX : Ok G X cX13_way RX13) (hN : xn X = 3) {P : (Int32 × Mem) → Prop} (hr : Rt G X l yX13_way (some .int) rm_X13_way (pmI P)) (h : Mem) (s0 : Nat) (s1 : Int32) (hy : OK (f_X13_way_56 h s0 s1) P) : AW G X 56 [] [vI s1, vR s0] h 0 0 := by
  unfold f_X13_way_56 at hy
  refine aw_callV (pc := 56) (st := []) (a := s0) hX [vI s1] (con_X13_good _ G _ s0 s1 hy.bd) mc_X13_good ml_X13_61 im_X13_good se_X13_good (by decide) hy.bd.kd rfl (rm_of hr (by decide)) (Nat.le_of_ble_eq_true rfl) rfl dX13_way_56 (kmI rfl rfl (fun q11 hy => ?_))
  exact aw_iret (pc := 59) hX hr (by decide) (by decide) dX13_way_59 ⟨_, rfl, hy.s⟩
def f_X13_way (h : Mem) (v0 : Nat) (v1 : Int32) (v2 : Int32) : Option (Int32 × Mem) :=
  (ck h v0 11).bind fun _ => (pI h v0 0 11 0).bind fun h1 => (f_X13_isPerson h1 v0 v1).bind fun x2 => (if x2 = 0 then f_X13_way_21 h1 v0 else (f_X13_isPlace h1 v0 v2).bind fun x6 => (if x6 = 0 then f_X13_way_21 h1 v0 else (f_X13_waysOf h1 v0 v1).bind fun h7 => (f_X13_farTo h7 v0 v1 v2).bind fun x8 => (if 99999 ≤ x8 then f_X13_way_56 h7 v0 (-2) else (f_X13_farTo h7 v0 v1 v2).bind fun x12 => f_X13_way_56 h7 v0 x12)))
set_option maxRecDepth 100000 in
set_option maxHeartbeats 4000000 in
theorem w_X13_way {G : GE} {X : CX} {l : Launch} (hX : Ok G X cX13_way RX13) (hN : xn X = 3) {P : (Int32 × Mem) → Prop} (hr : Rt G X l yX13_way (some .int) rm_X13_way (pmI P)) (h : Mem) (v0 : Nat) (v1 : Int32) (v2 : Int32) (hy : OK (f_X13_way h v0 v1 v2) P) : AW G X 0 [(0, vR v0), (1, vI v1), (2, vI v2)] [] h 0 0 := by
  unfold f_X13_way at hy
  have hkd := hy.kd
  have hy := hy.kb
  refine aw_aloadn (pc := 0) hX 0 rfl dX13_way_0 ?_
  refine aw_iconst (pc := 1) hX 0 (by decide) dX13_way_1 ?_
  refine aw_pI (pc := 2) hX hy fl_X13_51 rfl (Or.inl rfl) dX13_way_2 (fun h1 hy => ?_)
  refine aw_aloadn (pc := 5) hX 0 rfl dX13_way_5 ?_
  refine aw_iloadn (pc := 6) hX 1 rfl dX13_way_6 ?_
  refine aw_callV (pc := 7) (st := []) (a := v0) hX [vI v1] (con_X13_isPerson _ G _ v0 v1 hy.bd) mc_X13_isPerson ml_X13_373 im_X13_isPerson se_X13_isPerson (by decide) hy.bd.kd rfl (rm_of hr (by decide)) (Nat.le_of_ble_eq_true rfl) rfl dX13_way_7 (kpI rfl rfl (fun x2 hy => ?_))
  refine aw_if_eq (pc := 10) hX 21 (by decide) dX13_way_10 (fun hc9 => ?_) (fun hc9 => ?_)
  · have hy := hy.t hc9
    refine AW.sub [0] rfl ?_
    exact w_X13_way_21 hX hN hr h1 v0 hy
  · have hy := hy.f hc9
    refine aw_aloadn (pc := 13) hX 0 rfl dX13_way_13 ?_
    refine aw_iloadn (pc := 14) hX 2 rfl dX13_way_14 ?_
    refine aw_callV (pc := 15) (st := []) (a := v0) hX [vI v2] (con_X13_isPlace _ G _ v0 v2 hy.bd) mc_X13_isPlace ml_X13_347 im_X13_isPlace se_X13_isPlace (by decide) hy.bd.kd rfl (rm_of hr (by decide)) (Nat.le_of_ble_eq_true rfl) rfl dX13_way_15 (kpI rfl rfl (fun x6 hy => ?_))
    refine aw_if_ne (pc := 18) hX 27 (by decide) dX13_way_18 (fun hc9 => ?_) (fun hc9 => ?_)
    · have hy := hy.f hc9
      refine aw_aloadn (pc := 27) hX 0 rfl dX13_way_27 ?_
      refine aw_iloadn (pc := 28) hX 1 rfl dX13_way_28 ?_
      refine aw_callV (pc := 29) (st := []) (a := v0) hX [vI v1] (con_X13_waysOf _ G _ v0 v1 hy.bd) mc_X13_waysOf ml_X13_394 im_X13_waysOf se_X13_waysOf (by decide) hy.bd.kd rfl (rm_of hr (by decide)) (Nat.le_of_ble_eq_true rfl) rfl dX13_way_29 (kmV rfl rfl (fun h7 hy => ?_))
      refine aw_aloadn (pc := 32) hX 0 rfl dX13_way_32 ?_
      refine aw_aloadn (pc := 33) hX 0 rfl dX13_way_33 ?_
      refine aw_iloadn (pc := 34) hX 1 rfl dX13_way_34 ?_
      refine aw_iloadn (pc := 35) hX 2 rfl dX13_way_35 ?_
      refine aw_callV (pc := 36) (st := [vR v0]) (a := v0) hX [vI v1, vI v2] (con_X13_farTo _ G _ v0 v1 v2 hy.bd) mc_X13_farTo ml_X13_391 im_X13_farTo se_X13_farTo (by decide) hy.bd.kd rfl (rm_of hr (by decide)) (Nat.le_of_ble_eq_true rfl) rfl dX13_way_36 (kpI rfl rfl (fun x8 hy => ?_))
      refine aw_ldcw (pc := 39) hX kc_X13_386 dX13_way_39 ?_
      refine aw_ic_ge (pc := 42) hX 54 (by decide) dX13_way_42 (fun hc9 => ?_) (fun hc9 => ?_)
      · have hy := hy.t hc9
        refine aw_bipush (pc := 54) hX (-2) (by decide) dX13_way_54 ?_
        refine AW.sub [] rfl ?_
        exact w_X13_way_56 hX hN hr h7 v0 (-2) hy
      · have hy := hy.f hc9
        refine aw_aloadn (pc := 45) hX 0 rfl dX13_way_45 ?_
        refine aw_iloadn (pc := 46) hX 1 rfl dX13_way_46 ?_
        refine aw_iloadn (pc := 47) hX 2 rfl dX13_way_47 ?_
        refine aw_callV (pc := 48) (st := [vR v0]) (a := v0) hX [vI v1, vI v2] (con_X13_farTo _ G _ v0 v1 v2 hy.bd) mc_X13_farTo ml_X13_391 im_X13_farTo se_X13_farTo (by decide) hy.bd.kd rfl (rm_of hr (by decide)) (Nat.le_of_ble_eq_true rfl) rfl dX13_way_48 (kpI rfl rfl (fun x12 hy => ?_))
        refine aw_goto (pc := 51) hX 56 (by decide) dX13_way_51 ?_
        refine AW.sub [] rfl ?_
        exact w_X13_way_56 hX hN hr h7 v0 x12 hy
    · have hy := hy.t hc9
      refine AW.sub [0] rfl ?_
      exact w_X13_way_21 hX hN hr h1 v0 hy
theorem con_X13_way (l : Launch) (G : GE) (h : Mem) (v0 : Nat) (v1 : Int32) (v2 : Int32) {P : (Int32 × Mem) → Prop} (hy : OK (f_X13_way h v0 v1 v2) P) : Con l G yX13_way cX13_way 3 (some .int) rm_X13_way [vR v0, vI v1, vI v2] h (pmI P) := Con.of (by decide) (Nat.le_of_ble_eq_true rfl) (fun X hX hr hN => w_X13_way hX hN hr h v0 v1 v2 hy)
/-! X13_wayAt -/
theorem dX13_wayAt_0 : decode cX13_wayAt 0 = .ok (.aload_n 0, 1) := by decide +kernel
theorem dX13_wayAt_1 : decode cX13_wayAt 1 = .ok (.iconst 0, 1) := by decide +kernel
theorem dX13_wayAt_2 : decode cX13_wayAt 2 = .ok (.putfield 51, 3) := by decide +kernel
theorem dX13_wayAt_5 : decode cX13_wayAt 5 = .ok (.aload_n 0, 1) := by decide +kernel
theorem dX13_wayAt_6 : decode cX13_wayAt 6 = .ok (.iload_n 1, 1) := by decide +kernel
theorem dX13_wayAt_7 : decode cX13_wayAt 7 = .ok (.invokevirtual 373, 3) := by decide +kernel
theorem dX13_wayAt_10 : decode cX13_wayAt 10 = .ok (.ifCond .eq 15, 3) := by decide +kernel
theorem dX13_wayAt_13 : decode cX13_wayAt 13 = .ok (.aload_n 0, 1) := by decide +kernel
theorem dX13_wayAt_14 : decode cX13_wayAt 14 = .ok (.iload_n 2, 1) := by decide +kernel
theorem dX13_wayAt_15 : decode cX13_wayAt 15 = .ok (.invokevirtual 347, 3) := by decide +kernel
theorem dX13_wayAt_18 : decode cX13_wayAt 18 = .ok (.ifCond .eq 7, 3) := by decide +kernel
theorem dX13_wayAt_21 : decode cX13_wayAt 21 = .ok (.iload_n 3, 1) := by decide +kernel
theorem dX13_wayAt_22 : decode cX13_wayAt 22 = .ok (.ifCond .ge 9, 3) := by decide +kernel
theorem dX13_wayAt_25 : decode cX13_wayAt 25 = .ok (.aload_n 0, 1) := by decide +kernel
theorem dX13_wayAt_26 : decode cX13_wayAt 26 = .ok (.iconst 1, 1) := by decide +kernel
theorem dX13_wayAt_27 : decode cX13_wayAt 27 = .ok (.invokevirtual 57, 3) := by decide +kernel
theorem dX13_wayAt_30 : decode cX13_wayAt 30 = .ok (.ireturn, 1) := by decide +kernel
theorem dX13_wayAt_31 : decode cX13_wayAt 31 = .ok (.aload_n 0, 1) := by decide +kernel
theorem dX13_wayAt_32 : decode cX13_wayAt 32 = .ok (.iload_n 1, 1) := by decide +kernel
theorem dX13_wayAt_33 : decode cX13_wayAt 33 = .ok (.invokevirtual 394, 3) := by decide +kernel
theorem dX13_wayAt_36 : decode cX13_wayAt 36 = .ok (.aload_n 0, 1) := by decide +kernel
theorem dX13_wayAt_37 : decode cX13_wayAt 37 = .ok (.iload_n 1, 1) := by decide +kernel
theorem dX13_wayAt_38 : decode cX13_wayAt 38 = .ok (.iload_n 2, 1) := by decide +kernel
theorem dX13_wayAt_39 : decode cX13_wayAt 39 = .ok (.invokevirtual 391, 3) := by decide +kernel
theorem dX13_wayAt_42 : decode cX13_wayAt 42 = .ok (.ldc_w 386, 3) := by decide +kernel
theorem dX13_wayAt_45 : decode cX13_wayAt 45 = .ok (.if_icmp .lt 9, 3) := by decide +kernel
theorem dX13_wayAt_48 : decode cX13_wayAt 48 = .ok (.aload_n 0, 1) := by decide +kernel
theorem dX13_wayAt_49 : decode cX13_wayAt 49 = .ok (.iconst 1, 1) := by decide +kernel
theorem dX13_wayAt_50 : decode cX13_wayAt 50 = .ok (.invokevirtual 57, 3) := by decide +kernel
theorem dX13_wayAt_53 : decode cX13_wayAt 53 = .ok (.ireturn, 1) := by decide +kernel
theorem dX13_wayAt_54 : decode cX13_wayAt 54 = .ok (.aload_n 0, 1) := by decide +kernel
theorem dX13_wayAt_55 : decode cX13_wayAt 55 = .ok (.getfield 17, 3) := by decide +kernel
theorem dX13_wayAt_58 : decode cX13_wayAt 58 = .ok (.iconst 0, 1) := by decide +kernel
theorem dX13_wayAt_59 : decode cX13_wayAt 59 = .ok (.iload_n 1, 1) := by decide +kernel
theorem dX13_wayAt_60 : decode cX13_wayAt 60 = .ok (.iadd, 1) := by decide +kernel
theorem dX13_wayAt_61 : decode cX13_wayAt 61 = .ok (.iaload, 1) := by decide +kernel
theorem dX13_wayAt_62 : decode cX13_wayAt 62 = .ok (.istore 4, 2) := by decide +kernel
theorem dX13_wayAt_64 : decode cX13_wayAt 64 = .ok (.iconst 0, 1) := by decide +kernel
theorem dX13_wayAt_65 : decode cX13_wayAt 65 = .ok (.istore 5, 2) := by decide +kernel
theorem dX13_wayAt_67 : decode cX13_wayAt 67 = .ok (.iload 5, 2) := by decide +kernel
theorem dX13_wayAt_69 : decode cX13_wayAt 69 = .ok (.iload_n 3, 1) := by decide +kernel
theorem dX13_wayAt_70 : decode cX13_wayAt 70 = .ok (.if_icmp .ge 116, 3) := by decide +kernel
theorem dX13_wayAt_73 : decode cX13_wayAt 73 = .ok (.iload 4, 2) := by decide +kernel
theorem dX13_wayAt_75 : decode cX13_wayAt 75 = .ok (.iload_n 2, 1) := by decide +kernel
theorem dX13_wayAt_76 : decode cX13_wayAt 76 = .ok (.if_icmp .ne 9, 3) := by decide +kernel
theorem dX13_wayAt_79 : decode cX13_wayAt 79 = .ok (.aload_n 0, 1) := by decide +kernel
theorem dX13_wayAt_80 : decode cX13_wayAt 80 = .ok (.iconst 1, 1) := by decide +kernel
theorem dX13_wayAt_81 : decode cX13_wayAt 81 = .ok (.invokevirtual 57, 3) := by decide +kernel
theorem dX13_wayAt_84 : decode cX13_wayAt 84 = .ok (.ireturn, 1) := by decide +kernel
theorem dX13_wayAt_85 : decode cX13_wayAt 85 = .ok (.iconst 0, 1) := by decide +kernel
theorem dX13_wayAt_86 : decode cX13_wayAt 86 = .ok (.istore 6, 2) := by decide +kernel
theorem dX13_wayAt_88 : decode cX13_wayAt 88 = .ok (.iload 6, 2) := by decide +kernel
theorem dX13_wayAt_90 : decode cX13_wayAt 90 = .ok (.iload 4, 2) := by decide +kernel
theorem dX13_wayAt_92 : decode cX13_wayAt 92 = .ok (.if_icmp .eq 78, 3) := by decide +kernel
theorem dX13_wayAt_95 : decode cX13_wayAt 95 = .ok (.aload_n 0, 1) := by decide +kernel
theorem dX13_wayAt_96 : decode cX13_wayAt 96 = .ok (.aload_n 0, 1) := by decide +kernel
theorem dX13_wayAt_97 : decode cX13_wayAt 97 = .ok (.getfield 17, 3) := by decide +kernel
theorem dX13_wayAt_100 : decode cX13_wayAt 100 = .ok (.bipush 8, 2) := by decide +kernel
theorem dX13_wayAt_102 : decode cX13_wayAt 102 = .ok (.iload_n 1, 1) := by decide +kernel
theorem dX13_wayAt_103 : decode cX13_wayAt 103 = .ok (.iadd, 1) := by decide +kernel
theorem dX13_wayAt_104 : decode cX13_wayAt 104 = .ok (.iaload, 1) := by decide +kernel
theorem dX13_wayAt_105 : decode cX13_wayAt 105 = .ok (.aload_n 0, 1) := by decide +kernel
theorem dX13_wayAt_106 : decode cX13_wayAt 106 = .ok (.getfield 17, 3) := by decide +kernel
theorem dX13_wayAt_109 : decode cX13_wayAt 109 = .ok (.bipush 12, 2) := by decide +kernel
theorem dX13_wayAt_111 : decode cX13_wayAt 111 = .ok (.iload_n 1, 1) := by decide +kernel
theorem dX13_wayAt_112 : decode cX13_wayAt 112 = .ok (.iadd, 1) := by decide +kernel
theorem dX13_wayAt_113 : decode cX13_wayAt 113 = .ok (.iaload, 1) := by decide +kernel
theorem dX13_wayAt_114 : decode cX13_wayAt 114 = .ok (.iload 4, 2) := by decide +kernel
theorem dX13_wayAt_116 : decode cX13_wayAt 116 = .ok (.iload 6, 2) := by decide +kernel
theorem dX13_wayAt_118 : decode cX13_wayAt 118 = .ok (.aload_n 0, 1) := by decide +kernel
theorem dX13_wayAt_119 : decode cX13_wayAt 119 = .ok (.invokevirtual 367, 3) := by decide +kernel
theorem dX13_wayAt_122 : decode cX13_wayAt 122 = .ok (.invokevirtual 379, 3) := by decide +kernel
theorem dX13_wayAt_125 : decode cX13_wayAt 125 = .ok (.ifCond .eq 45, 3) := by decide +kernel
theorem dX13_wayAt_128 : decode cX13_wayAt 128 = .ok (.iload 4, 2) := by decide +kernel
theorem dX13_wayAt_130 : decode cX13_wayAt 130 = .ok (.iload 6, 2) := by decide +kernel
theorem dX13_wayAt_132 : decode cX13_wayAt 132 = .ok (.aload_n 0, 1) := by decide +kernel
theorem dX13_wayAt_133 : decode cX13_wayAt 133 = .ok (.getfield 338, 3) := by decide +kernel
theorem dX13_wayAt_136 : decode cX13_wayAt 136 = .ok (.getfield 262, 3) := by decide +kernel
theorem dX13_wayAt_139 : decode cX13_wayAt 139 = .ok (.invokestatic 352, 3) := by decide +kernel
theorem dX13_wayAt_142 : decode cX13_wayAt 142 = .ok (.aload_n 0, 1) := by decide +kernel
theorem dX13_wayAt_143 : decode cX13_wayAt 143 = .ok (.getfield 27, 3) := by decide +kernel
theorem dX13_wayAt_146 : decode cX13_wayAt 146 = .ok (.bipush 7, 2) := by decide +kernel
theorem dX13_wayAt_148 : decode cX13_wayAt 148 = .ok (.iload 6, 2) := by decide +kernel
theorem dX13_wayAt_150 : decode cX13_wayAt 150 = .ok (.imul, 1) := by decide +kernel
theorem dX13_wayAt_151 : decode cX13_wayAt 151 = .ok (.iload_n 2, 1) := by decide +kernel
theorem dX13_wayAt_152 : decode cX13_wayAt 152 = .ok (.iadd, 1) := by decide +kernel
theorem dX13_wayAt_153 : decode cX13_wayAt 153 = .ok (.iaload, 1) := by decide +kernel
theorem dX13_wayAt_154 : decode cX13_wayAt 154 = .ok (.iadd, 1) := by decide +kernel
theorem dX13_wayAt_155 : decode cX13_wayAt 155 = .ok (.aload_n 0, 1) := by decide +kernel
theorem dX13_wayAt_156 : decode cX13_wayAt 156 = .ok (.getfield 27, 3) := by decide +kernel
theorem dX13_wayAt_159 : decode cX13_wayAt 159 = .ok (.bipush 7, 2) := by decide +kernel
theorem dX13_wayAt_161 : decode cX13_wayAt 161 = .ok (.iload 4, 2) := by decide +kernel
theorem dX13_wayAt_163 : decode cX13_wayAt 163 = .ok (.imul, 1) := by decide +kernel
theorem dX13_wayAt_164 : decode cX13_wayAt 164 = .ok (.iload_n 2, 1) := by decide +kernel
theorem dX13_wayAt_165 : decode cX13_wayAt 165 = .ok (.iadd, 1) := by decide +kernel
theorem dX13_wayAt_166 : decode cX13_wayAt 166 = .ok (.iaload, 1) := by decide +kernel
theorem dX13_wayAt_167 : decode cX13_wayAt 167 = .ok (.if_icmp .eq 9, 3) := by decide +kernel
theorem dX13_wayAt_170 : decode cX13_wayAt 170 = .ok (.iinc 6 1, 3) := by decide +kernel
theorem dX13_wayAt_173 : decode cX13_wayAt 173 = .ok (.goto (-85), 3) := by decide +kernel
theorem dX13_wayAt_176 : decode cX13_wayAt 176 = .ok (.iload 6, 2) := by decide +kernel
theorem dX13_wayAt_178 : decode cX13_wayAt 178 = .ok (.istore 4, 2) := by decide +kernel
theorem dX13_wayAt_180 : decode cX13_wayAt 180 = .ok (.iinc 5 1, 3) := by decide +kernel
theorem dX13_wayAt_183 : decode cX13_wayAt 183 = .ok (.goto (-116), 3) := by decide +kernel
theorem dX13_wayAt_186 : decode cX13_wayAt 186 = .ok (.aload_n 0, 1) := by decide +kernel
theorem dX13_wayAt_187 : decode cX13_wayAt 187 = .ok (.iload 4, 2) := by decide +kernel
theorem dX13_wayAt_189 : decode cX13_wayAt 189 = .ok (.invokevirtual 61, 3) := by decide +kernel
theorem dX13_wayAt_192 : decode cX13_wayAt 192 = .ok (.ireturn, 1) := by decide +kernel
abbrev rm_X13_wayAt : Room := { frames := 6, cells := 0, slots := 0, locals := 152 }
def f_X13_wayAt_25 (h : Mem) (v0 : Nat) : Option (Int32 × Mem) :=
  (f_X13_refused h v0 1).bind fun q5 => some (q5.1, q5.2)
set_option maxRecDepth 100000 in
set_option maxHeartbeats 4000000 in
theorem w_X13_wayAt_25 {G : GE} {X : CX} {l : Launch} (hX : Ok G X cX13_wayAt RX13) (hN : xn X = 7) {P : (Int32 × Mem) → Prop} (hr : Rt G X l yX13_wayAt (some .int) rm_X13_wayAt (pmI P)) (h : Mem) (v0 : Nat) (hy : OK (f_X13_wayAt_25 h v0) P) : AW G X 25 [(0, vR v0)] [] h 0 0 := by
  unfold f_X13_wayAt_25 at hy
  refine aw_aloadn (pc := 25) hX 0 rfl dX13_wayAt_25 ?_
  refine aw_iconst (pc := 26) hX 1 (by decide) dX13_wayAt_26 ?_
  refine aw_callV (pc := 27) (st := []) (a := v0) hX [vI 1] (con_X13_refused _ G _ v0 1 hy.bd) mc_X13_refused ml_X13_57 im_X13_refused se_X13_refused (by decide) hy.bd.kd rfl (rm_of hr (by decide)) (Nat.le_of_ble_eq_true rfl) rfl dX13_wayAt_27 (kmI rfl rfl (fun q5 hy => ?_))
  exact aw_iret (pc := 30) hX hr (by decide) (by decide) dX13_wayAt_30 ⟨_, rfl, hy.s⟩
def f_X13_wayAt_170 (h : Mem) (v0 : Nat) (v1 : Int32) (v2 : Int32) (v3 : Int32) (v4 : Int32) (v5 : Int32) (v6 : Int32) : Option (Int32 ⊕ Int32) :=
  some (.inl (v6 + 1))
set_option maxRecDepth 100000 in
set_option maxHeartbeats 4000000 in
theorem w_X13_wayAt_170 {G : GE} {X : CX} {l : Launch} (hX : Ok G X cX13_wayAt RX13) (hN : xn X = 7) {P0 : (Int32 × Mem) → Prop} (hr : Rt G X l yX13_wayAt (some .int) rm_X13_wayAt (pmI P0)) (h : Mem)  (v0 : Nat) (v1 : Int32) (v2 : Int32) (v3 : Int32) (v4 : Int32) (v5 : Int32) {P : (Int32 ⊕ Int32) → Prop} (hc : ∀ s, P (.inl s) → AW G X 88 [(0, vR v0), (1, vI v1), (2, vI v2), (3, vI v3), (4, vI v4), (5, vI v5), (6, vI s)] [] h 0 0) (he0 : ∀ e, P (.inr e) → AW G X 176 [(0, vR v0), (1, vI v1), (2, vI v2), (3, vI v3), (5, vI v5), (6, vI e)] [] h 0 0) (v6 : Int32) (hy : OK (f_X13_wayAt_170 h v0 v1 v2 v3 v4 v5 v6) P) : AW G X 170 [(0, vR v0), (1, vI v1), (2, vI v2), (3, vI v3), (4, vI v4), (5, vI v5), (6, vI v6)] [] h 0 0 := by
  unfold f_X13_wayAt_170 at hy
  refine aw_iinc (pc := 170) hX 1 (by decide) 6 rfl [(6, vI (v6 + 1)), (0, vR v0), (1, vI v1), (2, vI v2), (3, vI v3), (4, vI v4), (5, vI v5)] rfl (lt_n hN (by decide)) dX13_wayAt_170 ?_
  refine aw_goto (pc := 173) hX 88 (by decide) dX13_wayAt_173 ?_
  refine AW.sub [1, 2, 3, 4, 5, 6, 0] rfl ?_
  exact hc (v6 + 1) hy.s
def b_X13_wayAt_88 (h : Mem) (v0 : Nat) (v1 : Int32) (v2 : Int32) (v3 : Int32) (v4 : Int32) (v5 : Int32) (v6 : Int32) : Option (Int32 ⊕ Int32) :=
  (if v6 = v4 then f_X13_wayAt_170 h v0 v1 v2 v3 v4 v5 v6 else (gR h v0 16 11).bind fun r11 => (aI h r11 (8 + v1)).bind fun x12 => (gR h v0 16 11).bind fun r13 => (aI h r13 (12 + v1)).bind fun x14 => (f_X13_rains h v0).bind fun x15 => (f_X13_passesBy h v0 x12 x14 v4 v6 x15).bind fun x16 => (if x16 = 0 then f_X13_wayAt_170 h v0 v1 v2 v3 v4 v5 v6 else (gR h v0 3 11).bind fun r17 => (gR h r17 12 10).bind fun r18 => (f_X13_of h v4 v6 r18).bind fun x19 => (gR h v0 21 11).bind fun r20 => (aI h r20 ((7 * v6) + v2)).bind fun x21 => (gR h v0 21 11).bind fun r22 => (aI h r22 ((7 * v4) + v2)).bind fun x23 => (if (x19 + x21) = x23 then some (.inr v6) else f_X13_wayAt_170 h v0 v1 v2 v3 v4 v5 v6)))
set_option maxRecDepth 100000 in
set_option maxHeartbeats 4000000 in
theorem wb_X13_wayAt_88 {G : GE} {X : CX} {l : Launch} (hX : Ok G X cX13_wayAt RX13) (hN : xn X = 7) {P0 : (Int32 × Mem) → Prop} (hr : Rt G X l yX13_wayAt (some .int) rm_X13_wayAt (pmI P0)) (h : Mem)  (v0 : Nat) (v1 : Int32) (v2 : Int32) (v3 : Int32) (v4 : Int32) (v5 : Int32) {P : (Int32 ⊕ Int32) → Prop} (hc : ∀ s, P (.inl s) → AW G X 88 [(0, vR v0), (1, vI v1), (2, vI v2), (3, vI v3), (4, vI v4), (5, vI v5), (6, vI s)] [] h 0 0) (he0 : ∀ e, P (.inr e) → AW G X 176 [(0, vR v0), (1, vI v1), (2, vI v2), (3, vI v3), (5, vI v5), (6, vI e)] [] h 0 0) (v6 : Int32) (hy : OK (b_X13_wayAt_88 h v0 v1 v2 v3 v4 v5 v6) P) : AW G X 88 [(0, vR v0), (1, vI v1), (2, vI v2), (3, vI v3), (4, vI v4), (5, vI v5), (6, vI v6)] [] h 0 0 := by
  unfold b_X13_wayAt_88 at hy
  refine aw_iload (pc := 88) hX 6 rfl dX13_wayAt_88 ?_
  refine aw_iload (pc := 90) hX 4 rfl dX13_wayAt_90 ?_
  refine aw_ic_eq (pc := 92) hX 170 (by decide) dX13_wayAt_92 (fun hc9 => ?_) (fun hc9 => ?_)
  · have hy := hy.t hc9
    exact w_X13_wayAt_170 hX hN hr _ _ _ _ _ _ _ hc he0 v6 hy
  · have hy := hy.f hc9
    refine aw_aloadn (pc := 95) hX 0 rfl dX13_wayAt_95 ?_
    refine aw_aloadn (pc := 96) hX 0 rfl dX13_wayAt_96 ?_
    refine aw_gR (pc := 97) hX hy fl_X13_17 (fun _ _ => rfl) dX13_wayAt_97 (fun r11 hy => ?_)
    refine aw_bipush (pc := 100) hX 8 (by decide) dX13_wayAt_100 ?_
    refine aw_iloadn (pc := 102) hX 1 rfl dX13_wayAt_102 ?_
    refine aw_iadd (pc := 103) hX dX13_wayAt_103 ?_
    refine aw_aI (pc := 104) hX hy dX13_wayAt_104 (fun x12 hy => ?_)
    refine aw_aloadn (pc := 105) hX 0 rfl dX13_wayAt_105 ?_
    refine aw_gR (pc := 106) hX hy fl_X13_17 (fun _ _ => rfl) dX13_wayAt_106 (fun r13 hy => ?_)
    refine aw_bipush (pc := 109) hX 12 (by decide) dX13_wayAt_109 ?_
    refine aw_iloadn (pc := 111) hX 1 rfl dX13_wayAt_111 ?_
    refine aw_iadd (pc := 112) hX dX13_wayAt_112 ?_
    refine aw_aI (pc := 113) hX hy dX13_wayAt_113 (fun x14 hy => ?_)
    refine aw_iload (pc := 114) hX 4 rfl dX13_wayAt_114 ?_
    refine aw_iload (pc := 116) hX 6 rfl dX13_wayAt_116 ?_
    refine aw_aloadn (pc := 118) hX 0 rfl dX13_wayAt_118 ?_
    refine aw_callV (pc := 119) (st := [vI v6, vI v4, vI x14, vI x12, vR v0]) (a := v0) hX [] (con_X13_rains _ G _ v0 hy.bd) mc_X13_rains ml_X13_367 im_X13_rains se_X13_rains (by decide) hy.bd.kd rfl (rm_of hr (by decide)) (Nat.le_of_ble_eq_true rfl) rfl dX13_wayAt_119 (kpI rfl rfl (fun x15 hy => ?_))
    refine aw_callV (pc := 122) (st := []) (a := v0) hX [vI x12, vI x14, vI v4, vI v6, vI x15] (con_X13_passesBy _ G _ v0 x12 x14 v4 v6 x15 hy.bd) mc_X13_passesBy ml_X13_379 im_X13_passesBy se_X13_passesBy (by decide) hy.bd.kd rfl (rm_of hr (by decide)) (Nat.le_of_ble_eq_true rfl) rfl dX13_wayAt_122 (kpI rfl rfl (fun x16 hy => ?_))
    refine aw_if_eq (pc := 125) hX 170 (by decide) dX13_wayAt_125 (fun hc9 => ?_) (fun hc9 => ?_)
    · have hy := hy.t hc9
      exact w_X13_wayAt_170 hX hN hr _ _ _ _ _ _ _ hc he0 v6 hy
    · have hy := hy.f hc9
      refine aw_iload (pc := 128) hX 4 rfl dX13_wayAt_128 ?_
      refine aw_iload (pc := 130) hX 6 rfl dX13_wayAt_130 ?_
      refine aw_aloadn (pc := 132) hX 0 rfl dX13_wayAt_132 ?_
      refine aw_gR (pc := 133) hX hy fl_X13_338 (fun _ _ => rfl) dX13_wayAt_133 (fun r17 hy => ?_)
      refine aw_gR (pc := 136) hX hy fl_X13_262 (fun _ _ => rfl) dX13_wayAt_136 (fun r18 hy => ?_)
      refine aw_callS (pc := 139) (st := []) hX [vI v4, vI v6, vR r18] (con_X13_of _ G _ v4 v6 r18 hy.bd) mc_X13_of ml_X13_352 st_X13_of rfl (rm_of hr (by decide)) (Nat.le_of_ble_eq_true rfl) rfl dX13_wayAt_139 (kpI rfl rfl (fun x19 hy => ?_))
      refine aw_aloadn (pc := 142) hX 0 rfl dX13_wayAt_142 ?_
      refine aw_gR (pc := 143) hX hy fl_X13_27 (fun _ _ => rfl) dX13_wayAt_143 (fun r20 hy => ?_)
      refine aw_bipush (pc := 146) hX 7 (by decide) dX13_wayAt_146 ?_
      refine aw_iload (pc := 148) hX 6 rfl dX13_wayAt_148 ?_
      refine aw_imul (pc := 150) hX dX13_wayAt_150 ?_
      refine aw_iloadn (pc := 151) hX 2 rfl dX13_wayAt_151 ?_
      refine aw_iadd (pc := 152) hX dX13_wayAt_152 ?_
      refine aw_aI (pc := 153) hX hy dX13_wayAt_153 (fun x21 hy => ?_)
      refine aw_iadd (pc := 154) hX dX13_wayAt_154 ?_
      refine aw_aloadn (pc := 155) hX 0 rfl dX13_wayAt_155 ?_
      refine aw_gR (pc := 156) hX hy fl_X13_27 (fun _ _ => rfl) dX13_wayAt_156 (fun r22 hy => ?_)
      refine aw_bipush (pc := 159) hX 7 (by decide) dX13_wayAt_159 ?_
      refine aw_iload (pc := 161) hX 4 rfl dX13_wayAt_161 ?_
      refine aw_imul (pc := 163) hX dX13_wayAt_163 ?_
      refine aw_iloadn (pc := 164) hX 2 rfl dX13_wayAt_164 ?_
      refine aw_iadd (pc := 165) hX dX13_wayAt_165 ?_
      refine aw_aI (pc := 166) hX hy dX13_wayAt_166 (fun x23 hy => ?_)
      refine aw_ic_eq (pc := 167) hX 176 (by decide) dX13_wayAt_167 (fun hc9 => ?_) (fun hc9 => ?_)
      · have hy := hy.t hc9
        refine AW.sub [0, 1, 2, 3, 5, 6] rfl ?_
        exact he0 v6 hy.s
      · have hy := hy.f hc9
        exact w_X13_wayAt_170 hX hN hr _ _ _ _ _ _ _ hc he0 v6 hy
theorem wl_X13_wayAt_88 {G : GE} {X : CX} {l : Launch} (hX : Ok G X cX13_wayAt RX13) (hN : xn X = 7) {P0 : (Int32 × Mem) → Prop} (hr : Rt G X l yX13_wayAt (some .int) rm_X13_wayAt (pmI P0)) (h : Mem) (v0 : Nat) (v1 : Int32) (v2 : Int32) (v3 : Int32) (v4 : Int32) (v5 : Int32) {P : (Int32) → Prop} (he0 : ∀ e, P e → AW G X 176 [(0, vR v0), (1, vI v1), (2, vI v2), (3, vI v3), (5, vI v5), (6, vI e)] [] h 0 0) : ∀ (n : Nat) (s : Int32), OK (iter (fun (s : Int32) => b_X13_wayAt_88 h v0 v1 v2 v3 v4 v5 s) n s) P → AW G X 88 [(0, vR v0), (1, vI v1), (2, vI v2), (3, vI v3), (4, vI v4), (5, vI v5), (6, vI s)] [] h 0 0 := by
  intro n
  induction n with
  | zero => exact fun s hy => hy.it0.elim
  | succ n ih =>
    intro s hy
    exact wb_X13_wayAt_88 hX hN hr h v0 v1 v2 v3 v4 v5 (fun s hs => ih s hs) (fun e hs => he0 e hs) s hy.it
def b_X13_wayAt_67 (h : Mem) (v0 : Nat) (v1 : Int32) (v2 : Int32) (v3 : Int32) (v4 : Int32) (v5 : Int32) : Option ((Int32 × Int32) ⊕ (Unit ⊕ Int32)) :=
  (if v3 ≤ v5 then some (.inr (.inr v4)) else (if v4 = v2 then some (.inr (.inl ())) else (iter (fun (s : Int32) => b_X13_wayAt_88 h v0 v1 v2 v3 v4 v5 s) FU 0).bind (fun q24 => some (.inl (q24, (v5 + 1))))))
set_option maxRecDepth 100000 in
set_option maxHeartbeats 4000000 in
theorem wb_X13_wayAt_67 {G : GE} {X : CX} {l : Launch} (hX : Ok G X cX13_wayAt RX13) (hN : xn X = 7) {P0 : (Int32 × Mem) → Prop} (hr : Rt G X l yX13_wayAt (some .int) rm_X13_wayAt (pmI P0)) (h : Mem)  (v0 : Nat) (v1 : Int32) (v2 : Int32) (v3 : Int32) {P : ((Int32 × Int32) ⊕ (Unit ⊕ Int32)) → Prop} (hc : ∀ s, P (.inl s) → AW G X 67 [(0, vR v0), (1, vI v1), (2, vI v2), (3, vI v3), (4, vI s.1), (5, vI s.2)] [] h 0 0) (he0 : ∀ e, P (.inr (.inl e)) → AW G X 79 [(0, vR v0)] [] h 0 0) (he1 : ∀ e, P (.inr (.inr e)) → AW G X 186 [(0, vR v0), (4, vI e)] [] h 0 0) (v4 : Int32) (v5 : Int32) (hy : OK (b_X13_wayAt_67 h v0 v1 v2 v3 v4 v5) P) : AW G X 67 [(0, vR v0), (1, vI v1), (2, vI v2), (3, vI v3), (4, vI v4), (5, vI v5)] [] h 0 0 := by
  unfold b_X13_wayAt_67 at hy
  refine aw_iload (pc := 67) hX 5 rfl dX13_wayAt_67 ?_
  refine aw_iloadn (pc := 69) hX 3 rfl dX13_wayAt_69 ?_
  refine aw_ic_ge (pc := 70) hX 186 (by decide) dX13_wayAt_70 (fun hc9 => ?_) (fun hc9 => ?_)
  · have hy := hy.t hc9
    refine AW.sub [0, 4] rfl ?_
    exact he1 v4 hy.s
  · have hy := hy.f hc9
    refine aw_iload (pc := 73) hX 4 rfl dX13_wayAt_73 ?_
    refine aw_iloadn (pc := 75) hX 2 rfl dX13_wayAt_75 ?_
    refine aw_ic_ne (pc := 76) hX 85 (by decide) dX13_wayAt_76 (fun hc9 => ?_) (fun hc9 => ?_)
    · have hy := hy.f hc9
      refine aw_iconst (pc := 85) hX 0 (by decide) dX13_wayAt_85 ?_
      refine aw_istore (pc := 86) hX [(6, vI 0), (0, vR v0), (1, vI v1), (2, vI v2), (3, vI v3), (4, vI v4), (5, vI v5)] rfl (lt_n hN (by decide)) dX13_wayAt_86 ?_
      refine AW.sub [1, 2, 3, 4, 5, 6, 0] rfl ?_
      refine wl_X13_wayAt_88 hX hN hr _ v0 v1 v2 v3 v4 v5 ?_ FU 0 hy.bd
      · intro q24 hy
        refine aw_iload (pc := 176) hX 5 rfl dX13_wayAt_176 ?_
        refine aw_istore (pc := 178) hX [(4, vI q24), (0, vR v0), (1, vI v1), (2, vI v2), (3, vI v3), (5, vI v5), (6, vI q24)] rfl (lt_n hN (by decide)) dX13_wayAt_178 ?_
        refine aw_iinc (pc := 180) hX 1 (by decide) 5 rfl [(5, vI (v5 + 1)), (4, vI q24), (0, vR v0), (1, vI v1), (2, vI v2), (3, vI v3), (6, vI q24)] rfl (lt_n hN (by decide)) dX13_wayAt_180 ?_
        refine aw_goto (pc := 183) hX 67 (by decide) dX13_wayAt_183 ?_
        refine AW.sub [2, 3, 4, 5, 1, 0] rfl ?_
        exact hc (q24, (v5 + 1)) hy.s
    · have hy := hy.t hc9
      refine AW.sub [0] rfl ?_
      exact he0 () hy.s
theorem wl_X13_wayAt_67 {G : GE} {X : CX} {l : Launch} (hX : Ok G X cX13_wayAt RX13) (hN : xn X = 7) {P0 : (Int32 × Mem) → Prop} (hr : Rt G X l yX13_wayAt (some .int) rm_X13_wayAt (pmI P0)) (h : Mem) (v0 : Nat) (v1 : Int32) (v2 : Int32) (v3 : Int32) {P : (Unit ⊕ Int32) → Prop} (he0 : ∀ e, P (.inl e) → AW G X 79 [(0, vR v0)] [] h 0 0) (he1 : ∀ e, P (.inr e) → AW G X 186 [(0, vR v0), (4, vI e)] [] h 0 0) : ∀ (n : Nat) (s : Int32 × Int32), OK (iter (fun (s : Int32 × Int32) => b_X13_wayAt_67 h v0 v1 v2 v3 s.1 s.2) n s) P → AW G X 67 [(0, vR v0), (1, vI v1), (2, vI v2), (3, vI v3), (4, vI s.1), (5, vI s.2)] [] h 0 0 := by
  intro n
  induction n with
  | zero => exact fun s hy => hy.it0.elim
  | succ n ih =>
    intro s hy
    exact wb_X13_wayAt_67 hX hN hr h v0 v1 v2 v3 (fun s hs => ih s hs) (fun e hs => he0 e hs) (fun e hs => he1 e hs) s.1 s.2 hy.it
def f_X13_wayAt (h : Mem) (v0 : Nat) (v1 : Int32) (v2 : Int32) (v3 : Int32) : Option (Int32 × Mem) :=
  (ck h v0 11).bind fun _ => (pI h v0 0 11 0).bind fun h1 => (f_X13_isPerson h1 v0 v1).bind fun x2 => (if x2 = 0 then f_X13_wayAt_25 h1 v0 else (f_X13_isPlace h1 v0 v2).bind fun x6 => (if x6 = 0 then f_X13_wayAt_25 h1 v0 else (if 0 ≤ v3 then (f_X13_waysOf h1 v0 v1).bind fun h7 => (f_X13_farTo h7 v0 v1 v2).bind fun x8 => (if x8 < 99999 then (gR h7 v0 16 11).bind fun r9 => (aI h7 r9 (0 + v1)).bind fun x10 => (iter (fun (s : Int32 × Int32) => b_X13_wayAt_67 h7 v0 v1 v2 v3 s.1 s.2) FU (x10, 0)).bind (Sum.elim (fun e26 => (f_X13_refused h7 v0 1).bind fun q29 => some (q29.1, q29.2)) (fun e30 => (f_X13_good h7 v0 e30).bind fun q33 => some (q33.1, q33.2))) else (f_X13_refused h7 v0 1).bind fun q36 => some (q36.1, q36.2)) else f_X13_wayAt_25 h1 v0)))
set_option maxRecDepth 100000 in
set_option maxHeartbeats 4000000 in
theorem w_X13_wayAt {G : GE} {X : CX} {l : Launch} (hX : Ok G X cX13_wayAt RX13) (hN : xn X = 7) {P : (Int32 × Mem) → Prop} (hr : Rt G X l yX13_wayAt (some .int) rm_X13_wayAt (pmI P)) (h : Mem) (v0 : Nat) (v1 : Int32) (v2 : Int32) (v3 : Int32) (hy : OK (f_X13_wayAt h v0 v1 v2 v3) P) : AW G X 0 [(0, vR v0), (1, vI v1), (2, vI v2), (3, vI v3)] [] h 0 0 := by
  unfold f_X13_wayAt at hy
  have hkd := hy.kd
  have hy := hy.kb
  refine aw_aloadn (pc := 0) hX 0 rfl dX13_wayAt_0 ?_
  refine aw_iconst (pc := 1) hX 0 (by decide) dX13_wayAt_1 ?_
  refine aw_pI (pc := 2) hX hy fl_X13_51 rfl (Or.inl rfl) dX13_wayAt_2 (fun h1 hy => ?_)
  refine aw_aloadn (pc := 5) hX 0 rfl dX13_wayAt_5 ?_
  refine aw_iloadn (pc := 6) hX 1 rfl dX13_wayAt_6 ?_
  refine aw_callV (pc := 7) (st := []) (a := v0) hX [vI v1] (con_X13_isPerson _ G _ v0 v1 hy.bd) mc_X13_isPerson ml_X13_373 im_X13_isPerson se_X13_isPerson (by decide) hy.bd.kd rfl (rm_of hr (by decide)) (Nat.le_of_ble_eq_true rfl) rfl dX13_wayAt_7 (kpI rfl rfl (fun x2 hy => ?_))
  refine aw_if_eq (pc := 10) hX 25 (by decide) dX13_wayAt_10 (fun hc9 => ?_) (fun hc9 => ?_)
  · have hy := hy.t hc9
    refine AW.sub [0] rfl ?_
    exact w_X13_wayAt_25 hX hN hr h1 v0 hy
  · have hy := hy.f hc9
    refine aw_aloadn (pc := 13) hX 0 rfl dX13_wayAt_13 ?_
    refine aw_iloadn (pc := 14) hX 2 rfl dX13_wayAt_14 ?_
    refine aw_callV (pc := 15) (st := []) (a := v0) hX [vI v2] (con_X13_isPlace _ G _ v0 v2 hy.bd) mc_X13_isPlace ml_X13_347 im_X13_isPlace se_X13_isPlace (by decide) hy.bd.kd rfl (rm_of hr (by decide)) (Nat.le_of_ble_eq_true rfl) rfl dX13_wayAt_15 (kpI rfl rfl (fun x6 hy => ?_))
    refine aw_if_eq (pc := 18) hX 25 (by decide) dX13_wayAt_18 (fun hc9 => ?_) (fun hc9 => ?_)
    · have hy := hy.t hc9
      refine AW.sub [0] rfl ?_
      exact w_X13_wayAt_25 hX hN hr h1 v0 hy
    · have hy := hy.f hc9
      refine aw_iloadn (pc := 21) hX 3 rfl dX13_wayAt_21 ?_
      refine aw_if_ge (pc := 22) hX 31 (by decide) dX13_wayAt_22 (fun hc9 => ?_) (fun hc9 => ?_)
      · have hy := hy.t hc9
        refine aw_aloadn (pc := 31) hX 0 rfl dX13_wayAt_31 ?_
        refine aw_iloadn (pc := 32) hX 1 rfl dX13_wayAt_32 ?_
        refine aw_callV (pc := 33) (st := []) (a := v0) hX [vI v1] (con_X13_waysOf _ G _ v0 v1 hy.bd) mc_X13_waysOf ml_X13_394 im_X13_waysOf se_X13_waysOf (by decide) hy.bd.kd rfl (rm_of hr (by decide)) (Nat.le_of_ble_eq_true rfl) rfl dX13_wayAt_33 (kmV rfl rfl (fun h7 hy => ?_))
        refine aw_aloadn (pc := 36) hX 0 rfl dX13_wayAt_36 ?_
        refine aw_iloadn (pc := 37) hX 1 rfl dX13_wayAt_37 ?_
        refine aw_iloadn (pc := 38) hX 2 rfl dX13_wayAt_38 ?_
        refine aw_callV (pc := 39) (st := []) (a := v0) hX [vI v1, vI v2] (con_X13_farTo _ G _ v0 v1 v2 hy.bd) mc_X13_farTo ml_X13_391 im_X13_farTo se_X13_farTo (by decide) hy.bd.kd rfl (rm_of hr (by decide)) (Nat.le_of_ble_eq_true rfl) rfl dX13_wayAt_39 (kpI rfl rfl (fun x8 hy => ?_))
        refine aw_ldcw (pc := 42) hX kc_X13_386 dX13_wayAt_42 ?_
        refine aw_ic_lt (pc := 45) hX 54 (by decide) dX13_wayAt_45 (fun hc9 => ?_) (fun hc9 => ?_)
        · have hy := hy.t hc9
          refine aw_aloadn (pc := 54) hX 0 rfl dX13_wayAt_54 ?_
          refine aw_gR (pc := 55) hX hy fl_X13_17 (fun _ _ => rfl) dX13_wayAt_55 (fun r9 hy => ?_)
          refine aw_iconst (pc := 58) hX 0 (by decide) dX13_wayAt_58 ?_
          refine aw_iloadn (pc := 59) hX 1 rfl dX13_wayAt_59 ?_
          refine aw_iadd (pc := 60) hX dX13_wayAt_60 ?_
          refine aw_aI (pc := 61) hX hy dX13_wayAt_61 (fun x10 hy => ?_)
          refine aw_istore (pc := 62) hX [(4, vI x10), (0, vR v0), (1, vI v1), (2, vI v2), (3, vI v3)] rfl (lt_n hN (by decide)) dX13_wayAt_62 ?_
          refine aw_iconst (pc := 64) hX 0 (by decide) dX13_wayAt_64 ?_
          refine aw_istore (pc := 65) hX [(5, vI 0), (4, vI x10), (0, vR v0), (1, vI v1), (2, vI v2), (3, vI v3)] rfl (lt_n hN (by decide)) dX13_wayAt_65 ?_
          refine AW.sub [2, 3, 4, 5, 1, 0] rfl ?_
          refine wl_X13_wayAt_67 hX hN hr _ v0 v1 v2 v3 ?_ ?_ FU (x10, 0) hy.bd
          · intro e26 hy
            refine aw_aloadn (pc := 79) hX 0 rfl dX13_wayAt_79 ?_
            refine aw_iconst (pc := 80) hX 1 (by decide) dX13_wayAt_80 ?_
            refine aw_callV (pc := 81) (st := []) (a := v0) hX [vI 1] (con_X13_refused _ G _ v0 1 hy.bd) mc_X13_refused ml_X13_57 im_X13_refused se_X13_refused (by decide) hy.bd.kd rfl (rm_of hr (by decide)) (Nat.le_of_ble_eq_true rfl) rfl dX13_wayAt_81 (kmI rfl rfl (fun q29 hy => ?_))
            exact aw_iret (pc := 84) hX hr (by decide) (by decide) dX13_wayAt_84 ⟨_, rfl, hy.s⟩
          · intro e30 hy
            refine aw_aloadn (pc := 186) hX 0 rfl dX13_wayAt_186 ?_
            refine aw_iload (pc := 187) hX 1 rfl dX13_wayAt_187 ?_
            refine aw_callV (pc := 189) (st := []) (a := v0) hX [vI e30] (con_X13_good _ G _ v0 e30 hy.bd) mc_X13_good ml_X13_61 im_X13_good se_X13_good (by decide) hy.bd.kd rfl (rm_of hr (by decide)) (Nat.le_of_ble_eq_true rfl) rfl dX13_wayAt_189 (kmI rfl rfl (fun q33 hy => ?_))
            exact aw_iret (pc := 192) hX hr (by decide) (by decide) dX13_wayAt_192 ⟨_, rfl, hy.s⟩
        · have hy := hy.f hc9
          refine aw_aloadn (pc := 48) hX 0 rfl dX13_wayAt_48 ?_
          refine aw_iconst (pc := 49) hX 1 (by decide) dX13_wayAt_49 ?_
          refine aw_callV (pc := 50) (st := []) (a := v0) hX [vI 1] (con_X13_refused _ G _ v0 1 hy.bd) mc_X13_refused ml_X13_57 im_X13_refused se_X13_refused (by decide) hy.bd.kd rfl (rm_of hr (by decide)) (Nat.le_of_ble_eq_true rfl) rfl dX13_wayAt_50 (kmI rfl rfl (fun q36 hy => ?_))
          exact aw_iret (pc := 53) hX hr (by decide) (by decide) dX13_wayAt_53 ⟨_, rfl, hy.s⟩
      · have hy := hy.f hc9
        refine AW.sub [0] rfl ?_
        exact w_X13_wayAt_25 hX hN hr h1 v0 hy
theorem con_X13_wayAt (l : Launch) (G : GE) (h : Mem) (v0 : Nat) (v1 : Int32) (v2 : Int32) (v3 : Int32) {P : (Int32 × Mem) → Prop} (hy : OK (f_X13_wayAt h v0 v1 v2 v3) P) : Con l G yX13_wayAt cX13_wayAt 7 (some .int) rm_X13_wayAt [vR v0, vI v1, vI v2, vI v3] h (pmI P) := Con.of (by decide) (Nat.le_of_ble_eq_true rfl) (fun X hX hr hN => w_X13_wayAt hX hN hr h v0 v1 v2 v3 hy)
/-! X13_reach -/
theorem dX13_reach_0 : decode cX13_reach 0 = .ok (.aload_n 0, 1) := by decide +kernel
theorem dX13_reach_1 : decode cX13_reach 1 = .ok (.iconst 0, 1) := by decide +kernel
theorem dX13_reach_2 : decode cX13_reach 2 = .ok (.putfield 51, 3) := by decide +kernel
theorem dX13_reach_5 : decode cX13_reach 5 = .ok (.aload_n 0, 1) := by decide +kernel
theorem dX13_reach_6 : decode cX13_reach 6 = .ok (.iload_n 1, 1) := by decide +kernel
theorem dX13_reach_7 : decode cX13_reach 7 = .ok (.invokevirtual 373, 3) := by decide +kernel
theorem dX13_reach_10 : decode cX13_reach 10 = .ok (.ifCond .ne 9, 3) := by decide +kernel
theorem dX13_reach_13 : decode cX13_reach 13 = .ok (.aload_n 0, 1) := by decide +kernel
theorem dX13_reach_14 : decode cX13_reach 14 = .ok (.iconst 1, 1) := by decide +kernel
theorem dX13_reach_15 : decode cX13_reach 15 = .ok (.invokevirtual 57, 3) := by decide +kernel
theorem dX13_reach_18 : decode cX13_reach 18 = .ok (.ireturn, 1) := by decide +kernel
theorem dX13_reach_19 : decode cX13_reach 19 = .ok (.aload_n 0, 1) := by decide +kernel
theorem dX13_reach_20 : decode cX13_reach 20 = .ok (.iload_n 1, 1) := by decide +kernel
theorem dX13_reach_21 : decode cX13_reach 21 = .ok (.invokevirtual 394, 3) := by decide +kernel
theorem dX13_reach_24 : decode cX13_reach 24 = .ok (.aload_n 0, 1) := by decide +kernel
theorem dX13_reach_25 : decode cX13_reach 25 = .ok (.aload_n 0, 1) := by decide +kernel
theorem dX13_reach_26 : decode cX13_reach 26 = .ok (.iload_n 1, 1) := by decide +kernel
theorem dX13_reach_27 : decode cX13_reach 27 = .ok (.invokevirtual 397, 3) := by decide +kernel
theorem dX13_reach_30 : decode cX13_reach 30 = .ok (.invokevirtual 61, 3) := by decide +kernel
theorem dX13_reach_33 : decode cX13_reach 33 = .ok (.ireturn, 1) := by decide +kernel
abbrev rm_X13_reach : Room := { frames := 6, cells := 0, slots := 0, locals := 152 }
def f_X13_reach (h : Mem) (v0 : Nat) (v1 : Int32) : Option (Int32 × Mem) :=
  (ck h v0 11).bind fun _ => (pI h v0 0 11 0).bind fun h1 => (f_X13_isPerson h1 v0 v1).bind fun x2 => (if x2 = 0 then (f_X13_refused h1 v0 1).bind fun q10 => some (q10.1, q10.2) else (f_X13_waysOf h1 v0 v1).bind fun h3 => (f_X13_reached h3 v0 v1).bind fun x4 => (f_X13_good h3 v0 x4).bind fun q7 => some (q7.1, q7.2))
set_option maxRecDepth 100000 in
set_option maxHeartbeats 4000000 in
theorem w_X13_reach {G : GE} {X : CX} {l : Launch} (hX : Ok G X cX13_reach RX13) (hN : xn X = 2) {P : (Int32 × Mem) → Prop} (hr : Rt G X l yX13_reach (some .int) rm_X13_reach (pmI P)) (h : Mem) (v0 : Nat) (v1 : Int32) (hy : OK (f_X13_reach h v0 v1) P) : AW G X 0 [(0, vR v0), (1, vI v1)] [] h 0 0 := by
  unfold f_X13_reach at hy
  have hkd := hy.kd
  have hy := hy.kb
  refine aw_aloadn (pc := 0) hX 0 rfl dX13_reach_0 ?_
  refine aw_iconst (pc := 1) hX 0 (by decide) dX13_reach_1 ?_
  refine aw_pI (pc := 2) hX hy fl_X13_51 rfl (Or.inl rfl) dX13_reach_2 (fun h1 hy => ?_)
  refine aw_aloadn (pc := 5) hX 0 rfl dX13_reach_5 ?_
  refine aw_iloadn (pc := 6) hX 1 rfl dX13_reach_6 ?_
  refine aw_callV (pc := 7) (st := []) (a := v0) hX [vI v1] (con_X13_isPerson _ G _ v0 v1 hy.bd) mc_X13_isPerson ml_X13_373 im_X13_isPerson se_X13_isPerson (by decide) hy.bd.kd rfl (rm_of hr (by decide)) (Nat.le_of_ble_eq_true rfl) rfl dX13_reach_7 (kpI rfl rfl (fun x2 hy => ?_))
  refine aw_if_ne (pc := 10) hX 19 (by decide) dX13_reach_10 (fun hc9 => ?_) (fun hc9 => ?_)
  · have hy := hy.f hc9
    refine aw_aloadn (pc := 19) hX 0 rfl dX13_reach_19 ?_
    refine aw_iloadn (pc := 20) hX 1 rfl dX13_reach_20 ?_
    refine aw_callV (pc := 21) (st := []) (a := v0) hX [vI v1] (con_X13_waysOf _ G _ v0 v1 hy.bd) mc_X13_waysOf ml_X13_394 im_X13_waysOf se_X13_waysOf (by decide) hy.bd.kd rfl (rm_of hr (by decide)) (Nat.le_of_ble_eq_true rfl) rfl dX13_reach_21 (kmV rfl rfl (fun h3 hy => ?_))
    refine aw_aloadn (pc := 24) hX 0 rfl dX13_reach_24 ?_
    refine aw_aloadn (pc := 25) hX 0 rfl dX13_reach_25 ?_
    refine aw_iloadn (pc := 26) hX 1 rfl dX13_reach_26 ?_
    refine aw_callV (pc := 27) (st := [vR v0]) (a := v0) hX [vI v1] (con_X13_reached _ G _ v0 v1 hy.bd) mc_X13_reached ml_X13_397 im_X13_reached se_X13_reached (by decide) hy.bd.kd rfl (rm_of hr (by decide)) (Nat.le_of_ble_eq_true rfl) rfl dX13_reach_27 (kpI rfl rfl (fun x4 hy => ?_))
    refine aw_callV (pc := 30) (st := []) (a := v0) hX [vI x4] (con_X13_good _ G _ v0 x4 hy.bd) mc_X13_good ml_X13_61 im_X13_good se_X13_good (by decide) hy.bd.kd rfl (rm_of hr (by decide)) (Nat.le_of_ble_eq_true rfl) rfl dX13_reach_30 (kmI rfl rfl (fun q7 hy => ?_))
    exact aw_iret (pc := 33) hX hr (by decide) (by decide) dX13_reach_33 ⟨_, rfl, hy.s⟩
  · have hy := hy.t hc9
    refine aw_aloadn (pc := 13) hX 0 rfl dX13_reach_13 ?_
    refine aw_iconst (pc := 14) hX 1 (by decide) dX13_reach_14 ?_
    refine aw_callV (pc := 15) (st := []) (a := v0) hX [vI 1] (con_X13_refused _ G _ v0 1 hy.bd) mc_X13_refused ml_X13_57 im_X13_refused se_X13_refused (by decide) hy.bd.kd rfl (rm_of hr (by decide)) (Nat.le_of_ble_eq_true rfl) rfl dX13_reach_15 (kmI rfl rfl (fun q10 hy => ?_))
    exact aw_iret (pc := 18) hX hr (by decide) (by decide) dX13_reach_18 ⟨_, rfl, hy.s⟩
theorem con_X13_reach (l : Launch) (G : GE) (h : Mem) (v0 : Nat) (v1 : Int32) {P : (Int32 × Mem) → Prop} (hy : OK (f_X13_reach h v0 v1) P) : Con l G yX13_reach cX13_reach 2 (some .int) rm_X13_reach [vR v0, vI v1] h (pmI P) := Con.of (by decide) (Nat.le_of_ble_eq_true rfl) (fun X hX hr hN => w_X13_reach hX hN hr h v0 v1 hy)
/-! X13_reachIf -/
theorem dX13_reachIf_0 : decode cX13_reachIf 0 = .ok (.aload_n 0, 1) := by decide +kernel
theorem dX13_reachIf_1 : decode cX13_reachIf 1 = .ok (.iconst 0, 1) := by decide +kernel
theorem dX13_reachIf_2 : decode cX13_reachIf 2 = .ok (.putfield 51, 3) := by decide +kernel
theorem dX13_reachIf_5 : decode cX13_reachIf 5 = .ok (.aload_n 0, 1) := by decide +kernel
theorem dX13_reachIf_6 : decode cX13_reachIf 6 = .ok (.iload_n 1, 1) := by decide +kernel
theorem dX13_reachIf_7 : decode cX13_reachIf 7 = .ok (.invokevirtual 373, 3) := by decide +kernel
theorem dX13_reachIf_10 : decode cX13_reachIf 10 = .ok (.ifCond .ne 9, 3) := by decide +kernel
theorem dX13_reachIf_13 : decode cX13_reachIf 13 = .ok (.aload_n 0, 1) := by decide +kernel
theorem dX13_reachIf_14 : decode cX13_reachIf 14 = .ok (.iconst 1, 1) := by decide +kernel
theorem dX13_reachIf_15 : decode cX13_reachIf 15 = .ok (.invokevirtual 57, 3) := by decide +kernel
theorem dX13_reachIf_18 : decode cX13_reachIf 18 = .ok (.ireturn, 1) := by decide +kernel
theorem dX13_reachIf_19 : decode cX13_reachIf 19 = .ok (.aload_n 0, 1) := by decide +kernel
theorem dX13_reachIf_20 : decode cX13_reachIf 20 = .ok (.aload_n 0, 1) := by decide +kernel
theorem dX13_reachIf_21 : decode cX13_reachIf 21 = .ok (.getfield 17, 3) := by decide +kernel
theorem dX13_reachIf_24 : decode cX13_reachIf 24 = .ok (.bipush 8, 2) := by decide +kernel
theorem dX13_reachIf_26 : decode cX13_reachIf 26 = .ok (.iload_n 1, 1) := by decide +kernel
theorem dX13_reachIf_27 : decode cX13_reachIf 27 = .ok (.iadd, 1) := by decide +kernel
theorem dX13_reachIf_28 : decode cX13_reachIf 28 = .ok (.iaload, 1) := by decide +kernel
theorem dX13_reachIf_29 : decode cX13_reachIf 29 = .ok (.aload_n 0, 1) := by decide +kernel
theorem dX13_reachIf_30 : decode cX13_reachIf 30 = .ok (.getfield 17, 3) := by decide +kernel
theorem dX13_reachIf_33 : decode cX13_reachIf 33 = .ok (.bipush 12, 2) := by decide +kernel
theorem dX13_reachIf_35 : decode cX13_reachIf 35 = .ok (.iload_n 1, 1) := by decide +kernel
theorem dX13_reachIf_36 : decode cX13_reachIf 36 = .ok (.iadd, 1) := by decide +kernel
theorem dX13_reachIf_37 : decode cX13_reachIf 37 = .ok (.iaload, 1) := by decide +kernel
theorem dX13_reachIf_38 : decode cX13_reachIf 38 = .ok (.iload_n 2, 1) := by decide +kernel
theorem dX13_reachIf_39 : decode cX13_reachIf 39 = .ok (.invokevirtual 387, 3) := by decide +kernel
theorem dX13_reachIf_42 : decode cX13_reachIf 42 = .ok (.aload_n 0, 1) := by decide +kernel
theorem dX13_reachIf_43 : decode cX13_reachIf 43 = .ok (.aload_n 0, 1) := by decide +kernel
theorem dX13_reachIf_44 : decode cX13_reachIf 44 = .ok (.iload_n 1, 1) := by decide +kernel
theorem dX13_reachIf_45 : decode cX13_reachIf 45 = .ok (.invokevirtual 397, 3) := by decide +kernel
theorem dX13_reachIf_48 : decode cX13_reachIf 48 = .ok (.invokevirtual 61, 3) := by decide +kernel
theorem dX13_reachIf_51 : decode cX13_reachIf 51 = .ok (.ireturn, 1) := by decide +kernel
abbrev rm_X13_reachIf : Room := { frames := 5, cells := 0, slots := 0, locals := 131 }
def f_X13_reachIf (h : Mem) (v0 : Nat) (v1 : Int32) (v2 : Int32) : Option (Int32 × Mem) :=
  (ck h v0 11).bind fun _ => (pI h v0 0 11 0).bind fun h1 => (f_X13_isPerson h1 v0 v1).bind fun x2 => (if x2 = 0 then (f_X13_refused h1 v0 1).bind fun q14 => some (q14.1, q14.2) else (gR h1 v0 16 11).bind fun r3 => (aI h1 r3 (8 + v1)).bind fun x4 => (gR h1 v0 16 11).bind fun r5 => (aI h1 r5 (12 + v1)).bind fun x6 => (f_X13_ways h1 v0 x4 x6 v2).bind fun h7 => (f_X13_reached h7 v0 v1).bind fun x8 => (f_X13_good h7 v0 x8).bind fun q11 => some (q11.1, q11.2))
set_option maxRecDepth 100000 in
set_option maxHeartbeats 4000000 in
theorem w_X13_reachIf {G : GE} {X : CX} {l : Launch} (hX : Ok G X cX13_reachIf RX13) (hN : xn X = 3) {P : (Int32 × Mem) → Prop} (hr : Rt G X l yX13_reachIf (some .int) rm_X13_reachIf (pmI P)) (h : Mem) (v0 : Nat) (v1 : Int32) (v2 : Int32) (hy : OK (f_X13_reachIf h v0 v1 v2) P) : AW G X 0 [(0, vR v0), (1, vI v1), (2, vI v2)] [] h 0 0 := by
  unfold f_X13_reachIf at hy
  have hkd := hy.kd
  have hy := hy.kb
  refine aw_aloadn (pc := 0) hX 0 rfl dX13_reachIf_0 ?_
  refine aw_iconst (pc := 1) hX 0 (by decide) dX13_reachIf_1 ?_
  refine aw_pI (pc := 2) hX hy fl_X13_51 rfl (Or.inl rfl) dX13_reachIf_2 (fun h1 hy => ?_)
  refine aw_aloadn (pc := 5) hX 0 rfl dX13_reachIf_5 ?_
  refine aw_iloadn (pc := 6) hX 1 rfl dX13_reachIf_6 ?_
  refine aw_callV (pc := 7) (st := []) (a := v0) hX [vI v1] (con_X13_isPerson _ G _ v0 v1 hy.bd) mc_X13_isPerson ml_X13_373 im_X13_isPerson se_X13_isPerson (by decide) hy.bd.kd rfl (rm_of hr (by decide)) (Nat.le_of_ble_eq_true rfl) rfl dX13_reachIf_7 (kpI rfl rfl (fun x2 hy => ?_))
  refine aw_if_ne (pc := 10) hX 19 (by decide) dX13_reachIf_10 (fun hc9 => ?_) (fun hc9 => ?_)
  · have hy := hy.f hc9
    refine aw_aloadn (pc := 19) hX 0 rfl dX13_reachIf_19 ?_
    refine aw_aloadn (pc := 20) hX 0 rfl dX13_reachIf_20 ?_
    refine aw_gR (pc := 21) hX hy fl_X13_17 (fun _ _ => rfl) dX13_reachIf_21 (fun r3 hy => ?_)
    refine aw_bipush (pc := 24) hX 8 (by decide) dX13_reachIf_24 ?_
    refine aw_iloadn (pc := 26) hX 1 rfl dX13_reachIf_26 ?_
    refine aw_iadd (pc := 27) hX dX13_reachIf_27 ?_
    refine aw_aI (pc := 28) hX hy dX13_reachIf_28 (fun x4 hy => ?_)
    refine aw_aloadn (pc := 29) hX 0 rfl dX13_reachIf_29 ?_
    refine aw_gR (pc := 30) hX hy fl_X13_17 (fun _ _ => rfl) dX13_reachIf_30 (fun r5 hy => ?_)
    refine aw_bipush (pc := 33) hX 12 (by decide) dX13_reachIf_33 ?_
    refine aw_iloadn (pc := 35) hX 1 rfl dX13_reachIf_35 ?_
    refine aw_iadd (pc := 36) hX dX13_reachIf_36 ?_
    refine aw_aI (pc := 37) hX hy dX13_reachIf_37 (fun x6 hy => ?_)
    refine aw_iloadn (pc := 38) hX 2 rfl dX13_reachIf_38 ?_
    refine aw_callV (pc := 39) (st := []) (a := v0) hX [vI x4, vI x6, vI v2] (con_X13_ways _ G _ v0 x4 x6 v2 hy.bd) mc_X13_ways ml_X13_387 im_X13_ways se_X13_ways (by decide) hy.bd.kd rfl (rm_of hr (by decide)) (Nat.le_of_ble_eq_true rfl) rfl dX13_reachIf_39 (kmV rfl rfl (fun h7 hy => ?_))
    refine aw_aloadn (pc := 42) hX 0 rfl dX13_reachIf_42 ?_
    refine aw_aloadn (pc := 43) hX 0 rfl dX13_reachIf_43 ?_
    refine aw_iloadn (pc := 44) hX 1 rfl dX13_reachIf_44 ?_
    refine aw_callV (pc := 45) (st := [vR v0]) (a := v0) hX [vI v1] (con_X13_reached _ G _ v0 v1 hy.bd) mc_X13_reached ml_X13_397 im_X13_reached se_X13_reached (by decide) hy.bd.kd rfl (rm_of hr (by decide)) (Nat.le_of_ble_eq_true rfl) rfl dX13_reachIf_45 (kpI rfl rfl (fun x8 hy => ?_))
    refine aw_callV (pc := 48) (st := []) (a := v0) hX [vI x8] (con_X13_good _ G _ v0 x8 hy.bd) mc_X13_good ml_X13_61 im_X13_good se_X13_good (by decide) hy.bd.kd rfl (rm_of hr (by decide)) (Nat.le_of_ble_eq_true rfl) rfl dX13_reachIf_48 (kmI rfl rfl (fun q11 hy => ?_))
    exact aw_iret (pc := 51) hX hr (by decide) (by decide) dX13_reachIf_51 ⟨_, rfl, hy.s⟩
  · have hy := hy.t hc9
    refine aw_aloadn (pc := 13) hX 0 rfl dX13_reachIf_13 ?_
    refine aw_iconst (pc := 14) hX 1 (by decide) dX13_reachIf_14 ?_
    refine aw_callV (pc := 15) (st := []) (a := v0) hX [vI 1] (con_X13_refused _ G _ v0 1 hy.bd) mc_X13_refused ml_X13_57 im_X13_refused se_X13_refused (by decide) hy.bd.kd rfl (rm_of hr (by decide)) (Nat.le_of_ble_eq_true rfl) rfl dX13_reachIf_15 (kmI rfl rfl (fun q14 hy => ?_))
    exact aw_iret (pc := 18) hX hr (by decide) (by decide) dX13_reachIf_18 ⟨_, rfl, hy.s⟩
theorem con_X13_reachIf (l : Launch) (G : GE) (h : Mem) (v0 : Nat) (v1 : Int32) (v2 : Int32) {P : (Int32 × Mem) → Prop} (hy : OK (f_X13_reachIf h v0 v1 v2) P) : Con l G yX13_reachIf cX13_reachIf 3 (some .int) rm_X13_reachIf [vR v0, vI v1, vI v2] h (pmI P) := Con.of (by decide) (Nat.le_of_ble_eq_true rfl) (fun X hX hr hN => w_X13_reachIf hX hN hr h v0 v1 v2 hy)
/-! X13_bestTune -/
theorem dX13_bestTune_0 : decode cX13_bestTune 0 = .ok (.aload_n 0, 1) := by decide +kernel
theorem dX13_bestTune_1 : decode cX13_bestTune 1 = .ok (.iconst 0, 1) := by decide +kernel
theorem dX13_bestTune_2 : decode cX13_bestTune 2 = .ok (.putfield 51, 3) := by decide +kernel
theorem dX13_bestTune_5 : decode cX13_bestTune 5 = .ok (.aload_n 0, 1) := by decide +kernel
theorem dX13_bestTune_6 : decode cX13_bestTune 6 = .ok (.iload_n 1, 1) := by decide +kernel
theorem dX13_bestTune_7 : decode cX13_bestTune 7 = .ok (.invokevirtual 373, 3) := by decide +kernel
theorem dX13_bestTune_10 : decode cX13_bestTune 10 = .ok (.ifCond .ne 9, 3) := by decide +kernel
theorem dX13_bestTune_13 : decode cX13_bestTune 13 = .ok (.aload_n 0, 1) := by decide +kernel
theorem dX13_bestTune_14 : decode cX13_bestTune 14 = .ok (.iconst 1, 1) := by decide +kernel
theorem dX13_bestTune_15 : decode cX13_bestTune 15 = .ok (.invokevirtual 57, 3) := by decide +kernel
theorem dX13_bestTune_18 : decode cX13_bestTune 18 = .ok (.ireturn, 1) := by decide +kernel
theorem dX13_bestTune_19 : decode cX13_bestTune 19 = .ok (.aload_n 0, 1) := by decide +kernel
theorem dX13_bestTune_20 : decode cX13_bestTune 20 = .ok (.iload_n 1, 1) := by decide +kernel
theorem dX13_bestTune_21 : decode cX13_bestTune 21 = .ok (.invokevirtual 394, 3) := by decide +kernel
theorem dX13_bestTune_24 : decode cX13_bestTune 24 = .ok (.aload_n 0, 1) := by decide +kernel
theorem dX13_bestTune_25 : decode cX13_bestTune 25 = .ok (.iload_n 1, 1) := by decide +kernel
theorem dX13_bestTune_26 : decode cX13_bestTune 26 = .ok (.invokevirtual 397, 3) := by decide +kernel
theorem dX13_bestTune_29 : decode cX13_bestTune 29 = .ok (.invokestatic 400, 3) := by decide +kernel
theorem dX13_bestTune_32 : decode cX13_bestTune 32 = .ok (.istore_n 2, 1) := by decide +kernel
theorem dX13_bestTune_33 : decode cX13_bestTune 33 = .ok (.bipush (-2), 2) := by decide +kernel
theorem dX13_bestTune_35 : decode cX13_bestTune 35 = .ok (.istore_n 3, 1) := by decide +kernel
theorem dX13_bestTune_36 : decode cX13_bestTune 36 = .ok (.iconst 0, 1) := by decide +kernel
theorem dX13_bestTune_37 : decode cX13_bestTune 37 = .ok (.istore 4, 2) := by decide +kernel
theorem dX13_bestTune_39 : decode cX13_bestTune 39 = .ok (.iload 4, 2) := by decide +kernel
theorem dX13_bestTune_41 : decode cX13_bestTune 41 = .ok (.aload_n 0, 1) := by decide +kernel
theorem dX13_bestTune_42 : decode cX13_bestTune 42 = .ok (.getfield 338, 3) := by decide +kernel
theorem dX13_bestTune_45 : decode cX13_bestTune 45 = .ok (.getfield 239, 3) := by decide +kernel
theorem dX13_bestTune_48 : decode cX13_bestTune 48 = .ok (.if_icmp .ge 67, 3) := by decide +kernel
theorem dX13_bestTune_51 : decode cX13_bestTune 51 = .ok (.aload_n 0, 1) := by decide +kernel
theorem dX13_bestTune_52 : decode cX13_bestTune 52 = .ok (.aload_n 0, 1) := by decide +kernel
theorem dX13_bestTune_53 : decode cX13_bestTune 53 = .ok (.getfield 17, 3) := by decide +kernel
theorem dX13_bestTune_56 : decode cX13_bestTune 56 = .ok (.bipush 8, 2) := by decide +kernel
theorem dX13_bestTune_58 : decode cX13_bestTune 58 = .ok (.iload_n 1, 1) := by decide +kernel
theorem dX13_bestTune_59 : decode cX13_bestTune 59 = .ok (.iadd, 1) := by decide +kernel
theorem dX13_bestTune_60 : decode cX13_bestTune 60 = .ok (.iaload, 1) := by decide +kernel
theorem dX13_bestTune_61 : decode cX13_bestTune 61 = .ok (.iconst 1, 1) := by decide +kernel
theorem dX13_bestTune_62 : decode cX13_bestTune 62 = .ok (.iload 4, 2) := by decide +kernel
theorem dX13_bestTune_64 : decode cX13_bestTune 64 = .ok (.ishl, 1) := by decide +kernel
theorem dX13_bestTune_65 : decode cX13_bestTune 65 = .ok (.ior, 1) := by decide +kernel
theorem dX13_bestTune_66 : decode cX13_bestTune 66 = .ok (.aload_n 0, 1) := by decide +kernel
theorem dX13_bestTune_67 : decode cX13_bestTune 67 = .ok (.getfield 17, 3) := by decide +kernel
theorem dX13_bestTune_70 : decode cX13_bestTune 70 = .ok (.bipush 12, 2) := by decide +kernel
theorem dX13_bestTune_72 : decode cX13_bestTune 72 = .ok (.iload_n 1, 1) := by decide +kernel
theorem dX13_bestTune_73 : decode cX13_bestTune 73 = .ok (.iadd, 1) := by decide +kernel
theorem dX13_bestTune_74 : decode cX13_bestTune 74 = .ok (.iaload, 1) := by decide +kernel
theorem dX13_bestTune_75 : decode cX13_bestTune 75 = .ok (.aload_n 0, 1) := by decide +kernel
theorem dX13_bestTune_76 : decode cX13_bestTune 76 = .ok (.invokevirtual 367, 3) := by decide +kernel
theorem dX13_bestTune_79 : decode cX13_bestTune 79 = .ok (.invokevirtual 387, 3) := by decide +kernel
theorem dX13_bestTune_82 : decode cX13_bestTune 82 = .ok (.aload_n 0, 1) := by decide +kernel
theorem dX13_bestTune_83 : decode cX13_bestTune 83 = .ok (.iload_n 1, 1) := by decide +kernel
theorem dX13_bestTune_84 : decode cX13_bestTune 84 = .ok (.invokevirtual 397, 3) := by decide +kernel
theorem dX13_bestTune_87 : decode cX13_bestTune 87 = .ok (.invokestatic 400, 3) := by decide +kernel
theorem dX13_bestTune_90 : decode cX13_bestTune 90 = .ok (.iload_n 2, 1) := by decide +kernel
theorem dX13_bestTune_91 : decode cX13_bestTune 91 = .ok (.if_icmp .gt 6, 3) := by decide +kernel
theorem dX13_bestTune_94 : decode cX13_bestTune 94 = .ok (.goto 15, 3) := by decide +kernel
theorem dX13_bestTune_97 : decode cX13_bestTune 97 = .ok (.aload_n 0, 1) := by decide +kernel
theorem dX13_bestTune_98 : decode cX13_bestTune 98 = .ok (.iload_n 1, 1) := by decide +kernel
theorem dX13_bestTune_99 : decode cX13_bestTune 99 = .ok (.invokevirtual 397, 3) := by decide +kernel
theorem dX13_bestTune_102 : decode cX13_bestTune 102 = .ok (.invokestatic 400, 3) := by decide +kernel
theorem dX13_bestTune_105 : decode cX13_bestTune 105 = .ok (.istore_n 2, 1) := by decide +kernel
theorem dX13_bestTune_106 : decode cX13_bestTune 106 = .ok (.iload 4, 2) := by decide +kernel
theorem dX13_bestTune_108 : decode cX13_bestTune 108 = .ok (.istore_n 3, 1) := by decide +kernel
theorem dX13_bestTune_109 : decode cX13_bestTune 109 = .ok (.iinc 4 1, 3) := by decide +kernel
theorem dX13_bestTune_112 : decode cX13_bestTune 112 = .ok (.goto (-73), 3) := by decide +kernel
theorem dX13_bestTune_115 : decode cX13_bestTune 115 = .ok (.aload_n 0, 1) := by decide +kernel
theorem dX13_bestTune_116 : decode cX13_bestTune 116 = .ok (.iload_n 3, 1) := by decide +kernel
theorem dX13_bestTune_117 : decode cX13_bestTune 117 = .ok (.invokevirtual 61, 3) := by decide +kernel
theorem dX13_bestTune_120 : decode cX13_bestTune 120 = .ok (.ireturn, 1) := by decide +kernel
abbrev rm_X13_bestTune : Room := { frames := 6, cells := 0, slots := 0, locals := 152 }
def f_X13_bestTune_109 (h : Mem) (v0 : Nat) (v1 : Int32) (v2 : Int32) (v3 : Int32) (v4 : Int32) : Option ((Int32 × Int32 × Int32 × Mem) ⊕ ((Int32 × Mem))) :=
  some (.inl (v2, v3, (v4 + 1), h))
set_option maxRecDepth 100000 in
set_option maxHeartbeats 4000000 in
theorem w_X13_bestTune_109 {G : GE} {X : CX} {l : Launch} (hX : Ok G X cX13_bestTune RX13) (hN : xn X = 5) {P0 : (Int32 × Mem) → Prop} (hr : Rt G X l yX13_bestTune (some .int) rm_X13_bestTune (pmI P0))  (v0 : Nat) (v1 : Int32) {P : ((Int32 × Int32 × Int32 × Mem) ⊕ ((Int32 × Mem))) → Prop} (hc : ∀ s, P (.inl s) → AW G X 39 [(0, vR v0), (1, vI v1), (2, vI s.1), (3, vI s.2.1), (4, vI s.2.2.1)] [] s.2.2.2 0 0) (he0 : ∀ e, P (.inr e) → AW G X 115 [(0, vR v0), (3, vI e.1)] [] e.2 0 0) (h : Mem) (v2 : Int32) (v3 : Int32) (v4 : Int32) (hy : OK (f_X13_bestTune_109 h v0 v1 v2 v3 v4) P) : AW G X 109 [(0, vR v0), (1, vI v1), (2, vI v2), (3, vI v3), (4, vI v4)] [] h 0 0 := by
  unfold f_X13_bestTune_109 at hy
  refine aw_iinc (pc := 109) hX 1 (by decide) 4 rfl [(4, vI (v4 + 1)), (0, vR v0), (1, vI v1), (2, vI v2), (3, vI v3)] rfl (lt_n hN (by decide)) dX13_bestTune_109 ?_
  refine aw_goto (pc := 112) hX 39 (by decide) dX13_bestTune_112 ?_
  refine AW.sub [1, 2, 3, 4, 0] rfl ?_
  exact hc (v2, v3, (v4 + 1), h) hy.s
def b_X13_bestTune_39 (h : Mem) (v0 : Nat) (v1 : Int32) (v2 : Int32) (v3 : Int32) (v4 : Int32) : Option ((Int32 × Int32 × Int32 × Mem) ⊕ ((Int32 × Mem))) :=
  (gR h v0 3 11).bind fun r6 => (gI h r6 1 10).bind fun x7 => (if x7 ≤ v4 then some (.inr (v3, h)) else (gR h v0 16 11).bind fun r8 => (aI h r8 (8 + v1)).bind fun x9 => (gR h v0 16 11).bind fun r10 => (aI h r10 (12 + v1)).bind fun x11 => (f_X13_rains h v0).bind fun x12 => (f_X13_ways h v0 (x9 ||| ((1 : Int32) <<< (v4 &&& 31))) x11 x12).bind fun h13 => (f_X13_reached h13 v0 v1).bind fun x14 => (f_X13_bits h13 x14).bind fun x15 => (if v2 < x15 then (f_X13_reached h13 v0 v1).bind fun x16 => (f_X13_bits h13 x16).bind fun x17 => f_X13_bestTune_109 h13 v0 v1 x17 v4 v4 else f_X13_bestTune_109 h13 v0 v1 v2 v3 v4))
set_option maxRecDepth 100000 in
set_option maxHeartbeats 4000000 in
theorem wb_X13_bestTune_39 {G : GE} {X : CX} {l : Launch} (hX : Ok G X cX13_bestTune RX13) (hN : xn X = 5) {P0 : (Int32 × Mem) → Prop} (hr : Rt G X l yX13_bestTune (some .int) rm_X13_bestTune (pmI P0))  (v0 : Nat) (v1 : Int32) {P : ((Int32 × Int32 × Int32 × Mem) ⊕ ((Int32 × Mem))) → Prop} (hc : ∀ s, P (.inl s) → AW G X 39 [(0, vR v0), (1, vI v1), (2, vI s.1), (3, vI s.2.1), (4, vI s.2.2.1)] [] s.2.2.2 0 0) (he0 : ∀ e, P (.inr e) → AW G X 115 [(0, vR v0), (3, vI e.1)] [] e.2 0 0) (h : Mem) (v2 : Int32) (v3 : Int32) (v4 : Int32) (hy : OK (b_X13_bestTune_39 h v0 v1 v2 v3 v4) P) : AW G X 39 [(0, vR v0), (1, vI v1), (2, vI v2), (3, vI v3), (4, vI v4)] [] h 0 0 := by
  unfold b_X13_bestTune_39 at hy
  refine aw_iload (pc := 39) hX 4 rfl dX13_bestTune_39 ?_
  refine aw_aloadn (pc := 41) hX 0 rfl dX13_bestTune_41 ?_
  refine aw_gR (pc := 42) hX hy fl_X13_338 (fun _ _ => rfl) dX13_bestTune_42 (fun r6 hy => ?_)
  refine aw_gI (pc := 45) hX hy fl_X13_239 (fun _ _ => rfl) dX13_bestTune_45 (fun x7 hy => ?_)
  refine aw_ic_ge (pc := 48) hX 115 (by decide) dX13_bestTune_48 (fun hc9 => ?_) (fun hc9 => ?_)
  · have hy := hy.t hc9
    refine AW.sub [0, 3] rfl ?_
    exact he0 (v3, h) hy.s
  · have hy := hy.f hc9
    refine aw_aloadn (pc := 51) hX 0 rfl dX13_bestTune_51 ?_
    refine aw_aloadn (pc := 52) hX 0 rfl dX13_bestTune_52 ?_
    refine aw_gR (pc := 53) hX hy fl_X13_17 (fun _ _ => rfl) dX13_bestTune_53 (fun r8 hy => ?_)
    refine aw_bipush (pc := 56) hX 8 (by decide) dX13_bestTune_56 ?_
    refine aw_iloadn (pc := 58) hX 1 rfl dX13_bestTune_58 ?_
    refine aw_iadd (pc := 59) hX dX13_bestTune_59 ?_
    refine aw_aI (pc := 60) hX hy dX13_bestTune_60 (fun x9 hy => ?_)
    refine aw_iconst (pc := 61) hX 1 (by decide) dX13_bestTune_61 ?_
    refine aw_iload (pc := 62) hX 4 rfl dX13_bestTune_62 ?_
    refine aw_ishl (pc := 64) hX dX13_bestTune_64 ?_
    refine aw_ior (pc := 65) hX dX13_bestTune_65 ?_
    refine aw_aloadn (pc := 66) hX 0 rfl dX13_bestTune_66 ?_
    refine aw_gR (pc := 67) hX hy fl_X13_17 (fun _ _ => rfl) dX13_bestTune_67 (fun r10 hy => ?_)
    refine aw_bipush (pc := 70) hX 12 (by decide) dX13_bestTune_70 ?_
    refine aw_iloadn (pc := 72) hX 1 rfl dX13_bestTune_72 ?_
    refine aw_iadd (pc := 73) hX dX13_bestTune_73 ?_
    refine aw_aI (pc := 74) hX hy dX13_bestTune_74 (fun x11 hy => ?_)
    refine aw_aloadn (pc := 75) hX 0 rfl dX13_bestTune_75 ?_
    refine aw_callV (pc := 76) (st := [vI x11, vI (x9 ||| ((1 : Int32) <<< (v4 &&& 31))), vR v0]) (a := v0) hX [] (con_X13_rains _ G _ v0 hy.bd) mc_X13_rains ml_X13_367 im_X13_rains se_X13_rains (by decide) hy.bd.kd rfl (rm_of hr (by decide)) (Nat.le_of_ble_eq_true rfl) rfl dX13_bestTune_76 (kpI rfl rfl (fun x12 hy => ?_))
    refine aw_callV (pc := 79) (st := []) (a := v0) hX [vI (x9 ||| ((1 : Int32) <<< (v4 &&& 31))), vI x11, vI x12] (con_X13_ways _ G _ v0 (x9 ||| ((1 : Int32) <<< (v4 &&& 31))) x11 x12 hy.bd) mc_X13_ways ml_X13_387 im_X13_ways se_X13_ways (by decide) hy.bd.kd rfl (rm_of hr (by decide)) (Nat.le_of_ble_eq_true rfl) rfl dX13_bestTune_79 (kmV rfl rfl (fun h13 hy => ?_))
    refine aw_aloadn (pc := 82) hX 0 rfl dX13_bestTune_82 ?_
    refine aw_iloadn (pc := 83) hX 1 rfl dX13_bestTune_83 ?_
    refine aw_callV (pc := 84) (st := []) (a := v0) hX [vI v1] (con_X13_reached _ G _ v0 v1 hy.bd) mc_X13_reached ml_X13_397 im_X13_reached se_X13_reached (by decide) hy.bd.kd rfl (rm_of hr (by decide)) (Nat.le_of_ble_eq_true rfl) rfl dX13_bestTune_84 (kpI rfl rfl (fun x14 hy => ?_))
    refine aw_callS (pc := 87) (st := []) hX [vI x14] (con_X13_bits _ G _ x14 hy.bd) mc_X13_bits ml_X13_400 st_X13_bits rfl (rm_of hr (by decide)) (Nat.le_of_ble_eq_true rfl) rfl dX13_bestTune_87 (kpI rfl rfl (fun x15 hy => ?_))
    refine aw_iloadn (pc := 90) hX 2 rfl dX13_bestTune_90 ?_
    refine aw_ic_gt (pc := 91) hX 97 (by decide) dX13_bestTune_91 (fun hc9 => ?_) (fun hc9 => ?_)
    · have hy := hy.t hc9
      refine aw_aloadn (pc := 97) hX 0 rfl dX13_bestTune_97 ?_
      refine aw_iloadn (pc := 98) hX 1 rfl dX13_bestTune_98 ?_
      refine aw_callV (pc := 99) (st := []) (a := v0) hX [vI v1] (con_X13_reached _ G _ v0 v1 hy.bd) mc_X13_reached ml_X13_397 im_X13_reached se_X13_reached (by decide) hy.bd.kd rfl (rm_of hr (by decide)) (Nat.le_of_ble_eq_true rfl) rfl dX13_bestTune_99 (kpI rfl rfl (fun x16 hy => ?_))
      refine aw_callS (pc := 102) (st := []) hX [vI x16] (con_X13_bits _ G _ x16 hy.bd) mc_X13_bits ml_X13_400 st_X13_bits rfl (rm_of hr (by decide)) (Nat.le_of_ble_eq_true rfl) rfl dX13_bestTune_102 (kpI rfl rfl (fun x17 hy => ?_))
      refine aw_istoren (pc := 105) hX [(2, vI x17), (0, vR v0), (1, vI v1), (3, vI v3), (4, vI v4)] rfl (lt_n hN (by decide)) dX13_bestTune_105 ?_
      refine aw_iload (pc := 106) hX 4 rfl dX13_bestTune_106 ?_
      refine aw_istoren (pc := 108) hX [(3, vI v4), (2, vI x17), (0, vR v0), (1, vI v1), (4, vI v4)] rfl (lt_n hN (by decide)) dX13_bestTune_108 ?_
      refine AW.sub [2, 3, 1, 0, 4] rfl ?_
      exact w_X13_bestTune_109 hX hN hr _ _ hc he0 h13 x17 v4 v4 hy
    · have hy := hy.f hc9
      refine aw_goto (pc := 94) hX 109 (by decide) dX13_bestTune_94 ?_
      exact w_X13_bestTune_109 hX hN hr _ _ hc he0 h13 v2 v3 v4 hy
theorem wl_X13_bestTune_39 {G : GE} {X : CX} {l : Launch} (hX : Ok G X cX13_bestTune RX13) (hN : xn X = 5) {P0 : (Int32 × Mem) → Prop} (hr : Rt G X l yX13_bestTune (some .int) rm_X13_bestTune (pmI P0)) (v0 : Nat) (v1 : Int32) {P : ((Int32 × Mem)) → Prop} (he0 : ∀ e, P e → AW G X 115 [(0, vR v0), (3, vI e.1)] [] e.2 0 0) : ∀ (n : Nat) (s : Int32 × Int32 × Int32 × Mem), OK (iter (fun (s : Int32 × Int32 × Int32 × Mem) => b_X13_bestTune_39 s.2.2.2 v0 v1 s.1 s.2.1 s.2.2.1) n s) P → AW G X 39 [(0, vR v0), (1, vI v1), (2, vI s.1), (3, vI s.2.1), (4, vI s.2.2.1)] [] s.2.2.2 0 0 := by
  intro n
  induction n with
  | zero => exact fun s hy => hy.it0.elim
  | succ n ih =>
    intro s hy
    exact wb_X13_bestTune_39 hX hN hr v0 v1 (fun s hs => ih s hs) (fun e hs => he0 e hs) s.2.2.2 s.1 s.2.1 s.2.2.1 hy.it
def f_X13_bestTune (h : Mem) (v0 : Nat) (v1 : Int32) : Option (Int32 × Mem) :=
  (ck h v0 11).bind fun _ => (pI h v0 0 11 0).bind fun h1 => (f_X13_isPerson h1 v0 v1).bind fun x2 => (if x2 = 0 then (f_X13_refused h1 v0 1).bind fun q24 => some (q24.1, q24.2) else (f_X13_waysOf h1 v0 v1).bind fun h3 => (f_X13_reached h3 v0 v1).bind fun x4 => (f_X13_bits h3 x4).bind fun x5 => (iter (fun (s : Int32 × Int32 × Int32 × Mem) => b_X13_bestTune_39 s.2.2.2 v0 v1 s.1 s.2.1 s.2.2.1) FU (x5, (-2), 0, h3)).bind (fun q18 => (f_X13_good q18.2 v0 q18.1).bind fun q21 => some (q21.1, q21.2)))
set_option maxRecDepth 100000 in
set_option maxHeartbeats 4000000 in
theorem w_X13_bestTune {G : GE} {X : CX} {l : Launch} (hX : Ok G X cX13_bestTune RX13) (hN : xn X = 5) {P : (Int32 × Mem) → Prop} (hr : Rt G X l yX13_bestTune (some .int) rm_X13_bestTune (pmI P)) (h : Mem) (v0 : Nat) (v1 : Int32) (hy : OK (f_X13_bestTune h v0 v1) P) : AW G X 0 [(0, vR v0), (1, vI v1)] [] h 0 0 := by
  unfold f_X13_bestTune at hy
  have hkd := hy.kd
  have hy := hy.kb
  refine aw_aloadn (pc := 0) hX 0 rfl dX13_bestTune_0 ?_
  refine aw_iconst (pc := 1) hX 0 (by decide) dX13_bestTune_1 ?_
  refine aw_pI (pc := 2) hX hy fl_X13_51 rfl (Or.inl rfl) dX13_bestTune_2 (fun h1 hy => ?_)
  refine aw_aloadn (pc := 5) hX 0 rfl dX13_bestTune_5 ?_
  refine aw_iloadn (pc := 6) hX 1 rfl dX13_bestTune_6 ?_
  refine aw_callV (pc := 7) (st := []) (a := v0) hX [vI v1] (con_X13_isPerson _ G _ v0 v1 hy.bd) mc_X13_isPerson ml_X13_373 im_X13_isPerson se_X13_isPerson (by decide) hy.bd.kd rfl (rm_of hr (by decide)) (Nat.le_of_ble_eq_true rfl) rfl dX13_bestTune_7 (kpI rfl rfl (fun x2 hy => ?_))
  refine aw_if_ne (pc := 10) hX 19 (by decide) dX13_bestTune_10 (fun hc9 => ?_) (fun hc9 => ?_)
  · have hy := hy.f hc9
    refine aw_aloadn (pc := 19) hX 0 rfl dX13_bestTune_19 ?_
    refine aw_iloadn (pc := 20) hX 1 rfl dX13_bestTune_20 ?_
    refine aw_callV (pc := 21) (st := []) (a := v0) hX [vI v1] (con_X13_waysOf _ G _ v0 v1 hy.bd) mc_X13_waysOf ml_X13_394 im_X13_waysOf se_X13_waysOf (by decide) hy.bd.kd rfl (rm_of hr (by decide)) (Nat.le_of_ble_eq_true rfl) rfl dX13_bestTune_21 (kmV rfl rfl (fun h3 hy => ?_))
    refine aw_aloadn (pc := 24) hX 0 rfl dX13_bestTune_24 ?_
    refine aw_iloadn (pc := 25) hX 1 rfl dX13_bestTune_25 ?_
    refine aw_callV (pc := 26) (st := []) (a := v0) hX [vI v1] (con_X13_reached _ G _ v0 v1 hy.bd) mc_X13_reached ml_X13_397 im_X13_reached se_X13_reached (by decide) hy.bd.kd rfl (rm_of hr (by decide)) (Nat.le_of_ble_eq_true rfl) rfl dX13_bestTune_26 (kpI rfl rfl (fun x4 hy => ?_))
    refine aw_callS (pc := 29) (st := []) hX [vI x4] (con_X13_bits _ G _ x4 hy.bd) mc_X13_bits ml_X13_400 st_X13_bits rfl (rm_of hr (by decide)) (Nat.le_of_ble_eq_true rfl) rfl dX13_bestTune_29 (kpI rfl rfl (fun x5 hy => ?_))
    refine aw_istoren (pc := 32) hX [(2, vI x5), (0, vR v0), (1, vI v1)] rfl (lt_n hN (by decide)) dX13_bestTune_32 ?_
    refine aw_bipush (pc := 33) hX (-2) (by decide) dX13_bestTune_33 ?_
    refine aw_istoren (pc := 35) hX [(3, vI (-2)), (2, vI x5), (0, vR v0), (1, vI v1)] rfl (lt_n hN (by decide)) dX13_bestTune_35 ?_
    refine aw_iconst (pc := 36) hX 0 (by decide) dX13_bestTune_36 ?_
    refine aw_istore (pc := 37) hX [(4, vI 0), (3, vI (-2)), (2, vI x5), (0, vR v0), (1, vI v1)] rfl (lt_n hN (by decide)) dX13_bestTune_37 ?_
    refine AW.sub [3, 4, 2, 1, 0] rfl ?_
    refine wl_X13_bestTune_39 hX hN hr v0 v1 ?_ FU (x5, (-2), 0, h3) hy.bd
    · intro q18 hy
      refine aw_aloadn (pc := 115) hX 0 rfl dX13_bestTune_115 ?_
      refine aw_iloadn (pc := 116) hX 1 rfl dX13_bestTune_116 ?_
      refine aw_callV (pc := 117) (st := []) (a := v0) hX [vI q18.1] (con_X13_good _ G _ v0 q18.1 hy.bd) mc_X13_good ml_X13_61 im_X13_good se_X13_good (by decide) hy.bd.kd rfl (rm_of hr (by decide)) (Nat.le_of_ble_eq_true rfl) rfl dX13_bestTune_117 (kmI rfl rfl (fun q21 hy => ?_))
      exact aw_iret (pc := 120) hX hr (by decide) (by decide) dX13_bestTune_120 ⟨_, rfl, hy.s⟩
  · have hy := hy.t hc9
    refine aw_aloadn (pc := 13) hX 0 rfl dX13_bestTune_13 ?_
    refine aw_iconst (pc := 14) hX 1 (by decide) dX13_bestTune_14 ?_
    refine aw_callV (pc := 15) (st := []) (a := v0) hX [vI 1] (con_X13_refused _ G _ v0 1 hy.bd) mc_X13_refused ml_X13_57 im_X13_refused se_X13_refused (by decide) hy.bd.kd rfl (rm_of hr (by decide)) (Nat.le_of_ble_eq_true rfl) rfl dX13_bestTune_15 (kmI rfl rfl (fun q24 hy => ?_))
    exact aw_iret (pc := 18) hX hr (by decide) (by decide) dX13_bestTune_18 ⟨_, rfl, hy.s⟩
theorem con_X13_bestTune (l : Launch) (G : GE) (h : Mem) (v0 : Nat) (v1 : Int32) {P : (Int32 × Mem) → Prop} (hy : OK (f_X13_bestTune h v0 v1) P) : Con l G yX13_bestTune cX13_bestTune 5 (some .int) rm_X13_bestTune [vR v0, vI v1] h (pmI P) := Con.of (by decide) (Nat.le_of_ble_eq_true rfl) (fun X hX hr hN => w_X13_bestTune hX hN hr h v0 v1 hy)
/-! X13_buysAll -/
theorem dX13_buysAll_0 : decode cX13_buysAll 0 = .ok (.aload_n 0, 1) := by decide +kernel
theorem dX13_buysAll_1 : decode cX13_buysAll 1 = .ok (.iconst 0, 1) := by decide +kernel
theorem dX13_buysAll_2 : decode cX13_buysAll 2 = .ok (.putfield 403, 3) := by decide +kernel
theorem dX13_buysAll_5 : decode cX13_buysAll 5 = .ok (.aload_n 0, 1) := by decide +kernel
theorem dX13_buysAll_6 : decode cX13_buysAll 6 = .ok (.aload_n 0, 1) := by decide +kernel
theorem dX13_buysAll_7 : decode cX13_buysAll 7 = .ok (.getfield 17, 3) := by decide +kernel
theorem dX13_buysAll_10 : decode cX13_buysAll 10 = .ok (.bipush 8, 2) := by decide +kernel
theorem dX13_buysAll_12 : decode cX13_buysAll 12 = .ok (.iload_n 1, 1) := by decide +kernel
theorem dX13_buysAll_13 : decode cX13_buysAll 13 = .ok (.iadd, 1) := by decide +kernel
theorem dX13_buysAll_14 : decode cX13_buysAll 14 = .ok (.iaload, 1) := by decide +kernel
theorem dX13_buysAll_15 : decode cX13_buysAll 15 = .ok (.putfield 406, 3) := by decide +kernel
theorem dX13_buysAll_18 : decode cX13_buysAll 18 = .ok (.aload_n 0, 1) := by decide +kernel
theorem dX13_buysAll_19 : decode cX13_buysAll 19 = .ok (.aload_n 0, 1) := by decide +kernel
theorem dX13_buysAll_20 : decode cX13_buysAll 20 = .ok (.getfield 17, 3) := by decide +kernel
theorem dX13_buysAll_23 : decode cX13_buysAll 23 = .ok (.bipush 12, 2) := by decide +kernel
theorem dX13_buysAll_25 : decode cX13_buysAll 25 = .ok (.iload_n 1, 1) := by decide +kernel
theorem dX13_buysAll_26 : decode cX13_buysAll 26 = .ok (.iadd, 1) := by decide +kernel
theorem dX13_buysAll_27 : decode cX13_buysAll 27 = .ok (.iaload, 1) := by decide +kernel
theorem dX13_buysAll_28 : decode cX13_buysAll 28 = .ok (.putfield 409, 3) := by decide +kernel
theorem dX13_buysAll_31 : decode cX13_buysAll 31 = .ok (.iconst 1, 1) := by decide +kernel
theorem dX13_buysAll_32 : decode cX13_buysAll 32 = .ok (.istore_n 3, 1) := by decide +kernel
theorem dX13_buysAll_33 : decode cX13_buysAll 33 = .ok (.iload_n 3, 1) := by decide +kernel
theorem dX13_buysAll_34 : decode cX13_buysAll 34 = .ok (.ifCond .eq 164, 3) := by decide +kernel
theorem dX13_buysAll_37 : decode cX13_buysAll 37 = .ok (.iconst 0, 1) := by decide +kernel
theorem dX13_buysAll_38 : decode cX13_buysAll 38 = .ok (.istore_n 3, 1) := by decide +kernel
theorem dX13_buysAll_39 : decode cX13_buysAll 39 = .ok (.aload_n 0, 1) := by decide +kernel
theorem dX13_buysAll_40 : decode cX13_buysAll 40 = .ok (.aload_n 0, 1) := by decide +kernel
theorem dX13_buysAll_41 : decode cX13_buysAll 41 = .ok (.getfield 406, 3) := by decide +kernel
theorem dX13_buysAll_44 : decode cX13_buysAll 44 = .ok (.aload_n 0, 1) := by decide +kernel
theorem dX13_buysAll_45 : decode cX13_buysAll 45 = .ok (.getfield 409, 3) := by decide +kernel
theorem dX13_buysAll_48 : decode cX13_buysAll 48 = .ok (.aload_n 0, 1) := by decide +kernel
theorem dX13_buysAll_49 : decode cX13_buysAll 49 = .ok (.invokevirtual 367, 3) := by decide +kernel
theorem dX13_buysAll_52 : decode cX13_buysAll 52 = .ok (.invokevirtual 387, 3) := by decide +kernel
theorem dX13_buysAll_55 : decode cX13_buysAll 55 = .ok (.iconst 0, 1) := by decide +kernel
theorem dX13_buysAll_56 : decode cX13_buysAll 56 = .ok (.istore 4, 2) := by decide +kernel
theorem dX13_buysAll_58 : decode cX13_buysAll 58 = .ok (.iload 4, 2) := by decide +kernel
theorem dX13_buysAll_60 : decode cX13_buysAll 60 = .ok (.aload_n 0, 1) := by decide +kernel
theorem dX13_buysAll_61 : decode cX13_buysAll 61 = .ok (.getfield 338, 3) := by decide +kernel
theorem dX13_buysAll_64 : decode cX13_buysAll 64 = .ok (.getfield 287, 3) := by decide +kernel
theorem dX13_buysAll_67 : decode cX13_buysAll 67 = .ok (.if_icmp .ge 128, 3) := by decide +kernel
theorem dX13_buysAll_70 : decode cX13_buysAll 70 = .ok (.iload_n 2, 1) := by decide +kernel
theorem dX13_buysAll_71 : decode cX13_buysAll 71 = .ok (.iload 4, 2) := by decide +kernel
theorem dX13_buysAll_73 : decode cX13_buysAll 73 = .ok (.invokestatic 322, 3) := by decide +kernel
theorem dX13_buysAll_76 : decode cX13_buysAll 76 = .ok (.ifCond .eq 113, 3) := by decide +kernel
theorem dX13_buysAll_79 : decode cX13_buysAll 79 = .ok (.aload_n 0, 1) := by decide +kernel
theorem dX13_buysAll_80 : decode cX13_buysAll 80 = .ok (.getfield 403, 3) := by decide +kernel
theorem dX13_buysAll_83 : decode cX13_buysAll 83 = .ok (.iload 4, 2) := by decide +kernel
theorem dX13_buysAll_85 : decode cX13_buysAll 85 = .ok (.invokestatic 322, 3) := by decide +kernel
theorem dX13_buysAll_88 : decode cX13_buysAll 88 = .ok (.ifCond .ne 101, 3) := by decide +kernel
theorem dX13_buysAll_91 : decode cX13_buysAll 91 = .ok (.aload_n 0, 1) := by decide +kernel
theorem dX13_buysAll_92 : decode cX13_buysAll 92 = .ok (.iload_n 1, 1) := by decide +kernel
theorem dX13_buysAll_93 : decode cX13_buysAll 93 = .ok (.aload_n 0, 1) := by decide +kernel
theorem dX13_buysAll_94 : decode cX13_buysAll 94 = .ok (.getfield 338, 3) := by decide +kernel
theorem dX13_buysAll_97 : decode cX13_buysAll 97 = .ok (.getfield 296, 3) := by decide +kernel
theorem dX13_buysAll_100 : decode cX13_buysAll 100 = .ok (.iload 4, 2) := by decide +kernel
theorem dX13_buysAll_102 : decode cX13_buysAll 102 = .ok (.iaload, 1) := by decide +kernel
theorem dX13_buysAll_103 : decode cX13_buysAll 103 = .ok (.invokevirtual 391, 3) := by decide +kernel
theorem dX13_buysAll_106 : decode cX13_buysAll 106 = .ok (.ldc_w 386, 3) := by decide +kernel
theorem dX13_buysAll_109 : decode cX13_buysAll 109 = .ok (.if_icmp .lt 6, 3) := by decide +kernel
theorem dX13_buysAll_112 : decode cX13_buysAll 112 = .ok (.goto 77, 3) := by decide +kernel
theorem dX13_buysAll_115 : decode cX13_buysAll 115 = .ok (.aload_n 0, 1) := by decide +kernel
theorem dX13_buysAll_116 : decode cX13_buysAll 116 = .ok (.dup, 1) := by decide +kernel
theorem dX13_buysAll_117 : decode cX13_buysAll 117 = .ok (.getfield 403, 3) := by decide +kernel
theorem dX13_buysAll_120 : decode cX13_buysAll 120 = .ok (.iconst 1, 1) := by decide +kernel
theorem dX13_buysAll_121 : decode cX13_buysAll 121 = .ok (.iload 4, 2) := by decide +kernel
theorem dX13_buysAll_123 : decode cX13_buysAll 123 = .ok (.ishl, 1) := by decide +kernel
theorem dX13_buysAll_124 : decode cX13_buysAll 124 = .ok (.ior, 1) := by decide +kernel
theorem dX13_buysAll_125 : decode cX13_buysAll 125 = .ok (.putfield 403, 3) := by decide +kernel
theorem dX13_buysAll_128 : decode cX13_buysAll 128 = .ok (.aload_n 0, 1) := by decide +kernel
theorem dX13_buysAll_129 : decode cX13_buysAll 129 = .ok (.getfield 338, 3) := by decide +kernel
theorem dX13_buysAll_132 : decode cX13_buysAll 132 = .ok (.getfield 302, 3) := by decide +kernel
theorem dX13_buysAll_135 : decode cX13_buysAll 135 = .ok (.iload 4, 2) := by decide +kernel
theorem dX13_buysAll_137 : decode cX13_buysAll 137 = .ok (.iaload, 1) := by decide +kernel
theorem dX13_buysAll_138 : decode cX13_buysAll 138 = .ok (.iconst 1, 1) := by decide +kernel
theorem dX13_buysAll_139 : decode cX13_buysAll 139 = .ok (.if_icmp .ne 27, 3) := by decide +kernel
theorem dX13_buysAll_142 : decode cX13_buysAll 142 = .ok (.aload_n 0, 1) := by decide +kernel
theorem dX13_buysAll_143 : decode cX13_buysAll 143 = .ok (.dup, 1) := by decide +kernel
theorem dX13_buysAll_144 : decode cX13_buysAll 144 = .ok (.getfield 409, 3) := by decide +kernel
theorem dX13_buysAll_147 : decode cX13_buysAll 147 = .ok (.iconst 1, 1) := by decide +kernel
theorem dX13_buysAll_148 : decode cX13_buysAll 148 = .ok (.aload_n 0, 1) := by decide +kernel
theorem dX13_buysAll_149 : decode cX13_buysAll 149 = .ok (.getfield 338, 3) := by decide +kernel
theorem dX13_buysAll_152 : decode cX13_buysAll 152 = .ok (.getfield 299, 3) := by decide +kernel
theorem dX13_buysAll_155 : decode cX13_buysAll 155 = .ok (.iload 4, 2) := by decide +kernel
theorem dX13_buysAll_157 : decode cX13_buysAll 157 = .ok (.iaload, 1) := by decide +kernel
theorem dX13_buysAll_158 : decode cX13_buysAll 158 = .ok (.ishl, 1) := by decide +kernel
theorem dX13_buysAll_159 : decode cX13_buysAll 159 = .ok (.ior, 1) := by decide +kernel
theorem dX13_buysAll_160 : decode cX13_buysAll 160 = .ok (.putfield 409, 3) := by decide +kernel
theorem dX13_buysAll_163 : decode cX13_buysAll 163 = .ok (.goto 24, 3) := by decide +kernel
theorem dX13_buysAll_166 : decode cX13_buysAll 166 = .ok (.aload_n 0, 1) := by decide +kernel
theorem dX13_buysAll_167 : decode cX13_buysAll 167 = .ok (.dup, 1) := by decide +kernel
theorem dX13_buysAll_168 : decode cX13_buysAll 168 = .ok (.getfield 406, 3) := by decide +kernel
theorem dX13_buysAll_171 : decode cX13_buysAll 171 = .ok (.iconst 1, 1) := by decide +kernel
theorem dX13_buysAll_172 : decode cX13_buysAll 172 = .ok (.aload_n 0, 1) := by decide +kernel
theorem dX13_buysAll_173 : decode cX13_buysAll 173 = .ok (.getfield 338, 3) := by decide +kernel
theorem dX13_buysAll_176 : decode cX13_buysAll 176 = .ok (.getfield 299, 3) := by decide +kernel
theorem dX13_buysAll_179 : decode cX13_buysAll 179 = .ok (.iload 4, 2) := by decide +kernel
theorem dX13_buysAll_181 : decode cX13_buysAll 181 = .ok (.iaload, 1) := by decide +kernel
theorem dX13_buysAll_182 : decode cX13_buysAll 182 = .ok (.ishl, 1) := by decide +kernel
theorem dX13_buysAll_183 : decode cX13_buysAll 183 = .ok (.ior, 1) := by decide +kernel
theorem dX13_buysAll_184 : decode cX13_buysAll 184 = .ok (.putfield 406, 3) := by decide +kernel
theorem dX13_buysAll_187 : decode cX13_buysAll 187 = .ok (.iconst 1, 1) := by decide +kernel
theorem dX13_buysAll_188 : decode cX13_buysAll 188 = .ok (.istore_n 3, 1) := by decide +kernel
theorem dX13_buysAll_189 : decode cX13_buysAll 189 = .ok (.iinc 4 1, 3) := by decide +kernel
theorem dX13_buysAll_192 : decode cX13_buysAll 192 = .ok (.goto (-134), 3) := by decide +kernel
theorem dX13_buysAll_195 : decode cX13_buysAll 195 = .ok (.goto (-162), 3) := by decide +kernel
theorem dX13_buysAll_198 : decode cX13_buysAll 198 = .ok (.return_, 1) := by decide +kernel
abbrev rm_X13_buysAll : Room := { frames := 5, cells := 0, slots := 0, locals := 131 }
def f_X13_buysAll_189 (h : Mem) (v0 : Nat) (v1 : Int32) (v2 : Int32) (v3 : Int32) (v4 : Int32) : Option ((Int32 × Int32 × Mem) ⊕ ((Int32 × Mem))) :=
  some (.inl (v3, (v4 + 1), h))
set_option maxRecDepth 100000 in
set_option maxHeartbeats 4000000 in
theorem w_X13_buysAll_189 {G : GE} {X : CX} {l : Launch} (hX : Ok G X cX13_buysAll RX13) (hN : xn X = 5) {P0 : Mem → Prop} (hr : Rt G X l yX13_buysAll none rm_X13_buysAll (pmV P0))  (v0 : Nat) (v1 : Int32) (v2 : Int32) {P : ((Int32 × Int32 × Mem) ⊕ ((Int32 × Mem))) → Prop} (hc : ∀ s, P (.inl s) → AW G X 58 [(0, vR v0), (1, vI v1), (2, vI v2), (3, vI s.1), (4, vI s.2.1)] [] s.2.2 0 0) (he0 : ∀ e, P (.inr e) → AW G X 195 [(0, vR v0), (1, vI v1), (2, vI v2), (3, vI e.1)] [] e.2 0 0) (h : Mem) (v3 : Int32) (v4 : Int32) (hy : OK (f_X13_buysAll_189 h v0 v1 v2 v3 v4) P) : AW G X 189 [(0, vR v0), (1, vI v1), (2, vI v2), (3, vI v3), (4, vI v4)] [] h 0 0 := by
  unfold f_X13_buysAll_189 at hy
  refine aw_iinc (pc := 189) hX 1 (by decide) 4 rfl [(4, vI (v4 + 1)), (0, vR v0), (1, vI v1), (2, vI v2), (3, vI v3)] rfl (lt_n hN (by decide)) dX13_buysAll_189 ?_
  refine aw_goto (pc := 192) hX 58 (by decide) dX13_buysAll_192 ?_
  refine AW.sub [1, 2, 3, 4, 0] rfl ?_
  exact hc (v3, (v4 + 1), h) hy.s
def f_X13_buysAll_187 (h : Mem) (v0 : Nat) (v1 : Int32) (v2 : Int32) (v4 : Int32) : Option ((Int32 × Int32 × Mem) ⊕ ((Int32 × Mem))) :=
  f_X13_buysAll_189 h v0 v1 v2 1 v4
set_option maxRecDepth 100000 in
set_option maxHeartbeats 4000000 in
theorem w_X13_buysAll_187 {G : GE} {X : CX} {l : Launch} (hX : Ok G X cX13_buysAll RX13) (hN : xn X = 5) {P0 : Mem → Prop} (hr : Rt G X l yX13_buysAll none rm_X13_buysAll (pmV P0))  (v0 : Nat) (v1 : Int32) (v2 : Int32) {P : ((Int32 × Int32 × Mem) ⊕ ((Int32 × Mem))) → Prop} (hc : ∀ s, P (.inl s) → AW G X 58 [(0, vR v0), (1, vI v1), (2, vI v2), (3, vI s.1), (4, vI s.2.1)] [] s.2.2 0 0) (he0 : ∀ e, P (.inr e) → AW G X 195 [(0, vR v0), (1, vI v1), (2, vI v2), (3, vI e.1)] [] e.2 0 0) (h : Mem) (v4 : Int32) (hy : OK (f_X13_buysAll_187 h v0 v1 v2 v4) P) : AW G X 187 [(0, vR v0), (1, vI v1), (2, vI v2), (4, vI v4)] [] h 0 0 := by
  unfold f_X13_buysAll_187 at hy
  refine aw_iconst (pc := 187) hX 1 (by decide) dX13_buysAll_187 ?_
  refine aw_istoren (pc := 188) hX [(3, vI 1), (0, vR v0), (1, vI v1), (2, vI v2), (4, vI v4)] rfl (lt_n hN (by decide)) dX13_buysAll_188 ?_
  refine AW.sub [1, 2, 3, 0, 4] rfl ?_
  exact w_X13_buysAll_189 hX hN hr _ _ _ hc he0 h 1 v4 hy
def b_X13_buysAll_58 (h : Mem) (v0 : Nat) (v1 : Int32) (v2 : Int32) (v3 : Int32) (v4 : Int32) : Option ((Int32 × Int32 × Mem) ⊕ ((Int32 × Mem))) :=
  (gR h v0 3 11).bind fun r12 => (gI h r12 5 10).bind fun x13 => (if x13 ≤ v4 then some (.inr (v3, h)) else (f_X13_bit h v2 v4).bind fun x14 => (if x14 = 0 then f_X13_buysAll_189 h v0 v1 v2 v3 v4 else (gI h v0 22 11).bind fun x15 => (f_X13_bit h x15 v4).bind fun x16 => (if x16 = 0 then (gR h v0 3 11).bind fun r17 => (gR h r17 17 10).bind fun r18 => (aI h r18 v4).bind fun x19 => (f_X13_farTo h v0 v1 x19).bind fun x20 => (if x20 < 99999 then (gI h v0 22 11).bind fun x21 => (pI h v0 22 11 (x21 ||| ((1 : Int32) <<< (v4 &&& 31)))).bind fun h22 => (gR h22 v0 3 11).bind fun r23 => (gR h22 r23 19 10).bind fun r24 => (aI h22 r24 v4).bind fun x25 => (if x25 = 1 then (gI h22 v0 24 11).bind fun x31 => (gR h22 v0 3 11).bind fun r32 => (gR h22 r32 18 10).bind fun r33 => (aI h22 r33 v4).bind fun x34 => (pI h22 v0 24 11 (x31 ||| ((1 : Int32) <<< (x34 &&& 31)))).bind fun h35 => f_X13_buysAll_187 h35 v0 v1 v2 v4 else (gI h22 v0 23 11).bind fun x26 => (gR h22 v0 3 11).bind fun r27 => (gR h22 r27 18 10).bind fun r28 => (aI h22 r28 v4).bind fun x29 => (pI h22 v0 23 11 (x26 ||| ((1 : Int32) <<< (x29 &&& 31)))).bind fun h30 => f_X13_buysAll_187 h30 v0 v1 v2 v4) else f_X13_buysAll_189 h v0 v1 v2 v3 v4) else f_X13_buysAll_189 h v0 v1 v2 v3 v4)))
set_option maxRecDepth 100000 in
set_option maxHeartbeats 4000000 in
theorem wb_X13_buysAll_58 {G : GE} {X : CX} {l : Launch} (hX : Ok G X cX13_buysAll RX13) (hN : xn X = 5) {P0 : Mem → Prop} (hr : Rt G X l yX13_buysAll none rm_X13_buysAll (pmV P0))  (v0 : Nat) (v1 : Int32) (v2 : Int32) {P : ((Int32 × Int32 × Mem) ⊕ ((Int32 × Mem))) → Prop} (hc : ∀ s, P (.inl s) → AW G X 58 [(0, vR v0), (1, vI v1), (2, vI v2), (3, vI s.1), (4, vI s.2.1)] [] s.2.2 0 0) (he0 : ∀ e, P (.inr e) → AW G X 195 [(0, vR v0), (1, vI v1), (2, vI v2), (3, vI e.1)] [] e.2 0 0) (h : Mem) (v3 : Int32) (v4 : Int32) (hy : OK (b_X13_buysAll_58 h v0 v1 v2 v3 v4) P) : AW G X 58 [(0, vR v0), (1, vI v1), (2, vI v2), (3, vI v3), (4, vI v4)] [] h 0 0 := by
  unfold b_X13_buysAll_58 at hy
  refine aw_iload (pc := 58) hX 4 rfl dX13_buysAll_58 ?_
  refine aw_aloadn (pc := 60) hX 0 rfl dX13_buysAll_60 ?_
  refine aw_gR (pc := 61) hX hy fl_X13_338 (fun _ _ => rfl) dX13_buysAll_61 (fun r12 hy => ?_)
  refine aw_gI (pc := 64) hX hy fl_X13_287 (fun _ _ => rfl) dX13_buysAll_64 (fun x13 hy => ?_)
  refine aw_ic_ge (pc := 67) hX 195 (by decide) dX13_buysAll_67 (fun hc9 => ?_) (fun hc9 => ?_)
  · have hy := hy.t hc9
    refine AW.sub [0, 1, 2, 3] rfl ?_
    exact he0 (v3, h) hy.s
  · have hy := hy.f hc9
    refine aw_iloadn (pc := 70) hX 2 rfl dX13_buysAll_70 ?_
    refine aw_iload (pc := 71) hX 4 rfl dX13_buysAll_71 ?_
    refine aw_callS (pc := 73) (st := []) hX [vI v2, vI v4] (con_X13_bit _ G _ v2 v4 hy.bd) mc_X13_bit ml_X13_322 st_X13_bit rfl (rm_of hr (by decide)) (Nat.le_of_ble_eq_true rfl) rfl dX13_buysAll_73 (kpI rfl rfl (fun x14 hy => ?_))
    refine aw_if_eq (pc := 76) hX 189 (by decide) dX13_buysAll_76 (fun hc9 => ?_) (fun hc9 => ?_)
    · have hy := hy.t hc9
      exact w_X13_buysAll_189 hX hN hr _ _ _ hc he0 h v3 v4 hy
    · have hy := hy.f hc9
      refine aw_aloadn (pc := 79) hX 0 rfl dX13_buysAll_79 ?_
      refine aw_gI (pc := 80) hX hy fl_X13_403 (fun _ _ => rfl) dX13_buysAll_80 (fun x15 hy => ?_)
      refine aw_iload (pc := 83) hX 4 rfl dX13_buysAll_83 ?_
      refine aw_callS (pc := 85) (st := []) hX [vI x15, vI v4] (con_X13_bit _ G _ x15 v4 hy.bd) mc_X13_bit ml_X13_322 st_X13_bit rfl (rm_of hr (by decide)) (Nat.le_of_ble_eq_true rfl) rfl dX13_buysAll_85 (kpI rfl rfl (fun x16 hy => ?_))
      refine aw_if_ne (pc := 88) hX 189 (by decide) dX13_buysAll_88 (fun hc9 => ?_) (fun hc9 => ?_)
      · have hy := hy.f hc9
        exact w_X13_buysAll_189 hX hN hr _ _ _ hc he0 h v3 v4 hy
      · have hy := hy.t hc9
        refine aw_aloadn (pc := 91) hX 0 rfl dX13_buysAll_91 ?_
        refine aw_iloadn (pc := 92) hX 1 rfl dX13_buysAll_92 ?_
        refine aw_aloadn (pc := 93) hX 0 rfl dX13_buysAll_93 ?_
        refine aw_gR (pc := 94) hX hy fl_X13_338 (fun _ _ => rfl) dX13_buysAll_94 (fun r17 hy => ?_)
        refine aw_gR (pc := 97) hX hy fl_X13_296 (fun _ _ => rfl) dX13_buysAll_97 (fun r18 hy => ?_)
        refine aw_iload (pc := 100) hX 4 rfl dX13_buysAll_100 ?_
        refine aw_aI (pc := 102) hX hy dX13_buysAll_102 (fun x19 hy => ?_)
        refine aw_callV (pc := 103) (st := []) (a := v0) hX [vI v1, vI x19] (con_X13_farTo _ G _ v0 v1 x19 hy.bd) mc_X13_farTo ml_X13_391 im_X13_farTo se_X13_farTo (by decide) hy.bd.kd rfl (rm_of hr (by decide)) (Nat.le_of_ble_eq_true rfl) rfl dX13_buysAll_103 (kpI rfl rfl (fun x20 hy => ?_))
        refine aw_ldcw (pc := 106) hX kc_X13_386 dX13_buysAll_106 ?_
        refine aw_ic_lt (pc := 109) hX 115 (by decide) dX13_buysAll_109 (fun hc9 => ?_) (fun hc9 => ?_)
        · have hy := hy.t hc9
          refine aw_aloadn (pc := 115) hX 0 rfl dX13_buysAll_115 ?_
          refine aw_dup (pc := 116) hX rfl dX13_buysAll_116 ?_
          refine aw_gI (pc := 117) hX hy fl_X13_403 (fun _ _ => rfl) dX13_buysAll_117 (fun x21 hy => ?_)
          refine aw_iconst (pc := 120) hX 1 (by decide) dX13_buysAll_120 ?_
          refine aw_iload (pc := 121) hX 4 rfl dX13_buysAll_121 ?_
          refine aw_ishl (pc := 123) hX dX13_buysAll_123 ?_
          refine aw_ior (pc := 124) hX dX13_buysAll_124 ?_
          refine aw_pI (pc := 125) hX hy fl_X13_403 rfl (Or.inl rfl) dX13_buysAll_125 (fun h22 hy => ?_)
          refine aw_aloadn (pc := 128) hX 0 rfl dX13_buysAll_128 ?_
          refine aw_gR (pc := 129) hX hy fl_X13_338 (fun _ _ => rfl) dX13_buysAll_129 (fun r23 hy => ?_)
          refine aw_gR (pc := 132) hX hy fl_X13_302 (fun _ _ => rfl) dX13_buysAll_132 (fun r24 hy => ?_)
          refine aw_iload (pc := 135) hX 4 rfl dX13_buysAll_135 ?_
          refine aw_aI (pc := 137) hX hy dX13_buysAll_137 (fun x25 hy => ?_)
          refine aw_iconst (pc := 138) hX 1 (by decide) dX13_buysAll_138 ?_
          refine aw_ic_ne (pc := 139) hX 166 (by decide) dX13_buysAll_139 (fun hc9 => ?_) (fun hc9 => ?_)
          · have hy := hy.f hc9
            refine aw_aloadn (pc := 166) hX 0 rfl dX13_buysAll_166 ?_
            refine aw_dup (pc := 167) hX rfl dX13_buysAll_167 ?_
            refine aw_gI (pc := 168) hX hy fl_X13_406 (fun _ _ => rfl) dX13_buysAll_168 (fun x26 hy => ?_)
            refine aw_iconst (pc := 171) hX 1 (by decide) dX13_buysAll_171 ?_
            refine aw_aloadn (pc := 172) hX 0 rfl dX13_buysAll_172 ?_
            refine aw_gR (pc := 173) hX hy fl_X13_338 (fun _ _ => rfl) dX13_buysAll_173 (fun r27 hy => ?_)
            refine aw_gR (pc := 176) hX hy fl_X13_299 (fun _ _ => rfl) dX13_buysAll_176 (fun r28 hy => ?_)
            refine aw_iload (pc := 179) hX 4 rfl dX13_buysAll_179 ?_
            refine aw_aI (pc := 181) hX hy dX13_buysAll_181 (fun x29 hy => ?_)
            refine aw_ishl (pc := 182) hX dX13_buysAll_182 ?_
            refine aw_ior (pc := 183) hX dX13_buysAll_183 ?_
            refine aw_pI (pc := 184) hX hy fl_X13_406 rfl (Or.inl rfl) dX13_buysAll_184 (fun h30 hy => ?_)
            refine AW.sub [0, 1, 2, 4] rfl ?_
            exact w_X13_buysAll_187 hX hN hr _ _ _ hc he0 h30 v4 hy
          · have hy := hy.t hc9
            refine aw_aloadn (pc := 142) hX 0 rfl dX13_buysAll_142 ?_
            refine aw_dup (pc := 143) hX rfl dX13_buysAll_143 ?_
            refine aw_gI (pc := 144) hX hy fl_X13_409 (fun _ _ => rfl) dX13_buysAll_144 (fun x31 hy => ?_)
            refine aw_iconst (pc := 147) hX 1 (by decide) dX13_buysAll_147 ?_
            refine aw_aloadn (pc := 148) hX 0 rfl dX13_buysAll_148 ?_
            refine aw_gR (pc := 149) hX hy fl_X13_338 (fun _ _ => rfl) dX13_buysAll_149 (fun r32 hy => ?_)
            refine aw_gR (pc := 152) hX hy fl_X13_299 (fun _ _ => rfl) dX13_buysAll_152 (fun r33 hy => ?_)
            refine aw_iload (pc := 155) hX 4 rfl dX13_buysAll_155 ?_
            refine aw_aI (pc := 157) hX hy dX13_buysAll_157 (fun x34 hy => ?_)
            refine aw_ishl (pc := 158) hX dX13_buysAll_158 ?_
            refine aw_ior (pc := 159) hX dX13_buysAll_159 ?_
            refine aw_pI (pc := 160) hX hy fl_X13_409 rfl (Or.inl rfl) dX13_buysAll_160 (fun h35 hy => ?_)
            refine aw_goto (pc := 163) hX 187 (by decide) dX13_buysAll_163 ?_
            refine AW.sub [0, 1, 2, 4] rfl ?_
            exact w_X13_buysAll_187 hX hN hr _ _ _ hc he0 h35 v4 hy
        · have hy := hy.f hc9
          refine aw_goto (pc := 112) hX 189 (by decide) dX13_buysAll_112 ?_
          exact w_X13_buysAll_189 hX hN hr _ _ _ hc he0 h v3 v4 hy
theorem wl_X13_buysAll_58 {G : GE} {X : CX} {l : Launch} (hX : Ok G X cX13_buysAll RX13) (hN : xn X = 5) {P0 : Mem → Prop} (hr : Rt G X l yX13_buysAll none rm_X13_buysAll (pmV P0)) (v0 : Nat) (v1 : Int32) (v2 : Int32) {P : ((Int32 × Mem)) → Prop} (he0 : ∀ e, P e → AW G X 195 [(0, vR v0), (1, vI v1), (2, vI v2), (3, vI e.1)] [] e.2 0 0) : ∀ (n : Nat) (s : Int32 × Int32 × Mem), OK (iter (fun (s : Int32 × Int32 × Mem) => b_X13_buysAll_58 s.2.2 v0 v1 v2 s.1 s.2.1) n s) P → AW G X 58 [(0, vR v0), (1, vI v1), (2, vI v2), (3, vI s.1), (4, vI s.2.1)] [] s.2.2 0 0 := by
  intro n
  induction n with
  | zero => exact fun s hy => hy.it0.elim
  | succ n ih =>
    intro s hy
    exact wb_X13_buysAll_58 hX hN hr v0 v1 v2 (fun s hs => ih s hs) (fun e hs => he0 e hs) s.2.2 s.1 s.2.1 hy.it
def b_X13_buysAll_33 (h : Mem) (v0 : Nat) (v1 : Int32) (v2 : Int32) (v3 : Int32) : Option ((Int32 × Mem) ⊕ Mem) :=
  (if v3 = 0 then some (.inr h) else (gI h v0 23 11).bind fun x8 => (gI h v0 24 11).bind fun x9 => (f_X13_rains h v0).bind fun x10 => (f_X13_ways h v0 x8 x9 x10).bind fun h11 => (iter (fun (s : Int32 × Int32 × Mem) => b_X13_buysAll_58 s.2.2 v0 v1 v2 s.1 s.2.1) FU (0, 0, h11)).bind (fun q36 => some (.inl (q36.1, q36.2))))
set_option maxRecDepth 100000 in
set_option maxHeartbeats 4000000 in
theorem wb_X13_buysAll_33 {G : GE} {X : CX} {l : Launch} (hX : Ok G X cX13_buysAll RX13) (hN : xn X = 5) {P0 : Mem → Prop} (hr : Rt G X l yX13_buysAll none rm_X13_buysAll (pmV P0))  (v0 : Nat) (v1 : Int32) (v2 : Int32) {P : ((Int32 × Mem) ⊕ Mem) → Prop} (hc : ∀ s, P (.inl s) → AW G X 33 [(0, vR v0), (1, vI v1), (2, vI v2), (3, vI s.1)] [] s.2 0 0) (he0 : ∀ e, P (.inr e) → AW G X 198 [] [] e 0 0) (h : Mem) (v3 : Int32) (hy : OK (b_X13_buysAll_33 h v0 v1 v2 v3) P) : AW G X 33 [(0, vR v0), (1, vI v1), (2, vI v2), (3, vI v3)] [] h 0 0 := by
  unfold b_X13_buysAll_33 at hy
  refine aw_iloadn (pc := 33) hX 3 rfl dX13_buysAll_33 ?_
  refine aw_if_eq (pc := 34) hX 198 (by decide) dX13_buysAll_34 (fun hc9 => ?_) (fun hc9 => ?_)
  · have hy := hy.t hc9
    refine AW.sub [] rfl ?_
    exact he0 h hy.s
  · have hy := hy.f hc9
    refine aw_iconst (pc := 37) hX 0 (by decide) dX13_buysAll_37 ?_
    refine aw_istoren (pc := 38) hX [(3, vI 0), (0, vR v0), (1, vI v1), (2, vI v2)] rfl (lt_n hN (by decide)) dX13_buysAll_38 ?_
    refine aw_aloadn (pc := 39) hX 1 rfl dX13_buysAll_39 ?_
    refine aw_aloadn (pc := 40) hX 1 rfl dX13_buysAll_40 ?_
    refine aw_gI (pc := 41) hX hy fl_X13_406 (fun _ _ => rfl) dX13_buysAll_41 (fun x8 hy => ?_)
    refine aw_aloadn (pc := 44) hX 1 rfl dX13_buysAll_44 ?_
    refine aw_gI (pc := 45) hX hy fl_X13_409 (fun _ _ => rfl) dX13_buysAll_45 (fun x9 hy => ?_)
    refine aw_aloadn (pc := 48) hX 1 rfl dX13_buysAll_48 ?_
    refine aw_callV (pc := 49) (st := [vI x9, vI x8, vR v0]) (a := v0) hX [] (con_X13_rains _ G _ v0 hy.bd) mc_X13_rains ml_X13_367 im_X13_rains se_X13_rains (by decide) hy.bd.kd rfl (rm_of hr (by decide)) (Nat.le_of_ble_eq_true rfl) rfl dX13_buysAll_49 (kpI rfl rfl (fun x10 hy => ?_))
    refine aw_callV (pc := 52) (st := []) (a := v0) hX [vI x8, vI x9, vI x10] (con_X13_ways _ G _ v0 x8 x9 x10 hy.bd) mc_X13_ways ml_X13_387 im_X13_ways se_X13_ways (by decide) hy.bd.kd rfl (rm_of hr (by decide)) (Nat.le_of_ble_eq_true rfl) rfl dX13_buysAll_52 (kmV rfl rfl (fun h11 hy => ?_))
    refine aw_iconst (pc := 55) hX 0 (by decide) dX13_buysAll_55 ?_
    refine aw_istore (pc := 56) hX [(4, vI 0), (3, vI 0), (0, vR v0), (1, vI v1), (2, vI v2)] rfl (lt_n hN (by decide)) dX13_buysAll_56 ?_
    refine AW.sub [2, 3, 4, 1, 0] rfl ?_
    refine wl_X13_buysAll_58 hX hN hr v0 v1 v2 ?_ FU (0, 0, h11) hy.bd
    · intro q36 hy
      refine aw_goto (pc := 195) hX 33 (by decide) dX13_buysAll_195 ?_
      exact hc (q36.1, q36.2) hy.s
theorem wl_X13_buysAll_33 {G : GE} {X : CX} {l : Launch} (hX : Ok G X cX13_buysAll RX13) (hN : xn X = 5) {P0 : Mem → Prop} (hr : Rt G X l yX13_buysAll none rm_X13_buysAll (pmV P0)) (v0 : Nat) (v1 : Int32) (v2 : Int32) {P : (Mem) → Prop} (he0 : ∀ e, P e → AW G X 198 [] [] e 0 0) : ∀ (n : Nat) (s : Int32 × Mem), OK (iter (fun (s : Int32 × Mem) => b_X13_buysAll_33 s.2 v0 v1 v2 s.1) n s) P → AW G X 33 [(0, vR v0), (1, vI v1), (2, vI v2), (3, vI s.1)] [] s.2 0 0 := by
  intro n
  induction n with
  | zero => exact fun s hy => hy.it0.elim
  | succ n ih =>
    intro s hy
    exact wb_X13_buysAll_33 hX hN hr v0 v1 v2 (fun s hs => ih s hs) (fun e hs => he0 e hs) s.2 s.1 hy.it
def f_X13_buysAll (h : Mem) (v0 : Nat) (v1 : Int32) (v2 : Int32) : Option Mem :=
  (ck h v0 11).bind fun _ => (pI h v0 22 11 0).bind fun h1 => (gR h1 v0 16 11).bind fun r2 => (aI h1 r2 (8 + v1)).bind fun x3 => (pI h1 v0 23 11 x3).bind fun h4 => (gR h4 v0 16 11).bind fun r5 => (aI h4 r5 (12 + v1)).bind fun x6 => (pI h4 v0 24 11 x6).bind fun h7 => (iter (fun (s : Int32 × Mem) => b_X13_buysAll_33 s.2 v0 v1 v2 s.1) FU (1, h7)).bind (fun q37 => some q37)
set_option maxRecDepth 100000 in
set_option maxHeartbeats 4000000 in
theorem w_X13_buysAll {G : GE} {X : CX} {l : Launch} (hX : Ok G X cX13_buysAll RX13) (hN : xn X = 5) {P : Mem → Prop} (hr : Rt G X l yX13_buysAll none rm_X13_buysAll (pmV P)) (h : Mem) (v0 : Nat) (v1 : Int32) (v2 : Int32) (hy : OK (f_X13_buysAll h v0 v1 v2) P) : AW G X 0 [(0, vR v0), (1, vI v1), (2, vI v2)] [] h 0 0 := by
  unfold f_X13_buysAll at hy
  have hkd := hy.kd
  have hy := hy.kb
  refine aw_aloadn (pc := 0) hX 0 rfl dX13_buysAll_0 ?_
  refine aw_iconst (pc := 1) hX 0 (by decide) dX13_buysAll_1 ?_
  refine aw_pI (pc := 2) hX hy fl_X13_403 rfl (Or.inl rfl) dX13_buysAll_2 (fun h1 hy => ?_)
  refine aw_aloadn (pc := 5) hX 0 rfl dX13_buysAll_5 ?_
  refine aw_aloadn (pc := 6) hX 0 rfl dX13_buysAll_6 ?_
  refine aw_gR (pc := 7) hX hy fl_X13_17 (fun _ _ => rfl) dX13_buysAll_7 (fun r2 hy => ?_)
  refine aw_bipush (pc := 10) hX 8 (by decide) dX13_buysAll_10 ?_
  refine aw_iloadn (pc := 12) hX 1 rfl dX13_buysAll_12 ?_
  refine aw_iadd (pc := 13) hX dX13_buysAll_13 ?_
  refine aw_aI (pc := 14) hX hy dX13_buysAll_14 (fun x3 hy => ?_)
  refine aw_pI (pc := 15) hX hy fl_X13_406 rfl (Or.inl rfl) dX13_buysAll_15 (fun h4 hy => ?_)
  refine aw_aloadn (pc := 18) hX 0 rfl dX13_buysAll_18 ?_
  refine aw_aloadn (pc := 19) hX 0 rfl dX13_buysAll_19 ?_
  refine aw_gR (pc := 20) hX hy fl_X13_17 (fun _ _ => rfl) dX13_buysAll_20 (fun r5 hy => ?_)
  refine aw_bipush (pc := 23) hX 12 (by decide) dX13_buysAll_23 ?_
  refine aw_iloadn (pc := 25) hX 1 rfl dX13_buysAll_25 ?_
  refine aw_iadd (pc := 26) hX dX13_buysAll_26 ?_
  refine aw_aI (pc := 27) hX hy dX13_buysAll_27 (fun x6 hy => ?_)
  refine aw_pI (pc := 28) hX hy fl_X13_409 rfl (Or.inl rfl) dX13_buysAll_28 (fun h7 hy => ?_)
  refine aw_iconst (pc := 31) hX 1 (by decide) dX13_buysAll_31 ?_
  refine aw_istoren (pc := 32) hX [(3, vI 1), (0, vR v0), (1, vI v1), (2, vI v2)] rfl (lt_n hN (by decide)) dX13_buysAll_32 ?_
  refine AW.sub [1, 2, 3, 0] rfl ?_
  refine wl_X13_buysAll_33 hX hN hr v0 v1 v2 ?_ FU (1, h7) hy.bd
  · intro q37 hy
    exact aw_vret (pc := 198) hX hr (by decide) (by decide) dX13_buysAll_198 ⟨rfl, hy.s⟩
theorem con_X13_buysAll (l : Launch) (G : GE) (h : Mem) (v0 : Nat) (v1 : Int32) (v2 : Int32) {P : Mem → Prop} (hy : OK (f_X13_buysAll h v0 v1 v2) P) : Con l G yX13_buysAll cX13_buysAll 5 none rm_X13_buysAll [vR v0, vI v1, vI v2] h (pmV P) := Con.of (by decide) (Nat.le_of_ble_eq_true rfl) (fun X hX hr hN => w_X13_buysAll hX hN hr h v0 v1 v2 hy)
/-! X13_costOf -/
theorem dX13_costOf_0 : decode cX13_costOf 0 = .ok (.iconst 0, 1) := by decide +kernel
theorem dX13_costOf_1 : decode cX13_costOf 1 = .ok (.istore_n 2, 1) := by decide +kernel
theorem dX13_costOf_2 : decode cX13_costOf 2 = .ok (.iconst 0, 1) := by decide +kernel
theorem dX13_costOf_3 : decode cX13_costOf 3 = .ok (.istore_n 3, 1) := by decide +kernel
theorem dX13_costOf_4 : decode cX13_costOf 4 = .ok (.iload_n 3, 1) := by decide +kernel
theorem dX13_costOf_5 : decode cX13_costOf 5 = .ok (.aload_n 0, 1) := by decide +kernel
theorem dX13_costOf_6 : decode cX13_costOf 6 = .ok (.getfield 338, 3) := by decide +kernel
theorem dX13_costOf_9 : decode cX13_costOf 9 = .ok (.getfield 287, 3) := by decide +kernel
theorem dX13_costOf_12 : decode cX13_costOf 12 = .ok (.if_icmp .ge 33, 3) := by decide +kernel
theorem dX13_costOf_15 : decode cX13_costOf 15 = .ok (.iload_n 2, 1) := by decide +kernel
theorem dX13_costOf_16 : decode cX13_costOf 16 = .ok (.iload_n 1, 1) := by decide +kernel
theorem dX13_costOf_17 : decode cX13_costOf 17 = .ok (.iload_n 3, 1) := by decide +kernel
theorem dX13_costOf_18 : decode cX13_costOf 18 = .ok (.invokestatic 322, 3) := by decide +kernel
theorem dX13_costOf_21 : decode cX13_costOf 21 = .ok (.ifCond .eq 15, 3) := by decide +kernel
theorem dX13_costOf_24 : decode cX13_costOf 24 = .ok (.aload_n 0, 1) := by decide +kernel
theorem dX13_costOf_25 : decode cX13_costOf 25 = .ok (.getfield 338, 3) := by decide +kernel
theorem dX13_costOf_28 : decode cX13_costOf 28 = .ok (.getfield 304, 3) := by decide +kernel
theorem dX13_costOf_31 : decode cX13_costOf 31 = .ok (.iload_n 3, 1) := by decide +kernel
theorem dX13_costOf_32 : decode cX13_costOf 32 = .ok (.iaload, 1) := by decide +kernel
theorem dX13_costOf_33 : decode cX13_costOf 33 = .ok (.goto 4, 3) := by decide +kernel
theorem dX13_costOf_36 : decode cX13_costOf 36 = .ok (.iconst 0, 1) := by decide +kernel
theorem dX13_costOf_37 : decode cX13_costOf 37 = .ok (.iadd, 1) := by decide +kernel
theorem dX13_costOf_38 : decode cX13_costOf 38 = .ok (.istore_n 2, 1) := by decide +kernel
theorem dX13_costOf_39 : decode cX13_costOf 39 = .ok (.iinc 3 1, 3) := by decide +kernel
theorem dX13_costOf_42 : decode cX13_costOf 42 = .ok (.goto (-38), 3) := by decide +kernel
theorem dX13_costOf_45 : decode cX13_costOf 45 = .ok (.iload_n 2, 1) := by decide +kernel
theorem dX13_costOf_46 : decode cX13_costOf 46 = .ok (.ireturn, 1) := by decide +kernel
abbrev rm_X13_costOf : Room := { frames := 1, cells := 0, slots := 0, locals := 21 }
def f_X13_costOf_37 (h : Mem) (v0 : Nat) (v1 : Int32) (v3 : Int32) (s0 : Int32) (s1 : Int32) : Option ((Int32 × Int32) ⊕ Int32) :=
  some (.inl ((s0 + s1), (v3 + 1)))
set_option maxRecDepth 100000 in
set_option maxHeartbeats 4000000 in
theorem w_X13_costOf_37 {G : GE} {X : CX} {l : Launch} (hX : Ok G X cX13_costOf RX13) (hN : xn X = 4) (h : Mem) {P0 : Int32 → Prop} (hr : Rt G X l yX13_costOf (some .int) rm_X13_costOf (ppI h P0))  (v0 : Nat) (v1 : Int32) {P : ((Int32 × Int32) ⊕ Int32) → Prop} (hc : ∀ s, P (.inl s) → AW G X 4 [(0, vR v0), (1, vI v1), (2, vI s.1), (3, vI s.2)] [] h 0 0) (he0 : ∀ e, P (.inr e) → AW G X 45 [(2, vI e)] [] h 0 0) (v3 : Int32) (s0 : Int32) (s1 : Int32) (hy : OK (f_X13_costOf_37 h v0 v1 v3 s0 s1) P) : AW G X 37 [(0, vR v0), (1, vI v1), (3, vI v3)] [vI s1, vI s0] h 0 0 := by
  unfold f_X13_costOf_37 at hy
  refine aw_iadd (pc := 37) hX dX13_costOf_37 ?_
  refine aw_istoren (pc := 38) hX [(2, vI (s0 + s1)), (0, vR v0), (1, vI v1), (3, vI v3)] rfl (lt_n hN (by decide)) dX13_costOf_38 ?_
  refine aw_iinc (pc := 39) hX 1 (by decide) 3 rfl [(3, vI (v3 + 1)), (2, vI (s0 + s1)), (0, vR v0), (1, vI v1)] rfl (lt_n hN (by decide)) dX13_costOf_39 ?_
  refine aw_goto (pc := 42) hX 4 (by decide) dX13_costOf_42 ?_
  refine AW.sub [2, 3, 1, 0] rfl ?_
  exact hc ((s0 + s1), (v3 + 1)) hy.s
def b_X13_costOf_4 (h : Mem) (v0 : Nat) (v1 : Int32) (v2 : Int32) (v3 : Int32) : Option ((Int32 × Int32) ⊕ Int32) :=
  (gR h v0 3 11).bind fun r1 => (gI h r1 5 10).bind fun x2 => (if x2 ≤ v3 then some (.inr v2) else (f_X13_bit h v1 v3).bind fun x3 => (if x3 = 0 then f_X13_costOf_37 h v0 v1 v3 v2 0 else (gR h v0 3 11).bind fun r4 => (gR h r4 20 10).bind fun r5 => (aI h r5 v3).bind fun x6 => f_X13_costOf_37 h v0 v1 v3 v2 x6))
set_option maxRecDepth 100000 in
set_option maxHeartbeats 4000000 in
theorem wb_X13_costOf_4 {G : GE} {X : CX} {l : Launch} (hX : Ok G X cX13_costOf RX13) (hN : xn X = 4) (h : Mem) {P0 : Int32 → Prop} (hr : Rt G X l yX13_costOf (some .int) rm_X13_costOf (ppI h P0))  (v0 : Nat) (v1 : Int32) {P : ((Int32 × Int32) ⊕ Int32) → Prop} (hc : ∀ s, P (.inl s) → AW G X 4 [(0, vR v0), (1, vI v1), (2, vI s.1), (3, vI s.2)] [] h 0 0) (he0 : ∀ e, P (.inr e) → AW G X 45 [(2, vI e)] [] h 0 0) (v2 : Int32) (v3 : Int32) (hy : OK (b_X13_costOf_4 h v0 v1 v2 v3) P) : AW G X 4 [(0, vR v0), (1, vI v1), (2, vI v2), (3, vI v3)] [] h 0 0 := by
  unfold b_X13_costOf_4 at hy
  refine aw_iloadn (pc := 4) hX 3 rfl dX13_costOf_4 ?_
  refine aw_aloadn (pc := 5) hX 0 rfl dX13_costOf_5 ?_
  refine aw_gR (pc := 6) hX hy fl_X13_338 (fun _ _ => rfl) dX13_costOf_6 (fun r1 hy => ?_)
  refine aw_gI (pc := 9) hX hy fl_X13_287 (fun _ _ => rfl) dX13_costOf_9 (fun x2 hy => ?_)
  refine aw_ic_ge (pc := 12) hX 45 (by decide) dX13_costOf_12 (fun hc9 => ?_) (fun hc9 => ?_)
  · have hy := hy.t hc9
    refine AW.sub [2] rfl ?_
    exact he0 v2 hy.s
  · have hy := hy.f hc9
    refine aw_iloadn (pc := 15) hX 2 rfl dX13_costOf_15 ?_
    refine aw_iloadn (pc := 16) hX 1 rfl dX13_costOf_16 ?_
    refine aw_iloadn (pc := 17) hX 3 rfl dX13_costOf_17 ?_
    refine aw_callS (pc := 18) (st := [vI v2]) hX [vI v1, vI v3] (con_X13_bit _ G _ v1 v3 hy.bd) mc_X13_bit ml_X13_322 st_X13_bit rfl (rm_of hr (by decide)) (Nat.le_of_ble_eq_true rfl) rfl dX13_costOf_18 (kpI rfl rfl (fun x3 hy => ?_))
    refine aw_if_eq (pc := 21) hX 36 (by decide) dX13_costOf_21 (fun hc9 => ?_) (fun hc9 => ?_)
    · have hy := hy.t hc9
      refine aw_iconst (pc := 36) hX 0 (by decide) dX13_costOf_36 ?_
      refine AW.sub [0, 1, 3] rfl ?_
      exact w_X13_costOf_37 hX hN _ hr _ _ hc he0 v3 v2 0 hy
    · have hy := hy.f hc9
      refine aw_aloadn (pc := 24) hX 0 rfl dX13_costOf_24 ?_
      refine aw_gR (pc := 25) hX hy fl_X13_338 (fun _ _ => rfl) dX13_costOf_25 (fun r4 hy => ?_)
      refine aw_gR (pc := 28) hX hy fl_X13_304 (fun _ _ => rfl) dX13_costOf_28 (fun r5 hy => ?_)
      refine aw_iloadn (pc := 31) hX 3 rfl dX13_costOf_31 ?_
      refine aw_aI (pc := 32) hX hy dX13_costOf_32 (fun x6 hy => ?_)
      refine aw_goto (pc := 33) hX 37 (by decide) dX13_costOf_33 ?_
      refine AW.sub [0, 1, 3] rfl ?_
      exact w_X13_costOf_37 hX hN _ hr _ _ hc he0 v3 v2 x6 hy
theorem wl_X13_costOf_4 {G : GE} {X : CX} {l : Launch} (hX : Ok G X cX13_costOf RX13) (hN : xn X = 4) (h : Mem) {P0 : Int32 → Prop} (hr : Rt G X l yX13_costOf (some .int) rm_X13_costOf (ppI h P0)) (v0 : Nat) (v1 : Int32) {P : (Int32) → Prop} (he0 : ∀ e, P e → AW G X 45 [(2, vI e)] [] h 0 0) : ∀ (n : Nat) (s : Int32 × Int32), OK (iter (fun (s : Int32 × Int32) => b_X13_costOf_4 h v0 v1 s.1 s.2) n s) P → AW G X 4 [(0, vR v0), (1, vI v1), (2, vI s.1), (3, vI s.2)] [] h 0 0 := by
  intro n
  induction n with
  | zero => exact fun s hy => hy.it0.elim
  | succ n ih =>
    intro s hy
    exact wb_X13_costOf_4 hX hN h hr v0 v1 (fun s hs => ih s hs) (fun e hs => he0 e hs) s.1 s.2 hy.it
def f_X13_costOf (h : Mem) (v0 : Nat) (v1 : Int32) : Option Int32 :=
  (ck h v0 11).bind fun _ => (iter (fun (s : Int32 × Int32) => b_X13_costOf_4 h v0 v1 s.1 s.2) FU (0, 0)).bind (fun q7 => some q7)
set_option maxRecDepth 100000 in
set_option maxHeartbeats 4000000 in
theorem w_X13_costOf {G : GE} {X : CX} {l : Launch} (hX : Ok G X cX13_costOf RX13) (hN : xn X = 4) (h : Mem) {P : Int32 → Prop} (hr : Rt G X l yX13_costOf (some .int) rm_X13_costOf (ppI h P)) (v0 : Nat) (v1 : Int32) (hy : OK (f_X13_costOf h v0 v1) P) : AW G X 0 [(0, vR v0), (1, vI v1)] [] h 0 0 := by
  unfold f_X13_costOf at hy
  have hkd := hy.kd
  have hy := hy.kb
  refine aw_iconst (pc := 0) hX 0 (by decide) dX13_costOf_0 ?_
  refine aw_istoren (pc := 1) hX [(2, vI 0), (0, vR v0), (1, vI v1)] rfl (lt_n hN (by decide)) dX13_costOf_1 ?_
  refine aw_iconst (pc := 2) hX 0 (by decide) dX13_costOf_2 ?_
  refine aw_istoren (pc := 3) hX [(3, vI 0), (2, vI 0), (0, vR v0), (1, vI v1)] rfl (lt_n hN (by decide)) dX13_costOf_3 ?_
  refine AW.sub [2, 3, 1, 0] rfl ?_
  refine wl_X13_costOf_4 hX hN _ hr v0 v1 ?_ FU (0, 0) hy.bd
  · intro q7 hy
    refine aw_iloadn (pc := 45) hX 0 rfl dX13_costOf_45 ?_
    exact aw_iret (pc := 46) hX hr (by decide) (by decide) dX13_costOf_46 ⟨rfl, _, rfl, hy.s⟩
theorem con_X13_costOf (l : Launch) (G : GE) (h : Mem) (v0 : Nat) (v1 : Int32) {P : Int32 → Prop} (hy : OK (f_X13_costOf h v0 v1) P) : Con l G yX13_costOf cX13_costOf 4 (some .int) rm_X13_costOf [vR v0, vI v1] h (ppI h P) := Con.of (by decide) (Nat.le_of_ble_eq_true rfl) (fun X hX hr hN => w_X13_costOf hX hN h hr v0 v1 hy)
/-! X13_tripOf -/
theorem dX13_tripOf_0 : decode cX13_tripOf 0 = .ok (.bipush (-2), 2) := by decide +kernel
theorem dX13_tripOf_2 : decode cX13_tripOf 2 = .ok (.istore_n 3, 1) := by decide +kernel
theorem dX13_tripOf_3 : decode cX13_tripOf 3 = .ok (.iconst 0, 1) := by decide +kernel
theorem dX13_tripOf_4 : decode cX13_tripOf 4 = .ok (.istore 4, 2) := by decide +kernel
theorem dX13_tripOf_6 : decode cX13_tripOf 6 = .ok (.iload 4, 2) := by decide +kernel
theorem dX13_tripOf_8 : decode cX13_tripOf 8 = .ok (.iconst 1, 1) := by decide +kernel
theorem dX13_tripOf_9 : decode cX13_tripOf 9 = .ok (.aload_n 0, 1) := by decide +kernel
theorem dX13_tripOf_10 : decode cX13_tripOf 10 = .ok (.getfield 338, 3) := by decide +kernel
theorem dX13_tripOf_13 : decode cX13_tripOf 13 = .ok (.getfield 287, 3) := by decide +kernel
theorem dX13_tripOf_16 : decode cX13_tripOf 16 = .ok (.ishl, 1) := by decide +kernel
theorem dX13_tripOf_17 : decode cX13_tripOf 17 = .ok (.if_icmp .ge 102, 3) := by decide +kernel
theorem dX13_tripOf_20 : decode cX13_tripOf 20 = .ok (.aload_n 0, 1) := by decide +kernel
theorem dX13_tripOf_21 : decode cX13_tripOf 21 = .ok (.iload 4, 2) := by decide +kernel
theorem dX13_tripOf_23 : decode cX13_tripOf 23 = .ok (.invokevirtual 412, 3) := by decide +kernel
theorem dX13_tripOf_26 : decode cX13_tripOf 26 = .ok (.istore 5, 2) := by decide +kernel
theorem dX13_tripOf_28 : decode cX13_tripOf 28 = .ok (.iload 5, 2) := by decide +kernel
theorem dX13_tripOf_30 : decode cX13_tripOf 30 = .ok (.aload_n 0, 1) := by decide +kernel
theorem dX13_tripOf_31 : decode cX13_tripOf 31 = .ok (.getfield 17, 3) := by decide +kernel
theorem dX13_tripOf_34 : decode cX13_tripOf 34 = .ok (.iconst 4, 1) := by decide +kernel
theorem dX13_tripOf_35 : decode cX13_tripOf 35 = .ok (.iload_n 1, 1) := by decide +kernel
theorem dX13_tripOf_36 : decode cX13_tripOf 36 = .ok (.iadd, 1) := by decide +kernel
theorem dX13_tripOf_37 : decode cX13_tripOf 37 = .ok (.iaload, 1) := by decide +kernel
theorem dX13_tripOf_38 : decode cX13_tripOf 38 = .ok (.if_icmp .gt 75, 3) := by decide +kernel
theorem dX13_tripOf_41 : decode cX13_tripOf 41 = .ok (.iload_n 3, 1) := by decide +kernel
theorem dX13_tripOf_42 : decode cX13_tripOf 42 = .ok (.bipush (-2), 2) := by decide +kernel
theorem dX13_tripOf_44 : decode cX13_tripOf 44 = .ok (.if_icmp .eq 38, 3) := by decide +kernel
theorem dX13_tripOf_47 : decode cX13_tripOf 47 = .ok (.iload 5, 2) := by decide +kernel
theorem dX13_tripOf_49 : decode cX13_tripOf 49 = .ok (.aload_n 0, 1) := by decide +kernel
theorem dX13_tripOf_50 : decode cX13_tripOf 50 = .ok (.iload_n 3, 1) := by decide +kernel
theorem dX13_tripOf_51 : decode cX13_tripOf 51 = .ok (.invokevirtual 412, 3) := by decide +kernel
theorem dX13_tripOf_54 : decode cX13_tripOf 54 = .ok (.if_icmp .gt 59, 3) := by decide +kernel
theorem dX13_tripOf_57 : decode cX13_tripOf 57 = .ok (.iload 5, 2) := by decide +kernel
theorem dX13_tripOf_59 : decode cX13_tripOf 59 = .ok (.aload_n 0, 1) := by decide +kernel
theorem dX13_tripOf_60 : decode cX13_tripOf 60 = .ok (.iload_n 3, 1) := by decide +kernel
theorem dX13_tripOf_61 : decode cX13_tripOf 61 = .ok (.invokevirtual 412, 3) := by decide +kernel
theorem dX13_tripOf_64 : decode cX13_tripOf 64 = .ok (.if_icmp .ne 18, 3) := by decide +kernel
theorem dX13_tripOf_67 : decode cX13_tripOf 67 = .ok (.iload 4, 2) := by decide +kernel
theorem dX13_tripOf_69 : decode cX13_tripOf 69 = .ok (.invokestatic 400, 3) := by decide +kernel
theorem dX13_tripOf_72 : decode cX13_tripOf 72 = .ok (.iload_n 3, 1) := by decide +kernel
theorem dX13_tripOf_73 : decode cX13_tripOf 73 = .ok (.invokestatic 400, 3) := by decide +kernel
theorem dX13_tripOf_76 : decode cX13_tripOf 76 = .ok (.if_icmp .lt 6, 3) := by decide +kernel
theorem dX13_tripOf_79 : decode cX13_tripOf 79 = .ok (.goto 34, 3) := by decide +kernel
theorem dX13_tripOf_82 : decode cX13_tripOf 82 = .ok (.aload_n 0, 1) := by decide +kernel
theorem dX13_tripOf_83 : decode cX13_tripOf 83 = .ok (.iload_n 1, 1) := by decide +kernel
theorem dX13_tripOf_84 : decode cX13_tripOf 84 = .ok (.iload 4, 2) := by decide +kernel
theorem dX13_tripOf_86 : decode cX13_tripOf 86 = .ok (.invokevirtual 415, 3) := by decide +kernel
theorem dX13_tripOf_89 : decode cX13_tripOf 89 = .ok (.aload_n 0, 1) := by decide +kernel
theorem dX13_tripOf_90 : decode cX13_tripOf 90 = .ok (.getfield 403, 3) := by decide +kernel
theorem dX13_tripOf_93 : decode cX13_tripOf 93 = .ok (.iload 4, 2) := by decide +kernel
theorem dX13_tripOf_95 : decode cX13_tripOf 95 = .ok (.if_icmp .ne 18, 3) := by decide +kernel
theorem dX13_tripOf_98 : decode cX13_tripOf 98 = .ok (.aload_n 0, 1) := by decide +kernel
theorem dX13_tripOf_99 : decode cX13_tripOf 99 = .ok (.iload_n 1, 1) := by decide +kernel
theorem dX13_tripOf_100 : decode cX13_tripOf 100 = .ok (.iload_n 2, 1) := by decide +kernel
theorem dX13_tripOf_101 : decode cX13_tripOf 101 = .ok (.invokevirtual 391, 3) := by decide +kernel
theorem dX13_tripOf_104 : decode cX13_tripOf 104 = .ok (.ldc_w 386, 3) := by decide +kernel
theorem dX13_tripOf_107 : decode cX13_tripOf 107 = .ok (.if_icmp .ge 6, 3) := by decide +kernel
theorem dX13_tripOf_110 : decode cX13_tripOf 110 = .ok (.iload 4, 2) := by decide +kernel
theorem dX13_tripOf_112 : decode cX13_tripOf 112 = .ok (.istore_n 3, 1) := by decide +kernel
theorem dX13_tripOf_113 : decode cX13_tripOf 113 = .ok (.iinc 4 1, 3) := by decide +kernel
theorem dX13_tripOf_116 : decode cX13_tripOf 116 = .ok (.goto (-110), 3) := by decide +kernel
theorem dX13_tripOf_119 : decode cX13_tripOf 119 = .ok (.iload_n 3, 1) := by decide +kernel
theorem dX13_tripOf_120 : decode cX13_tripOf 120 = .ok (.ireturn, 1) := by decide +kernel
abbrev rm_X13_tripOf : Room := { frames := 6, cells := 0, slots := 0, locals := 155 }
def f_X13_tripOf_113 (h : Mem) (v0 : Nat) (v1 : Int32) (v2 : Int32) (v3 : Int32) (v4 : Int32) : Option ((Int32 × Int32 × Mem) ⊕ ((Int32 × Mem))) :=
  some (.inl (v3, (v4 + 1), h))
set_option maxRecDepth 100000 in
set_option maxHeartbeats 4000000 in
theorem w_X13_tripOf_113 {G : GE} {X : CX} {l : Launch} (hX : Ok G X cX13_tripOf RX13) (hN : xn X = 6) {P0 : (Int32 × Mem) → Prop} (hr : Rt G X l yX13_tripOf (some .int) rm_X13_tripOf (pmI P0))  (v0 : Nat) (v1 : Int32) (v2 : Int32) {P : ((Int32 × Int32 × Mem) ⊕ ((Int32 × Mem))) → Prop} (hc : ∀ s, P (.inl s) → AW G X 6 [(0, vR v0), (1, vI v1), (2, vI v2), (3, vI s.1), (4, vI s.2.1)] [] s.2.2 0 0) (he0 : ∀ e, P (.inr e) → AW G X 119 [(3, vI e.1)] [] e.2 0 0) (h : Mem) (v3 : Int32) (v4 : Int32) (hy : OK (f_X13_tripOf_113 h v0 v1 v2 v3 v4) P) : AW G X 113 [(0, vR v0), (1, vI v1), (2, vI v2), (3, vI v3), (4, vI v4)] [] h 0 0 := by
  unfold f_X13_tripOf_113 at hy
  refine aw_iinc (pc := 113) hX 1 (by decide) 4 rfl [(4, vI (v4 + 1)), (0, vR v0), (1, vI v1), (2, vI v2), (3, vI v3)] rfl (lt_n hN (by decide)) dX13_tripOf_113 ?_
  refine aw_goto (pc := 116) hX 6 (by decide) dX13_tripOf_116 ?_
  refine AW.sub [1, 2, 3, 4, 0] rfl ?_
  exact hc (v3, (v4 + 1), h) hy.s
def f_X13_tripOf_82 (h : Mem) (v0 : Nat) (v1 : Int32) (v2 : Int32) (v3 : Int32) (v4 : Int32) : Option ((Int32 × Int32 × Mem) ⊕ ((Int32 × Mem))) :=
  (f_X13_buysAll h v0 v1 v4).bind fun h6 => (gI h6 v0 22 11).bind fun x7 => (if x7 = v4 then (f_X13_farTo h6 v0 v1 v2).bind fun x8 => (if 99999 ≤ x8 then f_X13_tripOf_113 h6 v0 v1 v2 v3 v4 else f_X13_tripOf_113 h6 v0 v1 v2 v4 v4) else f_X13_tripOf_113 h6 v0 v1 v2 v3 v4)
set_option maxRecDepth 100000 in
set_option maxHeartbeats 4000000 in
theorem w_X13_tripOf_82 {G : GE} {X : CX} {l : Launch} (hX : Ok G X cX13_tripOf RX13) (hN : xn X = 6) {P0 : (Int32 × Mem) → Prop} (hr : Rt G X l yX13_tripOf (some .int) rm_X13_tripOf (pmI P0))  (v0 : Nat) (v1 : Int32) (v2 : Int32) {P : ((Int32 × Int32 × Mem) ⊕ ((Int32 × Mem))) → Prop} (hc : ∀ s, P (.inl s) → AW G X 6 [(0, vR v0), (1, vI v1), (2, vI v2), (3, vI s.1), (4, vI s.2.1)] [] s.2.2 0 0) (he0 : ∀ e, P (.inr e) → AW G X 119 [(3, vI e.1)] [] e.2 0 0) (h : Mem) (v3 : Int32) (v4 : Int32) (hy : OK (f_X13_tripOf_82 h v0 v1 v2 v3 v4) P) : AW G X 82 [(0, vR v0), (1, vI v1), (2, vI v2), (3, vI v3), (4, vI v4)] [] h 0 0 := by
  unfold f_X13_tripOf_82 at hy
  refine aw_aloadn (pc := 82) hX 0 rfl dX13_tripOf_82 ?_
  refine aw_iloadn (pc := 83) hX 1 rfl dX13_tripOf_83 ?_
  refine aw_iload (pc := 84) hX 4 rfl dX13_tripOf_84 ?_
  refine aw_callV (pc := 86) (st := []) (a := v0) hX [vI v1, vI v4] (con_X13_buysAll _ G _ v0 v1 v4 hy.bd) mc_X13_buysAll ml_X13_415 im_X13_buysAll se_X13_buysAll (by decide) hy.bd.kd rfl (rm_of hr (by decide)) (Nat.le_of_ble_eq_true rfl) rfl dX13_tripOf_86 (kmV rfl rfl (fun h6 hy => ?_))
  refine aw_aloadn (pc := 89) hX 0 rfl dX13_tripOf_89 ?_
  refine aw_gI (pc := 90) hX hy fl_X13_403 (fun _ _ => rfl) dX13_tripOf_90 (fun x7 hy => ?_)
  refine aw_iload (pc := 93) hX 4 rfl dX13_tripOf_93 ?_
  refine aw_ic_ne (pc := 95) hX 113 (by decide) dX13_tripOf_95 (fun hc9 => ?_) (fun hc9 => ?_)
  · have hy := hy.f hc9
    exact w_X13_tripOf_113 hX hN hr _ _ _ hc he0 h6 v3 v4 hy
  · have hy := hy.t hc9
    refine aw_aloadn (pc := 98) hX 0 rfl dX13_tripOf_98 ?_
    refine aw_iloadn (pc := 99) hX 1 rfl dX13_tripOf_99 ?_
    refine aw_iloadn (pc := 100) hX 2 rfl dX13_tripOf_100 ?_
    refine aw_callV (pc := 101) (st := []) (a := v0) hX [vI v1, vI v2] (con_X13_farTo _ G _ v0 v1 v2 hy.bd) mc_X13_farTo ml_X13_391 im_X13_farTo se_X13_farTo (by decide) hy.bd.kd rfl (rm_of hr (by decide)) (Nat.le_of_ble_eq_true rfl) rfl dX13_tripOf_101 (kpI rfl rfl (fun x8 hy => ?_))
    refine aw_ldcw (pc := 104) hX kc_X13_386 dX13_tripOf_104 ?_
    refine aw_ic_ge (pc := 107) hX 113 (by decide) dX13_tripOf_107 (fun hc9 => ?_) (fun hc9 => ?_)
    · have hy := hy.t hc9
      exact w_X13_tripOf_113 hX hN hr _ _ _ hc he0 h6 v3 v4 hy
    · have hy := hy.f hc9
      refine aw_iload (pc := 110) hX 4 rfl dX13_tripOf_110 ?_
      refine aw_istoren (pc := 112) hX [(3, vI v4), (0, vR v0), (1, vI v1), (2, vI v2), (4, vI v4)] rfl (lt_n hN (by decide)) dX13_tripOf_112 ?_
      refine AW.sub [1, 2, 3, 0, 4] rfl ?_
      exact w_X13_tripOf_113 hX hN hr _ _ _ hc he0 h6 v4 v4 hy
def b_X13_tripOf_6 (h : Mem) (v0 : Nat) (v1 : Int32) (v2 : Int32) (v3 : Int32) (v4 : Int32) : Option ((Int32 × Int32 × Mem) ⊕ ((Int32 × Mem))) :=
  (gR h v0 3 11).bind fun r1 => (gI h r1 5 10).bind fun x2 => (if ((1 : Int32) <<< (x2 &&& 31)) ≤ v4 then some (.inr (v3, h)) else (f_X13_costOf h v0 v4).bind fun x3 => (gR h v0 16 11).bind fun r4 => (aI h r4 (4 + v1)).bind fun x5 => (if x5 < x3 then f_X13_tripOf_113 h v0 v1 v2 v3 v4 else (if v3 = (-2) then f_X13_tripOf_82 h v0 v1 v2 v3 v4 else (f_X13_costOf h v0 v3).bind fun x9 => (if x9 < x3 then f_X13_tripOf_113 h v0 v1 v2 v3 v4 else (f_X13_costOf h v0 v3).bind fun x10 => (if x3 = x10 then (f_X13_bits h v4).bind fun x11 => (f_X13_bits h v3).bind fun x12 => (if x11 < x12 then f_X13_tripOf_82 h v0 v1 v2 v3 v4 else f_X13_tripOf_113 h v0 v1 v2 v3 v4) else f_X13_tripOf_82 h v0 v1 v2 v3 v4)))))
set_option maxRecDepth 100000 in
set_option maxHeartbeats 4000000 in
theorem wb_X13_tripOf_6 {G : GE} {X : CX} {l : Launch} (hX : Ok G X cX13_tripOf RX13) (hN : xn X = 6) {P0 : (Int32 × Mem) → Prop} (hr : Rt G X l yX13_tripOf (some .int) rm_X13_tripOf (pmI P0))  (v0 : Nat) (v1 : Int32) (v2 : Int32) {P : ((Int32 × Int32 × Mem) ⊕ ((Int32 × Mem))) → Prop} (hc : ∀ s, P (.inl s) → AW G X 6 [(0, vR v0), (1, vI v1), (2, vI v2), (3, vI s.1), (4, vI s.2.1)] [] s.2.2 0 0) (he0 : ∀ e, P (.inr e) → AW G X 119 [(3, vI e.1)] [] e.2 0 0) (h : Mem) (v3 : Int32) (v4 : Int32) (hy : OK (b_X13_tripOf_6 h v0 v1 v2 v3 v4) P) : AW G X 6 [(0, vR v0), (1, vI v1), (2, vI v2), (3, vI v3), (4, vI v4)] [] h 0 0 := by
  unfold b_X13_tripOf_6 at hy
  refine aw_iload (pc := 6) hX 4 rfl dX13_tripOf_6 ?_
  refine aw_iconst (pc := 8) hX 1 (by decide) dX13_tripOf_8 ?_
  refine aw_aloadn (pc := 9) hX 0 rfl dX13_tripOf_9 ?_
  refine aw_gR (pc := 10) hX hy fl_X13_338 (fun _ _ => rfl) dX13_tripOf_10 (fun r1 hy => ?_)
  refine aw_gI (pc := 13) hX hy fl_X13_287 (fun _ _ => rfl) dX13_tripOf_13 (fun x2 hy => ?_)
  refine aw_ishl (pc := 16) hX dX13_tripOf_16 ?_
  refine aw_ic_ge (pc := 17) hX 119 (by decide) dX13_tripOf_17 (fun hc9 => ?_) (fun hc9 => ?_)
  · have hy := hy.t hc9
    refine AW.sub [3] rfl ?_
    exact he0 (v3, h) hy.s
  · have hy := hy.f hc9
    refine aw_aloadn (pc := 20) hX 0 rfl dX13_tripOf_20 ?_
    refine aw_iload (pc := 21) hX 4 rfl dX13_tripOf_21 ?_
    refine aw_callV (pc := 23) (st := []) (a := v0) hX [vI v4] (con_X13_costOf _ G _ v0 v4 hy.bd) mc_X13_costOf ml_X13_412 im_X13_costOf se_X13_costOf (by decide) hy.bd.kd rfl (rm_of hr (by decide)) (Nat.le_of_ble_eq_true rfl) rfl dX13_tripOf_23 (kpI rfl rfl (fun x3 hy => ?_))
    refine aw_istore (pc := 26) hX [(5, vI x3), (0, vR v0), (1, vI v1), (2, vI v2), (3, vI v3), (4, vI v4)] rfl (lt_n hN (by decide)) dX13_tripOf_26 ?_
    refine aw_iload (pc := 28) hX 0 rfl dX13_tripOf_28 ?_
    refine aw_aloadn (pc := 30) hX 1 rfl dX13_tripOf_30 ?_
    refine aw_gR (pc := 31) hX hy fl_X13_17 (fun _ _ => rfl) dX13_tripOf_31 (fun r4 hy => ?_)
    refine aw_iconst (pc := 34) hX 4 (by decide) dX13_tripOf_34 ?_
    refine aw_iloadn (pc := 35) hX 2 rfl dX13_tripOf_35 ?_
    refine aw_iadd (pc := 36) hX dX13_tripOf_36 ?_
    refine aw_aI (pc := 37) hX hy dX13_tripOf_37 (fun x5 hy => ?_)
    refine aw_ic_gt (pc := 38) hX 113 (by decide) dX13_tripOf_38 (fun hc9 => ?_) (fun hc9 => ?_)
    · have hy := hy.t hc9
      refine AW.sub [1, 2, 3, 4, 5] rfl ?_
      exact w_X13_tripOf_113 hX hN hr _ _ _ hc he0 h v3 v4 hy
    · have hy := hy.f hc9
      refine aw_iloadn (pc := 41) hX 4 rfl dX13_tripOf_41 ?_
      refine aw_bipush (pc := 42) hX (-2) (by decide) dX13_tripOf_42 ?_
      refine aw_ic_eq (pc := 44) hX 82 (by decide) dX13_tripOf_44 (fun hc9 => ?_) (fun hc9 => ?_)
      · have hy := hy.t hc9
        refine AW.sub [1, 2, 3, 4, 5] rfl ?_
        exact w_X13_tripOf_82 hX hN hr _ _ _ hc he0 h v3 v4 hy
      · have hy := hy.f hc9
        refine aw_iload (pc := 47) hX 0 rfl dX13_tripOf_47 ?_
        refine aw_aloadn (pc := 49) hX 1 rfl dX13_tripOf_49 ?_
        refine aw_iloadn (pc := 50) hX 4 rfl dX13_tripOf_50 ?_
        refine aw_callV (pc := 51) (st := [vI x3]) (a := v0) hX [vI v3] (con_X13_costOf _ G _ v0 v3 hy.bd) mc_X13_costOf ml_X13_412 im_X13_costOf se_X13_costOf (by decide) hy.bd.kd rfl (rm_of hr (by decide)) (Nat.le_of_ble_eq_true rfl) rfl dX13_tripOf_51 (kpI rfl rfl (fun x9 hy => ?_))
        refine aw_ic_gt (pc := 54) hX 113 (by decide) dX13_tripOf_54 (fun hc9 => ?_) (fun hc9 => ?_)
        · have hy := hy.t hc9
          refine AW.sub [1, 2, 3, 4, 5] rfl ?_
          exact w_X13_tripOf_113 hX hN hr _ _ _ hc he0 h v3 v4 hy
        · have hy := hy.f hc9
          refine aw_iload (pc := 57) hX 0 rfl dX13_tripOf_57 ?_
          refine aw_aloadn (pc := 59) hX 1 rfl dX13_tripOf_59 ?_
          refine aw_iloadn (pc := 60) hX 4 rfl dX13_tripOf_60 ?_
          refine aw_callV (pc := 61) (st := [vI x3]) (a := v0) hX [vI v3] (con_X13_costOf _ G _ v0 v3 hy.bd) mc_X13_costOf ml_X13_412 im_X13_costOf se_X13_costOf (by decide) hy.bd.kd rfl (rm_of hr (by decide)) (Nat.le_of_ble_eq_true rfl) rfl dX13_tripOf_61 (kpI rfl rfl (fun x10 hy => ?_))
          refine aw_ic_ne (pc := 64) hX 82 (by decide) dX13_tripOf_64 (fun hc9 => ?_) (fun hc9 => ?_)
          · have hy := hy.f hc9
            refine AW.sub [1, 2, 3, 4, 5] rfl ?_
            exact w_X13_tripOf_82 hX hN hr _ _ _ hc he0 h v3 v4 hy
          · have hy := hy.t hc9
            refine aw_iload (pc := 67) hX 5 rfl dX13_tripOf_67 ?_
            refine aw_callS (pc := 69) (st := []) hX [vI v4] (con_X13_bits _ G _ v4 hy.bd) mc_X13_bits ml_X13_400 st_X13_bits rfl (rm_of hr (by decide)) (Nat.le_of_ble_eq_true rfl) rfl dX13_tripOf_69 (kpI rfl rfl (fun x11 hy => ?_))
            refine aw_iloadn (pc := 72) hX 4 rfl dX13_tripOf_72 ?_
            refine aw_callS (pc := 73) (st := [vI x11]) hX [vI v3] (con_X13_bits _ G _ v3 hy.bd) mc_X13_bits ml_X13_400 st_X13_bits rfl (rm_of hr (by decide)) (Nat.le_of_ble_eq_true rfl) rfl dX13_tripOf_73 (kpI rfl rfl (fun x12 hy => ?_))
            refine aw_ic_lt (pc := 76) hX 82 (by decide) dX13_tripOf_76 (fun hc9 => ?_) (fun hc9 => ?_)
            · have hy := hy.t hc9
              refine AW.sub [1, 2, 3, 4, 5] rfl ?_
              exact w_X13_tripOf_82 hX hN hr _ _ _ hc he0 h v3 v4 hy
            · have hy := hy.f hc9
              refine aw_goto (pc := 79) hX 113 (by decide) dX13_tripOf_79 ?_
              refine AW.sub [1, 2, 3, 4, 5] rfl ?_
              exact w_X13_tripOf_113 hX hN hr _ _ _ hc he0 h v3 v4 hy
theorem wl_X13_tripOf_6 {G : GE} {X : CX} {l : Launch} (hX : Ok G X cX13_tripOf RX13) (hN : xn X = 6) {P0 : (Int32 × Mem) → Prop} (hr : Rt G X l yX13_tripOf (some .int) rm_X13_tripOf (pmI P0)) (v0 : Nat) (v1 : Int32) (v2 : Int32) {P : ((Int32 × Mem)) → Prop} (he0 : ∀ e, P e → AW G X 119 [(3, vI e.1)] [] e.2 0 0) : ∀ (n : Nat) (s : Int32 × Int32 × Mem), OK (iter (fun (s : Int32 × Int32 × Mem) => b_X13_tripOf_6 s.2.2 v0 v1 v2 s.1 s.2.1) n s) P → AW G X 6 [(0, vR v0), (1, vI v1), (2, vI v2), (3, vI s.1), (4, vI s.2.1)] [] s.2.2 0 0 := by
  intro n
  induction n with
  | zero => exact fun s hy => hy.it0.elim
  | succ n ih =>
    intro s hy
    exact wb_X13_tripOf_6 hX hN hr v0 v1 v2 (fun s hs => ih s hs) (fun e hs => he0 e hs) s.2.2 s.1 s.2.1 hy.it
def f_X13_tripOf (h : Mem) (v0 : Nat) (v1 : Int32) (v2 : Int32) : Option (Int32 × Mem) :=
  (ck h v0 11).bind fun _ => (iter (fun (s : Int32 × Int32 × Mem) => b_X13_tripOf_6 s.2.2 v0 v1 v2 s.1 s.2.1) FU ((-2), 0, h)).bind (fun q13 => some (q13.1, q13.2))
set_option maxRecDepth 100000 in
set_option maxHeartbeats 4000000 in
theorem w_X13_tripOf {G : GE} {X : CX} {l : Launch} (hX : Ok G X cX13_tripOf RX13) (hN : xn X = 6) {P : (Int32 × Mem) → Prop} (hr : Rt G X l yX13_tripOf (some .int) rm_X13_tripOf (pmI P)) (h : Mem) (v0 : Nat) (v1 : Int32) (v2 : Int32) (hy : OK (f_X13_tripOf h v0 v1 v2) P) : AW G X 0 [(0, vR v0), (1, vI v1), (2, vI v2)] [] h 0 0 := by
  unfold f_X13_tripOf at hy
  have hkd := hy.kd
  have hy := hy.kb
  refine aw_bipush (pc := 0) hX (-2) (by decide) dX13_tripOf_0 ?_
  refine aw_istoren (pc := 2) hX [(3, vI (-2)), (0, vR v0), (1, vI v1), (2, vI v2)] rfl (lt_n hN (by decide)) dX13_tripOf_2 ?_
  refine aw_iconst (pc := 3) hX 0 (by decide) dX13_tripOf_3 ?_
  refine aw_istore (pc := 4) hX [(4, vI 0), (3, vI (-2)), (0, vR v0), (1, vI v1), (2, vI v2)] rfl (lt_n hN (by decide)) dX13_tripOf_4 ?_
  refine AW.sub [2, 3, 4, 1, 0] rfl ?_
  refine wl_X13_tripOf_6 hX hN hr v0 v1 v2 ?_ FU ((-2), 0, h) hy.bd
  · intro q13 hy
    refine aw_iloadn (pc := 119) hX 0 rfl dX13_tripOf_119 ?_
    exact aw_iret (pc := 120) hX hr (by decide) (by decide) dX13_tripOf_120 ⟨_, rfl, hy.s⟩
theorem con_X13_tripOf (l : Launch) (G : GE) (h : Mem) (v0 : Nat) (v1 : Int32) (v2 : Int32) {P : (Int32 × Mem) → Prop} (hy : OK (f_X13_tripOf h v0 v1 v2) P) : Con l G yX13_tripOf cX13_tripOf 6 (some .int) rm_X13_tripOf [vR v0, vI v1, vI v2] h (pmI P) := Con.of (by decide) (Nat.le_of_ble_eq_true rfl) (fun X hX hr hN => w_X13_tripOf hX hN hr h v0 v1 v2 hy)
/-! X13_trip -/
theorem dX13_trip_0 : decode cX13_trip 0 = .ok (.aload_n 0, 1) := by decide +kernel
theorem dX13_trip_1 : decode cX13_trip 1 = .ok (.iconst 0, 1) := by decide +kernel
theorem dX13_trip_2 : decode cX13_trip 2 = .ok (.putfield 51, 3) := by decide +kernel
theorem dX13_trip_5 : decode cX13_trip 5 = .ok (.aload_n 0, 1) := by decide +kernel
theorem dX13_trip_6 : decode cX13_trip 6 = .ok (.iload_n 1, 1) := by decide +kernel
theorem dX13_trip_7 : decode cX13_trip 7 = .ok (.invokevirtual 373, 3) := by decide +kernel
theorem dX13_trip_10 : decode cX13_trip 10 = .ok (.ifCond .eq 11, 3) := by decide +kernel
theorem dX13_trip_13 : decode cX13_trip 13 = .ok (.aload_n 0, 1) := by decide +kernel
theorem dX13_trip_14 : decode cX13_trip 14 = .ok (.iload_n 2, 1) := by decide +kernel
theorem dX13_trip_15 : decode cX13_trip 15 = .ok (.invokevirtual 347, 3) := by decide +kernel
theorem dX13_trip_18 : decode cX13_trip 18 = .ok (.ifCond .ne 9, 3) := by decide +kernel
theorem dX13_trip_21 : decode cX13_trip 21 = .ok (.aload_n 0, 1) := by decide +kernel
theorem dX13_trip_22 : decode cX13_trip 22 = .ok (.iconst 1, 1) := by decide +kernel
theorem dX13_trip_23 : decode cX13_trip 23 = .ok (.invokevirtual 57, 3) := by decide +kernel
theorem dX13_trip_26 : decode cX13_trip 26 = .ok (.ireturn, 1) := by decide +kernel
theorem dX13_trip_27 : decode cX13_trip 27 = .ok (.aload_n 0, 1) := by decide +kernel
theorem dX13_trip_28 : decode cX13_trip 28 = .ok (.iload_n 1, 1) := by decide +kernel
theorem dX13_trip_29 : decode cX13_trip 29 = .ok (.iload_n 2, 1) := by decide +kernel
theorem dX13_trip_30 : decode cX13_trip 30 = .ok (.invokevirtual 418, 3) := by decide +kernel
theorem dX13_trip_33 : decode cX13_trip 33 = .ok (.istore_n 3, 1) := by decide +kernel
theorem dX13_trip_34 : decode cX13_trip 34 = .ok (.aload_n 0, 1) := by decide +kernel
theorem dX13_trip_35 : decode cX13_trip 35 = .ok (.iload_n 3, 1) := by decide +kernel
theorem dX13_trip_36 : decode cX13_trip 36 = .ok (.bipush (-2), 2) := by decide +kernel
theorem dX13_trip_38 : decode cX13_trip 38 = .ok (.if_icmp .ne 8, 3) := by decide +kernel
theorem dX13_trip_41 : decode cX13_trip 41 = .ok (.bipush (-2), 2) := by decide +kernel
theorem dX13_trip_43 : decode cX13_trip 43 = .ok (.goto 8, 3) := by decide +kernel
theorem dX13_trip_46 : decode cX13_trip 46 = .ok (.aload_n 0, 1) := by decide +kernel
theorem dX13_trip_47 : decode cX13_trip 47 = .ok (.iload_n 3, 1) := by decide +kernel
theorem dX13_trip_48 : decode cX13_trip 48 = .ok (.invokevirtual 412, 3) := by decide +kernel
theorem dX13_trip_51 : decode cX13_trip 51 = .ok (.invokevirtual 61, 3) := by decide +kernel
theorem dX13_trip_54 : decode cX13_trip 54 = .ok (.ireturn, 1) := by decide +kernel
abbrev rm_X13_trip : Room := { frames := 7, cells := 0, slots := 0, locals := 180 }
def f_X13_trip_21 (h : Mem) (v0 : Nat) : Option (Int32 × Mem) :=
  (f_X13_refused h v0 1).bind fun q5 => some (q5.1, q5.2)
set_option maxRecDepth 100000 in
set_option maxHeartbeats 4000000 in
theorem w_X13_trip_21 {G : GE} {X : CX} {l : Launch} (hX : Ok G X cX13_trip RX13) (hN : xn X = 4) {P : (Int32 × Mem) → Prop} (hr : Rt G X l yX13_trip (some .int) rm_X13_trip (pmI P)) (h : Mem) (v0 : Nat) (hy : OK (f_X13_trip_21 h v0) P) : AW G X 21 [(0, vR v0)] [] h 0 0 := by
  unfold f_X13_trip_21 at hy
  refine aw_aloadn (pc := 21) hX 0 rfl dX13_trip_21 ?_
  refine aw_iconst (pc := 22) hX 1 (by decide) dX13_trip_22 ?_
  refine aw_callV (pc := 23) (st := []) (a := v0) hX [vI 1] (con_X13_refused _ G _ v0 1 hy.bd) mc_X13_refused ml_X13_57 im_X13_refused se_X13_refused (by decide) hy.bd.kd rfl (rm_of hr (by decide)) (Nat.le_of_ble_eq_true rfl) rfl dX13_trip_23 (kmI rfl rfl (fun q5 hy => ?_))
  exact aw_iret (pc := 26) hX hr (by decide) (by decide) dX13_trip_26 ⟨_, rfl, hy.s⟩
def f_X13_trip_51 (h : Mem) (s0 : Nat) (s1 : Int32) : Option (Int32 × Mem) :=
  (f_X13_good h s0 s1).bind fun q13 => some (q13.1, q13.2)
set_option maxRecDepth 100000 in
set_option maxHeartbeats 4000000 in
theorem w_X13_trip_51 {G : GE} {X : CX} {l : Launch} (hX : Ok G X cX13_trip RX13) (hN : xn X = 4) {P : (Int32 × Mem) → Prop} (hr : Rt G X l yX13_trip (some .int) rm_X13_trip (pmI P)) (h : Mem) (s0 : Nat) (s1 : Int32) (hy : OK (f_X13_trip_51 h s0 s1) P) : AW G X 51 [] [vI s1, vR s0] h 0 0 := by
  unfold f_X13_trip_51 at hy
  refine aw_callV (pc := 51) (st := []) (a := s0) hX [vI s1] (con_X13_good _ G _ s0 s1 hy.bd) mc_X13_good ml_X13_61 im_X13_good se_X13_good (by decide) hy.bd.kd rfl (rm_of hr (by decide)) (Nat.le_of_ble_eq_true rfl) rfl dX13_trip_51 (kmI rfl rfl (fun q13 hy => ?_))
  exact aw_iret (pc := 54) hX hr (by decide) (by decide) dX13_trip_54 ⟨_, rfl, hy.s⟩
def f_X13_trip (h : Mem) (v0 : Nat) (v1 : Int32) (v2 : Int32) : Option (Int32 × Mem) :=
  (ck h v0 11).bind fun _ => (pI h v0 0 11 0).bind fun h1 => (f_X13_isPerson h1 v0 v1).bind fun x2 => (if x2 = 0 then f_X13_trip_21 h1 v0 else (f_X13_isPlace h1 v0 v2).bind fun x6 => (if x6 = 0 then f_X13_trip_21 h1 v0 else (f_X13_tripOf h1 v0 v1 v2).bind fun q9 => (if q9.1 = (-2) then f_X13_trip_51 q9.2 v0 (-2) else (f_X13_costOf q9.2 v0 q9.1).bind fun x10 => f_X13_trip_51 q9.2 v0 x10)))
set_option maxRecDepth 100000 in
set_option maxHeartbeats 4000000 in
theorem w_X13_trip {G : GE} {X : CX} {l : Launch} (hX : Ok G X cX13_trip RX13) (hN : xn X = 4) {P : (Int32 × Mem) → Prop} (hr : Rt G X l yX13_trip (some .int) rm_X13_trip (pmI P)) (h : Mem) (v0 : Nat) (v1 : Int32) (v2 : Int32) (hy : OK (f_X13_trip h v0 v1 v2) P) : AW G X 0 [(0, vR v0), (1, vI v1), (2, vI v2)] [] h 0 0 := by
  unfold f_X13_trip at hy
  have hkd := hy.kd
  have hy := hy.kb
  refine aw_aloadn (pc := 0) hX 0 rfl dX13_trip_0 ?_
  refine aw_iconst (pc := 1) hX 0 (by decide) dX13_trip_1 ?_
  refine aw_pI (pc := 2) hX hy fl_X13_51 rfl (Or.inl rfl) dX13_trip_2 (fun h1 hy => ?_)
  refine aw_aloadn (pc := 5) hX 0 rfl dX13_trip_5 ?_
  refine aw_iloadn (pc := 6) hX 1 rfl dX13_trip_6 ?_
  refine aw_callV (pc := 7) (st := []) (a := v0) hX [vI v1] (con_X13_isPerson _ G _ v0 v1 hy.bd) mc_X13_isPerson ml_X13_373 im_X13_isPerson se_X13_isPerson (by decide) hy.bd.kd rfl (rm_of hr (by decide)) (Nat.le_of_ble_eq_true rfl) rfl dX13_trip_7 (kpI rfl rfl (fun x2 hy => ?_))
  refine aw_if_eq (pc := 10) hX 21 (by decide) dX13_trip_10 (fun hc9 => ?_) (fun hc9 => ?_)
  · have hy := hy.t hc9
    refine AW.sub [0] rfl ?_
    exact w_X13_trip_21 hX hN hr h1 v0 hy
  · have hy := hy.f hc9
    refine aw_aloadn (pc := 13) hX 0 rfl dX13_trip_13 ?_
    refine aw_iloadn (pc := 14) hX 2 rfl dX13_trip_14 ?_
    refine aw_callV (pc := 15) (st := []) (a := v0) hX [vI v2] (con_X13_isPlace _ G _ v0 v2 hy.bd) mc_X13_isPlace ml_X13_347 im_X13_isPlace se_X13_isPlace (by decide) hy.bd.kd rfl (rm_of hr (by decide)) (Nat.le_of_ble_eq_true rfl) rfl dX13_trip_15 (kpI rfl rfl (fun x6 hy => ?_))
    refine aw_if_ne (pc := 18) hX 27 (by decide) dX13_trip_18 (fun hc9 => ?_) (fun hc9 => ?_)
    · have hy := hy.f hc9
      refine aw_aloadn (pc := 27) hX 0 rfl dX13_trip_27 ?_
      refine aw_iloadn (pc := 28) hX 1 rfl dX13_trip_28 ?_
      refine aw_iloadn (pc := 29) hX 2 rfl dX13_trip_29 ?_
      refine aw_callV (pc := 30) (st := []) (a := v0) hX [vI v1, vI v2] (con_X13_tripOf _ G _ v0 v1 v2 hy.bd) mc_X13_tripOf ml_X13_418 im_X13_tripOf se_X13_tripOf (by decide) hy.bd.kd rfl (rm_of hr (by decide)) (Nat.le_of_ble_eq_true rfl) rfl dX13_trip_30 (kmI rfl rfl (fun q9 hy => ?_))
      refine aw_istoren (pc := 33) hX [(3, vI q9.1), (0, vR v0), (1, vI v1), (2, vI v2)] rfl (lt_n hN (by decide)) dX13_trip_33 ?_
      refine aw_aloadn (pc := 34) hX 1 rfl dX13_trip_34 ?_
      refine aw_iloadn (pc := 35) hX 0 rfl dX13_trip_35 ?_
      refine aw_bipush (pc := 36) hX (-2) (by decide) dX13_trip_36 ?_
      refine aw_ic_ne (pc := 38) hX 46 (by decide) dX13_trip_38 (fun hc9 => ?_) (fun hc9 => ?_)
      · have hy := hy.f hc9
        refine aw_aloadn (pc := 46) hX 1 rfl dX13_trip_46 ?_
        refine aw_iloadn (pc := 47) hX 0 rfl dX13_trip_47 ?_
        refine aw_callV (pc := 48) (st := [vR v0]) (a := v0) hX [vI q9.1] (con_X13_costOf _ G _ v0 q9.1 hy.bd) mc_X13_costOf ml_X13_412 im_X13_costOf se_X13_costOf (by decide) hy.bd.kd rfl (rm_of hr (by decide)) (Nat.le_of_ble_eq_true rfl) rfl dX13_trip_48 (kpI rfl rfl (fun x10 hy => ?_))
        refine AW.sub [] rfl ?_
        exact w_X13_trip_51 hX hN hr q9.2 v0 x10 hy
      · have hy := hy.t hc9
        refine aw_bipush (pc := 41) hX (-2) (by decide) dX13_trip_41 ?_
        refine aw_goto (pc := 43) hX 51 (by decide) dX13_trip_43 ?_
        refine AW.sub [] rfl ?_
        exact w_X13_trip_51 hX hN hr q9.2 v0 (-2) hy
    · have hy := hy.t hc9
      refine AW.sub [0] rfl ?_
      exact w_X13_trip_21 hX hN hr h1 v0 hy
theorem con_X13_trip (l : Launch) (G : GE) (h : Mem) (v0 : Nat) (v1 : Int32) (v2 : Int32) {P : (Int32 × Mem) → Prop} (hy : OK (f_X13_trip h v0 v1 v2) P) : Con l G yX13_trip cX13_trip 4 (some .int) rm_X13_trip [vR v0, vI v1, vI v2] h (pmI P) := Con.of (by decide) (Nat.le_of_ble_eq_true rfl) (fun X hX hr hN => w_X13_trip hX hN hr h v0 v1 v2 hy)
/-! X13_tripInns -/
theorem dX13_tripInns_0 : decode cX13_tripInns 0 = .ok (.aload_n 0, 1) := by decide +kernel
theorem dX13_tripInns_1 : decode cX13_tripInns 1 = .ok (.iconst 0, 1) := by decide +kernel
theorem dX13_tripInns_2 : decode cX13_tripInns 2 = .ok (.putfield 51, 3) := by decide +kernel
theorem dX13_tripInns_5 : decode cX13_tripInns 5 = .ok (.aload_n 0, 1) := by decide +kernel
theorem dX13_tripInns_6 : decode cX13_tripInns 6 = .ok (.iload_n 1, 1) := by decide +kernel
theorem dX13_tripInns_7 : decode cX13_tripInns 7 = .ok (.invokevirtual 373, 3) := by decide +kernel
theorem dX13_tripInns_10 : decode cX13_tripInns 10 = .ok (.ifCond .eq 24, 3) := by decide +kernel
theorem dX13_tripInns_13 : decode cX13_tripInns 13 = .ok (.aload_n 0, 1) := by decide +kernel
theorem dX13_tripInns_14 : decode cX13_tripInns 14 = .ok (.iload_n 2, 1) := by decide +kernel
theorem dX13_tripInns_15 : decode cX13_tripInns 15 = .ok (.invokevirtual 347, 3) := by decide +kernel
theorem dX13_tripInns_18 : decode cX13_tripInns 18 = .ok (.ifCond .eq 16, 3) := by decide +kernel
theorem dX13_tripInns_21 : decode cX13_tripInns 21 = .ok (.aload_n 0, 1) := by decide +kernel
theorem dX13_tripInns_22 : decode cX13_tripInns 22 = .ok (.aload_n 0, 1) := by decide +kernel
theorem dX13_tripInns_23 : decode cX13_tripInns 23 = .ok (.iload_n 1, 1) := by decide +kernel
theorem dX13_tripInns_24 : decode cX13_tripInns 24 = .ok (.iload_n 2, 1) := by decide +kernel
theorem dX13_tripInns_25 : decode cX13_tripInns 25 = .ok (.invokevirtual 418, 3) := by decide +kernel
theorem dX13_tripInns_28 : decode cX13_tripInns 28 = .ok (.invokevirtual 61, 3) := by decide +kernel
theorem dX13_tripInns_31 : decode cX13_tripInns 31 = .ok (.goto 8, 3) := by decide +kernel
theorem dX13_tripInns_34 : decode cX13_tripInns 34 = .ok (.aload_n 0, 1) := by decide +kernel
theorem dX13_tripInns_35 : decode cX13_tripInns 35 = .ok (.iconst 1, 1) := by decide +kernel
theorem dX13_tripInns_36 : decode cX13_tripInns 36 = .ok (.invokevirtual 57, 3) := by decide +kernel
theorem dX13_tripInns_39 : decode cX13_tripInns 39 = .ok (.ireturn, 1) := by decide +kernel
abbrev rm_X13_tripInns : Room := { frames := 7, cells := 0, slots := 0, locals := 180 }
def f_X13_tripInns_34 (h : Mem) (v0 : Nat) : Option (Int32 × Mem) :=
  (f_X13_refused h v0 1).bind fun q5 => some (q5.1, q5.2)
set_option maxRecDepth 100000 in
set_option maxHeartbeats 4000000 in
theorem w_X13_tripInns_34 {G : GE} {X : CX} {l : Launch} (hX : Ok G X cX13_tripInns RX13) (hN : xn X = 3) {P : (Int32 × Mem) → Prop} (hr : Rt G X l yX13_tripInns (some .int) rm_X13_tripInns (pmI P)) (h : Mem) (v0 : Nat) (hy : OK (f_X13_tripInns_34 h v0) P) : AW G X 34 [(0, vR v0)] [] h 0 0 := by
  unfold f_X13_tripInns_34 at hy
  refine aw_aloadn (pc := 34) hX 0 rfl dX13_tripInns_34 ?_
  refine aw_iconst (pc := 35) hX 1 (by decide) dX13_tripInns_35 ?_
  refine aw_callV (pc := 36) (st := []) (a := v0) hX [vI 1] (con_X13_refused _ G _ v0 1 hy.bd) mc_X13_refused ml_X13_57 im_X13_refused se_X13_refused (by decide) hy.bd.kd rfl (rm_of hr (by decide)) (Nat.le_of_ble_eq_true rfl) rfl dX13_tripInns_36 (kmI rfl rfl (fun q5 hy => ?_))
  exact aw_iret (pc := 39) hX hr (by decide) (by decide) dX13_tripInns_39 ⟨_, rfl, hy.s⟩
def f_X13_tripInns (h : Mem) (v0 : Nat) (v1 : Int32) (v2 : Int32) : Option (Int32 × Mem) :=
  (ck h v0 11).bind fun _ => (pI h v0 0 11 0).bind fun h1 => (f_X13_isPerson h1 v0 v1).bind fun x2 => (if x2 = 0 then f_X13_tripInns_34 h1 v0 else (f_X13_isPlace h1 v0 v2).bind fun x6 => (if x6 = 0 then f_X13_tripInns_34 h1 v0 else (f_X13_tripOf h1 v0 v1 v2).bind fun q9 => (f_X13_good q9.2 v0 q9.1).bind fun q12 => some (q12.1, q12.2)))
set_option maxRecDepth 100000 in
set_option maxHeartbeats 4000000 in
theorem w_X13_tripInns {G : GE} {X : CX} {l : Launch} (hX : Ok G X cX13_tripInns RX13) (hN : xn X = 3) {P : (Int32 × Mem) → Prop} (hr : Rt G X l yX13_tripInns (some .int) rm_X13_tripInns (pmI P)) (h : Mem) (v0 : Nat) (v1 : Int32) (v2 : Int32) (hy : OK (f_X13_tripInns h v0 v1 v2) P) : AW G X 0 [(0, vR v0), (1, vI v1), (2, vI v2)] [] h 0 0 := by
  unfold f_X13_tripInns at hy
  have hkd := hy.kd
  have hy := hy.kb
  refine aw_aloadn (pc := 0) hX 0 rfl dX13_tripInns_0 ?_
  refine aw_iconst (pc := 1) hX 0 (by decide) dX13_tripInns_1 ?_
  refine aw_pI (pc := 2) hX hy fl_X13_51 rfl (Or.inl rfl) dX13_tripInns_2 (fun h1 hy => ?_)
  refine aw_aloadn (pc := 5) hX 0 rfl dX13_tripInns_5 ?_
  refine aw_iloadn (pc := 6) hX 1 rfl dX13_tripInns_6 ?_
  refine aw_callV (pc := 7) (st := []) (a := v0) hX [vI v1] (con_X13_isPerson _ G _ v0 v1 hy.bd) mc_X13_isPerson ml_X13_373 im_X13_isPerson se_X13_isPerson (by decide) hy.bd.kd rfl (rm_of hr (by decide)) (Nat.le_of_ble_eq_true rfl) rfl dX13_tripInns_7 (kpI rfl rfl (fun x2 hy => ?_))
  refine aw_if_eq (pc := 10) hX 34 (by decide) dX13_tripInns_10 (fun hc9 => ?_) (fun hc9 => ?_)
  · have hy := hy.t hc9
    refine AW.sub [0] rfl ?_
    exact w_X13_tripInns_34 hX hN hr h1 v0 hy
  · have hy := hy.f hc9
    refine aw_aloadn (pc := 13) hX 0 rfl dX13_tripInns_13 ?_
    refine aw_iloadn (pc := 14) hX 2 rfl dX13_tripInns_14 ?_
    refine aw_callV (pc := 15) (st := []) (a := v0) hX [vI v2] (con_X13_isPlace _ G _ v0 v2 hy.bd) mc_X13_isPlace ml_X13_347 im_X13_isPlace se_X13_isPlace (by decide) hy.bd.kd rfl (rm_of hr (by decide)) (Nat.le_of_ble_eq_true rfl) rfl dX13_tripInns_15 (kpI rfl rfl (fun x6 hy => ?_))
    refine aw_if_eq (pc := 18) hX 34 (by decide) dX13_tripInns_18 (fun hc9 => ?_) (fun hc9 => ?_)
    · have hy := hy.t hc9
      refine AW.sub [0] rfl ?_
      exact w_X13_tripInns_34 hX hN hr h1 v0 hy
    · have hy := hy.f hc9
      refine aw_aloadn (pc := 21) hX 0 rfl dX13_tripInns_21 ?_
      refine aw_aloadn (pc := 22) hX 0 rfl dX13_tripInns_22 ?_
      refine aw_iloadn (pc := 23) hX 1 rfl dX13_tripInns_23 ?_
      refine aw_iloadn (pc := 24) hX 2 rfl dX13_tripInns_24 ?_
      refine aw_callV (pc := 25) (st := [vR v0]) (a := v0) hX [vI v1, vI v2] (con_X13_tripOf _ G _ v0 v1 v2 hy.bd) mc_X13_tripOf ml_X13_418 im_X13_tripOf se_X13_tripOf (by decide) hy.bd.kd rfl (rm_of hr (by decide)) (Nat.le_of_ble_eq_true rfl) rfl dX13_tripInns_25 (kmI rfl rfl (fun q9 hy => ?_))
      refine aw_callV (pc := 28) (st := []) (a := v0) hX [vI q9.1] (con_X13_good _ G _ v0 q9.1 hy.bd) mc_X13_good ml_X13_61 im_X13_good se_X13_good (by decide) hy.bd.kd rfl (rm_of hr (by decide)) (Nat.le_of_ble_eq_true rfl) rfl dX13_tripInns_28 (kmI rfl rfl (fun q12 hy => ?_))
      refine aw_goto (pc := 31) hX 39 (by decide) dX13_tripInns_31 ?_
      exact aw_iret (pc := 39) hX hr (by decide) (by decide) dX13_tripInns_39 ⟨_, rfl, hy.s⟩
theorem con_X13_tripInns (l : Launch) (G : GE) (h : Mem) (v0 : Nat) (v1 : Int32) (v2 : Int32) {P : (Int32 × Mem) → Prop} (hy : OK (f_X13_tripInns h v0 v1 v2) P) : Con l G yX13_tripInns cX13_tripInns 3 (some .int) rm_X13_tripInns [vR v0, vI v1, vI v2] h (pmI P) := Con.of (by decide) (Nat.le_of_ble_eq_true rfl) (fun X hX hr hN => w_X13_tripInns hX hN hr h v0 v1 v2 hy)
/-! X13_farReach -/
theorem dX13_farReach_0 : decode cX13_farReach 0 = .ok (.aload_n 0, 1) := by decide +kernel
theorem dX13_farReach_1 : decode cX13_farReach 1 = .ok (.iconst 0, 1) := by decide +kernel
theorem dX13_farReach_2 : decode cX13_farReach 2 = .ok (.putfield 51, 3) := by decide +kernel
theorem dX13_farReach_5 : decode cX13_farReach 5 = .ok (.aload_n 0, 1) := by decide +kernel
theorem dX13_farReach_6 : decode cX13_farReach 6 = .ok (.iload_n 1, 1) := by decide +kernel
theorem dX13_farReach_7 : decode cX13_farReach 7 = .ok (.invokevirtual 373, 3) := by decide +kernel
theorem dX13_farReach_10 : decode cX13_farReach 10 = .ok (.ifCond .ne 9, 3) := by decide +kernel
theorem dX13_farReach_13 : decode cX13_farReach 13 = .ok (.aload_n 0, 1) := by decide +kernel
theorem dX13_farReach_14 : decode cX13_farReach 14 = .ok (.iconst 1, 1) := by decide +kernel
theorem dX13_farReach_15 : decode cX13_farReach 15 = .ok (.invokevirtual 57, 3) := by decide +kernel
theorem dX13_farReach_18 : decode cX13_farReach 18 = .ok (.ireturn, 1) := by decide +kernel
theorem dX13_farReach_19 : decode cX13_farReach 19 = .ok (.iconst 0, 1) := by decide +kernel
theorem dX13_farReach_20 : decode cX13_farReach 20 = .ok (.istore_n 2, 1) := by decide +kernel
theorem dX13_farReach_21 : decode cX13_farReach 21 = .ok (.iconst 0, 1) := by decide +kernel
theorem dX13_farReach_22 : decode cX13_farReach 22 = .ok (.istore_n 3, 1) := by decide +kernel
theorem dX13_farReach_23 : decode cX13_farReach 23 = .ok (.iload_n 3, 1) := by decide +kernel
theorem dX13_farReach_24 : decode cX13_farReach 24 = .ok (.aload_n 0, 1) := by decide +kernel
theorem dX13_farReach_25 : decode cX13_farReach 25 = .ok (.getfield 338, 3) := by decide +kernel
theorem dX13_farReach_28 : decode cX13_farReach 28 = .ok (.getfield 197, 3) := by decide +kernel
theorem dX13_farReach_31 : decode cX13_farReach 31 = .ok (.if_icmp .ge 30, 3) := by decide +kernel
theorem dX13_farReach_34 : decode cX13_farReach 34 = .ok (.iload_n 2, 1) := by decide +kernel
theorem dX13_farReach_35 : decode cX13_farReach 35 = .ok (.aload_n 0, 1) := by decide +kernel
theorem dX13_farReach_36 : decode cX13_farReach 36 = .ok (.iload_n 1, 1) := by decide +kernel
theorem dX13_farReach_37 : decode cX13_farReach 37 = .ok (.iload_n 3, 1) := by decide +kernel
theorem dX13_farReach_38 : decode cX13_farReach 38 = .ok (.invokevirtual 418, 3) := by decide +kernel
theorem dX13_farReach_41 : decode cX13_farReach 41 = .ok (.bipush (-2), 2) := by decide +kernel
theorem dX13_farReach_43 : decode cX13_farReach 43 = .ok (.if_icmp .eq 9, 3) := by decide +kernel
theorem dX13_farReach_46 : decode cX13_farReach 46 = .ok (.iconst 1, 1) := by decide +kernel
theorem dX13_farReach_47 : decode cX13_farReach 47 = .ok (.iload_n 3, 1) := by decide +kernel
theorem dX13_farReach_48 : decode cX13_farReach 48 = .ok (.ishl, 1) := by decide +kernel
theorem dX13_farReach_49 : decode cX13_farReach 49 = .ok (.goto 4, 3) := by decide +kernel
theorem dX13_farReach_52 : decode cX13_farReach 52 = .ok (.iconst 0, 1) := by decide +kernel
theorem dX13_farReach_53 : decode cX13_farReach 53 = .ok (.ior, 1) := by decide +kernel
theorem dX13_farReach_54 : decode cX13_farReach 54 = .ok (.istore_n 2, 1) := by decide +kernel
theorem dX13_farReach_55 : decode cX13_farReach 55 = .ok (.iinc 3 1, 3) := by decide +kernel
theorem dX13_farReach_58 : decode cX13_farReach 58 = .ok (.goto (-35), 3) := by decide +kernel
theorem dX13_farReach_61 : decode cX13_farReach 61 = .ok (.aload_n 0, 1) := by decide +kernel
theorem dX13_farReach_62 : decode cX13_farReach 62 = .ok (.iload_n 2, 1) := by decide +kernel
theorem dX13_farReach_63 : decode cX13_farReach 63 = .ok (.invokevirtual 61, 3) := by decide +kernel
theorem dX13_farReach_66 : decode cX13_farReach 66 = .ok (.ireturn, 1) := by decide +kernel
abbrev rm_X13_farReach : Room := { frames := 7, cells := 0, slots := 0, locals := 180 }
def f_X13_farReach_53 (h : Mem) (v0 : Nat) (v1 : Int32) (v3 : Int32) (s0 : Int32) (s1 : Int32) : Option ((Int32 × Int32 × Mem) ⊕ ((Int32 × Mem))) :=
  some (.inl ((s0 ||| s1), (v3 + 1), h))
set_option maxRecDepth 100000 in
set_option maxHeartbeats 4000000 in
theorem w_X13_farReach_53 {G : GE} {X : CX} {l : Launch} (hX : Ok G X cX13_farReach RX13) (hN : xn X = 4) {P0 : (Int32 × Mem) → Prop} (hr : Rt G X l yX13_farReach (some .int) rm_X13_farReach (pmI P0))  (v0 : Nat) (v1 : Int32) {P : ((Int32 × Int32 × Mem) ⊕ ((Int32 × Mem))) → Prop} (hc : ∀ s, P (.inl s) → AW G X 23 [(0, vR v0), (1, vI v1), (2, vI s.1), (3, vI s.2.1)] [] s.2.2 0 0) (he0 : ∀ e, P (.inr e) → AW G X 61 [(0, vR v0), (2, vI e.1)] [] e.2 0 0) (h : Mem) (v3 : Int32) (s0 : Int32) (s1 : Int32) (hy : OK (f_X13_farReach_53 h v0 v1 v3 s0 s1) P) : AW G X 53 [(0, vR v0), (1, vI v1), (3, vI v3)] [vI s1, vI s0] h 0 0 := by
  unfold f_X13_farReach_53 at hy
  refine aw_ior (pc := 53) hX dX13_farReach_53 ?_
  refine aw_istoren (pc := 54) hX [(2, vI (s0 ||| s1)), (0, vR v0), (1, vI v1), (3, vI v3)] rfl (lt_n hN (by decide)) dX13_farReach_54 ?_
  refine aw_iinc (pc := 55) hX 1 (by decide) 3 rfl [(3, vI (v3 + 1)), (2, vI (s0 ||| s1)), (0, vR v0), (1, vI v1)] rfl (lt_n hN (by decide)) dX13_farReach_55 ?_
  refine aw_goto (pc := 58) hX 23 (by decide) dX13_farReach_58 ?_
  refine AW.sub [2, 3, 1, 0] rfl ?_
  exact hc ((s0 ||| s1), (v3 + 1), h) hy.s
def b_X13_farReach_23 (h : Mem) (v0 : Nat) (v1 : Int32) (v2 : Int32) (v3 : Int32) : Option ((Int32 × Int32 × Mem) ⊕ ((Int32 × Mem))) :=
  (gR h v0 3 11).bind fun r3 => (gI h r3 2 10).bind fun x4 => (if x4 ≤ v3 then some (.inr (v2, h)) else (f_X13_tripOf h v0 v1 v3).bind fun q7 => (if q7.1 = (-2) then f_X13_farReach_53 q7.2 v0 v1 v3 v2 0 else f_X13_farReach_53 q7.2 v0 v1 v3 v2 ((1 : Int32) <<< (v3 &&& 31))))
set_option maxRecDepth 100000 in
set_option maxHeartbeats 4000000 in
theorem wb_X13_farReach_23 {G : GE} {X : CX} {l : Launch} (hX : Ok G X cX13_farReach RX13) (hN : xn X = 4) {P0 : (Int32 × Mem) → Prop} (hr : Rt G X l yX13_farReach (some .int) rm_X13_farReach (pmI P0))  (v0 : Nat) (v1 : Int32) {P : ((Int32 × Int32 × Mem) ⊕ ((Int32 × Mem))) → Prop} (hc : ∀ s, P (.inl s) → AW G X 23 [(0, vR v0), (1, vI v1), (2, vI s.1), (3, vI s.2.1)] [] s.2.2 0 0) (he0 : ∀ e, P (.inr e) → AW G X 61 [(0, vR v0), (2, vI e.1)] [] e.2 0 0) (h : Mem) (v2 : Int32) (v3 : Int32) (hy : OK (b_X13_farReach_23 h v0 v1 v2 v3) P) : AW G X 23 [(0, vR v0), (1, vI v1), (2, vI v2), (3, vI v3)] [] h 0 0 := by
  unfold b_X13_farReach_23 at hy
  refine aw_iloadn (pc := 23) hX 3 rfl dX13_farReach_23 ?_
  refine aw_aloadn (pc := 24) hX 0 rfl dX13_farReach_24 ?_
  refine aw_gR (pc := 25) hX hy fl_X13_338 (fun _ _ => rfl) dX13_farReach_25 (fun r3 hy => ?_)
  refine aw_gI (pc := 28) hX hy fl_X13_197 (fun _ _ => rfl) dX13_farReach_28 (fun x4 hy => ?_)
  refine aw_ic_ge (pc := 31) hX 61 (by decide) dX13_farReach_31 (fun hc9 => ?_) (fun hc9 => ?_)
  · have hy := hy.t hc9
    refine AW.sub [0, 2] rfl ?_
    exact he0 (v2, h) hy.s
  · have hy := hy.f hc9
    refine aw_iloadn (pc := 34) hX 2 rfl dX13_farReach_34 ?_
    refine aw_aloadn (pc := 35) hX 0 rfl dX13_farReach_35 ?_
    refine aw_iloadn (pc := 36) hX 1 rfl dX13_farReach_36 ?_
    refine aw_iloadn (pc := 37) hX 3 rfl dX13_farReach_37 ?_
    refine aw_callV (pc := 38) (st := [vI v2]) (a := v0) hX [vI v1, vI v3] (con_X13_tripOf _ G _ v0 v1 v3 hy.bd) mc_X13_tripOf ml_X13_418 im_X13_tripOf se_X13_tripOf (by decide) hy.bd.kd rfl (rm_of hr (by decide)) (Nat.le_of_ble_eq_true rfl) rfl dX13_farReach_38 (kmI rfl rfl (fun q7 hy => ?_))
    refine aw_bipush (pc := 41) hX (-2) (by decide) dX13_farReach_41 ?_
    refine aw_ic_eq (pc := 43) hX 52 (by decide) dX13_farReach_43 (fun hc9 => ?_) (fun hc9 => ?_)
    · have hy := hy.t hc9
      refine aw_iconst (pc := 52) hX 0 (by decide) dX13_farReach_52 ?_
      refine AW.sub [0, 1, 3] rfl ?_
      exact w_X13_farReach_53 hX hN hr _ _ hc he0 q7.2 v3 v2 0 hy
    · have hy := hy.f hc9
      refine aw_iconst (pc := 46) hX 1 (by decide) dX13_farReach_46 ?_
      refine aw_iloadn (pc := 47) hX 3 rfl dX13_farReach_47 ?_
      refine aw_ishl (pc := 48) hX dX13_farReach_48 ?_
      refine aw_goto (pc := 49) hX 53 (by decide) dX13_farReach_49 ?_
      refine AW.sub [0, 1, 3] rfl ?_
      exact w_X13_farReach_53 hX hN hr _ _ hc he0 q7.2 v3 v2 ((1 : Int32) <<< (v3 &&& 31)) hy
theorem wl_X13_farReach_23 {G : GE} {X : CX} {l : Launch} (hX : Ok G X cX13_farReach RX13) (hN : xn X = 4) {P0 : (Int32 × Mem) → Prop} (hr : Rt G X l yX13_farReach (some .int) rm_X13_farReach (pmI P0)) (v0 : Nat) (v1 : Int32) {P : ((Int32 × Mem)) → Prop} (he0 : ∀ e, P e → AW G X 61 [(0, vR v0), (2, vI e.1)] [] e.2 0 0) : ∀ (n : Nat) (s : Int32 × Int32 × Mem), OK (iter (fun (s : Int32 × Int32 × Mem) => b_X13_farReach_23 s.2.2 v0 v1 s.1 s.2.1) n s) P → AW G X 23 [(0, vR v0), (1, vI v1), (2, vI s.1), (3, vI s.2.1)] [] s.2.2 0 0 := by
  intro n
  induction n with
  | zero => exact fun s hy => hy.it0.elim
  | succ n ih =>
    intro s hy
    exact wb_X13_farReach_23 hX hN hr v0 v1 (fun s hs => ih s hs) (fun e hs => he0 e hs) s.2.2 s.1 s.2.1 hy.it
def f_X13_farReach (h : Mem) (v0 : Nat) (v1 : Int32) : Option (Int32 × Mem) :=
  (ck h v0 11).bind fun _ => (pI h v0 0 11 0).bind fun h1 => (f_X13_isPerson h1 v0 v1).bind fun x2 => (if x2 = 0 then (f_X13_refused h1 v0 1).bind fun q14 => some (q14.1, q14.2) else (iter (fun (s : Int32 × Int32 × Mem) => b_X13_farReach_23 s.2.2 v0 v1 s.1 s.2.1) FU (0, 0, h1)).bind (fun q8 => (f_X13_good q8.2 v0 q8.1).bind fun q11 => some (q11.1, q11.2)))
set_option maxRecDepth 100000 in
set_option maxHeartbeats 4000000 in
theorem w_X13_farReach {G : GE} {X : CX} {l : Launch} (hX : Ok G X cX13_farReach RX13) (hN : xn X = 4) {P : (Int32 × Mem) → Prop} (hr : Rt G X l yX13_farReach (some .int) rm_X13_farReach (pmI P)) (h : Mem) (v0 : Nat) (v1 : Int32) (hy : OK (f_X13_farReach h v0 v1) P) : AW G X 0 [(0, vR v0), (1, vI v1)] [] h 0 0 := by
  unfold f_X13_farReach at hy
  have hkd := hy.kd
  have hy := hy.kb
  refine aw_aloadn (pc := 0) hX 0 rfl dX13_farReach_0 ?_
  refine aw_iconst (pc := 1) hX 0 (by decide) dX13_farReach_1 ?_
  refine aw_pI (pc := 2) hX hy fl_X13_51 rfl (Or.inl rfl) dX13_farReach_2 (fun h1 hy => ?_)
  refine aw_aloadn (pc := 5) hX 0 rfl dX13_farReach_5 ?_
  refine aw_iloadn (pc := 6) hX 1 rfl dX13_farReach_6 ?_
  refine aw_callV (pc := 7) (st := []) (a := v0) hX [vI v1] (con_X13_isPerson _ G _ v0 v1 hy.bd) mc_X13_isPerson ml_X13_373 im_X13_isPerson se_X13_isPerson (by decide) hy.bd.kd rfl (rm_of hr (by decide)) (Nat.le_of_ble_eq_true rfl) rfl dX13_farReach_7 (kpI rfl rfl (fun x2 hy => ?_))
  refine aw_if_ne (pc := 10) hX 19 (by decide) dX13_farReach_10 (fun hc9 => ?_) (fun hc9 => ?_)
  · have hy := hy.f hc9
    refine aw_iconst (pc := 19) hX 0 (by decide) dX13_farReach_19 ?_
    refine aw_istoren (pc := 20) hX [(2, vI 0), (0, vR v0), (1, vI v1)] rfl (lt_n hN (by decide)) dX13_farReach_20 ?_
    refine aw_iconst (pc := 21) hX 0 (by decide) dX13_farReach_21 ?_
    refine aw_istoren (pc := 22) hX [(3, vI 0), (2, vI 0), (0, vR v0), (1, vI v1)] rfl (lt_n hN (by decide)) dX13_farReach_22 ?_
    refine AW.sub [2, 3, 1, 0] rfl ?_
    refine wl_X13_farReach_23 hX hN hr v0 v1 ?_ FU (0, 0, h1) hy.bd
    · intro q8 hy
      refine aw_aloadn (pc := 61) hX 0 rfl dX13_farReach_61 ?_
      refine aw_iloadn (pc := 62) hX 1 rfl dX13_farReach_62 ?_
      refine aw_callV (pc := 63) (st := []) (a := v0) hX [vI q8.1] (con_X13_good _ G _ v0 q8.1 hy.bd) mc_X13_good ml_X13_61 im_X13_good se_X13_good (by decide) hy.bd.kd rfl (rm_of hr (by decide)) (Nat.le_of_ble_eq_true rfl) rfl dX13_farReach_63 (kmI rfl rfl (fun q11 hy => ?_))
      exact aw_iret (pc := 66) hX hr (by decide) (by decide) dX13_farReach_66 ⟨_, rfl, hy.s⟩
  · have hy := hy.t hc9
    refine aw_aloadn (pc := 13) hX 0 rfl dX13_farReach_13 ?_
    refine aw_iconst (pc := 14) hX 1 (by decide) dX13_farReach_14 ?_
    refine aw_callV (pc := 15) (st := []) (a := v0) hX [vI 1] (con_X13_refused _ G _ v0 1 hy.bd) mc_X13_refused ml_X13_57 im_X13_refused se_X13_refused (by decide) hy.bd.kd rfl (rm_of hr (by decide)) (Nat.le_of_ble_eq_true rfl) rfl dX13_farReach_15 (kmI rfl rfl (fun q14 hy => ?_))
    exact aw_iret (pc := 18) hX hr (by decide) (by decide) dX13_farReach_18 ⟨_, rfl, hy.s⟩
theorem con_X13_farReach (l : Launch) (G : GE) (h : Mem) (v0 : Nat) (v1 : Int32) {P : (Int32 × Mem) → Prop} (hy : OK (f_X13_farReach h v0 v1) P) : Con l G yX13_farReach cX13_farReach 4 (some .int) rm_X13_farReach [vR v0, vI v1] h (pmI P) := Con.of (by decide) (Nat.le_of_ble_eq_true rfl) (fun X hX hr hN => w_X13_farReach hX hN hr h v0 v1 hy)
/-! X13_soonest -/
theorem dX13_soonest_0 : decode cX13_soonest 0 = .ok (.aload_n 0, 1) := by decide +kernel
theorem dX13_soonest_1 : decode cX13_soonest 1 = .ok (.iconst 0, 1) := by decide +kernel
theorem dX13_soonest_2 : decode cX13_soonest 2 = .ok (.putfield 51, 3) := by decide +kernel
theorem dX13_soonest_5 : decode cX13_soonest 5 = .ok (.aload_n 0, 1) := by decide +kernel
theorem dX13_soonest_6 : decode cX13_soonest 6 = .ok (.iload_n 1, 1) := by decide +kernel
theorem dX13_soonest_7 : decode cX13_soonest 7 = .ok (.invokevirtual 347, 3) := by decide +kernel
theorem dX13_soonest_10 : decode cX13_soonest 10 = .ok (.ifCond .ne 9, 3) := by decide +kernel
theorem dX13_soonest_13 : decode cX13_soonest 13 = .ok (.aload_n 0, 1) := by decide +kernel
theorem dX13_soonest_14 : decode cX13_soonest 14 = .ok (.iconst 1, 1) := by decide +kernel
theorem dX13_soonest_15 : decode cX13_soonest 15 = .ok (.invokevirtual 57, 3) := by decide +kernel
theorem dX13_soonest_18 : decode cX13_soonest 18 = .ok (.ireturn, 1) := by decide +kernel
theorem dX13_soonest_19 : decode cX13_soonest 19 = .ok (.bipush (-2), 2) := by decide +kernel
theorem dX13_soonest_21 : decode cX13_soonest 21 = .ok (.istore_n 2, 1) := by decide +kernel
theorem dX13_soonest_22 : decode cX13_soonest 22 = .ok (.ldc_w 386, 3) := by decide +kernel
theorem dX13_soonest_25 : decode cX13_soonest 25 = .ok (.istore_n 3, 1) := by decide +kernel
theorem dX13_soonest_26 : decode cX13_soonest 26 = .ok (.iconst 0, 1) := by decide +kernel
theorem dX13_soonest_27 : decode cX13_soonest 27 = .ok (.istore 4, 2) := by decide +kernel
theorem dX13_soonest_29 : decode cX13_soonest 29 = .ok (.iload 4, 2) := by decide +kernel
theorem dX13_soonest_31 : decode cX13_soonest 31 = .ok (.aload_n 0, 1) := by decide +kernel
theorem dX13_soonest_32 : decode cX13_soonest 32 = .ok (.getfield 338, 3) := by decide +kernel
theorem dX13_soonest_35 : decode cX13_soonest 35 = .ok (.getfield 306, 3) := by decide +kernel
theorem dX13_soonest_38 : decode cX13_soonest 38 = .ok (.if_icmp .ge 40, 3) := by decide +kernel
theorem dX13_soonest_41 : decode cX13_soonest 41 = .ok (.aload_n 0, 1) := by decide +kernel
theorem dX13_soonest_42 : decode cX13_soonest 42 = .ok (.iload 4, 2) := by decide +kernel
theorem dX13_soonest_44 : decode cX13_soonest 44 = .ok (.invokevirtual 394, 3) := by decide +kernel
theorem dX13_soonest_47 : decode cX13_soonest 47 = .ok (.aload_n 0, 1) := by decide +kernel
theorem dX13_soonest_48 : decode cX13_soonest 48 = .ok (.iload 4, 2) := by decide +kernel
theorem dX13_soonest_50 : decode cX13_soonest 50 = .ok (.iload_n 1, 1) := by decide +kernel
theorem dX13_soonest_51 : decode cX13_soonest 51 = .ok (.invokevirtual 391, 3) := by decide +kernel
theorem dX13_soonest_54 : decode cX13_soonest 54 = .ok (.iload_n 3, 1) := by decide +kernel
theorem dX13_soonest_55 : decode cX13_soonest 55 = .ok (.if_icmp .lt 6, 3) := by decide +kernel
theorem dX13_soonest_58 : decode cX13_soonest 58 = .ok (.goto 14, 3) := by decide +kernel
theorem dX13_soonest_61 : decode cX13_soonest 61 = .ok (.aload_n 0, 1) := by decide +kernel
theorem dX13_soonest_62 : decode cX13_soonest 62 = .ok (.iload 4, 2) := by decide +kernel
theorem dX13_soonest_64 : decode cX13_soonest 64 = .ok (.iload_n 1, 1) := by decide +kernel
theorem dX13_soonest_65 : decode cX13_soonest 65 = .ok (.invokevirtual 391, 3) := by decide +kernel
theorem dX13_soonest_68 : decode cX13_soonest 68 = .ok (.istore_n 3, 1) := by decide +kernel
theorem dX13_soonest_69 : decode cX13_soonest 69 = .ok (.iload 4, 2) := by decide +kernel
theorem dX13_soonest_71 : decode cX13_soonest 71 = .ok (.istore_n 2, 1) := by decide +kernel
theorem dX13_soonest_72 : decode cX13_soonest 72 = .ok (.iinc 4 1, 3) := by decide +kernel
theorem dX13_soonest_75 : decode cX13_soonest 75 = .ok (.goto (-46), 3) := by decide +kernel
theorem dX13_soonest_78 : decode cX13_soonest 78 = .ok (.aload_n 0, 1) := by decide +kernel
theorem dX13_soonest_79 : decode cX13_soonest 79 = .ok (.iload_n 2, 1) := by decide +kernel
theorem dX13_soonest_80 : decode cX13_soonest 80 = .ok (.invokevirtual 61, 3) := by decide +kernel
theorem dX13_soonest_83 : decode cX13_soonest 83 = .ok (.ireturn, 1) := by decide +kernel
abbrev rm_X13_soonest : Room := { frames := 6, cells := 0, slots := 0, locals := 152 }
def f_X13_soonest_72 (h : Mem) (v0 : Nat) (v1 : Int32) (v2 : Int32) (v3 : Int32) (v4 : Int32) : Option ((Int32 × Int32 × Int32 × Mem) ⊕ ((Int32 × Mem))) :=
  some (.inl (v2, v3, (v4 + 1), h))
set_option maxRecDepth 100000 in
set_option maxHeartbeats 4000000 in
theorem w_X13_soonest_72 {G : GE} {X : CX} {l : Launch} (hX : Ok G X cX13_soonest RX13) (hN : xn X = 5) {P0 : (Int32 × Mem) → Prop} (hr : Rt G X l yX13_soonest (some .int) rm_X13_soonest (pmI P0))  (v0 : Nat) (v1 : Int32) {P : ((Int32 × Int32 × Int32 × Mem) ⊕ ((Int32 × Mem))) → Prop} (hc : ∀ s, P (.inl s) → AW G X 29 [(0, vR v0), (1, vI v1), (2, vI s.1), (3, vI s.2.1), (4, vI s.2.2.1)] [] s.2.2.2 0 0) (he0 : ∀ e, P (.inr e) → AW G X 78 [(0, vR v0), (2, vI e.1)] [] e.2 0 0) (h : Mem) (v2 : Int32) (v3 : Int32) (v4 : Int32) (hy : OK (f_X13_soonest_72 h v0 v1 v2 v3 v4) P) : AW G X 72 [(0, vR v0), (1, vI v1), (2, vI v2), (3, vI v3), (4, vI v4)] [] h 0 0 := by
  unfold f_X13_soonest_72 at hy
  refine aw_iinc (pc := 72) hX 1 (by decide) 4 rfl [(4, vI (v4 + 1)), (0, vR v0), (1, vI v1), (2, vI v2), (3, vI v3)] rfl (lt_n hN (by decide)) dX13_soonest_72 ?_
  refine aw_goto (pc := 75) hX 29 (by decide) dX13_soonest_75 ?_
  refine AW.sub [1, 2, 3, 4, 0] rfl ?_
  exact hc (v2, v3, (v4 + 1), h) hy.s
def b_X13_soonest_29 (h : Mem) (v0 : Nat) (v1 : Int32) (v2 : Int32) (v3 : Int32) (v4 : Int32) : Option ((Int32 × Int32 × Int32 × Mem) ⊕ ((Int32 × Mem))) :=
  (gR h v0 3 11).bind fun r3 => (gI h r3 6 10).bind fun x4 => (if x4 ≤ v4 then some (.inr (v2, h)) else (f_X13_waysOf h v0 v4).bind fun h5 => (f_X13_farTo h5 v0 v4 v1).bind fun x6 => (if x6 < v3 then (f_X13_farTo h5 v0 v4 v1).bind fun x7 => f_X13_soonest_72 h5 v0 v1 v4 x7 v4 else f_X13_soonest_72 h5 v0 v1 v2 v3 v4))
set_option maxRecDepth 100000 in
set_option maxHeartbeats 4000000 in
theorem wb_X13_soonest_29 {G : GE} {X : CX} {l : Launch} (hX : Ok G X cX13_soonest RX13) (hN : xn X = 5) {P0 : (Int32 × Mem) → Prop} (hr : Rt G X l yX13_soonest (some .int) rm_X13_soonest (pmI P0))  (v0 : Nat) (v1 : Int32) {P : ((Int32 × Int32 × Int32 × Mem) ⊕ ((Int32 × Mem))) → Prop} (hc : ∀ s, P (.inl s) → AW G X 29 [(0, vR v0), (1, vI v1), (2, vI s.1), (3, vI s.2.1), (4, vI s.2.2.1)] [] s.2.2.2 0 0) (he0 : ∀ e, P (.inr e) → AW G X 78 [(0, vR v0), (2, vI e.1)] [] e.2 0 0) (h : Mem) (v2 : Int32) (v3 : Int32) (v4 : Int32) (hy : OK (b_X13_soonest_29 h v0 v1 v2 v3 v4) P) : AW G X 29 [(0, vR v0), (1, vI v1), (2, vI v2), (3, vI v3), (4, vI v4)] [] h 0 0 := by
  unfold b_X13_soonest_29 at hy
  refine aw_iload (pc := 29) hX 4 rfl dX13_soonest_29 ?_
  refine aw_aloadn (pc := 31) hX 0 rfl dX13_soonest_31 ?_
  refine aw_gR (pc := 32) hX hy fl_X13_338 (fun _ _ => rfl) dX13_soonest_32 (fun r3 hy => ?_)
  refine aw_gI (pc := 35) hX hy fl_X13_306 (fun _ _ => rfl) dX13_soonest_35 (fun x4 hy => ?_)
  refine aw_ic_ge (pc := 38) hX 78 (by decide) dX13_soonest_38 (fun hc9 => ?_) (fun hc9 => ?_)
  · have hy := hy.t hc9
    refine AW.sub [0, 2] rfl ?_
    exact he0 (v2, h) hy.s
  · have hy := hy.f hc9
    refine aw_aloadn (pc := 41) hX 0 rfl dX13_soonest_41 ?_
    refine aw_iload (pc := 42) hX 4 rfl dX13_soonest_42 ?_
    refine aw_callV (pc := 44) (st := []) (a := v0) hX [vI v4] (con_X13_waysOf _ G _ v0 v4 hy.bd) mc_X13_waysOf ml_X13_394 im_X13_waysOf se_X13_waysOf (by decide) hy.bd.kd rfl (rm_of hr (by decide)) (Nat.le_of_ble_eq_true rfl) rfl dX13_soonest_44 (kmV rfl rfl (fun h5 hy => ?_))
    refine aw_aloadn (pc := 47) hX 0 rfl dX13_soonest_47 ?_
    refine aw_iload (pc := 48) hX 4 rfl dX13_soonest_48 ?_
    refine aw_iloadn (pc := 50) hX 1 rfl dX13_soonest_50 ?_
    refine aw_callV (pc := 51) (st := []) (a := v0) hX [vI v4, vI v1] (con_X13_farTo _ G _ v0 v4 v1 hy.bd) mc_X13_farTo ml_X13_391 im_X13_farTo se_X13_farTo (by decide) hy.bd.kd rfl (rm_of hr (by decide)) (Nat.le_of_ble_eq_true rfl) rfl dX13_soonest_51 (kpI rfl rfl (fun x6 hy => ?_))
    refine aw_iloadn (pc := 54) hX 3 rfl dX13_soonest_54 ?_
    refine aw_ic_lt (pc := 55) hX 61 (by decide) dX13_soonest_55 (fun hc9 => ?_) (fun hc9 => ?_)
    · have hy := hy.t hc9
      refine aw_aloadn (pc := 61) hX 0 rfl dX13_soonest_61 ?_
      refine aw_iload (pc := 62) hX 4 rfl dX13_soonest_62 ?_
      refine aw_iloadn (pc := 64) hX 1 rfl dX13_soonest_64 ?_
      refine aw_callV (pc := 65) (st := []) (a := v0) hX [vI v4, vI v1] (con_X13_farTo _ G _ v0 v4 v1 hy.bd) mc_X13_farTo ml_X13_391 im_X13_farTo se_X13_farTo (by decide) hy.bd.kd rfl (rm_of hr (by decide)) (Nat.le_of_ble_eq_true rfl) rfl dX13_soonest_65 (kpI rfl rfl (fun x7 hy => ?_))
      refine aw_istoren (pc := 68) hX [(3, vI x7), (0, vR v0), (1, vI v1), (2, vI v2), (4, vI v4)] rfl (lt_n hN (by decide)) dX13_soonest_68 ?_
      refine aw_iload (pc := 69) hX 4 rfl dX13_soonest_69 ?_
      refine aw_istoren (pc := 71) hX [(2, vI v4), (3, vI x7), (0, vR v0), (1, vI v1), (4, vI v4)] rfl (lt_n hN (by decide)) dX13_soonest_71 ?_
      refine AW.sub [2, 3, 0, 1, 4] rfl ?_
      exact w_X13_soonest_72 hX hN hr _ _ hc he0 h5 v4 x7 v4 hy
    · have hy := hy.f hc9
      refine aw_goto (pc := 58) hX 72 (by decide) dX13_soonest_58 ?_
      exact w_X13_soonest_72 hX hN hr _ _ hc he0 h5 v2 v3 v4 hy
theorem wl_X13_soonest_29 {G : GE} {X : CX} {l : Launch} (hX : Ok G X cX13_soonest RX13) (hN : xn X = 5) {P0 : (Int32 × Mem) → Prop} (hr : Rt G X l yX13_soonest (some .int) rm_X13_soonest (pmI P0)) (v0 : Nat) (v1 : Int32) {P : ((Int32 × Mem)) → Prop} (he0 : ∀ e, P e → AW G X 78 [(0, vR v0), (2, vI e.1)] [] e.2 0 0) : ∀ (n : Nat) (s : Int32 × Int32 × Int32 × Mem), OK (iter (fun (s : Int32 × Int32 × Int32 × Mem) => b_X13_soonest_29 s.2.2.2 v0 v1 s.1 s.2.1 s.2.2.1) n s) P → AW G X 29 [(0, vR v0), (1, vI v1), (2, vI s.1), (3, vI s.2.1), (4, vI s.2.2.1)] [] s.2.2.2 0 0 := by
  intro n
  induction n with
  | zero => exact fun s hy => hy.it0.elim
  | succ n ih =>
    intro s hy
    exact wb_X13_soonest_29 hX hN hr v0 v1 (fun s hs => ih s hs) (fun e hs => he0 e hs) s.2.2.2 s.1 s.2.1 s.2.2.1 hy.it
def f_X13_soonest (h : Mem) (v0 : Nat) (v1 : Int32) : Option (Int32 × Mem) :=
  (ck h v0 11).bind fun _ => (pI h v0 0 11 0).bind fun h1 => (f_X13_isPlace h1 v0 v1).bind fun x2 => (if x2 = 0 then (f_X13_refused h1 v0 1).bind fun q14 => some (q14.1, q14.2) else (iter (fun (s : Int32 × Int32 × Int32 × Mem) => b_X13_soonest_29 s.2.2.2 v0 v1 s.1 s.2.1 s.2.2.1) FU ((-2), 99999, 0, h1)).bind (fun q8 => (f_X13_good q8.2 v0 q8.1).bind fun q11 => some (q11.1, q11.2)))
set_option maxRecDepth 100000 in
set_option maxHeartbeats 4000000 in
theorem w_X13_soonest {G : GE} {X : CX} {l : Launch} (hX : Ok G X cX13_soonest RX13) (hN : xn X = 5) {P : (Int32 × Mem) → Prop} (hr : Rt G X l yX13_soonest (some .int) rm_X13_soonest (pmI P)) (h : Mem) (v0 : Nat) (v1 : Int32) (hy : OK (f_X13_soonest h v0 v1) P) : AW G X 0 [(0, vR v0), (1, vI v1)] [] h 0 0 := by
  unfold f_X13_soonest at hy
  have hkd := hy.kd
  have hy := hy.kb
  refine aw_aloadn (pc := 0) hX 0 rfl dX13_soonest_0 ?_
  refine aw_iconst (pc := 1) hX 0 (by decide) dX13_soonest_1 ?_
  refine aw_pI (pc := 2) hX hy fl_X13_51 rfl (Or.inl rfl) dX13_soonest_2 (fun h1 hy => ?_)
  refine aw_aloadn (pc := 5) hX 0 rfl dX13_soonest_5 ?_
  refine aw_iloadn (pc := 6) hX 1 rfl dX13_soonest_6 ?_
  refine aw_callV (pc := 7) (st := []) (a := v0) hX [vI v1] (con_X13_isPlace _ G _ v0 v1 hy.bd) mc_X13_isPlace ml_X13_347 im_X13_isPlace se_X13_isPlace (by decide) hy.bd.kd rfl (rm_of hr (by decide)) (Nat.le_of_ble_eq_true rfl) rfl dX13_soonest_7 (kpI rfl rfl (fun x2 hy => ?_))
  refine aw_if_ne (pc := 10) hX 19 (by decide) dX13_soonest_10 (fun hc9 => ?_) (fun hc9 => ?_)
  · have hy := hy.f hc9
    refine aw_bipush (pc := 19) hX (-2) (by decide) dX13_soonest_19 ?_
    refine aw_istoren (pc := 21) hX [(2, vI (-2)), (0, vR v0), (1, vI v1)] rfl (lt_n hN (by decide)) dX13_soonest_21 ?_
    refine aw_ldcw (pc := 22) hX kc_X13_386 dX13_soonest_22 ?_
    refine aw_istoren (pc := 25) hX [(3, vI 99999), (2, vI (-2)), (0, vR v0), (1, vI v1)] rfl (lt_n hN (by decide)) dX13_soonest_25 ?_
    refine aw_iconst (pc := 26) hX 0 (by decide) dX13_soonest_26 ?_
    refine aw_istore (pc := 27) hX [(4, vI 0), (3, vI 99999), (2, vI (-2)), (0, vR v0), (1, vI v1)] rfl (lt_n hN (by decide)) dX13_soonest_27 ?_
    refine AW.sub [3, 4, 2, 1, 0] rfl ?_
    refine wl_X13_soonest_29 hX hN hr v0 v1 ?_ FU ((-2), 99999, 0, h1) hy.bd
    · intro q8 hy
      refine aw_aloadn (pc := 78) hX 0 rfl dX13_soonest_78 ?_
      refine aw_iloadn (pc := 79) hX 1 rfl dX13_soonest_79 ?_
      refine aw_callV (pc := 80) (st := []) (a := v0) hX [vI q8.1] (con_X13_good _ G _ v0 q8.1 hy.bd) mc_X13_good ml_X13_61 im_X13_good se_X13_good (by decide) hy.bd.kd rfl (rm_of hr (by decide)) (Nat.le_of_ble_eq_true rfl) rfl dX13_soonest_80 (kmI rfl rfl (fun q11 hy => ?_))
      exact aw_iret (pc := 83) hX hr (by decide) (by decide) dX13_soonest_83 ⟨_, rfl, hy.s⟩
  · have hy := hy.t hc9
    refine aw_aloadn (pc := 13) hX 0 rfl dX13_soonest_13 ?_
    refine aw_iconst (pc := 14) hX 1 (by decide) dX13_soonest_14 ?_
    refine aw_callV (pc := 15) (st := []) (a := v0) hX [vI 1] (con_X13_refused _ G _ v0 1 hy.bd) mc_X13_refused ml_X13_57 im_X13_refused se_X13_refused (by decide) hy.bd.kd rfl (rm_of hr (by decide)) (Nat.le_of_ble_eq_true rfl) rfl dX13_soonest_15 (kmI rfl rfl (fun q14 hy => ?_))
    exact aw_iret (pc := 18) hX hr (by decide) (by decide) dX13_soonest_18 ⟨_, rfl, hy.s⟩
theorem con_X13_soonest (l : Launch) (G : GE) (h : Mem) (v0 : Nat) (v1 : Int32) {P : (Int32 × Mem) → Prop} (hy : OK (f_X13_soonest h v0 v1) P) : Con l G yX13_soonest cX13_soonest 5 (some .int) rm_X13_soonest [vR v0, vI v1] h (pmI P) := Con.of (by decide) (Nat.le_of_ble_eq_true rfl) (fun X hX hr hN => w_X13_soonest hX hN hr h v0 v1 hy)
/-! X13_endsLike -/
theorem dX13_endsLike_0 : decode cX13_endsLike 0 = .ok (.iconst 0, 1) := by decide +kernel
theorem dX13_endsLike_1 : decode cX13_endsLike 1 = .ok (.istore 4, 2) := by decide +kernel
theorem dX13_endsLike_3 : decode cX13_endsLike 3 = .ok (.iload 4, 2) := by decide +kernel
theorem dX13_endsLike_5 : decode cX13_endsLike 5 = .ok (.iload_n 3, 1) := by decide +kernel
theorem dX13_endsLike_6 : decode cX13_endsLike 6 = .ok (.if_icmp .ge 46, 3) := by decide +kernel
theorem dX13_endsLike_9 : decode cX13_endsLike 9 = .ok (.aload_n 0, 1) := by decide +kernel
theorem dX13_endsLike_10 : decode cX13_endsLike 10 = .ok (.getfield 338, 3) := by decide +kernel
theorem dX13_endsLike_13 : decode cX13_endsLike 13 = .ok (.iload_n 1, 1) := by decide +kernel
theorem dX13_endsLike_14 : decode cX13_endsLike 14 = .ok (.aload_n 0, 1) := by decide +kernel
theorem dX13_endsLike_15 : decode cX13_endsLike 15 = .ok (.getfield 338, 3) := by decide +kernel
theorem dX13_endsLike_18 : decode cX13_endsLike 18 = .ok (.getfield 237, 3) := by decide +kernel
theorem dX13_endsLike_21 : decode cX13_endsLike 21 = .ok (.iload_n 1, 1) := by decide +kernel
theorem dX13_endsLike_22 : decode cX13_endsLike 22 = .ok (.iaload, 1) := by decide +kernel
theorem dX13_endsLike_23 : decode cX13_endsLike 23 = .ok (.iload_n 3, 1) := by decide +kernel
theorem dX13_endsLike_24 : decode cX13_endsLike 24 = .ok (.isub, 1) := by decide +kernel
theorem dX13_endsLike_25 : decode cX13_endsLike 25 = .ok (.iload 4, 2) := by decide +kernel
theorem dX13_endsLike_27 : decode cX13_endsLike 27 = .ok (.iadd, 1) := by decide +kernel
theorem dX13_endsLike_28 : decode cX13_endsLike 28 = .ok (.invokevirtual 350, 3) := by decide +kernel
theorem dX13_endsLike_31 : decode cX13_endsLike 31 = .ok (.aload_n 0, 1) := by decide +kernel
theorem dX13_endsLike_32 : decode cX13_endsLike 32 = .ok (.getfield 338, 3) := by decide +kernel
theorem dX13_endsLike_35 : decode cX13_endsLike 35 = .ok (.iload_n 2, 1) := by decide +kernel
theorem dX13_endsLike_36 : decode cX13_endsLike 36 = .ok (.iload 4, 2) := by decide +kernel
theorem dX13_endsLike_38 : decode cX13_endsLike 38 = .ok (.invokevirtual 350, 3) := by decide +kernel
theorem dX13_endsLike_41 : decode cX13_endsLike 41 = .ok (.if_icmp .eq 5, 3) := by decide +kernel
theorem dX13_endsLike_44 : decode cX13_endsLike 44 = .ok (.iconst 0, 1) := by decide +kernel
theorem dX13_endsLike_45 : decode cX13_endsLike 45 = .ok (.ireturn, 1) := by decide +kernel
theorem dX13_endsLike_46 : decode cX13_endsLike 46 = .ok (.iinc 4 1, 3) := by decide +kernel
theorem dX13_endsLike_49 : decode cX13_endsLike 49 = .ok (.goto (-46), 3) := by decide +kernel
theorem dX13_endsLike_52 : decode cX13_endsLike 52 = .ok (.iconst 1, 1) := by decide +kernel
theorem dX13_endsLike_53 : decode cX13_endsLike 53 = .ok (.ireturn, 1) := by decide +kernel
abbrev rm_X13_endsLike : Room := { frames := 1, cells := 0, slots := 0, locals := 22 }
def b_X13_endsLike_3 (h : Mem) (v0 : Nat) (v1 : Int32) (v2 : Int32) (v3 : Int32) (v4 : Int32) : Option (Int32 ⊕ (Unit ⊕ Unit)) :=
  (if v3 ≤ v4 then some (.inr (.inr ())) else (gR h v0 3 11).bind fun r1 => (gR h v0 3 11).bind fun r2 => (gR h r2 10 10).bind fun r3 => (aI h r3 v1).bind fun x4 => (f_X12_note h r1 v1 ((x4 - v3) + v4)).bind fun x5 => (gR h v0 3 11).bind fun r6 => (f_X12_note h r6 v2 v4).bind fun x7 => (if x5 = x7 then some (.inl (v4 + 1)) else some (.inr (.inl ()))))
set_option maxRecDepth 100000 in
set_option maxHeartbeats 4000000 in
theorem wb_X13_endsLike_3 {G : GE} {X : CX} {l : Launch} (hX : Ok G X cX13_endsLike RX13) (hN : xn X = 5) (h : Mem) {P0 : Int32 → Prop} (hr : Rt G X l yX13_endsLike (some .boolean) rm_X13_endsLike (ppI h P0))  (v0 : Nat) (v1 : Int32) (v2 : Int32) (v3 : Int32) {P : (Int32 ⊕ (Unit ⊕ Unit)) → Prop} (hc : ∀ s, P (.inl s) → AW G X 3 [(0, vR v0), (1, vI v1), (2, vI v2), (3, vI v3), (4, vI s)] [] h 0 0) (he0 : ∀ e, P (.inr (.inl e)) → AW G X 44 [] [] h 0 0) (he1 : ∀ e, P (.inr (.inr e)) → AW G X 52 [] [] h 0 0) (v4 : Int32) (hy : OK (b_X13_endsLike_3 h v0 v1 v2 v3 v4) P) : AW G X 3 [(0, vR v0), (1, vI v1), (2, vI v2), (3, vI v3), (4, vI v4)] [] h 0 0 := by
  unfold b_X13_endsLike_3 at hy
  refine aw_iload (pc := 3) hX 4 rfl dX13_endsLike_3 ?_
  refine aw_iloadn (pc := 5) hX 3 rfl dX13_endsLike_5 ?_
  refine aw_ic_ge (pc := 6) hX 52 (by decide) dX13_endsLike_6 (fun hc9 => ?_) (fun hc9 => ?_)
  · have hy := hy.t hc9
    refine AW.sub [] rfl ?_
    exact he1 () hy.s
  · have hy := hy.f hc9
    refine aw_aloadn (pc := 9) hX 0 rfl dX13_endsLike_9 ?_
    refine aw_gR (pc := 10) hX hy fl_X13_338 (fun _ _ => rfl) dX13_endsLike_10 (fun r1 hy => ?_)
    refine aw_iloadn (pc := 13) hX 1 rfl dX13_endsLike_13 ?_
    refine aw_aloadn (pc := 14) hX 0 rfl dX13_endsLike_14 ?_
    refine aw_gR (pc := 15) hX hy fl_X13_338 (fun _ _ => rfl) dX13_endsLike_15 (fun r2 hy => ?_)
    refine aw_gR (pc := 18) hX hy fl_X13_237 (fun _ _ => rfl) dX13_endsLike_18 (fun r3 hy => ?_)
    refine aw_iloadn (pc := 21) hX 1 rfl dX13_endsLike_21 ?_
    refine aw_aI (pc := 22) hX hy dX13_endsLike_22 (fun x4 hy => ?_)
    refine aw_iloadn (pc := 23) hX 3 rfl dX13_endsLike_23 ?_
    refine aw_isub (pc := 24) hX dX13_endsLike_24 ?_
    refine aw_iload (pc := 25) hX 4 rfl dX13_endsLike_25 ?_
    refine aw_iadd (pc := 27) hX dX13_endsLike_27 ?_
    refine aw_callV (pc := 28) (st := []) (a := r1) hX [vI v1, vI ((x4 - v3) + v4)] (con_X12_note _ G _ r1 v1 ((x4 - v3) + v4) hy.bd) mc_X12_note ml_X13_350 im_X12_note se_X12_note (by decide) hy.bd.kd rfl (rm_of hr (by decide)) (Nat.le_of_ble_eq_true rfl) rfl dX13_endsLike_28 (kpI rfl rfl (fun x5 hy => ?_))
    refine aw_aloadn (pc := 31) hX 0 rfl dX13_endsLike_31 ?_
    refine aw_gR (pc := 32) hX hy fl_X13_338 (fun _ _ => rfl) dX13_endsLike_32 (fun r6 hy => ?_)
    refine aw_iloadn (pc := 35) hX 2 rfl dX13_endsLike_35 ?_
    refine aw_iload (pc := 36) hX 4 rfl dX13_endsLike_36 ?_
    refine aw_callV (pc := 38) (st := [vI x5]) (a := r6) hX [vI v2, vI v4] (con_X12_note _ G _ r6 v2 v4 hy.bd) mc_X12_note ml_X13_350 im_X12_note se_X12_note (by decide) hy.bd.kd rfl (rm_of hr (by decide)) (Nat.le_of_ble_eq_true rfl) rfl dX13_endsLike_38 (kpI rfl rfl (fun x7 hy => ?_))
    refine aw_ic_eq (pc := 41) hX 46 (by decide) dX13_endsLike_41 (fun hc9 => ?_) (fun hc9 => ?_)
    · have hy := hy.t hc9
      refine aw_iinc (pc := 46) hX 1 (by decide) 4 rfl [(4, vI (v4 + 1)), (0, vR v0), (1, vI v1), (2, vI v2), (3, vI v3)] rfl (lt_n hN (by decide)) dX13_endsLike_46 ?_
      refine aw_goto (pc := 49) hX 3 (by decide) dX13_endsLike_49 ?_
      refine AW.sub [1, 2, 3, 4, 0] rfl ?_
      exact hc (v4 + 1) hy.s
    · have hy := hy.f hc9
      refine AW.sub [] rfl ?_
      exact he0 () hy.s
theorem wl_X13_endsLike_3 {G : GE} {X : CX} {l : Launch} (hX : Ok G X cX13_endsLike RX13) (hN : xn X = 5) (h : Mem) {P0 : Int32 → Prop} (hr : Rt G X l yX13_endsLike (some .boolean) rm_X13_endsLike (ppI h P0)) (v0 : Nat) (v1 : Int32) (v2 : Int32) (v3 : Int32) {P : (Unit ⊕ Unit) → Prop} (he0 : ∀ e, P (.inl e) → AW G X 44 [] [] h 0 0) (he1 : ∀ e, P (.inr e) → AW G X 52 [] [] h 0 0) : ∀ (n : Nat) (s : Int32), OK (iter (fun (s : Int32) => b_X13_endsLike_3 h v0 v1 v2 v3 s) n s) P → AW G X 3 [(0, vR v0), (1, vI v1), (2, vI v2), (3, vI v3), (4, vI s)] [] h 0 0 := by
  intro n
  induction n with
  | zero => exact fun s hy => hy.it0.elim
  | succ n ih =>
    intro s hy
    exact wb_X13_endsLike_3 hX hN h hr v0 v1 v2 v3 (fun s hs => ih s hs) (fun e hs => he0 e hs) (fun e hs => he1 e hs) s hy.it
def f_X13_endsLike (h : Mem) (v0 : Nat) (v1 : Int32) (v2 : Int32) (v3 : Int32) : Option Int32 :=
  (ck h v0 11).bind fun _ => (iter (fun (s : Int32) => b_X13_endsLike_3 h v0 v1 v2 v3 s) FU 0).bind (Sum.elim (fun e9 => some 0) (fun e10 => some 1))
set_option maxRecDepth 100000 in
set_option maxHeartbeats 4000000 in
theorem w_X13_endsLike {G : GE} {X : CX} {l : Launch} (hX : Ok G X cX13_endsLike RX13) (hN : xn X = 5) (h : Mem) {P : Int32 → Prop} (hr : Rt G X l yX13_endsLike (some .boolean) rm_X13_endsLike (ppI h P)) (v0 : Nat) (v1 : Int32) (v2 : Int32) (v3 : Int32) (hy : OK (f_X13_endsLike h v0 v1 v2 v3) P) : AW G X 0 [(0, vR v0), (1, vI v1), (2, vI v2), (3, vI v3)] [] h 0 0 := by
  unfold f_X13_endsLike at hy
  have hkd := hy.kd
  have hy := hy.kb
  refine aw_iconst (pc := 0) hX 0 (by decide) dX13_endsLike_0 ?_
  refine aw_istore (pc := 1) hX [(4, vI 0), (0, vR v0), (1, vI v1), (2, vI v2), (3, vI v3)] rfl (lt_n hN (by decide)) dX13_endsLike_1 ?_
  refine AW.sub [1, 2, 3, 4, 0] rfl ?_
  refine wl_X13_endsLike_3 hX hN _ hr v0 v1 v2 v3 ?_ ?_ FU 0 hy.bd
  · intro e9 hy
    refine aw_iconst (pc := 44) hX 0 (by decide) dX13_endsLike_44 ?_
    exact aw_zret (pc := 45) hX hr (by decide) (by decide) dX13_endsLike_45 (Or.inl rfl) ⟨rfl, _, rfl, hy.s⟩
  · intro e10 hy
    refine aw_iconst (pc := 52) hX 1 (by decide) dX13_endsLike_52 ?_
    exact aw_zret (pc := 53) hX hr (by decide) (by decide) dX13_endsLike_53 (Or.inr rfl) ⟨rfl, _, rfl, hy.s⟩
theorem con_X13_endsLike (l : Launch) (G : GE) (h : Mem) (v0 : Nat) (v1 : Int32) (v2 : Int32) (v3 : Int32) {P : Int32 → Prop} (hy : OK (f_X13_endsLike h v0 v1 v2 v3) P) : Con l G yX13_endsLike cX13_endsLike 5 (some .boolean) rm_X13_endsLike [vR v0, vI v1, vI v2, vI v3] h (ppI h P) := Con.of (by decide) (Nat.le_of_ble_eq_true rfl) (fun X hX hr hN => w_X13_endsLike hX hN h hr v0 v1 v2 v3 hy)
/-! X13_overlapOf -/
theorem dX13_overlapOf_0 : decode cX13_overlapOf 0 = .ok (.aload_n 0, 1) := by decide +kernel
theorem dX13_overlapOf_1 : decode cX13_overlapOf 1 = .ok (.getfield 338, 3) := by decide +kernel
theorem dX13_overlapOf_4 : decode cX13_overlapOf 4 = .ok (.getfield 237, 3) := by decide +kernel
theorem dX13_overlapOf_7 : decode cX13_overlapOf 7 = .ok (.iload_n 1, 1) := by decide +kernel
theorem dX13_overlapOf_8 : decode cX13_overlapOf 8 = .ok (.iaload, 1) := by decide +kernel
theorem dX13_overlapOf_9 : decode cX13_overlapOf 9 = .ok (.aload_n 0, 1) := by decide +kernel
theorem dX13_overlapOf_10 : decode cX13_overlapOf 10 = .ok (.getfield 338, 3) := by decide +kernel
theorem dX13_overlapOf_13 : decode cX13_overlapOf 13 = .ok (.getfield 237, 3) := by decide +kernel
theorem dX13_overlapOf_16 : decode cX13_overlapOf 16 = .ok (.iload_n 2, 1) := by decide +kernel
theorem dX13_overlapOf_17 : decode cX13_overlapOf 17 = .ok (.iaload, 1) := by decide +kernel
theorem dX13_overlapOf_18 : decode cX13_overlapOf 18 = .ok (.if_icmp .ge 15, 3) := by decide +kernel
theorem dX13_overlapOf_21 : decode cX13_overlapOf 21 = .ok (.aload_n 0, 1) := by decide +kernel
theorem dX13_overlapOf_22 : decode cX13_overlapOf 22 = .ok (.getfield 338, 3) := by decide +kernel
theorem dX13_overlapOf_25 : decode cX13_overlapOf 25 = .ok (.getfield 237, 3) := by decide +kernel
theorem dX13_overlapOf_28 : decode cX13_overlapOf 28 = .ok (.iload_n 1, 1) := by decide +kernel
theorem dX13_overlapOf_29 : decode cX13_overlapOf 29 = .ok (.iaload, 1) := by decide +kernel
theorem dX13_overlapOf_30 : decode cX13_overlapOf 30 = .ok (.goto 12, 3) := by decide +kernel
theorem dX13_overlapOf_33 : decode cX13_overlapOf 33 = .ok (.aload_n 0, 1) := by decide +kernel
theorem dX13_overlapOf_34 : decode cX13_overlapOf 34 = .ok (.getfield 338, 3) := by decide +kernel
theorem dX13_overlapOf_37 : decode cX13_overlapOf 37 = .ok (.getfield 237, 3) := by decide +kernel
theorem dX13_overlapOf_40 : decode cX13_overlapOf 40 = .ok (.iload_n 2, 1) := by decide +kernel
theorem dX13_overlapOf_41 : decode cX13_overlapOf 41 = .ok (.iaload, 1) := by decide +kernel
theorem dX13_overlapOf_42 : decode cX13_overlapOf 42 = .ok (.istore_n 3, 1) := by decide +kernel
theorem dX13_overlapOf_43 : decode cX13_overlapOf 43 = .ok (.aload_n 0, 1) := by decide +kernel
theorem dX13_overlapOf_44 : decode cX13_overlapOf 44 = .ok (.iload_n 1, 1) := by decide +kernel
theorem dX13_overlapOf_45 : decode cX13_overlapOf 45 = .ok (.iload_n 2, 1) := by decide +kernel
theorem dX13_overlapOf_46 : decode cX13_overlapOf 46 = .ok (.iload_n 3, 1) := by decide +kernel
theorem dX13_overlapOf_47 : decode cX13_overlapOf 47 = .ok (.invokevirtual 421, 3) := by decide +kernel
theorem dX13_overlapOf_50 : decode cX13_overlapOf 50 = .ok (.ifCond .ne 9, 3) := by decide +kernel
theorem dX13_overlapOf_53 : decode cX13_overlapOf 53 = .ok (.iinc 3 (-1), 3) := by decide +kernel
theorem dX13_overlapOf_56 : decode cX13_overlapOf 56 = .ok (.goto (-13), 3) := by decide +kernel
theorem dX13_overlapOf_59 : decode cX13_overlapOf 59 = .ok (.iload_n 3, 1) := by decide +kernel
theorem dX13_overlapOf_60 : decode cX13_overlapOf 60 = .ok (.ireturn, 1) := by decide +kernel
abbrev rm_X13_overlapOf : Room := { frames := 2, cells := 0, slots := 0, locals := 46 }
def b_X13_overlapOf_43 (h : Mem) (v0 : Nat) (v1 : Int32) (v2 : Int32) (v3 : Int32) : Option (Int32 ⊕ Int32) :=
  (f_X13_endsLike h v0 v1 v2 v3).bind fun x10 => (if x10 = 0 then some (.inl (v3 + (-1))) else some (.inr v3))
set_option maxRecDepth 100000 in
set_option maxHeartbeats 4000000 in
theorem wb_X13_overlapOf_43 {G : GE} {X : CX} {l : Launch} (hX : Ok G X cX13_overlapOf RX13) (hN : xn X = 4) (h : Mem) {P0 : Int32 → Prop} (hr : Rt G X l yX13_overlapOf (some .int) rm_X13_overlapOf (ppI h P0))  (v0 : Nat) (v1 : Int32) (v2 : Int32) {P : (Int32 ⊕ Int32) → Prop} (hc : ∀ s, P (.inl s) → AW G X 43 [(0, vR v0), (1, vI v1), (2, vI v2), (3, vI s)] [] h 0 0) (he0 : ∀ e, P (.inr e) → AW G X 59 [(3, vI e)] [] h 0 0) (v3 : Int32) (hy : OK (b_X13_overlapOf_43 h v0 v1 v2 v3) P) : AW G X 43 [(0, vR v0), (1, vI v1), (2, vI v2), (3, vI v3)] [] h 0 0 := by
  unfold b_X13_overlapOf_43 at hy
  refine aw_aloadn (pc := 43) hX 0 rfl dX13_overlapOf_43 ?_
  refine aw_iloadn (pc := 44) hX 1 rfl dX13_overlapOf_44 ?_
  refine aw_iloadn (pc := 45) hX 2 rfl dX13_overlapOf_45 ?_
  refine aw_iloadn (pc := 46) hX 3 rfl dX13_overlapOf_46 ?_
  refine aw_callV (pc := 47) (st := []) (a := v0) hX [vI v1, vI v2, vI v3] (con_X13_endsLike _ G _ v0 v1 v2 v3 hy.bd) mc_X13_endsLike ml_X13_421 im_X13_endsLike se_X13_endsLike (by decide) hy.bd.kd rfl (rm_of hr (by decide)) (Nat.le_of_ble_eq_true rfl) rfl dX13_overlapOf_47 (kpI rfl rfl (fun x10 hy => ?_))
  refine aw_if_ne (pc := 50) hX 59 (by decide) dX13_overlapOf_50 (fun hc9 => ?_) (fun hc9 => ?_)
  · have hy := hy.f hc9
    refine AW.sub [3] rfl ?_
    exact he0 v3 hy.s
  · have hy := hy.t hc9
    refine aw_iinc (pc := 53) hX (-1) (by decide) 3 rfl [(3, vI (v3 + (-1))), (0, vR v0), (1, vI v1), (2, vI v2)] rfl (lt_n hN (by decide)) dX13_overlapOf_53 ?_
    refine aw_goto (pc := 56) hX 43 (by decide) dX13_overlapOf_56 ?_
    refine AW.sub [1, 2, 3, 0] rfl ?_
    exact hc (v3 + (-1)) hy.s
theorem wl_X13_overlapOf_43 {G : GE} {X : CX} {l : Launch} (hX : Ok G X cX13_overlapOf RX13) (hN : xn X = 4) (h : Mem) {P0 : Int32 → Prop} (hr : Rt G X l yX13_overlapOf (some .int) rm_X13_overlapOf (ppI h P0)) (v0 : Nat) (v1 : Int32) (v2 : Int32) {P : (Int32) → Prop} (he0 : ∀ e, P e → AW G X 59 [(3, vI e)] [] h 0 0) : ∀ (n : Nat) (s : Int32), OK (iter (fun (s : Int32) => b_X13_overlapOf_43 h v0 v1 v2 s) n s) P → AW G X 43 [(0, vR v0), (1, vI v1), (2, vI v2), (3, vI s)] [] h 0 0 := by
  intro n
  induction n with
  | zero => exact fun s hy => hy.it0.elim
  | succ n ih =>
    intro s hy
    exact wb_X13_overlapOf_43 hX hN h hr v0 v1 v2 (fun s hs => ih s hs) (fun e hs => he0 e hs) s hy.it
def f_X13_overlapOf_42 (h : Mem) (v0 : Nat) (v1 : Int32) (v2 : Int32) (s0 : Int32) : Option Int32 :=
  (iter (fun (s : Int32) => b_X13_overlapOf_43 h v0 v1 v2 s) FU s0).bind (fun q11 => some q11)
set_option maxRecDepth 100000 in
set_option maxHeartbeats 4000000 in
theorem w_X13_overlapOf_42 {G : GE} {X : CX} {l : Launch} (hX : Ok G X cX13_overlapOf RX13) (hN : xn X = 4) (h : Mem) {P : Int32 → Prop} (hr : Rt G X l yX13_overlapOf (some .int) rm_X13_overlapOf (ppI h P)) (v0 : Nat) (v1 : Int32) (v2 : Int32) (s0 : Int32) (hy : OK (f_X13_overlapOf_42 h v0 v1 v2 s0) P) : AW G X 42 [(0, vR v0), (1, vI v1), (2, vI v2)] [vI s0] h 0 0 := by
  unfold f_X13_overlapOf_42 at hy
  refine aw_istoren (pc := 42) hX [(3, vI s0), (0, vR v0), (1, vI v1), (2, vI v2)] rfl (lt_n hN (by decide)) dX13_overlapOf_42 ?_
  refine AW.sub [1, 2, 3, 0] rfl ?_
  refine wl_X13_overlapOf_43 hX hN _ hr v0 v1 v2 ?_ FU s0 hy.bd
  · intro q11 hy
    refine aw_iloadn (pc := 59) hX 0 rfl dX13_overlapOf_59 ?_
    exact aw_iret (pc := 60) hX hr (by decide) (by decide) dX13_overlapOf_60 ⟨rfl, _, rfl, hy.s⟩
def f_X13_overlapOf (h : Mem) (v0 : Nat) (v1 : Int32) (v2 : Int32) : Option Int32 :=
  (ck h v0 11).bind fun _ => (gR h v0 3 11).bind fun r1 => (gR h r1 10 10).bind fun r2 => (aI h r2 v1).bind fun x3 => (gR h v0 3 11).bind fun r4 => (gR h r4 10 10).bind fun r5 => (aI h r5 v2).bind fun x6 => (if x6 ≤ x3 then (gR h v0 3 11).bind fun r7 => (gR h r7 10 10).bind fun r8 => (aI h r8 v2).bind fun x9 => f_X13_overlapOf_42 h v0 v1 v2 x9 else (gR h v0 3 11).bind fun r12 => (gR h r12 10 10).bind fun r13 => (aI h r13 v1).bind fun x14 => f_X13_overlapOf_42 h v0 v1 v2 x14)
set_option maxRecDepth 100000 in
set_option maxHeartbeats 4000000 in
theorem w_X13_overlapOf {G : GE} {X : CX} {l : Launch} (hX : Ok G X cX13_overlapOf RX13) (hN : xn X = 4) (h : Mem) {P : Int32 → Prop} (hr : Rt G X l yX13_overlapOf (some .int) rm_X13_overlapOf (ppI h P)) (v0 : Nat) (v1 : Int32) (v2 : Int32) (hy : OK (f_X13_overlapOf h v0 v1 v2) P) : AW G X 0 [(0, vR v0), (1, vI v1), (2, vI v2)] [] h 0 0 := by
  unfold f_X13_overlapOf at hy
  have hkd := hy.kd
  have hy := hy.kb
  refine aw_aloadn (pc := 0) hX 0 rfl dX13_overlapOf_0 ?_
  refine aw_gR (pc := 1) hX hy fl_X13_338 (fun _ _ => rfl) dX13_overlapOf_1 (fun r1 hy => ?_)
  refine aw_gR (pc := 4) hX hy fl_X13_237 (fun _ _ => rfl) dX13_overlapOf_4 (fun r2 hy => ?_)
  refine aw_iloadn (pc := 7) hX 1 rfl dX13_overlapOf_7 ?_
  refine aw_aI (pc := 8) hX hy dX13_overlapOf_8 (fun x3 hy => ?_)
  refine aw_aloadn (pc := 9) hX 0 rfl dX13_overlapOf_9 ?_
  refine aw_gR (pc := 10) hX hy fl_X13_338 (fun _ _ => rfl) dX13_overlapOf_10 (fun r4 hy => ?_)
  refine aw_gR (pc := 13) hX hy fl_X13_237 (fun _ _ => rfl) dX13_overlapOf_13 (fun r5 hy => ?_)
  refine aw_iloadn (pc := 16) hX 2 rfl dX13_overlapOf_16 ?_
  refine aw_aI (pc := 17) hX hy dX13_overlapOf_17 (fun x6 hy => ?_)
  refine aw_ic_ge (pc := 18) hX 33 (by decide) dX13_overlapOf_18 (fun hc9 => ?_) (fun hc9 => ?_)
  · have hy := hy.t hc9
    refine aw_aloadn (pc := 33) hX 0 rfl dX13_overlapOf_33 ?_
    refine aw_gR (pc := 34) hX hy fl_X13_338 (fun _ _ => rfl) dX13_overlapOf_34 (fun r7 hy => ?_)
    refine aw_gR (pc := 37) hX hy fl_X13_237 (fun _ _ => rfl) dX13_overlapOf_37 (fun r8 hy => ?_)
    refine aw_iloadn (pc := 40) hX 2 rfl dX13_overlapOf_40 ?_
    refine aw_aI (pc := 41) hX hy dX13_overlapOf_41 (fun x9 hy => ?_)
    exact w_X13_overlapOf_42 hX hN _ hr v0 v1 v2 x9 hy
  · have hy := hy.f hc9
    refine aw_aloadn (pc := 21) hX 0 rfl dX13_overlapOf_21 ?_
    refine aw_gR (pc := 22) hX hy fl_X13_338 (fun _ _ => rfl) dX13_overlapOf_22 (fun r12 hy => ?_)
    refine aw_gR (pc := 25) hX hy fl_X13_237 (fun _ _ => rfl) dX13_overlapOf_25 (fun r13 hy => ?_)
    refine aw_iloadn (pc := 28) hX 1 rfl dX13_overlapOf_28 ?_
    refine aw_aI (pc := 29) hX hy dX13_overlapOf_29 (fun x14 hy => ?_)
    refine aw_goto (pc := 30) hX 42 (by decide) dX13_overlapOf_30 ?_
    exact w_X13_overlapOf_42 hX hN _ hr v0 v1 v2 x14 hy
theorem con_X13_overlapOf (l : Launch) (G : GE) (h : Mem) (v0 : Nat) (v1 : Int32) (v2 : Int32) {P : Int32 → Prop} (hy : OK (f_X13_overlapOf h v0 v1 v2) P) : Con l G yX13_overlapOf cX13_overlapOf 4 (some .int) rm_X13_overlapOf [vR v0, vI v1, vI v2] h (ppI h P) := Con.of (by decide) (Nat.le_of_ble_eq_true rfl) (fun X hX hr hN => w_X13_overlapOf hX hN h hr v0 v1 v2 hy)
/-! X13_standsIn -/
theorem dX13_standsIn_0 : decode cX13_standsIn 0 = .ok (.iconst 0, 1) := by decide +kernel
theorem dX13_standsIn_1 : decode cX13_standsIn 1 = .ok (.istore_n 3, 1) := by decide +kernel
theorem dX13_standsIn_2 : decode cX13_standsIn 2 = .ok (.iload_n 3, 1) := by decide +kernel
theorem dX13_standsIn_3 : decode cX13_standsIn 3 = .ok (.aload_n 0, 1) := by decide +kernel
theorem dX13_standsIn_4 : decode cX13_standsIn 4 = .ok (.getfield 338, 3) := by decide +kernel
theorem dX13_standsIn_7 : decode cX13_standsIn 7 = .ok (.getfield 237, 3) := by decide +kernel
theorem dX13_standsIn_10 : decode cX13_standsIn 10 = .ok (.iload_n 1, 1) := by decide +kernel
theorem dX13_standsIn_11 : decode cX13_standsIn 11 = .ok (.iaload, 1) := by decide +kernel
theorem dX13_standsIn_12 : decode cX13_standsIn 12 = .ok (.iadd, 1) := by decide +kernel
theorem dX13_standsIn_13 : decode cX13_standsIn 13 = .ok (.aload_n 0, 1) := by decide +kernel
theorem dX13_standsIn_14 : decode cX13_standsIn 14 = .ok (.getfield 338, 3) := by decide +kernel
theorem dX13_standsIn_17 : decode cX13_standsIn 17 = .ok (.getfield 237, 3) := by decide +kernel
theorem dX13_standsIn_20 : decode cX13_standsIn 20 = .ok (.iload_n 2, 1) := by decide +kernel
theorem dX13_standsIn_21 : decode cX13_standsIn 21 = .ok (.iaload, 1) := by decide +kernel
theorem dX13_standsIn_22 : decode cX13_standsIn 22 = .ok (.if_icmp .gt 79, 3) := by decide +kernel
theorem dX13_standsIn_25 : decode cX13_standsIn 25 = .ok (.iconst 1, 1) := by decide +kernel
theorem dX13_standsIn_26 : decode cX13_standsIn 26 = .ok (.istore 4, 2) := by decide +kernel
theorem dX13_standsIn_28 : decode cX13_standsIn 28 = .ok (.iconst 0, 1) := by decide +kernel
theorem dX13_standsIn_29 : decode cX13_standsIn 29 = .ok (.istore 5, 2) := by decide +kernel
theorem dX13_standsIn_31 : decode cX13_standsIn 31 = .ok (.iload 5, 2) := by decide +kernel
theorem dX13_standsIn_33 : decode cX13_standsIn 33 = .ok (.aload_n 0, 1) := by decide +kernel
theorem dX13_standsIn_34 : decode cX13_standsIn 34 = .ok (.getfield 338, 3) := by decide +kernel
theorem dX13_standsIn_37 : decode cX13_standsIn 37 = .ok (.getfield 237, 3) := by decide +kernel
theorem dX13_standsIn_40 : decode cX13_standsIn 40 = .ok (.iload_n 1, 1) := by decide +kernel
theorem dX13_standsIn_41 : decode cX13_standsIn 41 = .ok (.iaload, 1) := by decide +kernel
theorem dX13_standsIn_42 : decode cX13_standsIn 42 = .ok (.if_icmp .ge 46, 3) := by decide +kernel
theorem dX13_standsIn_45 : decode cX13_standsIn 45 = .ok (.iload 4, 2) := by decide +kernel
theorem dX13_standsIn_47 : decode cX13_standsIn 47 = .ok (.ifCond .eq 32, 3) := by decide +kernel
theorem dX13_standsIn_50 : decode cX13_standsIn 50 = .ok (.aload_n 0, 1) := by decide +kernel
theorem dX13_standsIn_51 : decode cX13_standsIn 51 = .ok (.getfield 338, 3) := by decide +kernel
theorem dX13_standsIn_54 : decode cX13_standsIn 54 = .ok (.iload_n 1, 1) := by decide +kernel
theorem dX13_standsIn_55 : decode cX13_standsIn 55 = .ok (.iload 5, 2) := by decide +kernel
theorem dX13_standsIn_57 : decode cX13_standsIn 57 = .ok (.invokevirtual 350, 3) := by decide +kernel
theorem dX13_standsIn_60 : decode cX13_standsIn 60 = .ok (.aload_n 0, 1) := by decide +kernel
theorem dX13_standsIn_61 : decode cX13_standsIn 61 = .ok (.getfield 338, 3) := by decide +kernel
theorem dX13_standsIn_64 : decode cX13_standsIn 64 = .ok (.iload_n 2, 1) := by decide +kernel
theorem dX13_standsIn_65 : decode cX13_standsIn 65 = .ok (.iload_n 3, 1) := by decide +kernel
theorem dX13_standsIn_66 : decode cX13_standsIn 66 = .ok (.iload 5, 2) := by decide +kernel
theorem dX13_standsIn_68 : decode cX13_standsIn 68 = .ok (.iadd, 1) := by decide +kernel
theorem dX13_standsIn_69 : decode cX13_standsIn 69 = .ok (.invokevirtual 350, 3) := by decide +kernel
theorem dX13_standsIn_72 : decode cX13_standsIn 72 = .ok (.if_icmp .ne 7, 3) := by decide +kernel
theorem dX13_standsIn_75 : decode cX13_standsIn 75 = .ok (.iconst 1, 1) := by decide +kernel
theorem dX13_standsIn_76 : decode cX13_standsIn 76 = .ok (.goto 4, 3) := by decide +kernel
theorem dX13_standsIn_79 : decode cX13_standsIn 79 = .ok (.iconst 0, 1) := by decide +kernel
theorem dX13_standsIn_80 : decode cX13_standsIn 80 = .ok (.istore 4, 2) := by decide +kernel
theorem dX13_standsIn_82 : decode cX13_standsIn 82 = .ok (.iinc 5 1, 3) := by decide +kernel
theorem dX13_standsIn_85 : decode cX13_standsIn 85 = .ok (.goto (-54), 3) := by decide +kernel
theorem dX13_standsIn_88 : decode cX13_standsIn 88 = .ok (.iload 4, 2) := by decide +kernel
theorem dX13_standsIn_90 : decode cX13_standsIn 90 = .ok (.ifCond .eq 5, 3) := by decide +kernel
theorem dX13_standsIn_93 : decode cX13_standsIn 93 = .ok (.iconst 1, 1) := by decide +kernel
theorem dX13_standsIn_94 : decode cX13_standsIn 94 = .ok (.ireturn, 1) := by decide +kernel
theorem dX13_standsIn_95 : decode cX13_standsIn 95 = .ok (.iinc 3 1, 3) := by decide +kernel
theorem dX13_standsIn_98 : decode cX13_standsIn 98 = .ok (.goto (-96), 3) := by decide +kernel
theorem dX13_standsIn_101 : decode cX13_standsIn 101 = .ok (.iconst 0, 1) := by decide +kernel
theorem dX13_standsIn_102 : decode cX13_standsIn 102 = .ok (.ireturn, 1) := by decide +kernel
abbrev rm_X13_standsIn : Room := { frames := 1, cells := 0, slots := 0, locals := 22 }
def f_X13_standsIn_80 (h : Mem) (v0 : Nat) (v1 : Int32) (v2 : Int32) (v3 : Int32) (v5 : Int32) (s0 : Int32) : Option ((Int32 × Int32) ⊕ Int32) :=
  some (.inl (s0, (v5 + 1)))
set_option maxRecDepth 100000 in
set_option maxHeartbeats 4000000 in
theorem w_X13_standsIn_80 {G : GE} {X : CX} {l : Launch} (hX : Ok G X cX13_standsIn RX13) (hN : xn X = 6) (h : Mem) {P0 : Int32 → Prop} (hr : Rt G X l yX13_standsIn (some .boolean) rm_X13_standsIn (ppI h P0))  (v0 : Nat) (v1 : Int32) (v2 : Int32) (v3 : Int32) {P : ((Int32 × Int32) ⊕ Int32) → Prop} (hc : ∀ s, P (.inl s) → AW G X 31 [(0, vR v0), (1, vI v1), (2, vI v2), (3, vI v3), (4, vI s.1), (5, vI s.2)] [] h 0 0) (he0 : ∀ e, P (.inr e) → AW G X 88 [(0, vR v0), (1, vI v1), (2, vI v2), (3, vI v3), (4, vI e)] [] h 0 0) (v5 : Int32) (s0 : Int32) (hy : OK (f_X13_standsIn_80 h v0 v1 v2 v3 v5 s0) P) : AW G X 80 [(0, vR v0), (1, vI v1), (2, vI v2), (3, vI v3), (5, vI v5)] [vI s0] h 0 0 := by
  unfold f_X13_standsIn_80 at hy
  refine aw_istore (pc := 80) hX [(4, vI s0), (0, vR v0), (1, vI v1), (2, vI v2), (3, vI v3), (5, vI v5)] rfl (lt_n hN (by decide)) dX13_standsIn_80 ?_
  refine aw_iinc (pc := 82) hX 1 (by decide) 5 rfl [(5, vI (v5 + 1)), (4, vI s0), (0, vR v0), (1, vI v1), (2, vI v2), (3, vI v3)] rfl (lt_n hN (by decide)) dX13_standsIn_82 ?_
  refine aw_goto (pc := 85) hX 31 (by decide) dX13_standsIn_85 ?_
  refine AW.sub [2, 3, 4, 5, 1, 0] rfl ?_
  exact hc (s0, (v5 + 1)) hy.s
def f_X13_standsIn_79 (h : Mem) (v0 : Nat) (v1 : Int32) (v2 : Int32) (v3 : Int32) (v5 : Int32) : Option ((Int32 × Int32) ⊕ Int32) :=
  f_X13_standsIn_80 h v0 v1 v2 v3 v5 0
set_option maxRecDepth 100000 in
set_option maxHeartbeats 4000000 in
theorem w_X13_standsIn_79 {G : GE} {X : CX} {l : Launch} (hX : Ok G X cX13_standsIn RX13) (hN : xn X = 6) (h : Mem) {P0 : Int32 → Prop} (hr : Rt G X l yX13_standsIn (some .boolean) rm_X13_standsIn (ppI h P0))  (v0 : Nat) (v1 : Int32) (v2 : Int32) (v3 : Int32) {P : ((Int32 × Int32) ⊕ Int32) → Prop} (hc : ∀ s, P (.inl s) → AW G X 31 [(0, vR v0), (1, vI v1), (2, vI v2), (3, vI v3), (4, vI s.1), (5, vI s.2)] [] h 0 0) (he0 : ∀ e, P (.inr e) → AW G X 88 [(0, vR v0), (1, vI v1), (2, vI v2), (3, vI v3), (4, vI e)] [] h 0 0) (v5 : Int32) (hy : OK (f_X13_standsIn_79 h v0 v1 v2 v3 v5) P) : AW G X 79 [(0, vR v0), (1, vI v1), (2, vI v2), (3, vI v3), (5, vI v5)] [] h 0 0 := by
  unfold f_X13_standsIn_79 at hy
  refine aw_iconst (pc := 79) hX 0 (by decide) dX13_standsIn_79 ?_
  exact w_X13_standsIn_80 hX hN _ hr _ _ _ _ hc he0 v5 0 hy
def b_X13_standsIn_31 (h : Mem) (v0 : Nat) (v1 : Int32) (v2 : Int32) (v3 : Int32) (v4 : Int32) (v5 : Int32) : Option ((Int32 × Int32) ⊕ Int32) :=
  (gR h v0 3 11).bind fun r7 => (gR h r7 10 10).bind fun r8 => (aI h r8 v1).bind fun x9 => (if x9 ≤ v5 then some (.inr v4) else (if v4 = 0 then f_X13_standsIn_79 h v0 v1 v2 v3 v5 else (gR h v0 3 11).bind fun r10 => (f_X12_note h r10 v1 v5).bind fun x11 => (gR h v0 3 11).bind fun r12 => (f_X12_note h r12 v2 (v3 + v5)).bind fun x13 => (if x11 = x13 then f_X13_standsIn_80 h v0 v1 v2 v3 v5 1 else f_X13_standsIn_79 h v0 v1 v2 v3 v5)))
set_option maxRecDepth 100000 in
set_option maxHeartbeats 4000000 in
theorem wb_X13_standsIn_31 {G : GE} {X : CX} {l : Launch} (hX : Ok G X cX13_standsIn RX13) (hN : xn X = 6) (h : Mem) {P0 : Int32 → Prop} (hr : Rt G X l yX13_standsIn (some .boolean) rm_X13_standsIn (ppI h P0))  (v0 : Nat) (v1 : Int32) (v2 : Int32) (v3 : Int32) {P : ((Int32 × Int32) ⊕ Int32) → Prop} (hc : ∀ s, P (.inl s) → AW G X 31 [(0, vR v0), (1, vI v1), (2, vI v2), (3, vI v3), (4, vI s.1), (5, vI s.2)] [] h 0 0) (he0 : ∀ e, P (.inr e) → AW G X 88 [(0, vR v0), (1, vI v1), (2, vI v2), (3, vI v3), (4, vI e)] [] h 0 0) (v4 : Int32) (v5 : Int32) (hy : OK (b_X13_standsIn_31 h v0 v1 v2 v3 v4 v5) P) : AW G X 31 [(0, vR v0), (1, vI v1), (2, vI v2), (3, vI v3), (4, vI v4), (5, vI v5)] [] h 0 0 := by
  unfold b_X13_standsIn_31 at hy
  refine aw_iload (pc := 31) hX 5 rfl dX13_standsIn_31 ?_
  refine aw_aloadn (pc := 33) hX 0 rfl dX13_standsIn_33 ?_
  refine aw_gR (pc := 34) hX hy fl_X13_338 (fun _ _ => rfl) dX13_standsIn_34 (fun r7 hy => ?_)
  refine aw_gR (pc := 37) hX hy fl_X13_237 (fun _ _ => rfl) dX13_standsIn_37 (fun r8 hy => ?_)
  refine aw_iloadn (pc := 40) hX 1 rfl dX13_standsIn_40 ?_
  refine aw_aI (pc := 41) hX hy dX13_standsIn_41 (fun x9 hy => ?_)
  refine aw_ic_ge (pc := 42) hX 88 (by decide) dX13_standsIn_42 (fun hc9 => ?_) (fun hc9 => ?_)
  · have hy := hy.t hc9
    refine AW.sub [0, 1, 2, 3, 4] rfl ?_
    exact he0 v4 hy.s
  · have hy := hy.f hc9
    refine aw_iload (pc := 45) hX 4 rfl dX13_standsIn_45 ?_
    refine aw_if_eq (pc := 47) hX 79 (by decide) dX13_standsIn_47 (fun hc9 => ?_) (fun hc9 => ?_)
    · have hy := hy.t hc9
      refine AW.sub [0, 1, 2, 3, 5] rfl ?_
      exact w_X13_standsIn_79 hX hN _ hr _ _ _ _ hc he0 v5 hy
    · have hy := hy.f hc9
      refine aw_aloadn (pc := 50) hX 0 rfl dX13_standsIn_50 ?_
      refine aw_gR (pc := 51) hX hy fl_X13_338 (fun _ _ => rfl) dX13_standsIn_51 (fun r10 hy => ?_)
      refine aw_iloadn (pc := 54) hX 1 rfl dX13_standsIn_54 ?_
      refine aw_iload (pc := 55) hX 5 rfl dX13_standsIn_55 ?_
      refine aw_callV (pc := 57) (st := []) (a := r10) hX [vI v1, vI v5] (con_X12_note _ G _ r10 v1 v5 hy.bd) mc_X12_note ml_X13_350 im_X12_note se_X12_note (by decide) hy.bd.kd rfl (rm_of hr (by decide)) (Nat.le_of_ble_eq_true rfl) rfl dX13_standsIn_57 (kpI rfl rfl (fun x11 hy => ?_))
      refine aw_aloadn (pc := 60) hX 0 rfl dX13_standsIn_60 ?_
      refine aw_gR (pc := 61) hX hy fl_X13_338 (fun _ _ => rfl) dX13_standsIn_61 (fun r12 hy => ?_)
      refine aw_iloadn (pc := 64) hX 2 rfl dX13_standsIn_64 ?_
      refine aw_iloadn (pc := 65) hX 3 rfl dX13_standsIn_65 ?_
      refine aw_iload (pc := 66) hX 5 rfl dX13_standsIn_66 ?_
      refine aw_iadd (pc := 68) hX dX13_standsIn_68 ?_
      refine aw_callV (pc := 69) (st := [vI x11]) (a := r12) hX [vI v2, vI (v3 + v5)] (con_X12_note _ G _ r12 v2 (v3 + v5) hy.bd) mc_X12_note ml_X13_350 im_X12_note se_X12_note (by decide) hy.bd.kd rfl (rm_of hr (by decide)) (Nat.le_of_ble_eq_true rfl) rfl dX13_standsIn_69 (kpI rfl rfl (fun x13 hy => ?_))
      refine aw_ic_ne (pc := 72) hX 79 (by decide) dX13_standsIn_72 (fun hc9 => ?_) (fun hc9 => ?_)
      · have hy := hy.f hc9
        refine AW.sub [0, 1, 2, 3, 5] rfl ?_
        exact w_X13_standsIn_79 hX hN _ hr _ _ _ _ hc he0 v5 hy
      · have hy := hy.t hc9
        refine aw_iconst (pc := 75) hX 1 (by decide) dX13_standsIn_75 ?_
        refine aw_goto (pc := 76) hX 80 (by decide) dX13_standsIn_76 ?_
        refine AW.sub [0, 1, 2, 3, 5] rfl ?_
        exact w_X13_standsIn_80 hX hN _ hr _ _ _ _ hc he0 v5 1 hy
theorem wl_X13_standsIn_31 {G : GE} {X : CX} {l : Launch} (hX : Ok G X cX13_standsIn RX13) (hN : xn X = 6) (h : Mem) {P0 : Int32 → Prop} (hr : Rt G X l yX13_standsIn (some .boolean) rm_X13_standsIn (ppI h P0)) (v0 : Nat) (v1 : Int32) (v2 : Int32) (v3 : Int32) {P : (Int32) → Prop} (he0 : ∀ e, P e → AW G X 88 [(0, vR v0), (1, vI v1), (2, vI v2), (3, vI v3), (4, vI e)] [] h 0 0) : ∀ (n : Nat) (s : Int32 × Int32), OK (iter (fun (s : Int32 × Int32) => b_X13_standsIn_31 h v0 v1 v2 v3 s.1 s.2) n s) P → AW G X 31 [(0, vR v0), (1, vI v1), (2, vI v2), (3, vI v3), (4, vI s.1), (5, vI s.2)] [] h 0 0 := by
  intro n
  induction n with
  | zero => exact fun s hy => hy.it0.elim
  | succ n ih =>
    intro s hy
    exact wb_X13_standsIn_31 hX hN h hr v0 v1 v2 v3 (fun s hs => ih s hs) (fun e hs => he0 e hs) s.1 s.2 hy.it
def b_X13_standsIn_2 (h : Mem) (v0 : Nat) (v1 : Int32) (v2 : Int32) (v3 : Int32) : Option (Int32 ⊕ (Unit ⊕ Unit)) :=
  (gR h v0 3 11).bind fun r1 => (gR h r1 10 10).bind fun r2 => (aI h r2 v1).bind fun x3 => (gR h v0 3 11).bind fun r4 => (gR h r4 10 10).bind fun r5 => (aI h r5 v2).bind fun x6 => (if x6 < (v3 + x3) then some (.inr (.inr ())) else (iter (fun (s : Int32 × Int32) => b_X13_standsIn_31 h v0 v1 v2 v3 s.1 s.2) FU (1, 0)).bind (fun q14 => (if q14 = 0 then some (.inl (v3 + 1)) else some (.inr (.inl ())))))
set_option maxRecDepth 100000 in
set_option maxHeartbeats 4000000 in
theorem wb_X13_standsIn_2 {G : GE} {X : CX} {l : Launch} (hX : Ok G X cX13_standsIn RX13) (hN : xn X = 6) (h : Mem) {P0 : Int32 → Prop} (hr : Rt G X l yX13_standsIn (some .boolean) rm_X13_standsIn (ppI h P0))  (v0 : Nat) (v1 : Int32) (v2 : Int32) {P : (Int32 ⊕ (Unit ⊕ Unit)) → Prop} (hc : ∀ s, P (.inl s) → AW G X 2 [(0, vR v0), (1, vI v1), (2, vI v2), (3, vI s)] [] h 0 0) (he0 : ∀ e, P (.inr (.inl e)) → AW G X 93 [] [] h 0 0) (he1 : ∀ e, P (.inr (.inr e)) → AW G X 101 [] [] h 0 0) (v3 : Int32) (hy : OK (b_X13_standsIn_2 h v0 v1 v2 v3) P) : AW G X 2 [(0, vR v0), (1, vI v1), (2, vI v2), (3, vI v3)] [] h 0 0 := by
  unfold b_X13_standsIn_2 at hy
  refine aw_iloadn (pc := 2) hX 3 rfl dX13_standsIn_2 ?_
  refine aw_aloadn (pc := 3) hX 0 rfl dX13_standsIn_3 ?_
  refine aw_gR (pc := 4) hX hy fl_X13_338 (fun _ _ => rfl) dX13_standsIn_4 (fun r1 hy => ?_)
  refine aw_gR (pc := 7) hX hy fl_X13_237 (fun _ _ => rfl) dX13_standsIn_7 (fun r2 hy => ?_)
  refine aw_iloadn (pc := 10) hX 1 rfl dX13_standsIn_10 ?_
  refine aw_aI (pc := 11) hX hy dX13_standsIn_11 (fun x3 hy => ?_)
  refine aw_iadd (pc := 12) hX dX13_standsIn_12 ?_
  refine aw_aloadn (pc := 13) hX 0 rfl dX13_standsIn_13 ?_
  refine aw_gR (pc := 14) hX hy fl_X13_338 (fun _ _ => rfl) dX13_standsIn_14 (fun r4 hy => ?_)
  refine aw_gR (pc := 17) hX hy fl_X13_237 (fun _ _ => rfl) dX13_standsIn_17 (fun r5 hy => ?_)
  refine aw_iloadn (pc := 20) hX 2 rfl dX13_standsIn_20 ?_
  refine aw_aI (pc := 21) hX hy dX13_standsIn_21 (fun x6 hy => ?_)
  refine aw_ic_gt (pc := 22) hX 101 (by decide) dX13_standsIn_22 (fun hc9 => ?_) (fun hc9 => ?_)
  · have hy := hy.t hc9
    refine AW.sub [] rfl ?_
    exact he1 () hy.s
  · have hy := hy.f hc9
    refine aw_iconst (pc := 25) hX 1 (by decide) dX13_standsIn_25 ?_
    refine aw_istore (pc := 26) hX [(4, vI 1), (0, vR v0), (1, vI v1), (2, vI v2), (3, vI v3)] rfl (lt_n hN (by decide)) dX13_standsIn_26 ?_
    refine aw_iconst (pc := 28) hX 0 (by decide) dX13_standsIn_28 ?_
    refine aw_istore (pc := 29) hX [(5, vI 0), (4, vI 1), (0, vR v0), (1, vI v1), (2, vI v2), (3, vI v3)] rfl (lt_n hN (by decide)) dX13_standsIn_29 ?_
    refine AW.sub [2, 3, 4, 5, 1, 0] rfl ?_
    refine wl_X13_standsIn_31 hX hN _ hr v0 v1 v2 v3 ?_ FU (1, 0) hy.bd
    · intro q14 hy
      refine aw_iload (pc := 88) hX 4 rfl dX13_standsIn_88 ?_
      refine aw_if_eq (pc := 90) hX 95 (by decide) dX13_standsIn_90 (fun hc9 => ?_) (fun hc9 => ?_)
      · have hy := hy.t hc9
        refine aw_iinc (pc := 95) hX 1 (by decide) 3 rfl [(3, vI (v3 + 1)), (0, vR v0), (1, vI v1), (2, vI v2), (4, vI q14)] rfl (lt_n hN (by decide)) dX13_standsIn_95 ?_
        refine aw_goto (pc := 98) hX 2 (by decide) dX13_standsIn_98 ?_
        refine AW.sub [1, 2, 3, 0] rfl ?_
        exact hc (v3 + 1) hy.s
      · have hy := hy.f hc9
        refine AW.sub [] rfl ?_
        exact he0 () hy.s
theorem wl_X13_standsIn_2 {G : GE} {X : CX} {l : Launch} (hX : Ok G X cX13_standsIn RX13) (hN : xn X = 6) (h : Mem) {P0 : Int32 → Prop} (hr : Rt G X l yX13_standsIn (some .boolean) rm_X13_standsIn (ppI h P0)) (v0 : Nat) (v1 : Int32) (v2 : Int32) {P : (Unit ⊕ Unit) → Prop} (he0 : ∀ e, P (.inl e) → AW G X 93 [] [] h 0 0) (he1 : ∀ e, P (.inr e) → AW G X 101 [] [] h 0 0) : ∀ (n : Nat) (s : Int32), OK (iter (fun (s : Int32) => b_X13_standsIn_2 h v0 v1 v2 s) n s) P → AW G X 2 [(0, vR v0), (1, vI v1), (2, vI v2), (3, vI s)] [] h 0 0 := by
  intro n
  induction n with
  | zero => exact fun s hy => hy.it0.elim
  | succ n ih =>
    intro s hy
    exact wb_X13_standsIn_2 hX hN h hr v0 v1 v2 (fun s hs => ih s hs) (fun e hs => he0 e hs) (fun e hs => he1 e hs) s hy.it
def f_X13_standsIn (h : Mem) (v0 : Nat) (v1 : Int32) (v2 : Int32) : Option Int32 :=
  (ck h v0 11).bind fun _ => (iter (fun (s : Int32) => b_X13_standsIn_2 h v0 v1 v2 s) FU 0).bind (Sum.elim (fun e16 => some 1) (fun e17 => some 0))
set_option maxRecDepth 100000 in
set_option maxHeartbeats 4000000 in
theorem w_X13_standsIn {G : GE} {X : CX} {l : Launch} (hX : Ok G X cX13_standsIn RX13) (hN : xn X = 6) (h : Mem) {P : Int32 → Prop} (hr : Rt G X l yX13_standsIn (some .boolean) rm_X13_standsIn (ppI h P)) (v0 : Nat) (v1 : Int32) (v2 : Int32) (hy : OK (f_X13_standsIn h v0 v1 v2) P) : AW G X 0 [(0, vR v0), (1, vI v1), (2, vI v2)] [] h 0 0 := by
  unfold f_X13_standsIn at hy
  have hkd := hy.kd
  have hy := hy.kb
  refine aw_iconst (pc := 0) hX 0 (by decide) dX13_standsIn_0 ?_
  refine aw_istoren (pc := 1) hX [(3, vI 0), (0, vR v0), (1, vI v1), (2, vI v2)] rfl (lt_n hN (by decide)) dX13_standsIn_1 ?_
  refine AW.sub [1, 2, 3, 0] rfl ?_
  refine wl_X13_standsIn_2 hX hN _ hr v0 v1 v2 ?_ ?_ FU 0 hy.bd
  · intro e16 hy
    refine aw_iconst (pc := 93) hX 1 (by decide) dX13_standsIn_93 ?_
    exact aw_zret (pc := 94) hX hr (by decide) (by decide) dX13_standsIn_94 (Or.inr rfl) ⟨rfl, _, rfl, hy.s⟩
  · intro e17 hy
    refine aw_iconst (pc := 101) hX 0 (by decide) dX13_standsIn_101 ?_
    exact aw_zret (pc := 102) hX hr (by decide) (by decide) dX13_standsIn_102 (Or.inl rfl) ⟨rfl, _, rfl, hy.s⟩
theorem con_X13_standsIn (l : Launch) (G : GE) (h : Mem) (v0 : Nat) (v1 : Int32) (v2 : Int32) {P : Int32 → Prop} (hy : OK (f_X13_standsIn h v0 v1 v2) P) : Con l G yX13_standsIn cX13_standsIn 6 (some .boolean) rm_X13_standsIn [vR v0, vI v1, vI v2] h (ppI h P) := Con.of (by decide) (Nat.le_of_ble_eq_true rfl) (fun X hX hr hN => w_X13_standsIn hX hN h hr v0 v1 v2 hy)
