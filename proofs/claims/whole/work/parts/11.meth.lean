/-! X3_settle -/
theorem dX3_settle_0 : decode cX3_settle 0 = .ok (.iconst 0, 1) := by decide +kernel
theorem dX3_settle_1 : decode cX3_settle 1 = .ok (.istore_n 2, 1) := by decide +kernel
theorem dX3_settle_2 : decode cX3_settle 2 = .ok (.iload_n 2, 1) := by decide +kernel
theorem dX3_settle_3 : decode cX3_settle 3 = .ok (.aload_n 1, 1) := by decide +kernel
theorem dX3_settle_4 : decode cX3_settle 4 = .ok (.getfield 30, 3) := by decide +kernel
theorem dX3_settle_7 : decode cX3_settle 7 = .ok (.if_icmp .ge 57, 3) := by decide +kernel
theorem dX3_settle_10 : decode cX3_settle 10 = .ok (.aload_n 0, 1) := by decide +kernel
theorem dX3_settle_11 : decode cX3_settle 11 = .ok (.getfield 17, 3) := by decide +kernel
theorem dX3_settle_14 : decode cX3_settle 14 = .ok (.iload_n 2, 1) := by decide +kernel
theorem dX3_settle_15 : decode cX3_settle 15 = .ok (.iconst 0, 1) := by decide +kernel
theorem dX3_settle_16 : decode cX3_settle 16 = .ok (.iastore, 1) := by decide +kernel
theorem dX3_settle_17 : decode cX3_settle 17 = .ok (.iconst 0, 1) := by decide +kernel
theorem dX3_settle_18 : decode cX3_settle 18 = .ok (.istore_n 3, 1) := by decide +kernel
theorem dX3_settle_19 : decode cX3_settle 19 = .ok (.iload_n 3, 1) := by decide +kernel
theorem dX3_settle_20 : decode cX3_settle 20 = .ok (.aload_n 1, 1) := by decide +kernel
theorem dX3_settle_21 : decode cX3_settle 21 = .ok (.getfield 30, 3) := by decide +kernel
theorem dX3_settle_24 : decode cX3_settle 24 = .ok (.if_icmp .ge 34, 3) := by decide +kernel
theorem dX3_settle_27 : decode cX3_settle 27 = .ok (.aload_n 0, 1) := by decide +kernel
theorem dX3_settle_28 : decode cX3_settle 28 = .ok (.getfield 17, 3) := by decide +kernel
theorem dX3_settle_31 : decode cX3_settle 31 = .ok (.iload_n 2, 1) := by decide +kernel
theorem dX3_settle_32 : decode cX3_settle 32 = .ok (.dup2, 1) := by decide +kernel
theorem dX3_settle_33 : decode cX3_settle 33 = .ok (.iaload, 1) := by decide +kernel
theorem dX3_settle_34 : decode cX3_settle 34 = .ok (.aload_n 1, 1) := by decide +kernel
theorem dX3_settle_35 : decode cX3_settle 35 = .ok (.iload_n 2, 1) := by decide +kernel
theorem dX3_settle_36 : decode cX3_settle 36 = .ok (.iload_n 3, 1) := by decide +kernel
theorem dX3_settle_37 : decode cX3_settle 37 = .ok (.invokestatic 38, 3) := by decide +kernel
theorem dX3_settle_40 : decode cX3_settle 40 = .ok (.ifCond .eq 9, 3) := by decide +kernel
theorem dX3_settle_43 : decode cX3_settle 43 = .ok (.iconst 1, 1) := by decide +kernel
theorem dX3_settle_44 : decode cX3_settle 44 = .ok (.iload_n 3, 1) := by decide +kernel
theorem dX3_settle_45 : decode cX3_settle 45 = .ok (.ishl, 1) := by decide +kernel
theorem dX3_settle_46 : decode cX3_settle 46 = .ok (.goto 4, 3) := by decide +kernel
theorem dX3_settle_49 : decode cX3_settle 49 = .ok (.iconst 0, 1) := by decide +kernel
theorem dX3_settle_50 : decode cX3_settle 50 = .ok (.ior, 1) := by decide +kernel
theorem dX3_settle_51 : decode cX3_settle 51 = .ok (.iastore, 1) := by decide +kernel
theorem dX3_settle_52 : decode cX3_settle 52 = .ok (.iinc 3 1, 3) := by decide +kernel
theorem dX3_settle_55 : decode cX3_settle 55 = .ok (.goto (-36), 3) := by decide +kernel
theorem dX3_settle_58 : decode cX3_settle 58 = .ok (.iinc 2 1, 3) := by decide +kernel
theorem dX3_settle_61 : decode cX3_settle 61 = .ok (.goto (-59), 3) := by decide +kernel
theorem dX3_settle_64 : decode cX3_settle 64 = .ok (.aload_n 0, 1) := by decide +kernel
theorem dX3_settle_65 : decode cX3_settle 65 = .ok (.getfield 11, 3) := by decide +kernel
theorem dX3_settle_68 : decode cX3_settle 68 = .ok (.iconst 0, 1) := by decide +kernel
theorem dX3_settle_69 : decode cX3_settle 69 = .ok (.iconst 0, 1) := by decide +kernel
theorem dX3_settle_70 : decode cX3_settle 70 = .ok (.iastore, 1) := by decide +kernel
theorem dX3_settle_71 : decode cX3_settle 71 = .ok (.iconst 1, 1) := by decide +kernel
theorem dX3_settle_72 : decode cX3_settle 72 = .ok (.istore_n 2, 1) := by decide +kernel
theorem dX3_settle_73 : decode cX3_settle 73 = .ok (.iload_n 2, 1) := by decide +kernel
theorem dX3_settle_74 : decode cX3_settle 74 = .ok (.iconst 1, 1) := by decide +kernel
theorem dX3_settle_75 : decode cX3_settle 75 = .ok (.aload_n 1, 1) := by decide +kernel
theorem dX3_settle_76 : decode cX3_settle 76 = .ok (.getfield 30, 3) := by decide +kernel
theorem dX3_settle_79 : decode cX3_settle 79 = .ok (.ishl, 1) := by decide +kernel
theorem dX3_settle_80 : decode cX3_settle 80 = .ok (.if_icmp .ge 21, 3) := by decide +kernel
theorem dX3_settle_83 : decode cX3_settle 83 = .ok (.aload_n 0, 1) := by decide +kernel
theorem dX3_settle_84 : decode cX3_settle 84 = .ok (.getfield 11, 3) := by decide +kernel
theorem dX3_settle_87 : decode cX3_settle 87 = .ok (.iload_n 2, 1) := by decide +kernel
theorem dX3_settle_88 : decode cX3_settle 88 = .ok (.aload_n 0, 1) := by decide +kernel
theorem dX3_settle_89 : decode cX3_settle 89 = .ok (.aload_n 1, 1) := by decide +kernel
theorem dX3_settle_90 : decode cX3_settle 90 = .ok (.iload_n 2, 1) := by decide +kernel
theorem dX3_settle_91 : decode cX3_settle 91 = .ok (.invokevirtual 42, 3) := by decide +kernel
theorem dX3_settle_94 : decode cX3_settle 94 = .ok (.iastore, 1) := by decide +kernel
theorem dX3_settle_95 : decode cX3_settle 95 = .ok (.iinc 2 1, 3) := by decide +kernel
theorem dX3_settle_98 : decode cX3_settle 98 = .ok (.goto (-25), 3) := by decide +kernel
theorem dX3_settle_101 : decode cX3_settle 101 = .ok (.aload_n 0, 1) := by decide +kernel
theorem dX3_settle_102 : decode cX3_settle 102 = .ok (.aload_n 1, 1) := by decide +kernel
theorem dX3_settle_103 : decode cX3_settle 103 = .ok (.invokevirtual 46, 3) := by decide +kernel
theorem dX3_settle_106 : decode cX3_settle 106 = .ok (.return_, 1) := by decide +kernel
abbrev rm_X3_settle : Room := { frames := 3, cells := 0, slots := 0, locals := 68 }
def f_X3_settle_50 (h : Mem) (v0 : Nat) (v1 : Nat) (v2 : Int32) (v3 : Int32) (s0 : Nat) (s1 : Int32) (s2 : Int32) (s3 : Int32) : Option ((Int32 × Mem) ⊕ Mem) :=
  (sI h s0 s1 (s2 ||| s3)).bind fun h8 => some (.inl ((v3 + 1), h8))
set_option maxRecDepth 100000 in
set_option maxHeartbeats 4000000 in
theorem w_X3_settle_50 {G : GE} {X : CX} {l : Launch} (hX : Ok G X cX3_settle RX3) (hN : xn X = 4) {P0 : Mem → Prop} (hr : Rt G X l yX3_settle none rm_X3_settle (pmV P0))  (v0 : Nat) (v1 : Nat) (v2 : Int32) {P : ((Int32 × Mem) ⊕ Mem) → Prop} (hc : ∀ s, P (.inl s) → AW G X 19 [(0, vR v0), (1, vR v1), (2, vI v2), (3, vI s.1)] [] s.2 0 0) (he0 : ∀ e, P (.inr e) → AW G X 58 [(0, vR v0), (1, vR v1), (2, vI v2)] [] e 0 0) (h : Mem) (v3 : Int32) (s0 : Nat) (s1 : Int32) (s2 : Int32) (s3 : Int32) (hy : OK (f_X3_settle_50 h v0 v1 v2 v3 s0 s1 s2 s3) P) : AW G X 50 [(0, vR v0), (1, vR v1), (2, vI v2), (3, vI v3)] [vI s3, vI s2, vI s1, vR s0] h 0 0 := by
  unfold f_X3_settle_50 at hy
  refine aw_ior (pc := 50) hX dX3_settle_50 ?_
  refine aw_sI (pc := 51) hX hy dX3_settle_51 (fun h8 hy => ?_)
  refine aw_iinc (pc := 52) hX 1 (by decide) 3 rfl [(3, vI (v3 + 1)), (0, vR v0), (1, vR v1), (2, vI v2)] rfl (lt_n hN (by decide)) dX3_settle_52 ?_
  refine aw_goto (pc := 55) hX 19 (by decide) dX3_settle_55 ?_
  refine AW.sub [1, 2, 3, 0] rfl ?_
  exact hc ((v3 + 1), h8) hy.s
def b_X3_settle_19 (h : Mem) (v0 : Nat) (v1 : Nat) (v2 : Int32) (v3 : Int32) : Option ((Int32 × Mem) ⊕ Mem) :=
  (gI h v1 1 4).bind fun x4 => (if x4 ≤ v3 then some (.inr h) else (gR h v0 1 2).bind fun r5 => (aI h r5 v2).bind fun x6 => (f_X3_goTogether h v1 v2 v3).bind fun x7 => (if x7 = 0 then f_X3_settle_50 h v0 v1 v2 v3 r5 v2 x6 0 else f_X3_settle_50 h v0 v1 v2 v3 r5 v2 x6 ((1 : Int32) <<< (v3 &&& 31))))
set_option maxRecDepth 100000 in
set_option maxHeartbeats 4000000 in
theorem wb_X3_settle_19 {G : GE} {X : CX} {l : Launch} (hX : Ok G X cX3_settle RX3) (hN : xn X = 4) {P0 : Mem → Prop} (hr : Rt G X l yX3_settle none rm_X3_settle (pmV P0))  (v0 : Nat) (v1 : Nat) (v2 : Int32) {P : ((Int32 × Mem) ⊕ Mem) → Prop} (hc : ∀ s, P (.inl s) → AW G X 19 [(0, vR v0), (1, vR v1), (2, vI v2), (3, vI s.1)] [] s.2 0 0) (he0 : ∀ e, P (.inr e) → AW G X 58 [(0, vR v0), (1, vR v1), (2, vI v2)] [] e 0 0) (h : Mem) (v3 : Int32) (hy : OK (b_X3_settle_19 h v0 v1 v2 v3) P) : AW G X 19 [(0, vR v0), (1, vR v1), (2, vI v2), (3, vI v3)] [] h 0 0 := by
  unfold b_X3_settle_19 at hy
  refine aw_iloadn (pc := 19) hX 3 rfl dX3_settle_19 ?_
  refine aw_aloadn (pc := 20) hX 1 rfl dX3_settle_20 ?_
  refine aw_gI (pc := 21) hX hy fl_X3_30 (fun _ _ => rfl) dX3_settle_21 (fun x4 hy => ?_)
  refine aw_ic_ge (pc := 24) hX 58 (by decide) dX3_settle_24 (fun hc9 => ?_) (fun hc9 => ?_)
  · have hy := hy.t hc9
    refine AW.sub [0, 1, 2] rfl ?_
    exact he0 h hy.s
  · have hy := hy.f hc9
    refine aw_aloadn (pc := 27) hX 0 rfl dX3_settle_27 ?_
    refine aw_gR (pc := 28) hX hy fl_X3_17 (fun _ _ => rfl) dX3_settle_28 (fun r5 hy => ?_)
    refine aw_iloadn (pc := 31) hX 2 rfl dX3_settle_31 ?_
    refine aw_dup2 (pc := 32) hX rfl rfl dX3_settle_32 ?_
    refine aw_aI (pc := 33) hX hy dX3_settle_33 (fun x6 hy => ?_)
    refine aw_aloadn (pc := 34) hX 1 rfl dX3_settle_34 ?_
    refine aw_iloadn (pc := 35) hX 2 rfl dX3_settle_35 ?_
    refine aw_iloadn (pc := 36) hX 3 rfl dX3_settle_36 ?_
    refine aw_callS (pc := 37) (st := [vI x6, vI v2, vR r5]) hX [vR v1, vI v2, vI v3] (con_X3_goTogether _ G _ v1 v2 v3 hy.bd) mc_X3_goTogether ml_X3_38 st_X3_goTogether rfl (rm_of hr (by decide)) (Nat.le_of_ble_eq_true rfl) rfl dX3_settle_37 (kpI rfl rfl (fun x7 hy => ?_))
    refine aw_if_eq (pc := 40) hX 49 (by decide) dX3_settle_40 (fun hc9 => ?_) (fun hc9 => ?_)
    · have hy := hy.t hc9
      refine aw_iconst (pc := 49) hX 0 (by decide) dX3_settle_49 ?_
      exact w_X3_settle_50 hX hN hr _ _ _ hc he0 h v3 r5 v2 x6 0 hy
    · have hy := hy.f hc9
      refine aw_iconst (pc := 43) hX 1 (by decide) dX3_settle_43 ?_
      refine aw_iloadn (pc := 44) hX 3 rfl dX3_settle_44 ?_
      refine aw_ishl (pc := 45) hX dX3_settle_45 ?_
      refine aw_goto (pc := 46) hX 50 (by decide) dX3_settle_46 ?_
      exact w_X3_settle_50 hX hN hr _ _ _ hc he0 h v3 r5 v2 x6 ((1 : Int32) <<< (v3 &&& 31)) hy
theorem wl_X3_settle_19 {G : GE} {X : CX} {l : Launch} (hX : Ok G X cX3_settle RX3) (hN : xn X = 4) {P0 : Mem → Prop} (hr : Rt G X l yX3_settle none rm_X3_settle (pmV P0)) (v0 : Nat) (v1 : Nat) (v2 : Int32) {P : (Mem) → Prop} (he0 : ∀ e, P e → AW G X 58 [(0, vR v0), (1, vR v1), (2, vI v2)] [] e 0 0) : ∀ (n : Nat) (s : Int32 × Mem), OK (iter (fun (s : Int32 × Mem) => b_X3_settle_19 s.2 v0 v1 v2 s.1) n s) P → AW G X 19 [(0, vR v0), (1, vR v1), (2, vI v2), (3, vI s.1)] [] s.2 0 0 := by
  intro n
  induction n with
  | zero => exact fun s hy => hy.it0.elim
  | succ n ih =>
    intro s hy
    exact wb_X3_settle_19 hX hN hr v0 v1 v2 (fun s hs => ih s hs) (fun e hs => he0 e hs) s.2 s.1 hy.it
def b_X3_settle_2 (h : Mem) (v0 : Nat) (v1 : Nat) (v2 : Int32) : Option ((Int32 × Mem) ⊕ Mem) :=
  (gI h v1 1 4).bind fun x1 => (if x1 ≤ v2 then some (.inr h) else (gR h v0 1 2).bind fun r2 => (sI h r2 v2 0).bind fun h3 => (iter (fun (s : Int32 × Mem) => b_X3_settle_19 s.2 v0 v1 v2 s.1) FU (0, h3)).bind (fun q9 => some (.inl ((v2 + 1), q9))))
set_option maxRecDepth 100000 in
set_option maxHeartbeats 4000000 in
theorem wb_X3_settle_2 {G : GE} {X : CX} {l : Launch} (hX : Ok G X cX3_settle RX3) (hN : xn X = 4) {P0 : Mem → Prop} (hr : Rt G X l yX3_settle none rm_X3_settle (pmV P0))  (v0 : Nat) (v1 : Nat) {P : ((Int32 × Mem) ⊕ Mem) → Prop} (hc : ∀ s, P (.inl s) → AW G X 2 [(0, vR v0), (1, vR v1), (2, vI s.1)] [] s.2 0 0) (he0 : ∀ e, P (.inr e) → AW G X 64 [(0, vR v0), (1, vR v1)] [] e 0 0) (h : Mem) (v2 : Int32) (hy : OK (b_X3_settle_2 h v0 v1 v2) P) : AW G X 2 [(0, vR v0), (1, vR v1), (2, vI v2)] [] h 0 0 := by
  unfold b_X3_settle_2 at hy
  refine aw_iloadn (pc := 2) hX 2 rfl dX3_settle_2 ?_
  refine aw_aloadn (pc := 3) hX 1 rfl dX3_settle_3 ?_
  refine aw_gI (pc := 4) hX hy fl_X3_30 (fun _ _ => rfl) dX3_settle_4 (fun x1 hy => ?_)
  refine aw_ic_ge (pc := 7) hX 64 (by decide) dX3_settle_7 (fun hc9 => ?_) (fun hc9 => ?_)
  · have hy := hy.t hc9
    refine AW.sub [0, 1] rfl ?_
    exact he0 h hy.s
  · have hy := hy.f hc9
    refine aw_aloadn (pc := 10) hX 0 rfl dX3_settle_10 ?_
    refine aw_gR (pc := 11) hX hy fl_X3_17 (fun _ _ => rfl) dX3_settle_11 (fun r2 hy => ?_)
    refine aw_iloadn (pc := 14) hX 2 rfl dX3_settle_14 ?_
    refine aw_iconst (pc := 15) hX 0 (by decide) dX3_settle_15 ?_
    refine aw_sI (pc := 16) hX hy dX3_settle_16 (fun h3 hy => ?_)
    refine aw_iconst (pc := 17) hX 0 (by decide) dX3_settle_17 ?_
    refine aw_istoren (pc := 18) hX [(3, vI 0), (0, vR v0), (1, vR v1), (2, vI v2)] rfl (lt_n hN (by decide)) dX3_settle_18 ?_
    refine AW.sub [1, 2, 3, 0] rfl ?_
    refine wl_X3_settle_19 hX hN hr v0 v1 v2 ?_ FU (0, h3) hy.bd
    · intro q9 hy
      refine aw_iinc (pc := 58) hX 1 (by decide) 2 rfl [(2, vI (v2 + 1)), (0, vR v0), (1, vR v1)] rfl (lt_n hN (by decide)) dX3_settle_58 ?_
      refine aw_goto (pc := 61) hX 2 (by decide) dX3_settle_61 ?_
      refine AW.sub [1, 2, 0] rfl ?_
      exact hc ((v2 + 1), q9) hy.s
theorem wl_X3_settle_2 {G : GE} {X : CX} {l : Launch} (hX : Ok G X cX3_settle RX3) (hN : xn X = 4) {P0 : Mem → Prop} (hr : Rt G X l yX3_settle none rm_X3_settle (pmV P0)) (v0 : Nat) (v1 : Nat) {P : (Mem) → Prop} (he0 : ∀ e, P e → AW G X 64 [(0, vR v0), (1, vR v1)] [] e 0 0) : ∀ (n : Nat) (s : Int32 × Mem), OK (iter (fun (s : Int32 × Mem) => b_X3_settle_2 s.2 v0 v1 s.1) n s) P → AW G X 2 [(0, vR v0), (1, vR v1), (2, vI s.1)] [] s.2 0 0 := by
  intro n
  induction n with
  | zero => exact fun s hy => hy.it0.elim
  | succ n ih =>
    intro s hy
    exact wb_X3_settle_2 hX hN hr v0 v1 (fun s hs => ih s hs) (fun e hs => he0 e hs) s.2 s.1 hy.it
def b_X3_settle_73 (h : Mem) (v0 : Nat) (v1 : Nat) (v2 : Int32) : Option ((Int32 × Mem) ⊕ Mem) :=
  (gI h v1 1 4).bind fun x13 => (if ((1 : Int32) <<< (x13 &&& 31)) ≤ v2 then some (.inr h) else (gR h v0 0 2).bind fun r14 => (f_X3_mostOf h v0 v1 v2).bind fun x15 => (sI h r14 v2 x15).bind fun h16 => some (.inl ((v2 + 1), h16)))
set_option maxRecDepth 100000 in
set_option maxHeartbeats 4000000 in
theorem wb_X3_settle_73 {G : GE} {X : CX} {l : Launch} (hX : Ok G X cX3_settle RX3) (hN : xn X = 4) {P0 : Mem → Prop} (hr : Rt G X l yX3_settle none rm_X3_settle (pmV P0))  (v0 : Nat) (v1 : Nat) {P : ((Int32 × Mem) ⊕ Mem) → Prop} (hc : ∀ s, P (.inl s) → AW G X 73 [(0, vR v0), (1, vR v1), (2, vI s.1)] [] s.2 0 0) (he0 : ∀ e, P (.inr e) → AW G X 101 [(0, vR v0), (1, vR v1)] [] e 0 0) (h : Mem) (v2 : Int32) (hy : OK (b_X3_settle_73 h v0 v1 v2) P) : AW G X 73 [(0, vR v0), (1, vR v1), (2, vI v2)] [] h 0 0 := by
  unfold b_X3_settle_73 at hy
  refine aw_iloadn (pc := 73) hX 2 rfl dX3_settle_73 ?_
  refine aw_iconst (pc := 74) hX 1 (by decide) dX3_settle_74 ?_
  refine aw_aloadn (pc := 75) hX 1 rfl dX3_settle_75 ?_
  refine aw_gI (pc := 76) hX hy fl_X3_30 (fun _ _ => rfl) dX3_settle_76 (fun x13 hy => ?_)
  refine aw_ishl (pc := 79) hX dX3_settle_79 ?_
  refine aw_ic_ge (pc := 80) hX 101 (by decide) dX3_settle_80 (fun hc9 => ?_) (fun hc9 => ?_)
  · have hy := hy.t hc9
    refine AW.sub [0, 1] rfl ?_
    exact he0 h hy.s
  · have hy := hy.f hc9
    refine aw_aloadn (pc := 83) hX 0 rfl dX3_settle_83 ?_
    refine aw_gR (pc := 84) hX hy fl_X3_11 (fun _ _ => rfl) dX3_settle_84 (fun r14 hy => ?_)
    refine aw_iloadn (pc := 87) hX 2 rfl dX3_settle_87 ?_
    refine aw_aloadn (pc := 88) hX 0 rfl dX3_settle_88 ?_
    refine aw_aloadn (pc := 89) hX 1 rfl dX3_settle_89 ?_
    refine aw_iloadn (pc := 90) hX 2 rfl dX3_settle_90 ?_
    refine aw_callV (pc := 91) (st := [vI v2, vR r14]) (a := v0) hX [vR v1, vI v2] (con_X3_mostOf _ G _ v0 v1 v2 hy.bd) mc_X3_mostOf ml_X3_42 im_X3_mostOf se_X3_mostOf (by decide) hy.bd.kd rfl (rm_of hr (by decide)) (Nat.le_of_ble_eq_true rfl) rfl dX3_settle_91 (kpI rfl rfl (fun x15 hy => ?_))
    refine aw_sI (pc := 94) hX hy dX3_settle_94 (fun h16 hy => ?_)
    refine aw_iinc (pc := 95) hX 1 (by decide) 2 rfl [(2, vI (v2 + 1)), (0, vR v0), (1, vR v1)] rfl (lt_n hN (by decide)) dX3_settle_95 ?_
    refine aw_goto (pc := 98) hX 73 (by decide) dX3_settle_98 ?_
    refine AW.sub [1, 2, 0] rfl ?_
    exact hc ((v2 + 1), h16) hy.s
theorem wl_X3_settle_73 {G : GE} {X : CX} {l : Launch} (hX : Ok G X cX3_settle RX3) (hN : xn X = 4) {P0 : Mem → Prop} (hr : Rt G X l yX3_settle none rm_X3_settle (pmV P0)) (v0 : Nat) (v1 : Nat) {P : (Mem) → Prop} (he0 : ∀ e, P e → AW G X 101 [(0, vR v0), (1, vR v1)] [] e 0 0) : ∀ (n : Nat) (s : Int32 × Mem), OK (iter (fun (s : Int32 × Mem) => b_X3_settle_73 s.2 v0 v1 s.1) n s) P → AW G X 73 [(0, vR v0), (1, vR v1), (2, vI s.1)] [] s.2 0 0 := by
  intro n
  induction n with
  | zero => exact fun s hy => hy.it0.elim
  | succ n ih =>
    intro s hy
    exact wb_X3_settle_73 hX hN hr v0 v1 (fun s hs => ih s hs) (fun e hs => he0 e hs) s.2 s.1 hy.it
def f_X3_settle (h : Mem) (v0 : Nat) (v1 : Nat) : Option Mem :=
  (ck h v0 2).bind fun _ => (iter (fun (s : Int32 × Mem) => b_X3_settle_2 s.2 v0 v1 s.1) FU (0, h)).bind (fun q10 => (gR q10 v0 0 2).bind fun r11 => (sI q10 r11 0 0).bind fun h12 => (iter (fun (s : Int32 × Mem) => b_X3_settle_73 s.2 v0 v1 s.1) FU (1, h12)).bind (fun q17 => (f_X3_takeFirst q17 v0 v1).bind fun h18 => some h18))
set_option maxRecDepth 100000 in
set_option maxHeartbeats 4000000 in
theorem w_X3_settle {G : GE} {X : CX} {l : Launch} (hX : Ok G X cX3_settle RX3) (hN : xn X = 4) {P : Mem → Prop} (hr : Rt G X l yX3_settle none rm_X3_settle (pmV P)) (h : Mem) (v0 : Nat) (v1 : Nat) (hy : OK (f_X3_settle h v0 v1) P) : AW G X 0 [(0, vR v0), (1, vR v1)] [] h 0 0 := by
  unfold f_X3_settle at hy
  have hkd := hy.kd
  have hy := hy.kb
  refine aw_iconst (pc := 0) hX 0 (by decide) dX3_settle_0 ?_
  refine aw_istoren (pc := 1) hX [(2, vI 0), (0, vR v0), (1, vR v1)] rfl (lt_n hN (by decide)) dX3_settle_1 ?_
  refine AW.sub [1, 2, 0] rfl ?_
  refine wl_X3_settle_2 hX hN hr v0 v1 ?_ FU (0, h) hy.bd
  · intro q10 hy
    refine aw_aloadn (pc := 64) hX 0 rfl dX3_settle_64 ?_
    refine aw_gR (pc := 65) hX hy fl_X3_11 (fun _ _ => rfl) dX3_settle_65 (fun r11 hy => ?_)
    refine aw_iconst (pc := 68) hX 0 (by decide) dX3_settle_68 ?_
    refine aw_iconst (pc := 69) hX 0 (by decide) dX3_settle_69 ?_
    refine aw_sI (pc := 70) hX hy dX3_settle_70 (fun h12 hy => ?_)
    refine aw_iconst (pc := 71) hX 1 (by decide) dX3_settle_71 ?_
    refine aw_istoren (pc := 72) hX [(2, vI 1), (0, vR v0), (1, vR v1)] rfl (lt_n hN (by decide)) dX3_settle_72 ?_
    refine AW.sub [1, 2, 0] rfl ?_
    refine wl_X3_settle_73 hX hN hr v0 v1 ?_ FU (1, h12) hy.bd
    · intro q17 hy
      refine aw_aloadn (pc := 101) hX 0 rfl dX3_settle_101 ?_
      refine aw_aloadn (pc := 102) hX 1 rfl dX3_settle_102 ?_
      refine aw_callV (pc := 103) (st := []) (a := v0) hX [vR v1] (con_X3_takeFirst _ G _ v0 v1 hy.bd) mc_X3_takeFirst ml_X3_46 im_X3_takeFirst se_X3_takeFirst (by decide) hy.bd.kd rfl (rm_of hr (by decide)) (Nat.le_of_ble_eq_true rfl) rfl dX3_settle_103 (kmV rfl rfl (fun h18 hy => ?_))
      exact aw_vret (pc := 106) hX hr (by decide) (by decide) dX3_settle_106 ⟨rfl, hy.s⟩
theorem con_X3_settle (l : Launch) (G : GE) (h : Mem) (v0 : Nat) (v1 : Nat) {P : Mem → Prop} (hy : OK (f_X3_settle h v0 v1) P) : Con l G yX3_settle cX3_settle 4 none rm_X3_settle [vR v0, vR v1] h (pmV P) := Con.of (by decide) (Nat.le_of_ble_eq_true rfl) (fun X hX hr hN => w_X3_settle hX hN hr h v0 v1 hy)
/-! X3_howMany -/
theorem dX3_howMany_0 : decode cX3_howMany 0 = .ok (.aload_n 0, 1) := by decide +kernel
theorem dX3_howMany_1 : decode cX3_howMany 1 = .ok (.getfield 11, 3) := by decide +kernel
theorem dX3_howMany_4 : decode cX3_howMany 4 = .ok (.iconst 1, 1) := by decide +kernel
theorem dX3_howMany_5 : decode cX3_howMany 5 = .ok (.aload_n 1, 1) := by decide +kernel
theorem dX3_howMany_6 : decode cX3_howMany 6 = .ok (.getfield 30, 3) := by decide +kernel
theorem dX3_howMany_9 : decode cX3_howMany 9 = .ok (.ishl, 1) := by decide +kernel
theorem dX3_howMany_10 : decode cX3_howMany 10 = .ok (.iconst 1, 1) := by decide +kernel
theorem dX3_howMany_11 : decode cX3_howMany 11 = .ok (.isub, 1) := by decide +kernel
theorem dX3_howMany_12 : decode cX3_howMany 12 = .ok (.iaload, 1) := by decide +kernel
theorem dX3_howMany_13 : decode cX3_howMany 13 = .ok (.ireturn, 1) := by decide +kernel
abbrev rm_X3_howMany : Room := { frames := 0, cells := 0, slots := 0, locals := 0 }
def f_X3_howMany (h : Mem) (v0 : Nat) (v1 : Nat) : Option Int32 :=
  (ck h v0 2).bind fun _ => (gR h v0 0 2).bind fun r1 => (gI h v1 1 4).bind fun x2 => (aI h r1 (((1 : Int32) <<< (x2 &&& 31)) - 1)).bind fun x3 => some x3
set_option maxRecDepth 100000 in
set_option maxHeartbeats 4000000 in
theorem w_X3_howMany {G : GE} {X : CX} {l : Launch} (hX : Ok G X cX3_howMany RX3) (hN : xn X = 2) (h : Mem) {P : Int32 → Prop} (hr : Rt G X l yX3_howMany (some .int) rm_X3_howMany (ppI h P)) (v0 : Nat) (v1 : Nat) (hy : OK (f_X3_howMany h v0 v1) P) : AW G X 0 [(0, vR v0), (1, vR v1)] [] h 0 0 := by
  unfold f_X3_howMany at hy
  have hkd := hy.kd
  have hy := hy.kb
  refine aw_aloadn (pc := 0) hX 0 rfl dX3_howMany_0 ?_
  refine aw_gR (pc := 1) hX hy fl_X3_11 (fun _ _ => rfl) dX3_howMany_1 (fun r1 hy => ?_)
  refine aw_iconst (pc := 4) hX 1 (by decide) dX3_howMany_4 ?_
  refine aw_aloadn (pc := 5) hX 1 rfl dX3_howMany_5 ?_
  refine aw_gI (pc := 6) hX hy fl_X3_30 (fun _ _ => rfl) dX3_howMany_6 (fun x2 hy => ?_)
  refine aw_ishl (pc := 9) hX dX3_howMany_9 ?_
  refine aw_iconst (pc := 10) hX 1 (by decide) dX3_howMany_10 ?_
  refine aw_isub (pc := 11) hX dX3_howMany_11 ?_
  refine aw_aI (pc := 12) hX hy dX3_howMany_12 (fun x3 hy => ?_)
  exact aw_iret (pc := 13) hX hr (by decide) (by decide) dX3_howMany_13 ⟨rfl, _, rfl, hy.s⟩
theorem con_X3_howMany (l : Launch) (G : GE) (h : Mem) (v0 : Nat) (v1 : Nat) {P : Int32 → Prop} (hy : OK (f_X3_howMany h v0 v1) P) : Con l G yX3_howMany cX3_howMany 2 (some .int) rm_X3_howMany [vR v0, vR v1] h (ppI h P) := Con.of (by decide) (Nat.le_of_ble_eq_true rfl) (fun X hX hr hN => w_X3_howMany hX hN h hr v0 v1 hy)
/-! X5_init -/
theorem dX5_init_0 : decode cX5_init 0 = .ok (.aload_n 0, 1) := by decide +kernel
theorem dX5_init_1 : decode cX5_init 1 = .ok (.invokespecial 3, 3) := by decide +kernel
theorem dX5_init_4 : decode cX5_init 4 = .ok (.aload_n 0, 1) := by decide +kernel
theorem dX5_init_5 : decode cX5_init 5 = .ok (.bipush 6, 2) := by decide +kernel
theorem dX5_init_7 : decode cX5_init 7 = .ok (.newarray .int, 2) := by decide +kernel
theorem dX5_init_9 : decode cX5_init 9 = .ok (.putfield 11, 3) := by decide +kernel
theorem dX5_init_12 : decode cX5_init 12 = .ok (.aload_n 0, 1) := by decide +kernel
theorem dX5_init_13 : decode cX5_init 13 = .ok (.bipush 48, 2) := by decide +kernel
theorem dX5_init_15 : decode cX5_init 15 = .ok (.newarray .int, 2) := by decide +kernel
theorem dX5_init_17 : decode cX5_init 17 = .ok (.putfield 15, 3) := by decide +kernel
theorem dX5_init_20 : decode cX5_init 20 = .ok (.aload_n 0, 1) := by decide +kernel
theorem dX5_init_21 : decode cX5_init 21 = .ok (.bipush 20, 2) := by decide +kernel
theorem dX5_init_23 : decode cX5_init 23 = .ok (.newarray .int, 2) := by decide +kernel
theorem dX5_init_25 : decode cX5_init 25 = .ok (.putfield 18, 3) := by decide +kernel
theorem dX5_init_28 : decode cX5_init 28 = .ok (.aload_n 0, 1) := by decide +kernel
theorem dX5_init_29 : decode cX5_init 29 = .ok (.bipush 10, 2) := by decide +kernel
theorem dX5_init_31 : decode cX5_init 31 = .ok (.newarray .int, 2) := by decide +kernel
theorem dX5_init_33 : decode cX5_init 33 = .ok (.putfield 21, 3) := by decide +kernel
theorem dX5_init_36 : decode cX5_init 36 = .ok (.aload_n 0, 1) := by decide +kernel
theorem dX5_init_37 : decode cX5_init 37 = .ok (.bipush 10, 2) := by decide +kernel
theorem dX5_init_39 : decode cX5_init 39 = .ok (.newarray .int, 2) := by decide +kernel
theorem dX5_init_41 : decode cX5_init 41 = .ok (.putfield 24, 3) := by decide +kernel
theorem dX5_init_44 : decode cX5_init 44 = .ok (.aload_n 0, 1) := by decide +kernel
theorem dX5_init_45 : decode cX5_init 45 = .ok (.bipush 10, 2) := by decide +kernel
theorem dX5_init_47 : decode cX5_init 47 = .ok (.newarray .int, 2) := by decide +kernel
theorem dX5_init_49 : decode cX5_init 49 = .ok (.putfield 27, 3) := by decide +kernel
theorem dX5_init_52 : decode cX5_init 52 = .ok (.aload_n 0, 1) := by decide +kernel
theorem dX5_init_53 : decode cX5_init 53 = .ok (.bipush 49, 2) := by decide +kernel
theorem dX5_init_55 : decode cX5_init 55 = .ok (.newarray .int, 2) := by decide +kernel
theorem dX5_init_57 : decode cX5_init 57 = .ok (.putfield 30, 3) := by decide +kernel
theorem dX5_init_60 : decode cX5_init 60 = .ok (.aload_n 0, 1) := by decide +kernel
theorem dX5_init_61 : decode cX5_init 61 = .ok (.bipush 24, 2) := by decide +kernel
theorem dX5_init_63 : decode cX5_init 63 = .ok (.newarray .int, 2) := by decide +kernel
theorem dX5_init_65 : decode cX5_init 65 = .ok (.putfield 33, 3) := by decide +kernel
theorem dX5_init_68 : decode cX5_init 68 = .ok (.aload_n 0, 1) := by decide +kernel
theorem dX5_init_69 : decode cX5_init 69 = .ok (.iconst 5, 1) := by decide +kernel
theorem dX5_init_70 : decode cX5_init 70 = .ok (.newarray .int, 2) := by decide +kernel
theorem dX5_init_72 : decode cX5_init 72 = .ok (.putfield 36, 3) := by decide +kernel
theorem dX5_init_75 : decode cX5_init 75 = .ok (.aload_n 0, 1) := by decide +kernel
theorem dX5_init_76 : decode cX5_init 76 = .ok (.bipush 20, 2) := by decide +kernel
theorem dX5_init_78 : decode cX5_init 78 = .ok (.newarray .int, 2) := by decide +kernel
theorem dX5_init_80 : decode cX5_init 80 = .ok (.putfield 39, 3) := by decide +kernel
theorem dX5_init_83 : decode cX5_init 83 = .ok (.aload_n 0, 1) := by decide +kernel
theorem dX5_init_84 : decode cX5_init 84 = .ok (.bipush 21, 2) := by decide +kernel
theorem dX5_init_86 : decode cX5_init 86 = .ok (.newarray .int, 2) := by decide +kernel
theorem dX5_init_88 : decode cX5_init 88 = .ok (.putfield 44, 3) := by decide +kernel
theorem dX5_init_91 : decode cX5_init 91 = .ok (.return_, 1) := by decide +kernel
abbrev rm_X5_init : Room := { frames := 1, cells := 11, slots := 223, locals := 20 }
def f_X5_init (h : Mem) (v0 : Nat) : Option Mem :=
  (ck h v0 4).bind fun _ => (pR (mNew h 100 6) v0 9 4 (mN h)).bind fun h1 => (pR (mNew h1 100 48) v0 10 4 (mN h1)).bind fun h2 => (pR (mNew h2 100 20) v0 11 4 (mN h2)).bind fun h3 => (pR (mNew h3 100 10) v0 12 4 (mN h3)).bind fun h4 => (pR (mNew h4 100 10) v0 13 4 (mN h4)).bind fun h5 => (pR (mNew h5 100 10) v0 14 4 (mN h5)).bind fun h6 => (pR (mNew h6 100 49) v0 15 4 (mN h6)).bind fun h7 => (pR (mNew h7 100 24) v0 16 4 (mN h7)).bind fun h8 => (pR (mNew h8 100 5) v0 17 4 (mN h8)).bind fun h9 => (pR (mNew h9 100 20) v0 18 4 (mN h9)).bind fun h10 => (pR (mNew h10 100 21) v0 19 4 (mN h10)).bind fun h11 => some h11
set_option maxRecDepth 100000 in
set_option maxHeartbeats 4000000 in
theorem w_X5_init {G : GE} {X : CX} {l : Launch} (hX : Ok G X cX5_init RX5) (hN : xn X = 1) {P : Mem → Prop} (hr : Rt G X l yX5_init none rm_X5_init (pmV P)) (h : Mem) (v0 : Nat) (hy : OK (f_X5_init h v0) P) : AW G X 0 [(0, vR v0)] [] h 0 0 := by
  unfold f_X5_init at hy
  have hkd := hy.kd
  have hy := hy.kb
  refine aw_aloadn (pc := 0) hX 0 rfl dX5_init_0 ?_
  refine aw_objInit0 (pc := 1) hX hkd oi_X5_3 oi_i oi_c (by decide) (Nat.le_of_ble_eq_true rfl) (le_f hr (by decide)) (le_l hr (by decide)) dX5_init_1 ?_
  refine aw_aloadn (pc := 4) hX 0 rfl dX5_init_4 ?_
  refine aw_bipush (pc := 5) hX 6 (by decide) dX5_init_5 ?_
  refine aw_newi (pc := 7) hX 6 6 (by decide) (by decide) (by decide) ar_int (le_c hr (by decide)) (le_s hr (by decide)) dX5_init_7 ?_
  refine AW.eqa (ce' := 1) (sl' := 6) rfl rfl ?_
  refine aw_pR (pc := 9) hX hy fl_X5_11 rfl (Or.inr ⟨rfl, hr.2.2.2.1, rfl, fw_X5_11⟩) dX5_init_9 (fun h1 hy => ?_)
  refine aw_aloadn (pc := 12) hX 0 rfl dX5_init_12 ?_
  refine aw_bipush (pc := 13) hX 48 (by decide) dX5_init_13 ?_
  refine aw_newi (pc := 15) hX 48 48 (by decide) (by decide) (by decide) ar_int (le_c hr (by decide)) (le_s hr (by decide)) dX5_init_15 ?_
  refine AW.eqa (ce' := 2) (sl' := 54) rfl rfl ?_
  refine aw_pR (pc := 17) hX hy fl_X5_15 rfl (Or.inr ⟨rfl, hr.2.2.2.1, rfl, fw_X5_15⟩) dX5_init_17 (fun h2 hy => ?_)
  refine aw_aloadn (pc := 20) hX 0 rfl dX5_init_20 ?_
  refine aw_bipush (pc := 21) hX 20 (by decide) dX5_init_21 ?_
  refine aw_newi (pc := 23) hX 20 20 (by decide) (by decide) (by decide) ar_int (le_c hr (by decide)) (le_s hr (by decide)) dX5_init_23 ?_
  refine AW.eqa (ce' := 3) (sl' := 74) rfl rfl ?_
  refine aw_pR (pc := 25) hX hy fl_X5_18 rfl (Or.inr ⟨rfl, hr.2.2.2.1, rfl, fw_X5_18⟩) dX5_init_25 (fun h3 hy => ?_)
  refine aw_aloadn (pc := 28) hX 0 rfl dX5_init_28 ?_
  refine aw_bipush (pc := 29) hX 10 (by decide) dX5_init_29 ?_
  refine aw_newi (pc := 31) hX 10 10 (by decide) (by decide) (by decide) ar_int (le_c hr (by decide)) (le_s hr (by decide)) dX5_init_31 ?_
  refine AW.eqa (ce' := 4) (sl' := 84) rfl rfl ?_
  refine aw_pR (pc := 33) hX hy fl_X5_21 rfl (Or.inr ⟨rfl, hr.2.2.2.1, rfl, fw_X5_21⟩) dX5_init_33 (fun h4 hy => ?_)
  refine aw_aloadn (pc := 36) hX 0 rfl dX5_init_36 ?_
  refine aw_bipush (pc := 37) hX 10 (by decide) dX5_init_37 ?_
  refine aw_newi (pc := 39) hX 10 10 (by decide) (by decide) (by decide) ar_int (le_c hr (by decide)) (le_s hr (by decide)) dX5_init_39 ?_
  refine AW.eqa (ce' := 5) (sl' := 94) rfl rfl ?_
  refine aw_pR (pc := 41) hX hy fl_X5_24 rfl (Or.inr ⟨rfl, hr.2.2.2.1, rfl, fw_X5_24⟩) dX5_init_41 (fun h5 hy => ?_)
  refine aw_aloadn (pc := 44) hX 0 rfl dX5_init_44 ?_
  refine aw_bipush (pc := 45) hX 10 (by decide) dX5_init_45 ?_
  refine aw_newi (pc := 47) hX 10 10 (by decide) (by decide) (by decide) ar_int (le_c hr (by decide)) (le_s hr (by decide)) dX5_init_47 ?_
  refine AW.eqa (ce' := 6) (sl' := 104) rfl rfl ?_
  refine aw_pR (pc := 49) hX hy fl_X5_27 rfl (Or.inr ⟨rfl, hr.2.2.2.1, rfl, fw_X5_27⟩) dX5_init_49 (fun h6 hy => ?_)
  refine aw_aloadn (pc := 52) hX 0 rfl dX5_init_52 ?_
  refine aw_bipush (pc := 53) hX 49 (by decide) dX5_init_53 ?_
  refine aw_newi (pc := 55) hX 49 49 (by decide) (by decide) (by decide) ar_int (le_c hr (by decide)) (le_s hr (by decide)) dX5_init_55 ?_
  refine AW.eqa (ce' := 7) (sl' := 153) rfl rfl ?_
  refine aw_pR (pc := 57) hX hy fl_X5_30 rfl (Or.inr ⟨rfl, hr.2.2.2.1, rfl, fw_X5_30⟩) dX5_init_57 (fun h7 hy => ?_)
  refine aw_aloadn (pc := 60) hX 0 rfl dX5_init_60 ?_
  refine aw_bipush (pc := 61) hX 24 (by decide) dX5_init_61 ?_
  refine aw_newi (pc := 63) hX 24 24 (by decide) (by decide) (by decide) ar_int (le_c hr (by decide)) (le_s hr (by decide)) dX5_init_63 ?_
  refine AW.eqa (ce' := 8) (sl' := 177) rfl rfl ?_
  refine aw_pR (pc := 65) hX hy fl_X5_33 rfl (Or.inr ⟨rfl, hr.2.2.2.1, rfl, fw_X5_33⟩) dX5_init_65 (fun h8 hy => ?_)
  refine aw_aloadn (pc := 68) hX 0 rfl dX5_init_68 ?_
  refine aw_iconst (pc := 69) hX 5 (by decide) dX5_init_69 ?_
  refine aw_newi (pc := 70) hX 5 5 (by decide) (by decide) (by decide) ar_int (le_c hr (by decide)) (le_s hr (by decide)) dX5_init_70 ?_
  refine AW.eqa (ce' := 9) (sl' := 182) rfl rfl ?_
  refine aw_pR (pc := 72) hX hy fl_X5_36 rfl (Or.inr ⟨rfl, hr.2.2.2.1, rfl, fw_X5_36⟩) dX5_init_72 (fun h9 hy => ?_)
  refine aw_aloadn (pc := 75) hX 0 rfl dX5_init_75 ?_
  refine aw_bipush (pc := 76) hX 20 (by decide) dX5_init_76 ?_
  refine aw_newi (pc := 78) hX 20 20 (by decide) (by decide) (by decide) ar_int (le_c hr (by decide)) (le_s hr (by decide)) dX5_init_78 ?_
  refine AW.eqa (ce' := 10) (sl' := 202) rfl rfl ?_
  refine aw_pR (pc := 80) hX hy fl_X5_39 rfl (Or.inr ⟨rfl, hr.2.2.2.1, rfl, fw_X5_39⟩) dX5_init_80 (fun h10 hy => ?_)
  refine aw_aloadn (pc := 83) hX 0 rfl dX5_init_83 ?_
  refine aw_bipush (pc := 84) hX 21 (by decide) dX5_init_84 ?_
  refine aw_newi (pc := 86) hX 21 21 (by decide) (by decide) (by decide) ar_int (le_c hr (by decide)) (le_s hr (by decide)) dX5_init_86 ?_
  refine AW.eqa (ce' := 11) (sl' := 223) rfl rfl ?_
  refine aw_pR (pc := 88) hX hy fl_X5_44 rfl (Or.inr ⟨rfl, hr.2.2.2.1, rfl, fw_X5_44⟩) dX5_init_88 (fun h11 hy => ?_)
  exact aw_vret (pc := 91) hX hr (by decide) (by decide) dX5_init_91 ⟨rfl, hy.s⟩
theorem con_X5_init (l : Launch) (G : GE) (h : Mem) (v0 : Nat) {P : Mem → Prop} (hy : OK (f_X5_init h v0) P) : Con l G yX5_init cX5_init 1 none rm_X5_init [vR v0] h (pmV P) := Con.of (by decide) (Nat.le_of_ble_eq_true rfl) (fun X hX hr hN => w_X5_init hX hN hr h v0 hy)
/-! X4_asNumber -/
theorem dX4_asNumber_0 : decode cX4_asNumber 0 = .ok (.lconst 0, 1) := by decide +kernel
theorem dX4_asNumber_1 : decode cX4_asNumber 1 = .ok (.lstore_n 1, 1) := by decide +kernel
theorem dX4_asNumber_2 : decode cX4_asNumber 2 = .ok (.iconst 0, 1) := by decide +kernel
theorem dX4_asNumber_3 : decode cX4_asNumber 3 = .ok (.istore_n 3, 1) := by decide +kernel
theorem dX4_asNumber_4 : decode cX4_asNumber 4 = .ok (.iload_n 3, 1) := by decide +kernel
theorem dX4_asNumber_5 : decode cX4_asNumber 5 = .ok (.aload_n 0, 1) := by decide +kernel
theorem dX4_asNumber_6 : decode cX4_asNumber 6 = .ok (.invokevirtual 257, 3) := by decide +kernel
theorem dX4_asNumber_9 : decode cX4_asNumber 9 = .ok (.if_icmp .ge 27, 3) := by decide +kernel
theorem dX4_asNumber_12 : decode cX4_asNumber 12 = .ok (.lload_n 1, 1) := by decide +kernel
theorem dX4_asNumber_13 : decode cX4_asNumber 13 = .ok (.ldc2_w 255, 3) := by decide +kernel
theorem dX4_asNumber_16 : decode cX4_asNumber 16 = .ok (.lmul, 1) := by decide +kernel
theorem dX4_asNumber_17 : decode cX4_asNumber 17 = .ok (.aload_n 0, 1) := by decide +kernel
theorem dX4_asNumber_18 : decode cX4_asNumber 18 = .ok (.iload_n 3, 1) := by decide +kernel
theorem dX4_asNumber_19 : decode cX4_asNumber 19 = .ok (.invokevirtual 263, 3) := by decide +kernel
theorem dX4_asNumber_22 : decode cX4_asNumber 22 = .ok (.bipush 97, 2) := by decide +kernel
theorem dX4_asNumber_24 : decode cX4_asNumber 24 = .ok (.isub, 1) := by decide +kernel
theorem dX4_asNumber_25 : decode cX4_asNumber 25 = .ok (.iconst 1, 1) := by decide +kernel
theorem dX4_asNumber_26 : decode cX4_asNumber 26 = .ok (.iadd, 1) := by decide +kernel
theorem dX4_asNumber_27 : decode cX4_asNumber 27 = .ok (.i2l, 1) := by decide +kernel
theorem dX4_asNumber_28 : decode cX4_asNumber 28 = .ok (.ladd, 1) := by decide +kernel
theorem dX4_asNumber_29 : decode cX4_asNumber 29 = .ok (.lstore_n 1, 1) := by decide +kernel
theorem dX4_asNumber_30 : decode cX4_asNumber 30 = .ok (.iinc 3 1, 3) := by decide +kernel
theorem dX4_asNumber_33 : decode cX4_asNumber 33 = .ok (.goto (-29), 3) := by decide +kernel
theorem dX4_asNumber_36 : decode cX4_asNumber 36 = .ok (.lload_n 1, 1) := by decide +kernel
theorem dX4_asNumber_37 : decode cX4_asNumber 37 = .ok (.lreturn, 1) := by decide +kernel
abbrev rm_X4_asNumber : Room := { frames := 4, cells := 0, slots := 0, locals := 111 }
def b_X4_asNumber_4 (h : Mem) (v0 : Nat) (v1 : Int64) (v3 : Int32) : Option ((Int64 × Int32) ⊕ Int64) :=
  (xLen v0).bind fun x1 => (if x1 ≤ v3 then some (.inr v1) else (xChr v0 v3).bind fun x2 => some (.inl (((v1 * 32) + ((((x2 - 97) + 1) : Int32).toInt64)), (v3 + 1))))
set_option maxRecDepth 100000 in
set_option maxHeartbeats 4000000 in
theorem wb_X4_asNumber_4 {G : GE} {X : CX} {l : Launch} (hX : Ok G X cX4_asNumber RX4) (hN : xn X = 4) (h : Mem) {P0 : Int64 → Prop} (hr : Rt G X l yX4_asNumber (some .long) rm_X4_asNumber (ppL h P0))  (v0 : Nat) {P : ((Int64 × Int32) ⊕ Int64) → Prop} (hc : ∀ s, P (.inl s) → AW G X 4 [(0, vX v0), (1, vL s.1), (3, vI s.2)] [] h 0 0) (he0 : ∀ e, P (.inr e) → AW G X 36 [(1, vL e)] [] h 0 0) (v1 : Int64) (v3 : Int32) (hy : OK (b_X4_asNumber_4 h v0 v1 v3) P) : AW G X 4 [(0, vX v0), (1, vL v1), (3, vI v3)] [] h 0 0 := by
  unfold b_X4_asNumber_4 at hy
  refine aw_iloadn (pc := 4) hX 2 rfl dX4_asNumber_4 ?_
  refine aw_xloadn (pc := 5) hX 0 rfl dX4_asNumber_5 ?_
  refine aw_callXL (pc := 6) hX hy ml_X4_257 (rm_of hr (by decide)) (Nat.le_of_ble_eq_true rfl) dX4_asNumber_6 (fun x1 hy => ?_)
  refine aw_ic_ge (pc := 9) hX 36 (by decide) dX4_asNumber_9 (fun hc9 => ?_) (fun hc9 => ?_)
  · have hy := hy.t hc9
    refine AW.sub [1] rfl ?_
    exact he0 v1 hy.s
  · have hy := hy.f hc9
    refine aw_lloadn (pc := 12) hX 1 rfl dX4_asNumber_12 ?_
    refine aw_ldc2 (pc := 13) hX kc_X4_255 dX4_asNumber_13 ?_
    refine aw_lmul (pc := 16) hX dX4_asNumber_16 ?_
    refine aw_xloadn (pc := 17) hX 0 rfl dX4_asNumber_17 ?_
    refine aw_iloadn (pc := 18) hX 2 rfl dX4_asNumber_18 ?_
    refine aw_callXC (pc := 19) hX hy ml_X4_263 (rm_of hr (by decide)) (Nat.le_of_ble_eq_true rfl) dX4_asNumber_19 (fun x2 hy => ?_)
    refine aw_bipush (pc := 22) hX 97 (by decide) dX4_asNumber_22 ?_
    refine aw_isub (pc := 24) hX dX4_asNumber_24 ?_
    refine aw_iconst (pc := 25) hX 1 (by decide) dX4_asNumber_25 ?_
    refine aw_iadd (pc := 26) hX dX4_asNumber_26 ?_
    refine aw_i2l (pc := 27) hX dX4_asNumber_27 ?_
    refine aw_ladd (pc := 28) hX dX4_asNumber_28 ?_
    refine aw_lstoren (pc := 29) hX [(1, vL ((v1 * 32) + ((((x2 - 97) + 1) : Int32).toInt64))), (0, vX v0), (3, vI v3)] rfl (lt_n hN (by decide)) dX4_asNumber_29 ?_
    refine aw_iinc (pc := 30) hX 1 (by decide) 2 rfl [(3, vI (v3 + 1)), (1, vL ((v1 * 32) + ((((x2 - 97) + 1) : Int32).toInt64))), (0, vX v0)] rfl (lt_n hN (by decide)) dX4_asNumber_30 ?_
    refine aw_goto (pc := 33) hX 4 (by decide) dX4_asNumber_33 ?_
    refine AW.sub [2, 1, 0] rfl ?_
    exact hc (((v1 * 32) + ((((x2 - 97) + 1) : Int32).toInt64)), (v3 + 1)) hy.s
theorem wl_X4_asNumber_4 {G : GE} {X : CX} {l : Launch} (hX : Ok G X cX4_asNumber RX4) (hN : xn X = 4) (h : Mem) {P0 : Int64 → Prop} (hr : Rt G X l yX4_asNumber (some .long) rm_X4_asNumber (ppL h P0)) (v0 : Nat) {P : (Int64) → Prop} (he0 : ∀ e, P e → AW G X 36 [(1, vL e)] [] h 0 0) : ∀ (n : Nat) (s : Int64 × Int32), OK (iter (fun (s : Int64 × Int32) => b_X4_asNumber_4 h v0 s.1 s.2) n s) P → AW G X 4 [(0, vX v0), (1, vL s.1), (3, vI s.2)] [] h 0 0 := by
  intro n
  induction n with
  | zero => exact fun s hy => hy.it0.elim
  | succ n ih =>
    intro s hy
    exact wb_X4_asNumber_4 hX hN h hr v0 (fun s hs => ih s hs) (fun e hs => he0 e hs) s.1 s.2 hy.it
def f_X4_asNumber (h : Mem) (v0 : Nat) : Option Int64 :=
  (iter (fun (s : Int64 × Int32) => b_X4_asNumber_4 h v0 s.1 s.2) FU (0, 0)).bind (fun q3 => some q3)
set_option maxRecDepth 100000 in
set_option maxHeartbeats 4000000 in
theorem w_X4_asNumber {G : GE} {X : CX} {l : Launch} (hX : Ok G X cX4_asNumber RX4) (hN : xn X = 4) (h : Mem) {P : Int64 → Prop} (hr : Rt G X l yX4_asNumber (some .long) rm_X4_asNumber (ppL h P)) (v0 : Nat) (hy : OK (f_X4_asNumber h v0) P) : AW G X 0 [(0, vX v0)] [] h 0 0 := by
  unfold f_X4_asNumber at hy
  refine aw_lconst (pc := 0) hX 0 (by decide) dX4_asNumber_0 ?_
  refine aw_lstoren (pc := 1) hX [(1, vL 0), (0, vX v0)] rfl (lt_n hN (by decide)) dX4_asNumber_1 ?_
  refine aw_iconst (pc := 2) hX 0 (by decide) dX4_asNumber_2 ?_
  refine aw_istoren (pc := 3) hX [(3, vI 0), (1, vL 0), (0, vX v0)] rfl (lt_n hN (by decide)) dX4_asNumber_3 ?_
  refine AW.sub [2, 1, 0] rfl ?_
  refine wl_X4_asNumber_4 hX hN _ hr v0 ?_ FU (0, 0) hy.bd
  · intro q3 hy
    refine aw_lloadn (pc := 36) hX 0 rfl dX4_asNumber_36 ?_
    exact aw_lret (pc := 37) hX hr (by decide) (by decide) dX4_asNumber_37 ⟨rfl, _, rfl, hy.s⟩
theorem con_X4_asNumber (l : Launch) (G : GE) (h : Mem) (v0 : Nat) {P : Int64 → Prop} (hy : OK (f_X4_asNumber h v0) P) : Con l G yX4_asNumber cX4_asNumber 4 (some .long) rm_X4_asNumber [vX v0] h (ppL h P) := Con.of (by decide) (Nat.le_of_ble_eq_true rfl) (fun X hX hr hN => w_X4_asNumber hX hN h hr v0 hy)
/-! X4_init -/
theorem dX4_init_0 : decode cX4_init 0 = .ok (.aload_n 0, 1) := by decide +kernel
theorem dX4_init_1 : decode cX4_init 1 = .ok (.invokespecial 5, 3) := by decide +kernel
theorem dX4_init_4 : decode cX4_init 4 = .ok (.aload_n 0, 1) := by decide +kernel
theorem dX4_init_5 : decode cX4_init 5 = .ok (.sipush 1000, 3) := by decide +kernel
theorem dX4_init_8 : decode cX4_init 8 = .ok (.newarray .int, 2) := by decide +kernel
theorem dX4_init_10 : decode cX4_init 10 = .ok (.putfield 13, 3) := by decide +kernel
theorem dX4_init_13 : decode cX4_init 13 = .ok (.aload_n 0, 1) := by decide +kernel
theorem dX4_init_14 : decode cX4_init 14 = .ok (.bipush 20, 2) := by decide +kernel
theorem dX4_init_16 : decode cX4_init 16 = .ok (.newarray .long, 2) := by decide +kernel
theorem dX4_init_18 : decode cX4_init 18 = .ok (.putfield 17, 3) := by decide +kernel
theorem dX4_init_21 : decode cX4_init 21 = .ok (.aload_n 0, 1) := by decide +kernel
theorem dX4_init_22 : decode cX4_init 22 = .ok (.bipush 17, 2) := by decide +kernel
theorem dX4_init_24 : decode cX4_init 24 = .ok (.newarray .long, 2) := by decide +kernel
theorem dX4_init_26 : decode cX4_init 26 = .ok (.putfield 21, 3) := by decide +kernel
theorem dX4_init_29 : decode cX4_init 29 = .ok (.aload_n 0, 1) := by decide +kernel
theorem dX4_init_30 : decode cX4_init 30 = .ok (.bipush 17, 2) := by decide +kernel
theorem dX4_init_32 : decode cX4_init 32 = .ok (.newarray .int, 2) := by decide +kernel
theorem dX4_init_34 : decode cX4_init 34 = .ok (.putfield 24, 3) := by decide +kernel
theorem dX4_init_37 : decode cX4_init 37 = .ok (.aload_n 0, 1) := by decide +kernel
theorem dX4_init_38 : decode cX4_init 38 = .ok (.bipush 17, 2) := by decide +kernel
theorem dX4_init_40 : decode cX4_init 40 = .ok (.newarray .int, 2) := by decide +kernel
theorem dX4_init_42 : decode cX4_init 42 = .ok (.putfield 27, 3) := by decide +kernel
theorem dX4_init_45 : decode cX4_init 45 = .ok (.aload_n 0, 1) := by decide +kernel
theorem dX4_init_46 : decode cX4_init 46 = .ok (.bipush 9, 2) := by decide +kernel
theorem dX4_init_48 : decode cX4_init 48 = .ok (.newarray .int, 2) := by decide +kernel
theorem dX4_init_50 : decode cX4_init 50 = .ok (.putfield 30, 3) := by decide +kernel
theorem dX4_init_53 : decode cX4_init 53 = .ok (.aload_n 0, 1) := by decide +kernel
theorem dX4_init_54 : decode cX4_init 54 = .ok (.new 1, 3) := by decide +kernel
theorem dX4_init_57 : decode cX4_init 57 = .ok (.dup, 1) := by decide +kernel
theorem dX4_init_58 : decode cX4_init 58 = .ok (.invokespecial 33, 3) := by decide +kernel
theorem dX4_init_61 : decode cX4_init 61 = .ok (.putfield 34, 3) := by decide +kernel
theorem dX4_init_64 : decode cX4_init 64 = .ok (.aload_n 0, 1) := by decide +kernel
theorem dX4_init_65 : decode cX4_init 65 = .ok (.iconst (-1), 1) := by decide +kernel
theorem dX4_init_66 : decode cX4_init 66 = .ok (.putfield 38, 3) := by decide +kernel
theorem dX4_init_69 : decode cX4_init 69 = .ok (.aload_n 0, 1) := by decide +kernel
theorem dX4_init_70 : decode cX4_init 70 = .ok (.getfield 17, 3) := by decide +kernel
theorem dX4_init_73 : decode cX4_init 73 = .ok (.iconst 0, 1) := by decide +kernel
theorem dX4_init_74 : decode cX4_init 74 = .ok (.ldc 42, 2) := by decide +kernel
theorem dX4_init_76 : decode cX4_init 76 = .ok (.invokestatic 44, 3) := by decide +kernel
theorem dX4_init_79 : decode cX4_init 79 = .ok (.lastore, 1) := by decide +kernel
theorem dX4_init_80 : decode cX4_init 80 = .ok (.aload_n 0, 1) := by decide +kernel
theorem dX4_init_81 : decode cX4_init 81 = .ok (.getfield 17, 3) := by decide +kernel
theorem dX4_init_84 : decode cX4_init 84 = .ok (.iconst 1, 1) := by decide +kernel
theorem dX4_init_85 : decode cX4_init 85 = .ok (.ldc 48, 2) := by decide +kernel
theorem dX4_init_87 : decode cX4_init 87 = .ok (.invokestatic 44, 3) := by decide +kernel
theorem dX4_init_90 : decode cX4_init 90 = .ok (.lastore, 1) := by decide +kernel
theorem dX4_init_91 : decode cX4_init 91 = .ok (.aload_n 0, 1) := by decide +kernel
theorem dX4_init_92 : decode cX4_init 92 = .ok (.getfield 17, 3) := by decide +kernel
theorem dX4_init_95 : decode cX4_init 95 = .ok (.iconst 2, 1) := by decide +kernel
theorem dX4_init_96 : decode cX4_init 96 = .ok (.ldc 50, 2) := by decide +kernel
theorem dX4_init_98 : decode cX4_init 98 = .ok (.invokestatic 44, 3) := by decide +kernel
theorem dX4_init_101 : decode cX4_init 101 = .ok (.lastore, 1) := by decide +kernel
theorem dX4_init_102 : decode cX4_init 102 = .ok (.aload_n 0, 1) := by decide +kernel
theorem dX4_init_103 : decode cX4_init 103 = .ok (.getfield 17, 3) := by decide +kernel
theorem dX4_init_106 : decode cX4_init 106 = .ok (.iconst 3, 1) := by decide +kernel
theorem dX4_init_107 : decode cX4_init 107 = .ok (.ldc 52, 2) := by decide +kernel
theorem dX4_init_109 : decode cX4_init 109 = .ok (.invokestatic 44, 3) := by decide +kernel
theorem dX4_init_112 : decode cX4_init 112 = .ok (.lastore, 1) := by decide +kernel
theorem dX4_init_113 : decode cX4_init 113 = .ok (.aload_n 0, 1) := by decide +kernel
theorem dX4_init_114 : decode cX4_init 114 = .ok (.getfield 17, 3) := by decide +kernel
theorem dX4_init_117 : decode cX4_init 117 = .ok (.iconst 4, 1) := by decide +kernel
theorem dX4_init_118 : decode cX4_init 118 = .ok (.ldc 53, 2) := by decide +kernel
theorem dX4_init_120 : decode cX4_init 120 = .ok (.invokestatic 44, 3) := by decide +kernel
theorem dX4_init_123 : decode cX4_init 123 = .ok (.lastore, 1) := by decide +kernel
theorem dX4_init_124 : decode cX4_init 124 = .ok (.aload_n 0, 1) := by decide +kernel
theorem dX4_init_125 : decode cX4_init 125 = .ok (.getfield 17, 3) := by decide +kernel
theorem dX4_init_128 : decode cX4_init 128 = .ok (.iconst 5, 1) := by decide +kernel
theorem dX4_init_129 : decode cX4_init 129 = .ok (.ldc 55, 2) := by decide +kernel
theorem dX4_init_131 : decode cX4_init 131 = .ok (.invokestatic 44, 3) := by decide +kernel
theorem dX4_init_134 : decode cX4_init 134 = .ok (.lastore, 1) := by decide +kernel
theorem dX4_init_135 : decode cX4_init 135 = .ok (.aload_n 0, 1) := by decide +kernel
theorem dX4_init_136 : decode cX4_init 136 = .ok (.getfield 17, 3) := by decide +kernel
theorem dX4_init_139 : decode cX4_init 139 = .ok (.bipush 6, 2) := by decide +kernel
theorem dX4_init_141 : decode cX4_init 141 = .ok (.ldc 57, 2) := by decide +kernel
theorem dX4_init_143 : decode cX4_init 143 = .ok (.invokestatic 44, 3) := by decide +kernel
theorem dX4_init_146 : decode cX4_init 146 = .ok (.lastore, 1) := by decide +kernel
theorem dX4_init_147 : decode cX4_init 147 = .ok (.aload_n 0, 1) := by decide +kernel
theorem dX4_init_148 : decode cX4_init 148 = .ok (.getfield 17, 3) := by decide +kernel
theorem dX4_init_151 : decode cX4_init 151 = .ok (.bipush 7, 2) := by decide +kernel
theorem dX4_init_153 : decode cX4_init 153 = .ok (.ldc 59, 2) := by decide +kernel
theorem dX4_init_155 : decode cX4_init 155 = .ok (.invokestatic 44, 3) := by decide +kernel
theorem dX4_init_158 : decode cX4_init 158 = .ok (.lastore, 1) := by decide +kernel
theorem dX4_init_159 : decode cX4_init 159 = .ok (.aload_n 0, 1) := by decide +kernel
theorem dX4_init_160 : decode cX4_init 160 = .ok (.getfield 17, 3) := by decide +kernel
theorem dX4_init_163 : decode cX4_init 163 = .ok (.bipush 8, 2) := by decide +kernel
theorem dX4_init_165 : decode cX4_init 165 = .ok (.ldc 61, 2) := by decide +kernel
theorem dX4_init_167 : decode cX4_init 167 = .ok (.invokestatic 44, 3) := by decide +kernel
theorem dX4_init_170 : decode cX4_init 170 = .ok (.lastore, 1) := by decide +kernel
theorem dX4_init_171 : decode cX4_init 171 = .ok (.aload_n 0, 1) := by decide +kernel
theorem dX4_init_172 : decode cX4_init 172 = .ok (.getfield 17, 3) := by decide +kernel
theorem dX4_init_175 : decode cX4_init 175 = .ok (.bipush 9, 2) := by decide +kernel
theorem dX4_init_177 : decode cX4_init 177 = .ok (.ldc 63, 2) := by decide +kernel
theorem dX4_init_179 : decode cX4_init 179 = .ok (.invokestatic 44, 3) := by decide +kernel
theorem dX4_init_182 : decode cX4_init 182 = .ok (.lastore, 1) := by decide +kernel
theorem dX4_init_183 : decode cX4_init 183 = .ok (.aload_n 0, 1) := by decide +kernel
theorem dX4_init_184 : decode cX4_init 184 = .ok (.getfield 17, 3) := by decide +kernel
theorem dX4_init_187 : decode cX4_init 187 = .ok (.bipush 10, 2) := by decide +kernel
theorem dX4_init_189 : decode cX4_init 189 = .ok (.ldc 65, 2) := by decide +kernel
theorem dX4_init_191 : decode cX4_init 191 = .ok (.invokestatic 44, 3) := by decide +kernel
theorem dX4_init_194 : decode cX4_init 194 = .ok (.lastore, 1) := by decide +kernel
theorem dX4_init_195 : decode cX4_init 195 = .ok (.aload_n 0, 1) := by decide +kernel
theorem dX4_init_196 : decode cX4_init 196 = .ok (.getfield 17, 3) := by decide +kernel
theorem dX4_init_199 : decode cX4_init 199 = .ok (.bipush 11, 2) := by decide +kernel
theorem dX4_init_201 : decode cX4_init 201 = .ok (.ldc 67, 2) := by decide +kernel
theorem dX4_init_203 : decode cX4_init 203 = .ok (.invokestatic 44, 3) := by decide +kernel
theorem dX4_init_206 : decode cX4_init 206 = .ok (.lastore, 1) := by decide +kernel
theorem dX4_init_207 : decode cX4_init 207 = .ok (.aload_n 0, 1) := by decide +kernel
theorem dX4_init_208 : decode cX4_init 208 = .ok (.getfield 17, 3) := by decide +kernel
theorem dX4_init_211 : decode cX4_init 211 = .ok (.bipush 12, 2) := by decide +kernel
theorem dX4_init_213 : decode cX4_init 213 = .ok (.ldc 69, 2) := by decide +kernel
theorem dX4_init_215 : decode cX4_init 215 = .ok (.invokestatic 44, 3) := by decide +kernel
theorem dX4_init_218 : decode cX4_init 218 = .ok (.lastore, 1) := by decide +kernel
theorem dX4_init_219 : decode cX4_init 219 = .ok (.aload_n 0, 1) := by decide +kernel
theorem dX4_init_220 : decode cX4_init 220 = .ok (.getfield 17, 3) := by decide +kernel
theorem dX4_init_223 : decode cX4_init 223 = .ok (.bipush 13, 2) := by decide +kernel
theorem dX4_init_225 : decode cX4_init 225 = .ok (.ldc 71, 2) := by decide +kernel
theorem dX4_init_227 : decode cX4_init 227 = .ok (.invokestatic 44, 3) := by decide +kernel
theorem dX4_init_230 : decode cX4_init 230 = .ok (.lastore, 1) := by decide +kernel
theorem dX4_init_231 : decode cX4_init 231 = .ok (.aload_n 0, 1) := by decide +kernel
theorem dX4_init_232 : decode cX4_init 232 = .ok (.getfield 17, 3) := by decide +kernel
theorem dX4_init_235 : decode cX4_init 235 = .ok (.bipush 14, 2) := by decide +kernel
theorem dX4_init_237 : decode cX4_init 237 = .ok (.ldc 73, 2) := by decide +kernel
theorem dX4_init_239 : decode cX4_init 239 = .ok (.invokestatic 44, 3) := by decide +kernel
theorem dX4_init_242 : decode cX4_init 242 = .ok (.lastore, 1) := by decide +kernel
theorem dX4_init_243 : decode cX4_init 243 = .ok (.aload_n 0, 1) := by decide +kernel
theorem dX4_init_244 : decode cX4_init 244 = .ok (.getfield 17, 3) := by decide +kernel
theorem dX4_init_247 : decode cX4_init 247 = .ok (.bipush 15, 2) := by decide +kernel
theorem dX4_init_249 : decode cX4_init 249 = .ok (.ldc 75, 2) := by decide +kernel
theorem dX4_init_251 : decode cX4_init 251 = .ok (.invokestatic 44, 3) := by decide +kernel
theorem dX4_init_254 : decode cX4_init 254 = .ok (.lastore, 1) := by decide +kernel
theorem dX4_init_255 : decode cX4_init 255 = .ok (.aload_n 0, 1) := by decide +kernel
theorem dX4_init_256 : decode cX4_init 256 = .ok (.getfield 17, 3) := by decide +kernel
theorem dX4_init_259 : decode cX4_init 259 = .ok (.bipush 16, 2) := by decide +kernel
theorem dX4_init_261 : decode cX4_init 261 = .ok (.ldc 77, 2) := by decide +kernel
theorem dX4_init_263 : decode cX4_init 263 = .ok (.invokestatic 44, 3) := by decide +kernel
theorem dX4_init_266 : decode cX4_init 266 = .ok (.lastore, 1) := by decide +kernel
theorem dX4_init_267 : decode cX4_init 267 = .ok (.aload_n 0, 1) := by decide +kernel
theorem dX4_init_268 : decode cX4_init 268 = .ok (.getfield 17, 3) := by decide +kernel
theorem dX4_init_271 : decode cX4_init 271 = .ok (.bipush 17, 2) := by decide +kernel
theorem dX4_init_273 : decode cX4_init 273 = .ok (.ldc 79, 2) := by decide +kernel
theorem dX4_init_275 : decode cX4_init 275 = .ok (.invokestatic 44, 3) := by decide +kernel
theorem dX4_init_278 : decode cX4_init 278 = .ok (.lastore, 1) := by decide +kernel
theorem dX4_init_279 : decode cX4_init 279 = .ok (.aload_n 0, 1) := by decide +kernel
theorem dX4_init_280 : decode cX4_init 280 = .ok (.getfield 17, 3) := by decide +kernel
theorem dX4_init_283 : decode cX4_init 283 = .ok (.bipush 18, 2) := by decide +kernel
theorem dX4_init_285 : decode cX4_init 285 = .ok (.ldc 81, 2) := by decide +kernel
theorem dX4_init_287 : decode cX4_init 287 = .ok (.invokestatic 44, 3) := by decide +kernel
theorem dX4_init_290 : decode cX4_init 290 = .ok (.lastore, 1) := by decide +kernel
theorem dX4_init_291 : decode cX4_init 291 = .ok (.aload_n 0, 1) := by decide +kernel
theorem dX4_init_292 : decode cX4_init 292 = .ok (.getfield 17, 3) := by decide +kernel
theorem dX4_init_295 : decode cX4_init 295 = .ok (.bipush 19, 2) := by decide +kernel
theorem dX4_init_297 : decode cX4_init 297 = .ok (.ldc 83, 2) := by decide +kernel
theorem dX4_init_299 : decode cX4_init 299 = .ok (.invokestatic 44, 3) := by decide +kernel
theorem dX4_init_302 : decode cX4_init 302 = .ok (.lastore, 1) := by decide +kernel
theorem dX4_init_303 : decode cX4_init 303 = .ok (.return_, 1) := by decide +kernel
abbrev rm_X4_init : Room := { frames := 5, cells := 18, slots := 1323, locals := 134 }
def f_X4_init (h : Mem) (v0 : Nat) : Option Mem :=
  (ck h v0 3).bind fun _ => (pR (mNew h 100 1000) v0 0 3 (mN h)).bind fun h1 => (pR (mNew h1 101 20) v0 1 3 (mN h1)).bind fun h2 => (pR (mNew h2 101 17) v0 2 3 (mN h2)).bind fun h3 => (pR (mNew h3 100 17) v0 3 3 (mN h3)).bind fun h4 => (pR (mNew h4 100 17) v0 4 3 (mN h4)).bind fun h5 => (pR (mNew h5 100 9) v0 5 3 (mN h5)).bind fun h6 => (f_X5_init (mNew h6 4 0) (mN h6)).bind fun h8 => (pR h8 v0 6 3 (mN h6)).bind fun h9 => (pI h9 v0 17 3 (-1)).bind fun h10 => (gR h10 v0 1 3).bind fun r11 => (f_X4_asNumber h10 0).bind fun x12 => (sL h10 r11 0 x12).bind fun h13 => (gR h13 v0 1 3).bind fun r14 => (f_X4_asNumber h13 1).bind fun x15 => (sL h13 r14 1 x15).bind fun h16 => (gR h16 v0 1 3).bind fun r17 => (f_X4_asNumber h16 2).bind fun x18 => (sL h16 r17 2 x18).bind fun h19 => (gR h19 v0 1 3).bind fun r20 => (f_X4_asNumber h19 3).bind fun x21 => (sL h19 r20 3 x21).bind fun h22 => (gR h22 v0 1 3).bind fun r23 => (f_X4_asNumber h22 4).bind fun x24 => (sL h22 r23 4 x24).bind fun h25 => (gR h25 v0 1 3).bind fun r26 => (f_X4_asNumber h25 5).bind fun x27 => (sL h25 r26 5 x27).bind fun h28 => (gR h28 v0 1 3).bind fun r29 => (f_X4_asNumber h28 6).bind fun x30 => (sL h28 r29 6 x30).bind fun h31 => (gR h31 v0 1 3).bind fun r32 => (f_X4_asNumber h31 7).bind fun x33 => (sL h31 r32 7 x33).bind fun h34 => (gR h34 v0 1 3).bind fun r35 => (f_X4_asNumber h34 8).bind fun x36 => (sL h34 r35 8 x36).bind fun h37 => (gR h37 v0 1 3).bind fun r38 => (f_X4_asNumber h37 9).bind fun x39 => (sL h37 r38 9 x39).bind fun h40 => (gR h40 v0 1 3).bind fun r41 => (f_X4_asNumber h40 10).bind fun x42 => (sL h40 r41 10 x42).bind fun h43 => (gR h43 v0 1 3).bind fun r44 => (f_X4_asNumber h43 11).bind fun x45 => (sL h43 r44 11 x45).bind fun h46 => (gR h46 v0 1 3).bind fun r47 => (f_X4_asNumber h46 12).bind fun x48 => (sL h46 r47 12 x48).bind fun h49 => (gR h49 v0 1 3).bind fun r50 => (f_X4_asNumber h49 13).bind fun x51 => (sL h49 r50 13 x51).bind fun h52 => (gR h52 v0 1 3).bind fun r53 => (f_X4_asNumber h52 14).bind fun x54 => (sL h52 r53 14 x54).bind fun h55 => (gR h55 v0 1 3).bind fun r56 => (f_X4_asNumber h55 15).bind fun x57 => (sL h55 r56 15 x57).bind fun h58 => (gR h58 v0 1 3).bind fun r59 => (f_X4_asNumber h58 16).bind fun x60 => (sL h58 r59 16 x60).bind fun h61 => (gR h61 v0 1 3).bind fun r62 => (f_X4_asNumber h61 17).bind fun x63 => (sL h61 r62 17 x63).bind fun h64 => (gR h64 v0 1 3).bind fun r65 => (f_X4_asNumber h64 18).bind fun x66 => (sL h64 r65 18 x66).bind fun h67 => (gR h67 v0 1 3).bind fun r68 => (f_X4_asNumber h67 19).bind fun x69 => (sL h67 r68 19 x69).bind fun h70 => some h70
set_option maxRecDepth 100000 in
set_option maxHeartbeats 4000000 in
theorem w_X4_init {G : GE} {X : CX} {l : Launch} (hX : Ok G X cX4_init RX4) (hN : xn X = 1) {P : Mem → Prop} (hr : Rt G X l yX4_init none rm_X4_init (pmV P)) (h : Mem) (v0 : Nat) (hy : OK (f_X4_init h v0) P) : AW G X 0 [(0, vR v0)] [] h 0 0 := by
  unfold f_X4_init at hy
  have hkd := hy.kd
  have hy := hy.kb
  refine aw_aloadn (pc := 0) hX 0 rfl dX4_init_0 ?_
  refine aw_objInit0 (pc := 1) hX hkd oi_X4_5 oi_i oi_c (by decide) (Nat.le_of_ble_eq_true rfl) (le_f hr (by decide)) (le_l hr (by decide)) dX4_init_1 ?_
  refine aw_aloadn (pc := 4) hX 0 rfl dX4_init_4 ?_
  refine aw_sipush (pc := 5) hX 1000 (by decide) dX4_init_5 ?_
  refine aw_newi (pc := 8) hX 1000 1000 (by decide) (by decide) (by decide) ar_int (le_c hr (by decide)) (le_s hr (by decide)) dX4_init_8 ?_
  refine AW.eqa (ce' := 1) (sl' := 1000) rfl rfl ?_
  refine aw_pR (pc := 10) hX hy fl_X4_13 rfl (Or.inr ⟨rfl, hr.2.2.2.1, rfl, fw_X4_13⟩) dX4_init_10 (fun h1 hy => ?_)
  refine aw_aloadn (pc := 13) hX 0 rfl dX4_init_13 ?_
  refine aw_bipush (pc := 14) hX 20 (by decide) dX4_init_14 ?_
  refine aw_newl (pc := 16) hX 20 20 (by decide) (by decide) (by decide) ar_long (le_c hr (by decide)) (le_s hr (by decide)) dX4_init_16 ?_
  refine AW.eqa (ce' := 2) (sl' := 1020) rfl rfl ?_
  refine aw_pR (pc := 18) hX hy fl_X4_17 rfl (Or.inr ⟨rfl, hr.2.2.2.1, rfl, fw_X4_17⟩) dX4_init_18 (fun h2 hy => ?_)
  refine aw_aloadn (pc := 21) hX 0 rfl dX4_init_21 ?_
  refine aw_bipush (pc := 22) hX 17 (by decide) dX4_init_22 ?_
  refine aw_newl (pc := 24) hX 17 17 (by decide) (by decide) (by decide) ar_long (le_c hr (by decide)) (le_s hr (by decide)) dX4_init_24 ?_
  refine AW.eqa (ce' := 3) (sl' := 1037) rfl rfl ?_
  refine aw_pR (pc := 26) hX hy fl_X4_21 rfl (Or.inr ⟨rfl, hr.2.2.2.1, rfl, fw_X4_21⟩) dX4_init_26 (fun h3 hy => ?_)
  refine aw_aloadn (pc := 29) hX 0 rfl dX4_init_29 ?_
  refine aw_bipush (pc := 30) hX 17 (by decide) dX4_init_30 ?_
  refine aw_newi (pc := 32) hX 17 17 (by decide) (by decide) (by decide) ar_int (le_c hr (by decide)) (le_s hr (by decide)) dX4_init_32 ?_
  refine AW.eqa (ce' := 4) (sl' := 1054) rfl rfl ?_
  refine aw_pR (pc := 34) hX hy fl_X4_24 rfl (Or.inr ⟨rfl, hr.2.2.2.1, rfl, fw_X4_24⟩) dX4_init_34 (fun h4 hy => ?_)
  refine aw_aloadn (pc := 37) hX 0 rfl dX4_init_37 ?_
  refine aw_bipush (pc := 38) hX 17 (by decide) dX4_init_38 ?_
  refine aw_newi (pc := 40) hX 17 17 (by decide) (by decide) (by decide) ar_int (le_c hr (by decide)) (le_s hr (by decide)) dX4_init_40 ?_
  refine AW.eqa (ce' := 5) (sl' := 1071) rfl rfl ?_
  refine aw_pR (pc := 42) hX hy fl_X4_27 rfl (Or.inr ⟨rfl, hr.2.2.2.1, rfl, fw_X4_27⟩) dX4_init_42 (fun h5 hy => ?_)
  refine aw_aloadn (pc := 45) hX 0 rfl dX4_init_45 ?_
  refine aw_bipush (pc := 46) hX 9 (by decide) dX4_init_46 ?_
  refine aw_newi (pc := 48) hX 9 9 (by decide) (by decide) (by decide) ar_int (le_c hr (by decide)) (le_s hr (by decide)) dX4_init_48 ?_
  refine AW.eqa (ce' := 6) (sl' := 1080) rfl rfl ?_
  refine aw_pR (pc := 50) hX hy fl_X4_30 rfl (Or.inr ⟨rfl, hr.2.2.2.1, rfl, fw_X4_30⟩) dX4_init_50 (fun h6 hy => ?_)
  refine aw_aloadn (pc := 53) hX 0 rfl dX4_init_53 ?_
  refine aw_new (pc := 54) hX (ci := 4) (by decide) cl_X4_1 ia_4 in_4 (le_c hr (by decide)) (le_s hr (by decide)) dX4_init_54 ?_
  refine AW.eqa (ce' := 7) (sl' := 1100) rfl rfl ?_
  refine aw_dup (pc := 57) hX rfl dX4_init_57 ?_
  refine aw_callINk (pc := 58) (st := [vR (mN h6), vR v0]) (a := (mN h6)) hX [] (con_X5_init _ G _ (mN h6) hy.bd) mc_X5_init ml_X4_33 im_X5_init rfl hy.bd.kd (by decide) rfl (rm_of hr (by decide)) (Nat.le_of_ble_eq_true rfl) rfl dX4_init_58 (kmVa (ce' := 18) (sl' := 1323) rfl rfl (fun h8 hy => ?_))
  refine aw_pR (pc := 61) hX hy fl_X4_34 rfl (Or.inl rfl) dX4_init_61 (fun h9 hy => ?_)
  refine aw_aloadn (pc := 64) hX 0 rfl dX4_init_64 ?_
  refine aw_iconst (pc := 65) hX (-1) (by decide) dX4_init_65 ?_
  refine aw_pI (pc := 66) hX hy fl_X4_38 rfl (Or.inl rfl) dX4_init_66 (fun h10 hy => ?_)
  refine aw_aloadn (pc := 69) hX 0 rfl dX4_init_69 ?_
  refine aw_gR (pc := 70) hX hy fl_X4_17 (fun _ _ => rfl) dX4_init_70 (fun r11 hy => ?_)
  refine aw_iconst (pc := 73) hX 0 (by decide) dX4_init_73 ?_
  refine aw_ldcs (pc := 74) hX (tx := "turnpike") (k := 0) (by decide +kernel) dX4_init_74 ?_
  refine aw_callS (pc := 76) (st := [vI 0, vR r11]) hX [vX 0] (con_X4_asNumber _ G _ 0 hy.bd) mc_X4_asNumber ml_X4_44 st_X4_asNumber rfl (rm_of hr (by decide)) (Nat.le_of_ble_eq_true rfl) rfl dX4_init_76 (kpL rfl rfl (fun x12 hy => ?_))
  refine aw_sL (pc := 79) hX hy dX4_init_79 (fun h13 hy => ?_)
  refine aw_aloadn (pc := 80) hX 0 rfl dX4_init_80 ?_
  refine aw_gR (pc := 81) hX hy fl_X4_17 (fun _ _ => rfl) dX4_init_81 (fun r14 hy => ?_)
  refine aw_iconst (pc := 84) hX 1 (by decide) dX4_init_84 ?_
  refine aw_ldcs (pc := 85) hX (tx := "tune") (k := 1) (by decide +kernel) dX4_init_85 ?_
  refine aw_callS (pc := 87) (st := [vI 1, vR r14]) hX [vX 1] (con_X4_asNumber _ G _ 1 hy.bd) mc_X4_asNumber ml_X4_44 st_X4_asNumber rfl (rm_of hr (by decide)) (Nat.le_of_ble_eq_true rfl) rfl dX4_init_87 (kpL rfl rfl (fun x15 hy => ?_))
  refine aw_sL (pc := 90) hX hy dX4_init_90 (fun h16 hy => ?_)
  refine aw_aloadn (pc := 91) hX 0 rfl dX4_init_91 ?_
  refine aw_gR (pc := 92) hX hy fl_X4_17 (fun _ _ => rfl) dX4_init_92 (fun r17 hy => ?_)
  refine aw_iconst (pc := 95) hX 2 (by decide) dX4_init_95 ?_
  refine aw_ldcs (pc := 96) hX (tx := "place") (k := 2) (by decide +kernel) dX4_init_96 ?_
  refine aw_callS (pc := 98) (st := [vI 2, vR r17]) hX [vX 2] (con_X4_asNumber _ G _ 2 hy.bd) mc_X4_asNumber ml_X4_44 st_X4_asNumber rfl (rm_of hr (by decide)) (Nat.le_of_ble_eq_true rfl) rfl dX4_init_98 (kpL rfl rfl (fun x18 hy => ?_))
  refine aw_sL (pc := 101) hX hy dX4_init_101 (fun h19 hy => ?_)
  refine aw_aloadn (pc := 102) hX 0 rfl dX4_init_102 ?_
  refine aw_gR (pc := 103) hX hy fl_X4_17 (fun _ _ => rfl) dX4_init_103 (fun r20 hy => ?_)
  refine aw_iconst (pc := 106) hX 3 (by decide) dX4_init_106 ?_
  refine aw_ldcs (pc := 107) hX (tx := "road") (k := 3) (by decide +kernel) dX4_init_107 ?_
  refine aw_callS (pc := 109) (st := [vI 3, vR r20]) hX [vX 3] (con_X4_asNumber _ G _ 3 hy.bd) mc_X4_asNumber ml_X4_44 st_X4_asNumber rfl (rm_of hr (by decide)) (Nat.le_of_ble_eq_true rfl) rfl dX4_init_109 (kpL rfl rfl (fun x21 hy => ?_))
  refine aw_sL (pc := 112) hX hy dX4_init_112 (fun h22 hy => ?_)
  refine aw_aloadn (pc := 113) hX 0 rfl dX4_init_113 ?_
  refine aw_gR (pc := 114) hX hy fl_X4_17 (fun _ _ => rfl) dX4_init_114 (fun r23 hy => ?_)
  refine aw_iconst (pc := 117) hX 4 (by decide) dX4_init_117 ?_
  refine aw_ldcs (pc := 118) hX (tx := "gate") (k := 4) (by decide +kernel) dX4_init_118 ?_
  refine aw_callS (pc := 120) (st := [vI 4, vR r23]) hX [vX 4] (con_X4_asNumber _ G _ 4 hy.bd) mc_X4_asNumber ml_X4_44 st_X4_asNumber rfl (rm_of hr (by decide)) (Nat.le_of_ble_eq_true rfl) rfl dX4_init_120 (kpL rfl rfl (fun x24 hy => ?_))
  refine aw_sL (pc := 123) hX hy dX4_init_123 (fun h25 hy => ?_)
  refine aw_aloadn (pc := 124) hX 0 rfl dX4_init_124 ?_
  refine aw_gR (pc := 125) hX hy fl_X4_17 (fun _ _ => rfl) dX4_init_125 (fun r26 hy => ?_)
  refine aw_iconst (pc := 128) hX 5 (by decide) dX4_init_128 ?_
  refine aw_ldcs (pc := 129) hX (tx := "inn") (k := 5) (by decide +kernel) dX4_init_129 ?_
  refine aw_callS (pc := 131) (st := [vI 5, vR r26]) hX [vX 5] (con_X4_asNumber _ G _ 5 hy.bd) mc_X4_asNumber ml_X4_44 st_X4_asNumber rfl (rm_of hr (by decide)) (Nat.le_of_ble_eq_true rfl) rfl dX4_init_131 (kpL rfl rfl (fun x27 hy => ?_))
  refine aw_sL (pc := 134) hX hy dX4_init_134 (fun h28 hy => ?_)
  refine aw_aloadn (pc := 135) hX 0 rfl dX4_init_135 ?_
  refine aw_gR (pc := 136) hX hy fl_X4_17 (fun _ _ => rfl) dX4_init_136 (fun r29 hy => ?_)
  refine aw_bipush (pc := 139) hX 6 (by decide) dX4_init_139 ?_
  refine aw_ldcs (pc := 141) hX (tx := "person") (k := 6) (by decide +kernel) dX4_init_141 ?_
  refine aw_callS (pc := 143) (st := [vI 6, vR r29]) hX [vX 6] (con_X4_asNumber _ G _ 6 hy.bd) mc_X4_asNumber ml_X4_44 st_X4_asNumber rfl (rm_of hr (by decide)) (Nat.le_of_ble_eq_true rfl) rfl dX4_init_143 (kpL rfl rfl (fun x30 hy => ?_))
  refine aw_sL (pc := 146) hX hy dX4_init_146 (fun h31 hy => ?_)
  refine aw_aloadn (pc := 147) hX 0 rfl dX4_init_147 ?_
  refine aw_gR (pc := 148) hX hy fl_X4_17 (fun _ _ => rfl) dX4_init_148 (fun r32 hy => ?_)
  refine aw_bipush (pc := 151) hX 7 (by decide) dX4_init_151 ?_
  refine aw_ldcs (pc := 153) hX (tx := "knows") (k := 7) (by decide +kernel) dX4_init_153 ?_
  refine aw_callS (pc := 155) (st := [vI 7, vR r32]) hX [vX 7] (con_X4_asNumber _ G _ 7 hy.bd) mc_X4_asNumber ml_X4_44 st_X4_asNumber rfl (rm_of hr (by decide)) (Nat.le_of_ble_eq_true rfl) rfl dX4_init_155 (kpL rfl rfl (fun x33 hy => ?_))
  refine aw_sL (pc := 158) hX hy dX4_init_158 (fun h34 hy => ?_)
  refine aw_aloadn (pc := 159) hX 0 rfl dX4_init_159 ?_
  refine aw_gR (pc := 160) hX hy fl_X4_17 (fun _ _ => rfl) dX4_init_160 (fun r35 hy => ?_)
  refine aw_bipush (pc := 163) hX 8 (by decide) dX4_init_163 ?_
  refine aw_ldcs (pc := 165) hX (tx := "heard") (k := 8) (by decide +kernel) dX4_init_165 ?_
  refine aw_callS (pc := 167) (st := [vI 8, vR r35]) hX [vX 8] (con_X4_asNumber _ G _ 8 hy.bd) mc_X4_asNumber ml_X4_44 st_X4_asNumber rfl (rm_of hr (by decide)) (Nat.le_of_ble_eq_true rfl) rfl dX4_init_167 (kpL rfl rfl (fun x36 hy => ?_))
  refine aw_sL (pc := 170) hX hy dX4_init_170 (fun h37 hy => ?_)
  refine aw_aloadn (pc := 171) hX 0 rfl dX4_init_171 ?_
  refine aw_gR (pc := 172) hX hy fl_X4_17 (fun _ _ => rfl) dX4_init_172 (fun r38 hy => ?_)
  refine aw_bipush (pc := 175) hX 9 (by decide) dX4_init_175 ?_
  refine aw_ldcs (pc := 177) hX (tx := "rain") (k := 9) (by decide +kernel) dX4_init_177 ?_
  refine aw_callS (pc := 179) (st := [vI 9, vR r38]) hX [vX 9] (con_X4_asNumber _ G _ 9 hy.bd) mc_X4_asNumber ml_X4_44 st_X4_asNumber rfl (rm_of hr (by decide)) (Nat.le_of_ble_eq_true rfl) rfl dX4_init_179 (kpL rfl rfl (fun x39 hy => ?_))
  refine aw_sL (pc := 182) hX hy dX4_init_182 (fun h40 hy => ?_)
  refine aw_aloadn (pc := 183) hX 0 rfl dX4_init_183 ?_
  refine aw_gR (pc := 184) hX hy fl_X4_17 (fun _ _ => rfl) dX4_init_184 (fun r41 hy => ?_)
  refine aw_bipush (pc := 187) hX 10 (by decide) dX4_init_187 ?_
  refine aw_ldcs (pc := 189) hX (tx := "minutes") (k := 10) (by decide +kernel) dX4_init_189 ?_
  refine aw_callS (pc := 191) (st := [vI 10, vR r41]) hX [vX 10] (con_X4_asNumber _ G _ 10 hy.bd) mc_X4_asNumber ml_X4_44 st_X4_asNumber rfl (rm_of hr (by decide)) (Nat.le_of_ble_eq_true rfl) rfl dX4_init_191 (kpL rfl rfl (fun x42 hy => ?_))
  refine aw_sL (pc := 194) hX hy dX4_init_194 (fun h43 hy => ?_)
  refine aw_aloadn (pc := 195) hX 0 rfl dX4_init_195 ?_
  refine aw_gR (pc := 196) hX hy fl_X4_17 (fun _ _ => rfl) dX4_init_196 (fun r44 hy => ?_)
  refine aw_bipush (pc := 199) hX 11 (by decide) dX4_init_199 ?_
  refine aw_ldcs (pc := 201) hX (tx := "strict") (k := 11) (by decide +kernel) dX4_init_201 ?_
  refine aw_callS (pc := 203) (st := [vI 11, vR r44]) hX [vX 11] (con_X4_asNumber _ G _ 11 hy.bd) mc_X4_asNumber ml_X4_44 st_X4_asNumber rfl (rm_of hr (by decide)) (Nat.le_of_ble_eq_true rfl) rfl dX4_init_203 (kpL rfl rfl (fun x45 hy => ?_))
  refine aw_sL (pc := 206) hX hy dX4_init_206 (fun h46 hy => ?_)
  refine aw_aloadn (pc := 207) hX 0 rfl dX4_init_207 ?_
  refine aw_gR (pc := 208) hX hy fl_X4_17 (fun _ _ => rfl) dX4_init_208 (fun r47 hy => ?_)
  refine aw_bipush (pc := 211) hX 12 (by decide) dX4_init_211 ?_
  refine aw_ldcs (pc := 213) hX (tx := "kind") (k := 12) (by decide +kernel) dX4_init_213 ?_
  refine aw_callS (pc := 215) (st := [vI 12, vR r47]) hX [vX 12] (con_X4_asNumber _ G _ 12 hy.bd) mc_X4_asNumber ml_X4_44 st_X4_asNumber rfl (rm_of hr (by decide)) (Nat.le_of_ble_eq_true rfl) rfl dX4_init_215 (kpL rfl rfl (fun x48 hy => ?_))
  refine aw_sL (pc := 218) hX hy dX4_init_218 (fun h49 hy => ?_)
  refine aw_aloadn (pc := 219) hX 0 rfl dX4_init_219 ?_
  refine aw_gR (pc := 220) hX hy fl_X4_17 (fun _ _ => rfl) dX4_init_220 (fun r50 hy => ?_)
  refine aw_bipush (pc := 223) hX 13 (by decide) dX4_init_223 ?_
  refine aw_ldcs (pc := 225) hX (tx := "deaf") (k := 13) (by decide +kernel) dX4_init_225 ?_
  refine aw_callS (pc := 227) (st := [vI 13, vR r50]) hX [vX 13] (con_X4_asNumber _ G _ 13 hy.bd) mc_X4_asNumber ml_X4_44 st_X4_asNumber rfl (rm_of hr (by decide)) (Nat.le_of_ble_eq_true rfl) rfl dX4_init_227 (kpL rfl rfl (fun x51 hy => ?_))
  refine aw_sL (pc := 230) hX hy dX4_init_230 (fun h52 hy => ?_)
  refine aw_aloadn (pc := 231) hX 0 rfl dX4_init_231 ?_
  refine aw_gR (pc := 232) hX hy fl_X4_17 (fun _ _ => rfl) dX4_init_232 (fun r53 hy => ?_)
  refine aw_bipush (pc := 235) hX 14 (by decide) dX4_init_235 ?_
  refine aw_ldcs (pc := 237) hX (tx := "forgot") (k := 14) (by decide +kernel) dX4_init_237 ?_
  refine aw_callS (pc := 239) (st := [vI 14, vR r53]) hX [vX 14] (con_X4_asNumber _ G _ 14 hy.bd) mc_X4_asNumber ml_X4_44 st_X4_asNumber rfl (rm_of hr (by decide)) (Nat.le_of_ble_eq_true rfl) rfl dX4_init_239 (kpL rfl rfl (fun x54 hy => ?_))
  refine aw_sL (pc := 242) hX hy dX4_init_242 (fun h55 hy => ?_)
  refine aw_aloadn (pc := 243) hX 0 rfl dX4_init_243 ?_
  refine aw_gR (pc := 244) hX hy fl_X4_17 (fun _ _ => rfl) dX4_init_244 (fun r56 hy => ?_)
  refine aw_bipush (pc := 247) hX 15 (by decide) dX4_init_247 ?_
  refine aw_ldcs (pc := 249) hX (tx := "sells") (k := 15) (by decide +kernel) dX4_init_249 ?_
  refine aw_callS (pc := 251) (st := [vI 15, vR r56]) hX [vX 15] (con_X4_asNumber _ G _ 15 hy.bd) mc_X4_asNumber ml_X4_44 st_X4_asNumber rfl (rm_of hr (by decide)) (Nat.le_of_ble_eq_true rfl) rfl dX4_init_251 (kpL rfl rfl (fun x57 hy => ?_))
  refine aw_sL (pc := 254) hX hy dX4_init_254 (fun h58 hy => ?_)
  refine aw_aloadn (pc := 255) hX 0 rfl dX4_init_255 ?_
  refine aw_gR (pc := 256) hX hy fl_X4_17 (fun _ _ => rfl) dX4_init_256 (fun r59 hy => ?_)
  refine aw_bipush (pc := 259) hX 16 (by decide) dX4_init_259 ?_
  refine aw_ldcs (pc := 261) hX (tx := "forges") (k := 16) (by decide +kernel) dX4_init_261 ?_
  refine aw_callS (pc := 263) (st := [vI 16, vR r59]) hX [vX 16] (con_X4_asNumber _ G _ 16 hy.bd) mc_X4_asNumber ml_X4_44 st_X4_asNumber rfl (rm_of hr (by decide)) (Nat.le_of_ble_eq_true rfl) rfl dX4_init_263 (kpL rfl rfl (fun x60 hy => ?_))
  refine aw_sL (pc := 266) hX hy dX4_init_266 (fun h61 hy => ?_)
  refine aw_aloadn (pc := 267) hX 0 rfl dX4_init_267 ?_
  refine aw_gR (pc := 268) hX hy fl_X4_17 (fun _ _ => rfl) dX4_init_268 (fun r62 hy => ?_)
  refine aw_bipush (pc := 271) hX 17 (by decide) dX4_init_271 ?_
  refine aw_ldcs (pc := 273) hX (tx := "price") (k := 17) (by decide +kernel) dX4_init_273 ?_
  refine aw_callS (pc := 275) (st := [vI 17, vR r62]) hX [vX 17] (con_X4_asNumber _ G _ 17 hy.bd) mc_X4_asNumber ml_X4_44 st_X4_asNumber rfl (rm_of hr (by decide)) (Nat.le_of_ble_eq_true rfl) rfl dX4_init_275 (kpL rfl rfl (fun x63 hy => ?_))
  refine aw_sL (pc := 278) hX hy dX4_init_278 (fun h64 hy => ?_)
  refine aw_aloadn (pc := 279) hX 0 rfl dX4_init_279 ?_
  refine aw_gR (pc := 280) hX hy fl_X4_17 (fun _ _ => rfl) dX4_init_280 (fun r65 hy => ?_)
  refine aw_bipush (pc := 283) hX 18 (by decide) dX4_init_283 ?_
  refine aw_ldcs (pc := 285) hX (tx := "at") (k := 18) (by decide +kernel) dX4_init_285 ?_
  refine aw_callS (pc := 287) (st := [vI 18, vR r65]) hX [vX 18] (con_X4_asNumber _ G _ 18 hy.bd) mc_X4_asNumber ml_X4_44 st_X4_asNumber rfl (rm_of hr (by decide)) (Nat.le_of_ble_eq_true rfl) rfl dX4_init_287 (kpL rfl rfl (fun x66 hy => ?_))
  refine aw_sL (pc := 290) hX hy dX4_init_290 (fun h67 hy => ?_)
  refine aw_aloadn (pc := 291) hX 0 rfl dX4_init_291 ?_
  refine aw_gR (pc := 292) hX hy fl_X4_17 (fun _ _ => rfl) dX4_init_292 (fun r68 hy => ?_)
  refine aw_bipush (pc := 295) hX 19 (by decide) dX4_init_295 ?_
  refine aw_ldcs (pc := 297) hX (tx := "coins") (k := 19) (by decide +kernel) dX4_init_297 ?_
  refine aw_callS (pc := 299) (st := [vI 19, vR r68]) hX [vX 19] (con_X4_asNumber _ G _ 19 hy.bd) mc_X4_asNumber ml_X4_44 st_X4_asNumber rfl (rm_of hr (by decide)) (Nat.le_of_ble_eq_true rfl) rfl dX4_init_299 (kpL rfl rfl (fun x69 hy => ?_))
  refine aw_sL (pc := 302) hX hy dX4_init_302 (fun h70 hy => ?_)
  exact aw_vret (pc := 303) hX hr (by decide) (by decide) dX4_init_303 ⟨rfl, hy.s⟩
theorem con_X4_init (l : Launch) (G : GE) (h : Mem) (v0 : Nat) {P : Mem → Prop} (hy : OK (f_X4_init h v0) P) : Con l G yX4_init cX4_init 1 none rm_X4_init [vR v0] h (pmV P) := Con.of (by decide) (Nat.le_of_ble_eq_true rfl) (fun X hX hr hN => w_X4_init hX hN hr h v0 hy)
/-! X4_hasRoomFor -/
theorem dX4_hasRoomFor_0 : decode cX4_hasRoomFor 0 = .ok (.aload_n 0, 1) := by decide +kernel
theorem dX4_hasRoomFor_1 : decode cX4_hasRoomFor 1 = .ok (.getfield 85, 3) := by decide +kernel
theorem dX4_hasRoomFor_4 : decode cX4_hasRoomFor 4 = .ok (.iload_n 1, 1) := by decide +kernel
theorem dX4_hasRoomFor_5 : decode cX4_hasRoomFor 5 = .ok (.iadd, 1) := by decide +kernel
theorem dX4_hasRoomFor_6 : decode cX4_hasRoomFor 6 = .ok (.sipush 1000, 3) := by decide +kernel
theorem dX4_hasRoomFor_9 : decode cX4_hasRoomFor 9 = .ok (.if_icmp .gt 7, 3) := by decide +kernel
theorem dX4_hasRoomFor_12 : decode cX4_hasRoomFor 12 = .ok (.iconst 1, 1) := by decide +kernel
theorem dX4_hasRoomFor_13 : decode cX4_hasRoomFor 13 = .ok (.goto 4, 3) := by decide +kernel
theorem dX4_hasRoomFor_16 : decode cX4_hasRoomFor 16 = .ok (.iconst 0, 1) := by decide +kernel
theorem dX4_hasRoomFor_17 : decode cX4_hasRoomFor 17 = .ok (.ireturn, 1) := by decide +kernel
abbrev rm_X4_hasRoomFor : Room := { frames := 0, cells := 0, slots := 0, locals := 0 }
def f_X4_hasRoomFor (h : Mem) (v0 : Nat) (v1 : Int32) : Option Int32 :=
  (ck h v0 3).bind fun _ => (gI h v0 15 3).bind fun x1 => (if 1000 < (x1 + v1) then some 0 else some 1)
set_option maxRecDepth 100000 in
set_option maxHeartbeats 4000000 in
theorem w_X4_hasRoomFor {G : GE} {X : CX} {l : Launch} (hX : Ok G X cX4_hasRoomFor RX4) (hN : xn X = 2) (h : Mem) {P : Int32 → Prop} (hr : Rt G X l yX4_hasRoomFor (some .boolean) rm_X4_hasRoomFor (ppI h P)) (v0 : Nat) (v1 : Int32) (hy : OK (f_X4_hasRoomFor h v0 v1) P) : AW G X 0 [(0, vR v0), (1, vI v1)] [] h 0 0 := by
  unfold f_X4_hasRoomFor at hy
  have hkd := hy.kd
  have hy := hy.kb
  refine aw_aloadn (pc := 0) hX 0 rfl dX4_hasRoomFor_0 ?_
  refine aw_gI (pc := 1) hX hy fl_X4_85 (fun _ _ => rfl) dX4_hasRoomFor_1 (fun x1 hy => ?_)
  refine aw_iloadn (pc := 4) hX 1 rfl dX4_hasRoomFor_4 ?_
  refine aw_iadd (pc := 5) hX dX4_hasRoomFor_5 ?_
  refine aw_sipush (pc := 6) hX 1000 (by decide) dX4_hasRoomFor_6 ?_
  refine aw_ic_gt (pc := 9) hX 16 (by decide) dX4_hasRoomFor_9 (fun hc9 => ?_) (fun hc9 => ?_)
  · have hy := hy.t hc9
    refine aw_iconst (pc := 16) hX 0 (by decide) dX4_hasRoomFor_16 ?_
    exact aw_zret (pc := 17) hX hr (by decide) (by decide) dX4_hasRoomFor_17 (Or.inl rfl) ⟨rfl, _, rfl, hy.s⟩
  · have hy := hy.f hc9
    refine aw_iconst (pc := 12) hX 1 (by decide) dX4_hasRoomFor_12 ?_
    refine aw_goto (pc := 13) hX 17 (by decide) dX4_hasRoomFor_13 ?_
    exact aw_zret (pc := 17) hX hr (by decide) (by decide) dX4_hasRoomFor_17 (Or.inr rfl) ⟨rfl, _, rfl, hy.s⟩
theorem con_X4_hasRoomFor (l : Launch) (G : GE) (h : Mem) (v0 : Nat) (v1 : Int32) {P : Int32 → Prop} (hy : OK (f_X4_hasRoomFor h v0 v1) P) : Con l G yX4_hasRoomFor cX4_hasRoomFor 2 (some .boolean) rm_X4_hasRoomFor [vR v0, vI v1] h (ppI h P) := Con.of (by decide) (Nat.le_of_ble_eq_true rfl) (fun X hX hr hN => w_X4_hasRoomFor hX hN h hr v0 v1 hy)
/-! X4_append -/
theorem dX4_append_0 : decode cX4_append 0 = .ok (.bipush 24, 2) := by decide +kernel
theorem dX4_append_2 : decode cX4_append 2 = .ok (.istore_n 2, 1) := by decide +kernel
theorem dX4_append_3 : decode cX4_append 3 = .ok (.iload_n 2, 1) := by decide +kernel
theorem dX4_append_4 : decode cX4_append 4 = .ok (.ifCond .lt 45, 3) := by decide +kernel
theorem dX4_append_7 : decode cX4_append 7 = .ok (.aload_n 0, 1) := by decide +kernel
theorem dX4_append_8 : decode cX4_append 8 = .ok (.getfield 85, 3) := by decide +kernel
theorem dX4_append_11 : decode cX4_append 11 = .ok (.sipush 1000, 3) := by decide +kernel
theorem dX4_append_14 : decode cX4_append 14 = .ok (.if_icmp .ge 35, 3) := by decide +kernel
theorem dX4_append_17 : decode cX4_append 17 = .ok (.aload_n 0, 1) := by decide +kernel
theorem dX4_append_18 : decode cX4_append 18 = .ok (.getfield 13, 3) := by decide +kernel
theorem dX4_append_21 : decode cX4_append 21 = .ok (.aload_n 0, 1) := by decide +kernel
theorem dX4_append_22 : decode cX4_append 22 = .ok (.getfield 85, 3) := by decide +kernel
theorem dX4_append_25 : decode cX4_append 25 = .ok (.iload_n 1, 1) := by decide +kernel
theorem dX4_append_26 : decode cX4_append 26 = .ok (.iload_n 2, 1) := by decide +kernel
theorem dX4_append_27 : decode cX4_append 27 = .ok (.ishr, 1) := by decide +kernel
theorem dX4_append_28 : decode cX4_append 28 = .ok (.sipush 255, 3) := by decide +kernel
theorem dX4_append_31 : decode cX4_append 31 = .ok (.iand, 1) := by decide +kernel
theorem dX4_append_32 : decode cX4_append 32 = .ok (.iastore, 1) := by decide +kernel
theorem dX4_append_33 : decode cX4_append 33 = .ok (.aload_n 0, 1) := by decide +kernel
theorem dX4_append_34 : decode cX4_append 34 = .ok (.dup, 1) := by decide +kernel
theorem dX4_append_35 : decode cX4_append 35 = .ok (.getfield 85, 3) := by decide +kernel
theorem dX4_append_38 : decode cX4_append 38 = .ok (.iconst 1, 1) := by decide +kernel
theorem dX4_append_39 : decode cX4_append 39 = .ok (.iadd, 1) := by decide +kernel
theorem dX4_append_40 : decode cX4_append 40 = .ok (.putfield 85, 3) := by decide +kernel
theorem dX4_append_43 : decode cX4_append 43 = .ok (.iinc 2 (-8), 3) := by decide +kernel
theorem dX4_append_46 : decode cX4_append 46 = .ok (.goto (-43), 3) := by decide +kernel
theorem dX4_append_49 : decode cX4_append 49 = .ok (.return_, 1) := by decide +kernel
abbrev rm_X4_append : Room := { frames := 0, cells := 0, slots := 0, locals := 0 }
def b_X4_append_3 (h : Mem) (v0 : Nat) (v1 : Int32) (v2 : Int32) : Option ((Int32 × Mem) ⊕ Mem) :=
  (if v2 < 0 then some (.inr h) else (gI h v0 15 3).bind fun x1 => (if 1000 ≤ x1 then some (.inr h) else (gR h v0 0 3).bind fun r2 => (gI h v0 15 3).bind fun x3 => (sI h r2 x3 (((v1 : Int32) >>> (v2 &&& 31)) &&& 255)).bind fun h4 => (gI h4 v0 15 3).bind fun x5 => (pI h4 v0 15 3 (x5 + 1)).bind fun h6 => some (.inl ((v2 + (-8)), h6))))
set_option maxRecDepth 100000 in
set_option maxHeartbeats 4000000 in
theorem wb_X4_append_3 {G : GE} {X : CX} {l : Launch} (hX : Ok G X cX4_append RX4) (hN : xn X = 3) {P0 : Mem → Prop} (hr : Rt G X l yX4_append none rm_X4_append (pmV P0))  (v0 : Nat) (v1 : Int32) {P : ((Int32 × Mem) ⊕ Mem) → Prop} (hc : ∀ s, P (.inl s) → AW G X 3 [(0, vR v0), (1, vI v1), (2, vI s.1)] [] s.2 0 0) (he0 : ∀ e, P (.inr e) → AW G X 49 [] [] e 0 0) (h : Mem) (v2 : Int32) (hy : OK (b_X4_append_3 h v0 v1 v2) P) : AW G X 3 [(0, vR v0), (1, vI v1), (2, vI v2)] [] h 0 0 := by
  unfold b_X4_append_3 at hy
  refine aw_iloadn (pc := 3) hX 2 rfl dX4_append_3 ?_
  refine aw_if_lt (pc := 4) hX 49 (by decide) dX4_append_4 (fun hc9 => ?_) (fun hc9 => ?_)
  · have hy := hy.t hc9
    refine AW.sub [] rfl ?_
    exact he0 h hy.s
  · have hy := hy.f hc9
    refine aw_aloadn (pc := 7) hX 0 rfl dX4_append_7 ?_
    refine aw_gI (pc := 8) hX hy fl_X4_85 (fun _ _ => rfl) dX4_append_8 (fun x1 hy => ?_)
    refine aw_sipush (pc := 11) hX 1000 (by decide) dX4_append_11 ?_
    refine aw_ic_ge (pc := 14) hX 49 (by decide) dX4_append_14 (fun hc9 => ?_) (fun hc9 => ?_)
    · have hy := hy.t hc9
      refine AW.sub [] rfl ?_
      exact he0 h hy.s
    · have hy := hy.f hc9
      refine aw_aloadn (pc := 17) hX 0 rfl dX4_append_17 ?_
      refine aw_gR (pc := 18) hX hy fl_X4_13 (fun _ _ => rfl) dX4_append_18 (fun r2 hy => ?_)
      refine aw_aloadn (pc := 21) hX 0 rfl dX4_append_21 ?_
      refine aw_gI (pc := 22) hX hy fl_X4_85 (fun _ _ => rfl) dX4_append_22 (fun x3 hy => ?_)
      refine aw_iloadn (pc := 25) hX 1 rfl dX4_append_25 ?_
      refine aw_iloadn (pc := 26) hX 2 rfl dX4_append_26 ?_
      refine aw_ishr (pc := 27) hX dX4_append_27 ?_
      refine aw_sipush (pc := 28) hX 255 (by decide) dX4_append_28 ?_
      refine aw_iand (pc := 31) hX dX4_append_31 ?_
      refine aw_sI (pc := 32) hX hy dX4_append_32 (fun h4 hy => ?_)
      refine aw_aloadn (pc := 33) hX 0 rfl dX4_append_33 ?_
      refine aw_dup (pc := 34) hX rfl dX4_append_34 ?_
      refine aw_gI (pc := 35) hX hy fl_X4_85 (fun _ _ => rfl) dX4_append_35 (fun x5 hy => ?_)
      refine aw_iconst (pc := 38) hX 1 (by decide) dX4_append_38 ?_
      refine aw_iadd (pc := 39) hX dX4_append_39 ?_
      refine aw_pI (pc := 40) hX hy fl_X4_85 rfl (Or.inl rfl) dX4_append_40 (fun h6 hy => ?_)
      refine aw_iinc (pc := 43) hX (-8) (by decide) 2 rfl [(2, vI (v2 + (-8))), (0, vR v0), (1, vI v1)] rfl (lt_n hN (by decide)) dX4_append_43 ?_
      refine aw_goto (pc := 46) hX 3 (by decide) dX4_append_46 ?_
      refine AW.sub [1, 2, 0] rfl ?_
      exact hc ((v2 + (-8)), h6) hy.s
theorem wl_X4_append_3 {G : GE} {X : CX} {l : Launch} (hX : Ok G X cX4_append RX4) (hN : xn X = 3) {P0 : Mem → Prop} (hr : Rt G X l yX4_append none rm_X4_append (pmV P0)) (v0 : Nat) (v1 : Int32) {P : (Mem) → Prop} (he0 : ∀ e, P e → AW G X 49 [] [] e 0 0) : ∀ (n : Nat) (s : Int32 × Mem), OK (iter (fun (s : Int32 × Mem) => b_X4_append_3 s.2 v0 v1 s.1) n s) P → AW G X 3 [(0, vR v0), (1, vI v1), (2, vI s.1)] [] s.2 0 0 := by
  intro n
  induction n with
  | zero => exact fun s hy => hy.it0.elim
  | succ n ih =>
    intro s hy
    exact wb_X4_append_3 hX hN hr v0 v1 (fun s hs => ih s hs) (fun e hs => he0 e hs) s.2 s.1 hy.it
def f_X4_append (h : Mem) (v0 : Nat) (v1 : Int32) : Option Mem :=
  (ck h v0 3).bind fun _ => (iter (fun (s : Int32 × Mem) => b_X4_append_3 s.2 v0 v1 s.1) FU (24, h)).bind (fun q7 => some q7)
set_option maxRecDepth 100000 in
set_option maxHeartbeats 4000000 in
theorem w_X4_append {G : GE} {X : CX} {l : Launch} (hX : Ok G X cX4_append RX4) (hN : xn X = 3) {P : Mem → Prop} (hr : Rt G X l yX4_append none rm_X4_append (pmV P)) (h : Mem) (v0 : Nat) (v1 : Int32) (hy : OK (f_X4_append h v0 v1) P) : AW G X 0 [(0, vR v0), (1, vI v1)] [] h 0 0 := by
  unfold f_X4_append at hy
  have hkd := hy.kd
  have hy := hy.kb
  refine aw_bipush (pc := 0) hX 24 (by decide) dX4_append_0 ?_
  refine aw_istoren (pc := 2) hX [(2, vI 24), (0, vR v0), (1, vI v1)] rfl (lt_n hN (by decide)) dX4_append_2 ?_
  refine AW.sub [1, 2, 0] rfl ?_
  refine wl_X4_append_3 hX hN hr v0 v1 ?_ FU (24, h) hy.bd
  · intro q7 hy
    exact aw_vret (pc := 49) hX hr (by decide) (by decide) dX4_append_49 ⟨rfl, hy.s⟩
theorem con_X4_append (l : Launch) (G : GE) (h : Mem) (v0 : Nat) (v1 : Int32) {P : Mem → Prop} (hy : OK (f_X4_append h v0 v1) P) : Con l G yX4_append cX4_append 3 none rm_X4_append [vR v0, vI v1] h (pmV P) := Con.of (by decide) (Nat.le_of_ble_eq_true rfl) (fun X hX hr hN => w_X4_append hX hN hr h v0 v1 hy)
/-! X4_exchange -/
theorem dX4_exchange_0 : decode cX4_exchange 0 = .ok (.aload_n 0, 1) := by decide +kernel
theorem dX4_exchange_1 : decode cX4_exchange 1 = .ok (.getfield 34, 3) := by decide +kernel
theorem dX4_exchange_4 : decode cX4_exchange 4 = .ok (.astore_n 2, 1) := by decide +kernel
theorem dX4_exchange_5 : decode cX4_exchange 5 = .ok (.aload_n 0, 1) := by decide +kernel
theorem dX4_exchange_6 : decode cX4_exchange 6 = .ok (.aload_n 1, 1) := by decide +kernel
theorem dX4_exchange_7 : decode cX4_exchange 7 = .ok (.putfield 34, 3) := by decide +kernel
theorem dX4_exchange_10 : decode cX4_exchange 10 = .ok (.aload_n 2, 1) := by decide +kernel
theorem dX4_exchange_11 : decode cX4_exchange 11 = .ok (.areturn, 1) := by decide +kernel
abbrev rm_X4_exchange : Room := { frames := 0, cells := 0, slots := 0, locals := 0 }
def f_X4_exchange (h : Mem) (v0 : Nat) (v1 : Nat) : Option (Nat × Mem) :=
  (ck h v0 3).bind fun _ => (gR h v0 6 3).bind fun r1 => (pR h v0 6 3 v1).bind fun h2 => some (r1, h2)
set_option maxRecDepth 100000 in
set_option maxHeartbeats 4000000 in
theorem w_X4_exchange {G : GE} {X : CX} {l : Launch} (hX : Ok G X cX4_exchange RX4) (hN : xn X = 3) {P : (Nat × Mem) → Prop} (hr : Rt G X l yX4_exchange (some (.object "TuneGates$Road")) rm_X4_exchange (pmR P)) (h : Mem) (v0 : Nat) (v1 : Nat) (hy : OK (f_X4_exchange h v0 v1) P) : AW G X 0 [(0, vR v0), (1, vR v1)] [] h 0 0 := by
  unfold f_X4_exchange at hy
  have hkd := hy.kd
  have hy := hy.kb
  refine aw_aloadn (pc := 0) hX 0 rfl dX4_exchange_0 ?_
  refine aw_gR (pc := 1) hX hy fl_X4_34 (fun _ _ => rfl) dX4_exchange_1 (fun r1 hy => ?_)
  refine aw_astoren (pc := 4) hX [(2, vR r1), (0, vR v0), (1, vR v1)] rfl (lt_n hN (by decide)) dX4_exchange_4 ?_
  refine aw_aloadn (pc := 5) hX 1 rfl dX4_exchange_5 ?_
  refine aw_aloadn (pc := 6) hX 2 rfl dX4_exchange_6 ?_
  refine aw_pR (pc := 7) hX hy fl_X4_34 rfl (Or.inl rfl) dX4_exchange_7 (fun h2 hy => ?_)
  refine aw_aloadn (pc := 10) hX 0 rfl dX4_exchange_10 ?_
  exact aw_aret (pc := 11) hX hr (by decide) (by decide) dX4_exchange_11 ⟨_, rfl, hy.s⟩
theorem con_X4_exchange (l : Launch) (G : GE) (h : Mem) (v0 : Nat) (v1 : Nat) {P : (Nat × Mem) → Prop} (hy : OK (f_X4_exchange h v0 v1) P) : Con l G yX4_exchange cX4_exchange 3 (some (.object "TuneGates$Road")) rm_X4_exchange [vR v0, vR v1] h (pmR P) := Con.of (by decide) (Nat.le_of_ble_eq_true rfl) (fun X hX hr hN => w_X4_exchange hX hN hr h v0 v1 hy)
/-! X5_clear -/
theorem dX5_clear_0 : decode cX5_clear 0 = .ok (.aload_n 0, 1) := by decide +kernel
theorem dX5_clear_1 : decode cX5_clear 1 = .ok (.iconst 0, 1) := by decide +kernel
theorem dX5_clear_2 : decode cX5_clear 2 = .ok (.putfield 47, 3) := by decide +kernel
theorem dX5_clear_5 : decode cX5_clear 5 = .ok (.aload_n 0, 1) := by decide +kernel
theorem dX5_clear_6 : decode cX5_clear 6 = .ok (.iconst 0, 1) := by decide +kernel
theorem dX5_clear_7 : decode cX5_clear 7 = .ok (.putfield 51, 3) := by decide +kernel
theorem dX5_clear_10 : decode cX5_clear 10 = .ok (.aload_n 0, 1) := by decide +kernel
theorem dX5_clear_11 : decode cX5_clear 11 = .ok (.iconst 0, 1) := by decide +kernel
theorem dX5_clear_12 : decode cX5_clear 12 = .ok (.putfield 54, 3) := by decide +kernel
theorem dX5_clear_15 : decode cX5_clear 15 = .ok (.aload_n 0, 1) := by decide +kernel
theorem dX5_clear_16 : decode cX5_clear 16 = .ok (.iconst 0, 1) := by decide +kernel
theorem dX5_clear_17 : decode cX5_clear 17 = .ok (.putfield 57, 3) := by decide +kernel
theorem dX5_clear_20 : decode cX5_clear 20 = .ok (.aload_n 0, 1) := by decide +kernel
theorem dX5_clear_21 : decode cX5_clear 21 = .ok (.iconst 0, 1) := by decide +kernel
theorem dX5_clear_22 : decode cX5_clear 22 = .ok (.putfield 60, 3) := by decide +kernel
theorem dX5_clear_25 : decode cX5_clear 25 = .ok (.aload_n 0, 1) := by decide +kernel
theorem dX5_clear_26 : decode cX5_clear 26 = .ok (.iconst 0, 1) := by decide +kernel
theorem dX5_clear_27 : decode cX5_clear 27 = .ok (.putfield 63, 3) := by decide +kernel
theorem dX5_clear_30 : decode cX5_clear 30 = .ok (.aload_n 0, 1) := by decide +kernel
theorem dX5_clear_31 : decode cX5_clear 31 = .ok (.iconst 0, 1) := by decide +kernel
theorem dX5_clear_32 : decode cX5_clear 32 = .ok (.putfield 66, 3) := by decide +kernel
theorem dX5_clear_35 : decode cX5_clear 35 = .ok (.aload_n 0, 1) := by decide +kernel
theorem dX5_clear_36 : decode cX5_clear 36 = .ok (.iconst 0, 1) := by decide +kernel
theorem dX5_clear_37 : decode cX5_clear 37 = .ok (.putfield 69, 3) := by decide +kernel
theorem dX5_clear_40 : decode cX5_clear 40 = .ok (.aload_n 0, 1) := by decide +kernel
theorem dX5_clear_41 : decode cX5_clear 41 = .ok (.iconst 0, 1) := by decide +kernel
theorem dX5_clear_42 : decode cX5_clear 42 = .ok (.putfield 72, 3) := by decide +kernel
theorem dX5_clear_45 : decode cX5_clear 45 = .ok (.aload_n 0, 1) := by decide +kernel
theorem dX5_clear_46 : decode cX5_clear 46 = .ok (.getfield 24, 3) := by decide +kernel
theorem dX5_clear_49 : decode cX5_clear 49 = .ok (.iconst (-1), 1) := by decide +kernel
theorem dX5_clear_50 : decode cX5_clear 50 = .ok (.invokestatic 75, 3) := by decide +kernel
theorem dX5_clear_53 : decode cX5_clear 53 = .ok (.aload_n 0, 1) := by decide +kernel
theorem dX5_clear_54 : decode cX5_clear 54 = .ok (.getfield 30, 3) := by decide +kernel
theorem dX5_clear_57 : decode cX5_clear 57 = .ok (.iconst (-1), 1) := by decide +kernel
theorem dX5_clear_58 : decode cX5_clear 58 = .ok (.invokestatic 75, 3) := by decide +kernel
theorem dX5_clear_61 : decode cX5_clear 61 = .ok (.aload_n 0, 1) := by decide +kernel
theorem dX5_clear_62 : decode cX5_clear 62 = .ok (.getfield 44, 3) := by decide +kernel
theorem dX5_clear_65 : decode cX5_clear 65 = .ok (.iconst 0, 1) := by decide +kernel
theorem dX5_clear_66 : decode cX5_clear 66 = .ok (.invokestatic 75, 3) := by decide +kernel
theorem dX5_clear_69 : decode cX5_clear 69 = .ok (.return_, 1) := by decide +kernel
abbrev rm_X5_clear : Room := { frames := 1, cells := 0, slots := 0, locals := 23 }
def f_X5_clear (h : Mem) (v0 : Nat) : Option Mem :=
  (ck h v0 4).bind fun _ => (pI h v0 0 4 0).bind fun h1 => (pI h1 v0 1 4 0).bind fun h2 => (pI h2 v0 2 4 0).bind fun h3 => (pI h3 v0 3 4 0).bind fun h4 => (pI h4 v0 4 4 0).bind fun h5 => (pI h5 v0 5 4 0).bind fun h6 => (pI h6 v0 6 4 0).bind fun h7 => (pI h7 v0 7 4 0).bind fun h8 => (pI h8 v0 8 4 0).bind fun h9 => (gR h9 v0 13 4).bind fun r10 => (f_J7_fill_53178 h9 r10 (-1)).bind fun h11 => (gR h11 v0 15 4).bind fun r12 => (f_J7_fill_53178 h11 r12 (-1)).bind fun h13 => (gR h13 v0 19 4).bind fun r14 => (f_J7_fill_53178 h13 r14 0).bind fun h15 => some h15
set_option maxRecDepth 100000 in
set_option maxHeartbeats 4000000 in
theorem w_X5_clear {G : GE} {X : CX} {l : Launch} (hX : Ok G X cX5_clear RX5) (hN : xn X = 1) {P : Mem → Prop} (hr : Rt G X l yX5_clear none rm_X5_clear (pmV P)) (h : Mem) (v0 : Nat) (hy : OK (f_X5_clear h v0) P) : AW G X 0 [(0, vR v0)] [] h 0 0 := by
  unfold f_X5_clear at hy
  have hkd := hy.kd
  have hy := hy.kb
  refine aw_aloadn (pc := 0) hX 0 rfl dX5_clear_0 ?_
  refine aw_iconst (pc := 1) hX 0 (by decide) dX5_clear_1 ?_
  refine aw_pI (pc := 2) hX hy fl_X5_47 rfl (Or.inl rfl) dX5_clear_2 (fun h1 hy => ?_)
  refine aw_aloadn (pc := 5) hX 0 rfl dX5_clear_5 ?_
  refine aw_iconst (pc := 6) hX 0 (by decide) dX5_clear_6 ?_
  refine aw_pI (pc := 7) hX hy fl_X5_51 rfl (Or.inl rfl) dX5_clear_7 (fun h2 hy => ?_)
  refine aw_aloadn (pc := 10) hX 0 rfl dX5_clear_10 ?_
  refine aw_iconst (pc := 11) hX 0 (by decide) dX5_clear_11 ?_
  refine aw_pI (pc := 12) hX hy fl_X5_54 rfl (Or.inl rfl) dX5_clear_12 (fun h3 hy => ?_)
  refine aw_aloadn (pc := 15) hX 0 rfl dX5_clear_15 ?_
  refine aw_iconst (pc := 16) hX 0 (by decide) dX5_clear_16 ?_
  refine aw_pI (pc := 17) hX hy fl_X5_57 rfl (Or.inl rfl) dX5_clear_17 (fun h4 hy => ?_)
  refine aw_aloadn (pc := 20) hX 0 rfl dX5_clear_20 ?_
  refine aw_iconst (pc := 21) hX 0 (by decide) dX5_clear_21 ?_
  refine aw_pI (pc := 22) hX hy fl_X5_60 rfl (Or.inl rfl) dX5_clear_22 (fun h5 hy => ?_)
  refine aw_aloadn (pc := 25) hX 0 rfl dX5_clear_25 ?_
  refine aw_iconst (pc := 26) hX 0 (by decide) dX5_clear_26 ?_
  refine aw_pI (pc := 27) hX hy fl_X5_63 rfl (Or.inl rfl) dX5_clear_27 (fun h6 hy => ?_)
  refine aw_aloadn (pc := 30) hX 0 rfl dX5_clear_30 ?_
  refine aw_iconst (pc := 31) hX 0 (by decide) dX5_clear_31 ?_
  refine aw_pI (pc := 32) hX hy fl_X5_66 rfl (Or.inl rfl) dX5_clear_32 (fun h7 hy => ?_)
  refine aw_aloadn (pc := 35) hX 0 rfl dX5_clear_35 ?_
  refine aw_iconst (pc := 36) hX 0 (by decide) dX5_clear_36 ?_
  refine aw_pI (pc := 37) hX hy fl_X5_69 rfl (Or.inl rfl) dX5_clear_37 (fun h8 hy => ?_)
  refine aw_aloadn (pc := 40) hX 0 rfl dX5_clear_40 ?_
  refine aw_iconst (pc := 41) hX 0 (by decide) dX5_clear_41 ?_
  refine aw_pI (pc := 42) hX hy fl_X5_72 rfl (Or.inl rfl) dX5_clear_42 (fun h9 hy => ?_)
  refine aw_aloadn (pc := 45) hX 0 rfl dX5_clear_45 ?_
  refine aw_gR (pc := 46) hX hy fl_X5_24 (fun _ _ => rfl) dX5_clear_46 (fun r10 hy => ?_)
  refine aw_iconst (pc := 49) hX (-1) (by decide) dX5_clear_49 ?_
  refine aw_callS (pc := 50) (st := []) hX [vR r10, vI (-1)] (con_J7_fill_53178 _ G _ r10 (-1) hy.bd) mc_J7_fill_53178 ml_X5_75 st_J7_fill_53178 rfl (rm_of hr (by decide)) (Nat.le_of_ble_eq_true rfl) rfl dX5_clear_50 (kmV rfl rfl (fun h11 hy => ?_))
  refine aw_aloadn (pc := 53) hX 0 rfl dX5_clear_53 ?_
  refine aw_gR (pc := 54) hX hy fl_X5_30 (fun _ _ => rfl) dX5_clear_54 (fun r12 hy => ?_)
  refine aw_iconst (pc := 57) hX (-1) (by decide) dX5_clear_57 ?_
  refine aw_callS (pc := 58) (st := []) hX [vR r12, vI (-1)] (con_J7_fill_53178 _ G _ r12 (-1) hy.bd) mc_J7_fill_53178 ml_X5_75 st_J7_fill_53178 rfl (rm_of hr (by decide)) (Nat.le_of_ble_eq_true rfl) rfl dX5_clear_58 (kmV rfl rfl (fun h13 hy => ?_))
  refine aw_aloadn (pc := 61) hX 0 rfl dX5_clear_61 ?_
  refine aw_gR (pc := 62) hX hy fl_X5_44 (fun _ _ => rfl) dX5_clear_62 (fun r14 hy => ?_)
  refine aw_iconst (pc := 65) hX 0 (by decide) dX5_clear_65 ?_
  refine aw_callS (pc := 66) (st := []) hX [vR r14, vI 0] (con_J7_fill_53178 _ G _ r14 0 hy.bd) mc_J7_fill_53178 ml_X5_75 st_J7_fill_53178 rfl (rm_of hr (by decide)) (Nat.le_of_ble_eq_true rfl) rfl dX5_clear_66 (kmV rfl rfl (fun h15 hy => ?_))
  exact aw_vret (pc := 69) hX hr (by decide) (by decide) dX5_clear_69 ⟨rfl, hy.s⟩
theorem con_X5_clear (l : Launch) (G : GE) (h : Mem) (v0 : Nat) {P : Mem → Prop} (hy : OK (f_X5_clear h v0) P) : Con l G yX5_clear cX5_clear 1 none rm_X5_clear [vR v0] h (pmV P) := Con.of (by decide) (Nat.le_of_ble_eq_true rfl) (fun X hX hr hN => w_X5_clear hX hN hr h v0 hy)
/-! X4_takeLetters -/
theorem dX4_takeLetters_0 : decode cX4_takeLetters 0 = .ok (.aload_n 0, 1) := by decide +kernel
theorem dX4_takeLetters_1 : decode cX4_takeLetters 1 = .ok (.lconst 0, 1) := by decide +kernel
theorem dX4_takeLetters_2 : decode cX4_takeLetters 2 = .ok (.putfield 245, 3) := by decide +kernel
theorem dX4_takeLetters_5 : decode cX4_takeLetters 5 = .ok (.aload_n 0, 1) := by decide +kernel
theorem dX4_takeLetters_6 : decode cX4_takeLetters 6 = .ok (.getfield 130, 3) := by decide +kernel
theorem dX4_takeLetters_9 : decode cX4_takeLetters 9 = .ok (.aload_n 0, 1) := by decide +kernel
theorem dX4_takeLetters_10 : decode cX4_takeLetters 10 = .ok (.getfield 92, 3) := by decide +kernel
theorem dX4_takeLetters_13 : decode cX4_takeLetters 13 = .ok (.if_icmp .ge 72, 3) := by decide +kernel
theorem dX4_takeLetters_16 : decode cX4_takeLetters 16 = .ok (.aload_n 0, 1) := by decide +kernel
theorem dX4_takeLetters_17 : decode cX4_takeLetters 17 = .ok (.getfield 13, 3) := by decide +kernel
theorem dX4_takeLetters_20 : decode cX4_takeLetters 20 = .ok (.aload_n 0, 1) := by decide +kernel
theorem dX4_takeLetters_21 : decode cX4_takeLetters 21 = .ok (.getfield 130, 3) := by decide +kernel
theorem dX4_takeLetters_24 : decode cX4_takeLetters 24 = .ok (.iaload, 1) := by decide +kernel
theorem dX4_takeLetters_25 : decode cX4_takeLetters 25 = .ok (.bipush 97, 2) := by decide +kernel
theorem dX4_takeLetters_27 : decode cX4_takeLetters 27 = .ok (.if_icmp .lt 58, 3) := by decide +kernel
theorem dX4_takeLetters_30 : decode cX4_takeLetters 30 = .ok (.aload_n 0, 1) := by decide +kernel
theorem dX4_takeLetters_31 : decode cX4_takeLetters 31 = .ok (.getfield 13, 3) := by decide +kernel
theorem dX4_takeLetters_34 : decode cX4_takeLetters 34 = .ok (.aload_n 0, 1) := by decide +kernel
theorem dX4_takeLetters_35 : decode cX4_takeLetters 35 = .ok (.getfield 130, 3) := by decide +kernel
theorem dX4_takeLetters_38 : decode cX4_takeLetters 38 = .ok (.iaload, 1) := by decide +kernel
theorem dX4_takeLetters_39 : decode cX4_takeLetters 39 = .ok (.bipush 122, 2) := by decide +kernel
theorem dX4_takeLetters_41 : decode cX4_takeLetters 41 = .ok (.if_icmp .gt 44, 3) := by decide +kernel
theorem dX4_takeLetters_44 : decode cX4_takeLetters 44 = .ok (.aload_n 0, 1) := by decide +kernel
theorem dX4_takeLetters_45 : decode cX4_takeLetters 45 = .ok (.aload_n 0, 1) := by decide +kernel
theorem dX4_takeLetters_46 : decode cX4_takeLetters 46 = .ok (.getfield 245, 3) := by decide +kernel
theorem dX4_takeLetters_49 : decode cX4_takeLetters 49 = .ok (.ldc2_w 255, 3) := by decide +kernel
theorem dX4_takeLetters_52 : decode cX4_takeLetters 52 = .ok (.lmul, 1) := by decide +kernel
theorem dX4_takeLetters_53 : decode cX4_takeLetters 53 = .ok (.aload_n 0, 1) := by decide +kernel
theorem dX4_takeLetters_54 : decode cX4_takeLetters 54 = .ok (.getfield 13, 3) := by decide +kernel
theorem dX4_takeLetters_57 : decode cX4_takeLetters 57 = .ok (.aload_n 0, 1) := by decide +kernel
theorem dX4_takeLetters_58 : decode cX4_takeLetters 58 = .ok (.getfield 130, 3) := by decide +kernel
theorem dX4_takeLetters_61 : decode cX4_takeLetters 61 = .ok (.iaload, 1) := by decide +kernel
theorem dX4_takeLetters_62 : decode cX4_takeLetters 62 = .ok (.bipush 97, 2) := by decide +kernel
theorem dX4_takeLetters_64 : decode cX4_takeLetters 64 = .ok (.isub, 1) := by decide +kernel
theorem dX4_takeLetters_65 : decode cX4_takeLetters 65 = .ok (.iconst 1, 1) := by decide +kernel
theorem dX4_takeLetters_66 : decode cX4_takeLetters 66 = .ok (.iadd, 1) := by decide +kernel
theorem dX4_takeLetters_67 : decode cX4_takeLetters 67 = .ok (.i2l, 1) := by decide +kernel
theorem dX4_takeLetters_68 : decode cX4_takeLetters 68 = .ok (.ladd, 1) := by decide +kernel
theorem dX4_takeLetters_69 : decode cX4_takeLetters 69 = .ok (.putfield 245, 3) := by decide +kernel
theorem dX4_takeLetters_72 : decode cX4_takeLetters 72 = .ok (.aload_n 0, 1) := by decide +kernel
theorem dX4_takeLetters_73 : decode cX4_takeLetters 73 = .ok (.dup, 1) := by decide +kernel
theorem dX4_takeLetters_74 : decode cX4_takeLetters 74 = .ok (.getfield 130, 3) := by decide +kernel
theorem dX4_takeLetters_77 : decode cX4_takeLetters 77 = .ok (.iconst 1, 1) := by decide +kernel
theorem dX4_takeLetters_78 : decode cX4_takeLetters 78 = .ok (.iadd, 1) := by decide +kernel
theorem dX4_takeLetters_79 : decode cX4_takeLetters 79 = .ok (.putfield 130, 3) := by decide +kernel
theorem dX4_takeLetters_82 : decode cX4_takeLetters 82 = .ok (.goto (-77), 3) := by decide +kernel
theorem dX4_takeLetters_85 : decode cX4_takeLetters 85 = .ok (.aload_n 0, 1) := by decide +kernel
theorem dX4_takeLetters_86 : decode cX4_takeLetters 86 = .ok (.aload_n 0, 1) := by decide +kernel
theorem dX4_takeLetters_87 : decode cX4_takeLetters 87 = .ok (.getfield 130, 3) := by decide +kernel
theorem dX4_takeLetters_90 : decode cX4_takeLetters 90 = .ok (.aload_n 0, 1) := by decide +kernel
theorem dX4_takeLetters_91 : decode cX4_takeLetters 91 = .ok (.getfield 136, 3) := by decide +kernel
theorem dX4_takeLetters_94 : decode cX4_takeLetters 94 = .ok (.isub, 1) := by decide +kernel
theorem dX4_takeLetters_95 : decode cX4_takeLetters 95 = .ok (.bipush 8, 2) := by decide +kernel
theorem dX4_takeLetters_97 : decode cX4_takeLetters 97 = .ok (.if_icmp .gt 7, 3) := by decide +kernel
theorem dX4_takeLetters_100 : decode cX4_takeLetters 100 = .ok (.iconst 1, 1) := by decide +kernel
theorem dX4_takeLetters_101 : decode cX4_takeLetters 101 = .ok (.goto 4, 3) := by decide +kernel
theorem dX4_takeLetters_104 : decode cX4_takeLetters 104 = .ok (.iconst 4, 1) := by decide +kernel
theorem dX4_takeLetters_105 : decode cX4_takeLetters 105 = .ok (.putfield 99, 3) := by decide +kernel
theorem dX4_takeLetters_108 : decode cX4_takeLetters 108 = .ok (.return_, 1) := by decide +kernel
abbrev rm_X4_takeLetters : Room := { frames := 0, cells := 0, slots := 0, locals := 0 }
def b_X4_takeLetters_5 (h : Mem) (v0 : Nat) : Option (Mem ⊕ Mem) :=
  (gI h v0 10 3).bind fun x2 => (gI h v0 8 3).bind fun x3 => (if x3 ≤ x2 then some (.inr h) else (gR h v0 0 3).bind fun r4 => (gI h v0 10 3).bind fun x5 => (aI h r4 x5).bind fun x6 => (if x6 < 97 then some (.inr h) else (gR h v0 0 3).bind fun r7 => (gI h v0 10 3).bind fun x8 => (aI h r7 x8).bind fun x9 => (if 122 < x9 then some (.inr h) else (gL h v0 12 3).bind fun x10 => (gR h v0 0 3).bind fun r11 => (gI h v0 10 3).bind fun x12 => (aI h r11 x12).bind fun x13 => (pL h v0 12 3 ((x10 * 32) + ((((x13 - 97) + 1) : Int32).toInt64))).bind fun h14 => (gI h14 v0 10 3).bind fun x15 => (pI h14 v0 10 3 (x15 + 1)).bind fun h16 => some (.inl h16))))
set_option maxRecDepth 100000 in
set_option maxHeartbeats 4000000 in
theorem wb_X4_takeLetters_5 {G : GE} {X : CX} {l : Launch} (hX : Ok G X cX4_takeLetters RX4) (hN : xn X = 1) {P0 : Mem → Prop} (hr : Rt G X l yX4_takeLetters none rm_X4_takeLetters (pmV P0))  (v0 : Nat) {P : (Mem ⊕ Mem) → Prop} (hc : ∀ s, P (.inl s) → AW G X 5 [(0, vR v0)] [] s 0 0) (he0 : ∀ e, P (.inr e) → AW G X 85 [(0, vR v0)] [] e 0 0) (h : Mem) (hy : OK (b_X4_takeLetters_5 h v0) P) : AW G X 5 [(0, vR v0)] [] h 0 0 := by
  unfold b_X4_takeLetters_5 at hy
  refine aw_aloadn (pc := 5) hX 0 rfl dX4_takeLetters_5 ?_
  refine aw_gI (pc := 6) hX hy fl_X4_130 (fun _ _ => rfl) dX4_takeLetters_6 (fun x2 hy => ?_)
  refine aw_aloadn (pc := 9) hX 0 rfl dX4_takeLetters_9 ?_
  refine aw_gI (pc := 10) hX hy fl_X4_92 (fun _ _ => rfl) dX4_takeLetters_10 (fun x3 hy => ?_)
  refine aw_ic_ge (pc := 13) hX 85 (by decide) dX4_takeLetters_13 (fun hc9 => ?_) (fun hc9 => ?_)
  · have hy := hy.t hc9
    exact he0 h hy.s
  · have hy := hy.f hc9
    refine aw_aloadn (pc := 16) hX 0 rfl dX4_takeLetters_16 ?_
    refine aw_gR (pc := 17) hX hy fl_X4_13 (fun _ _ => rfl) dX4_takeLetters_17 (fun r4 hy => ?_)
    refine aw_aloadn (pc := 20) hX 0 rfl dX4_takeLetters_20 ?_
    refine aw_gI (pc := 21) hX hy fl_X4_130 (fun _ _ => rfl) dX4_takeLetters_21 (fun x5 hy => ?_)
    refine aw_aI (pc := 24) hX hy dX4_takeLetters_24 (fun x6 hy => ?_)
    refine aw_bipush (pc := 25) hX 97 (by decide) dX4_takeLetters_25 ?_
    refine aw_ic_lt (pc := 27) hX 85 (by decide) dX4_takeLetters_27 (fun hc9 => ?_) (fun hc9 => ?_)
    · have hy := hy.t hc9
      exact he0 h hy.s
    · have hy := hy.f hc9
      refine aw_aloadn (pc := 30) hX 0 rfl dX4_takeLetters_30 ?_
      refine aw_gR (pc := 31) hX hy fl_X4_13 (fun _ _ => rfl) dX4_takeLetters_31 (fun r7 hy => ?_)
      refine aw_aloadn (pc := 34) hX 0 rfl dX4_takeLetters_34 ?_
      refine aw_gI (pc := 35) hX hy fl_X4_130 (fun _ _ => rfl) dX4_takeLetters_35 (fun x8 hy => ?_)
      refine aw_aI (pc := 38) hX hy dX4_takeLetters_38 (fun x9 hy => ?_)
      refine aw_bipush (pc := 39) hX 122 (by decide) dX4_takeLetters_39 ?_
      refine aw_ic_gt (pc := 41) hX 85 (by decide) dX4_takeLetters_41 (fun hc9 => ?_) (fun hc9 => ?_)
      · have hy := hy.t hc9
        exact he0 h hy.s
      · have hy := hy.f hc9
        refine aw_aloadn (pc := 44) hX 0 rfl dX4_takeLetters_44 ?_
        refine aw_aloadn (pc := 45) hX 0 rfl dX4_takeLetters_45 ?_
        refine aw_gL (pc := 46) hX hy fl_X4_245 (fun _ _ => rfl) dX4_takeLetters_46 (fun x10 hy => ?_)
        refine aw_ldc2 (pc := 49) hX kc_X4_255 dX4_takeLetters_49 ?_
        refine aw_lmul (pc := 52) hX dX4_takeLetters_52 ?_
        refine aw_aloadn (pc := 53) hX 0 rfl dX4_takeLetters_53 ?_
        refine aw_gR (pc := 54) hX hy fl_X4_13 (fun _ _ => rfl) dX4_takeLetters_54 (fun r11 hy => ?_)
        refine aw_aloadn (pc := 57) hX 0 rfl dX4_takeLetters_57 ?_
        refine aw_gI (pc := 58) hX hy fl_X4_130 (fun _ _ => rfl) dX4_takeLetters_58 (fun x12 hy => ?_)
        refine aw_aI (pc := 61) hX hy dX4_takeLetters_61 (fun x13 hy => ?_)
        refine aw_bipush (pc := 62) hX 97 (by decide) dX4_takeLetters_62 ?_
        refine aw_isub (pc := 64) hX dX4_takeLetters_64 ?_
        refine aw_iconst (pc := 65) hX 1 (by decide) dX4_takeLetters_65 ?_
        refine aw_iadd (pc := 66) hX dX4_takeLetters_66 ?_
        refine aw_i2l (pc := 67) hX dX4_takeLetters_67 ?_
        refine aw_ladd (pc := 68) hX dX4_takeLetters_68 ?_
        refine aw_pL (pc := 69) hX hy fl_X4_245 rfl (Or.inl rfl) dX4_takeLetters_69 (fun h14 hy => ?_)
        refine aw_aloadn (pc := 72) hX 0 rfl dX4_takeLetters_72 ?_
        refine aw_dup (pc := 73) hX rfl dX4_takeLetters_73 ?_
        refine aw_gI (pc := 74) hX hy fl_X4_130 (fun _ _ => rfl) dX4_takeLetters_74 (fun x15 hy => ?_)
        refine aw_iconst (pc := 77) hX 1 (by decide) dX4_takeLetters_77 ?_
        refine aw_iadd (pc := 78) hX dX4_takeLetters_78 ?_
        refine aw_pI (pc := 79) hX hy fl_X4_130 rfl (Or.inl rfl) dX4_takeLetters_79 (fun h16 hy => ?_)
        refine aw_goto (pc := 82) hX 5 (by decide) dX4_takeLetters_82 ?_
        exact hc h16 hy.s
theorem wl_X4_takeLetters_5 {G : GE} {X : CX} {l : Launch} (hX : Ok G X cX4_takeLetters RX4) (hN : xn X = 1) {P0 : Mem → Prop} (hr : Rt G X l yX4_takeLetters none rm_X4_takeLetters (pmV P0)) (v0 : Nat) {P : (Mem) → Prop} (he0 : ∀ e, P e → AW G X 85 [(0, vR v0)] [] e 0 0) : ∀ (n : Nat) (s : Mem), OK (iter (fun (s : Mem) => b_X4_takeLetters_5 s v0) n s) P → AW G X 5 [(0, vR v0)] [] s 0 0 := by
  intro n
  induction n with
  | zero => exact fun s hy => hy.it0.elim
  | succ n ih =>
    intro s hy
    exact wb_X4_takeLetters_5 hX hN hr v0 (fun s hs => ih s hs) (fun e hs => he0 e hs) s hy.it
def f_X4_takeLetters (h : Mem) (v0 : Nat) : Option Mem :=
  (ck h v0 3).bind fun _ => (pL h v0 12 3 0).bind fun h1 => (iter (fun (s : Mem) => b_X4_takeLetters_5 s v0) FU h1).bind (fun q17 => (gI q17 v0 10 3).bind fun x18 => (gI q17 v0 9 3).bind fun x19 => (if 8 < (x18 - x19) then (pI q17 v0 11 3 4).bind fun h20 => some h20 else (pI q17 v0 11 3 1).bind fun h21 => some h21))
set_option maxRecDepth 100000 in
set_option maxHeartbeats 4000000 in
theorem w_X4_takeLetters {G : GE} {X : CX} {l : Launch} (hX : Ok G X cX4_takeLetters RX4) (hN : xn X = 1) {P : Mem → Prop} (hr : Rt G X l yX4_takeLetters none rm_X4_takeLetters (pmV P)) (h : Mem) (v0 : Nat) (hy : OK (f_X4_takeLetters h v0) P) : AW G X 0 [(0, vR v0)] [] h 0 0 := by
  unfold f_X4_takeLetters at hy
  have hkd := hy.kd
  have hy := hy.kb
  refine aw_aloadn (pc := 0) hX 0 rfl dX4_takeLetters_0 ?_
  refine aw_lconst (pc := 1) hX 0 (by decide) dX4_takeLetters_1 ?_
  refine aw_pL (pc := 2) hX hy fl_X4_245 rfl (Or.inl rfl) dX4_takeLetters_2 (fun h1 hy => ?_)
  refine wl_X4_takeLetters_5 hX hN hr v0 ?_ FU h1 hy.bd
  · intro q17 hy
    refine aw_aloadn (pc := 85) hX 0 rfl dX4_takeLetters_85 ?_
    refine aw_aloadn (pc := 86) hX 0 rfl dX4_takeLetters_86 ?_
    refine aw_gI (pc := 87) hX hy fl_X4_130 (fun _ _ => rfl) dX4_takeLetters_87 (fun x18 hy => ?_)
    refine aw_aloadn (pc := 90) hX 0 rfl dX4_takeLetters_90 ?_
    refine aw_gI (pc := 91) hX hy fl_X4_136 (fun _ _ => rfl) dX4_takeLetters_91 (fun x19 hy => ?_)
    refine aw_isub (pc := 94) hX dX4_takeLetters_94 ?_
    refine aw_bipush (pc := 95) hX 8 (by decide) dX4_takeLetters_95 ?_
    refine aw_ic_gt (pc := 97) hX 104 (by decide) dX4_takeLetters_97 (fun hc9 => ?_) (fun hc9 => ?_)
    · have hy := hy.t hc9
      refine aw_iconst (pc := 104) hX 4 (by decide) dX4_takeLetters_104 ?_
      refine aw_pI (pc := 105) hX hy fl_X4_99 rfl (Or.inl rfl) dX4_takeLetters_105 (fun h20 hy => ?_)
      exact aw_vret (pc := 108) hX hr (by decide) (by decide) dX4_takeLetters_108 ⟨rfl, hy.s⟩
    · have hy := hy.f hc9
      refine aw_iconst (pc := 100) hX 1 (by decide) dX4_takeLetters_100 ?_
      refine aw_goto (pc := 101) hX 105 (by decide) dX4_takeLetters_101 ?_
      refine aw_pI (pc := 105) hX hy fl_X4_99 rfl (Or.inl rfl) dX4_takeLetters_105 (fun h21 hy => ?_)
      exact aw_vret (pc := 108) hX hr (by decide) (by decide) dX4_takeLetters_108 ⟨rfl, hy.s⟩
theorem con_X4_takeLetters (l : Launch) (G : GE) (h : Mem) (v0 : Nat) {P : Mem → Prop} (hy : OK (f_X4_takeLetters h v0) P) : Con l G yX4_takeLetters cX4_takeLetters 1 none rm_X4_takeLetters [vR v0] h (pmV P) := Con.of (by decide) (Nat.le_of_ble_eq_true rfl) (fun X hX hr hN => w_X4_takeLetters hX hN hr h v0 hy)
/-! X4_placeOfWord -/
theorem dX4_placeOfWord_0 : decode cX4_placeOfWord 0 = .ok (.iconst 0, 1) := by decide +kernel
theorem dX4_placeOfWord_1 : decode cX4_placeOfWord 1 = .ok (.istore_n 3, 1) := by decide +kernel
theorem dX4_placeOfWord_2 : decode cX4_placeOfWord 2 = .ok (.iload_n 3, 1) := by decide +kernel
theorem dX4_placeOfWord_3 : decode cX4_placeOfWord 3 = .ok (.iload_n 2, 1) := by decide +kernel
theorem dX4_placeOfWord_4 : decode cX4_placeOfWord 4 = .ok (.if_icmp .ge 22, 3) := by decide +kernel
theorem dX4_placeOfWord_7 : decode cX4_placeOfWord 7 = .ok (.aload_n 1, 1) := by decide +kernel
theorem dX4_placeOfWord_8 : decode cX4_placeOfWord 8 = .ok (.iload_n 3, 1) := by decide +kernel
theorem dX4_placeOfWord_9 : decode cX4_placeOfWord 9 = .ok (.laload, 1) := by decide +kernel
theorem dX4_placeOfWord_10 : decode cX4_placeOfWord 10 = .ok (.aload_n 0, 1) := by decide +kernel
theorem dX4_placeOfWord_11 : decode cX4_placeOfWord 11 = .ok (.getfield 245, 3) := by decide +kernel
theorem dX4_placeOfWord_14 : decode cX4_placeOfWord 14 = .ok (.lcmp, 1) := by decide +kernel
theorem dX4_placeOfWord_15 : decode cX4_placeOfWord 15 = .ok (.ifCond .ne 5, 3) := by decide +kernel
theorem dX4_placeOfWord_18 : decode cX4_placeOfWord 18 = .ok (.iload_n 3, 1) := by decide +kernel
theorem dX4_placeOfWord_19 : decode cX4_placeOfWord 19 = .ok (.ireturn, 1) := by decide +kernel
theorem dX4_placeOfWord_20 : decode cX4_placeOfWord 20 = .ok (.iinc 3 1, 3) := by decide +kernel
theorem dX4_placeOfWord_23 : decode cX4_placeOfWord 23 = .ok (.goto (-21), 3) := by decide +kernel
theorem dX4_placeOfWord_26 : decode cX4_placeOfWord 26 = .ok (.iconst (-1), 1) := by decide +kernel
theorem dX4_placeOfWord_27 : decode cX4_placeOfWord 27 = .ok (.ireturn, 1) := by decide +kernel
abbrev rm_X4_placeOfWord : Room := { frames := 0, cells := 0, slots := 0, locals := 0 }
def b_X4_placeOfWord_2 (h : Mem) (v0 : Nat) (v1 : Nat) (v2 : Int32) (v3 : Int32) : Option (Int32 ⊕ (Int32 ⊕ Unit)) :=
  (if v2 ≤ v3 then some (.inr (.inr ())) else (aL h v1 v3).bind fun x1 => (gL h v0 12 3).bind fun x2 => (if (lg_cmp x1 x2) = 0 then some (.inr (.inl v3)) else some (.inl (v3 + 1))))
set_option maxRecDepth 100000 in
set_option maxHeartbeats 4000000 in
theorem wb_X4_placeOfWord_2 {G : GE} {X : CX} {l : Launch} (hX : Ok G X cX4_placeOfWord RX4) (hN : xn X = 4) (h : Mem) {P0 : Int32 → Prop} (hr : Rt G X l yX4_placeOfWord (some .int) rm_X4_placeOfWord (ppI h P0))  (v0 : Nat) (v1 : Nat) (v2 : Int32) {P : (Int32 ⊕ (Int32 ⊕ Unit)) → Prop} (hc : ∀ s, P (.inl s) → AW G X 2 [(0, vR v0), (1, vR v1), (2, vI v2), (3, vI s)] [] h 0 0) (he0 : ∀ e, P (.inr (.inl e)) → AW G X 18 [(3, vI e)] [] h 0 0) (he1 : ∀ e, P (.inr (.inr e)) → AW G X 26 [] [] h 0 0) (v3 : Int32) (hy : OK (b_X4_placeOfWord_2 h v0 v1 v2 v3) P) : AW G X 2 [(0, vR v0), (1, vR v1), (2, vI v2), (3, vI v3)] [] h 0 0 := by
  unfold b_X4_placeOfWord_2 at hy
  refine aw_iloadn (pc := 2) hX 3 rfl dX4_placeOfWord_2 ?_
  refine aw_iloadn (pc := 3) hX 2 rfl dX4_placeOfWord_3 ?_
  refine aw_ic_ge (pc := 4) hX 26 (by decide) dX4_placeOfWord_4 (fun hc9 => ?_) (fun hc9 => ?_)
  · have hy := hy.t hc9
    refine AW.sub [] rfl ?_
    exact he1 () hy.s
  · have hy := hy.f hc9
    refine aw_aloadn (pc := 7) hX 1 rfl dX4_placeOfWord_7 ?_
    refine aw_iloadn (pc := 8) hX 3 rfl dX4_placeOfWord_8 ?_
    refine aw_aL (pc := 9) hX hy dX4_placeOfWord_9 (fun x1 hy => ?_)
    refine aw_aloadn (pc := 10) hX 0 rfl dX4_placeOfWord_10 ?_
    refine aw_gL (pc := 11) hX hy fl_X4_245 (fun _ _ => rfl) dX4_placeOfWord_11 (fun x2 hy => ?_)
    refine aw_lcmp (pc := 14) hX dX4_placeOfWord_14 ?_
    refine aw_if_ne (pc := 15) hX 20 (by decide) dX4_placeOfWord_15 (fun hc9 => ?_) (fun hc9 => ?_)
    · have hy := hy.f hc9
      refine aw_iinc (pc := 20) hX 1 (by decide) 3 rfl [(3, vI (v3 + 1)), (0, vR v0), (1, vR v1), (2, vI v2)] rfl (lt_n hN (by decide)) dX4_placeOfWord_20 ?_
      refine aw_goto (pc := 23) hX 2 (by decide) dX4_placeOfWord_23 ?_
      refine AW.sub [1, 2, 3, 0] rfl ?_
      exact hc (v3 + 1) hy.s
    · have hy := hy.t hc9
      refine AW.sub [3] rfl ?_
      exact he0 v3 hy.s
theorem wl_X4_placeOfWord_2 {G : GE} {X : CX} {l : Launch} (hX : Ok G X cX4_placeOfWord RX4) (hN : xn X = 4) (h : Mem) {P0 : Int32 → Prop} (hr : Rt G X l yX4_placeOfWord (some .int) rm_X4_placeOfWord (ppI h P0)) (v0 : Nat) (v1 : Nat) (v2 : Int32) {P : (Int32 ⊕ Unit) → Prop} (he0 : ∀ e, P (.inl e) → AW G X 18 [(3, vI e)] [] h 0 0) (he1 : ∀ e, P (.inr e) → AW G X 26 [] [] h 0 0) : ∀ (n : Nat) (s : Int32), OK (iter (fun (s : Int32) => b_X4_placeOfWord_2 h v0 v1 v2 s) n s) P → AW G X 2 [(0, vR v0), (1, vR v1), (2, vI v2), (3, vI s)] [] h 0 0 := by
  intro n
  induction n with
  | zero => exact fun s hy => hy.it0.elim
  | succ n ih =>
    intro s hy
    exact wb_X4_placeOfWord_2 hX hN h hr v0 v1 v2 (fun s hs => ih s hs) (fun e hs => he0 e hs) (fun e hs => he1 e hs) s hy.it
def f_X4_placeOfWord (h : Mem) (v0 : Nat) (v1 : Nat) (v2 : Int32) : Option Int32 :=
  (ck h v0 3).bind fun _ => (iter (fun (s : Int32) => b_X4_placeOfWord_2 h v0 v1 v2 s) FU 0).bind (Sum.elim (fun e4 => some e4) (fun e5 => some (-1)))
set_option maxRecDepth 100000 in
set_option maxHeartbeats 4000000 in
theorem w_X4_placeOfWord {G : GE} {X : CX} {l : Launch} (hX : Ok G X cX4_placeOfWord RX4) (hN : xn X = 4) (h : Mem) {P : Int32 → Prop} (hr : Rt G X l yX4_placeOfWord (some .int) rm_X4_placeOfWord (ppI h P)) (v0 : Nat) (v1 : Nat) (v2 : Int32) (hy : OK (f_X4_placeOfWord h v0 v1 v2) P) : AW G X 0 [(0, vR v0), (1, vR v1), (2, vI v2)] [] h 0 0 := by
  unfold f_X4_placeOfWord at hy
  have hkd := hy.kd
  have hy := hy.kb
  refine aw_iconst (pc := 0) hX 0 (by decide) dX4_placeOfWord_0 ?_
  refine aw_istoren (pc := 1) hX [(3, vI 0), (0, vR v0), (1, vR v1), (2, vI v2)] rfl (lt_n hN (by decide)) dX4_placeOfWord_1 ?_
  refine AW.sub [1, 2, 3, 0] rfl ?_
  refine wl_X4_placeOfWord_2 hX hN _ hr v0 v1 v2 ?_ ?_ FU 0 hy.bd
  · intro e4 hy
    refine aw_iloadn (pc := 18) hX 0 rfl dX4_placeOfWord_18 ?_
    exact aw_iret (pc := 19) hX hr (by decide) (by decide) dX4_placeOfWord_19 ⟨rfl, _, rfl, hy.s⟩
  · intro e5 hy
    refine aw_iconst (pc := 26) hX (-1) (by decide) dX4_placeOfWord_26 ?_
    exact aw_iret (pc := 27) hX hr (by decide) (by decide) dX4_placeOfWord_27 ⟨rfl, _, rfl, hy.s⟩
theorem con_X4_placeOfWord (l : Launch) (G : GE) (h : Mem) (v0 : Nat) (v1 : Nat) (v2 : Int32) {P : Int32 → Prop} (hy : OK (f_X4_placeOfWord h v0 v1 v2) P) : Con l G yX4_placeOfWord cX4_placeOfWord 4 (some .int) rm_X4_placeOfWord [vR v0, vR v1, vI v2] h (ppI h P) := Con.of (by decide) (Nat.le_of_ble_eq_true rfl) (fun X hX hr hN => w_X4_placeOfWord hX hN h hr v0 v1 v2 hy)
/-! X4_takeDigits -/
theorem dX4_takeDigits_0 : decode cX4_takeDigits 0 = .ok (.aload_n 0, 1) := by decide +kernel
theorem dX4_takeDigits_1 : decode cX4_takeDigits 1 = .ok (.iconst 0, 1) := by decide +kernel
theorem dX4_takeDigits_2 : decode cX4_takeDigits 2 = .ok (.putfield 235, 3) := by decide +kernel
theorem dX4_takeDigits_5 : decode cX4_takeDigits 5 = .ok (.aload_n 0, 1) := by decide +kernel
theorem dX4_takeDigits_6 : decode cX4_takeDigits 6 = .ok (.getfield 130, 3) := by decide +kernel
theorem dX4_takeDigits_9 : decode cX4_takeDigits 9 = .ok (.aload_n 0, 1) := by decide +kernel
theorem dX4_takeDigits_10 : decode cX4_takeDigits 10 = .ok (.getfield 92, 3) := by decide +kernel
theorem dX4_takeDigits_13 : decode cX4_takeDigits 13 = .ok (.if_icmp .ge 68, 3) := by decide +kernel
theorem dX4_takeDigits_16 : decode cX4_takeDigits 16 = .ok (.aload_n 0, 1) := by decide +kernel
theorem dX4_takeDigits_17 : decode cX4_takeDigits 17 = .ok (.getfield 13, 3) := by decide +kernel
theorem dX4_takeDigits_20 : decode cX4_takeDigits 20 = .ok (.aload_n 0, 1) := by decide +kernel
theorem dX4_takeDigits_21 : decode cX4_takeDigits 21 = .ok (.getfield 130, 3) := by decide +kernel
theorem dX4_takeDigits_24 : decode cX4_takeDigits 24 = .ok (.iaload, 1) := by decide +kernel
theorem dX4_takeDigits_25 : decode cX4_takeDigits 25 = .ok (.bipush 48, 2) := by decide +kernel
theorem dX4_takeDigits_27 : decode cX4_takeDigits 27 = .ok (.if_icmp .lt 54, 3) := by decide +kernel
theorem dX4_takeDigits_30 : decode cX4_takeDigits 30 = .ok (.aload_n 0, 1) := by decide +kernel
theorem dX4_takeDigits_31 : decode cX4_takeDigits 31 = .ok (.getfield 13, 3) := by decide +kernel
theorem dX4_takeDigits_34 : decode cX4_takeDigits 34 = .ok (.aload_n 0, 1) := by decide +kernel
theorem dX4_takeDigits_35 : decode cX4_takeDigits 35 = .ok (.getfield 130, 3) := by decide +kernel
theorem dX4_takeDigits_38 : decode cX4_takeDigits 38 = .ok (.iaload, 1) := by decide +kernel
theorem dX4_takeDigits_39 : decode cX4_takeDigits 39 = .ok (.bipush 57, 2) := by decide +kernel
theorem dX4_takeDigits_41 : decode cX4_takeDigits 41 = .ok (.if_icmp .gt 40, 3) := by decide +kernel
theorem dX4_takeDigits_44 : decode cX4_takeDigits 44 = .ok (.aload_n 0, 1) := by decide +kernel
theorem dX4_takeDigits_45 : decode cX4_takeDigits 45 = .ok (.aload_n 0, 1) := by decide +kernel
theorem dX4_takeDigits_46 : decode cX4_takeDigits 46 = .ok (.getfield 235, 3) := by decide +kernel
theorem dX4_takeDigits_49 : decode cX4_takeDigits 49 = .ok (.bipush 10, 2) := by decide +kernel
theorem dX4_takeDigits_51 : decode cX4_takeDigits 51 = .ok (.imul, 1) := by decide +kernel
theorem dX4_takeDigits_52 : decode cX4_takeDigits 52 = .ok (.aload_n 0, 1) := by decide +kernel
theorem dX4_takeDigits_53 : decode cX4_takeDigits 53 = .ok (.getfield 13, 3) := by decide +kernel
theorem dX4_takeDigits_56 : decode cX4_takeDigits 56 = .ok (.aload_n 0, 1) := by decide +kernel
theorem dX4_takeDigits_57 : decode cX4_takeDigits 57 = .ok (.getfield 130, 3) := by decide +kernel
theorem dX4_takeDigits_60 : decode cX4_takeDigits 60 = .ok (.iaload, 1) := by decide +kernel
theorem dX4_takeDigits_61 : decode cX4_takeDigits 61 = .ok (.bipush 48, 2) := by decide +kernel
theorem dX4_takeDigits_63 : decode cX4_takeDigits 63 = .ok (.isub, 1) := by decide +kernel
theorem dX4_takeDigits_64 : decode cX4_takeDigits 64 = .ok (.iadd, 1) := by decide +kernel
theorem dX4_takeDigits_65 : decode cX4_takeDigits 65 = .ok (.putfield 235, 3) := by decide +kernel
theorem dX4_takeDigits_68 : decode cX4_takeDigits 68 = .ok (.aload_n 0, 1) := by decide +kernel
theorem dX4_takeDigits_69 : decode cX4_takeDigits 69 = .ok (.dup, 1) := by decide +kernel
theorem dX4_takeDigits_70 : decode cX4_takeDigits 70 = .ok (.getfield 130, 3) := by decide +kernel
theorem dX4_takeDigits_73 : decode cX4_takeDigits 73 = .ok (.iconst 1, 1) := by decide +kernel
theorem dX4_takeDigits_74 : decode cX4_takeDigits 74 = .ok (.iadd, 1) := by decide +kernel
theorem dX4_takeDigits_75 : decode cX4_takeDigits 75 = .ok (.putfield 130, 3) := by decide +kernel
theorem dX4_takeDigits_78 : decode cX4_takeDigits 78 = .ok (.goto (-73), 3) := by decide +kernel
theorem dX4_takeDigits_81 : decode cX4_takeDigits 81 = .ok (.aload_n 0, 1) := by decide +kernel
theorem dX4_takeDigits_82 : decode cX4_takeDigits 82 = .ok (.aload_n 0, 1) := by decide +kernel
theorem dX4_takeDigits_83 : decode cX4_takeDigits 83 = .ok (.getfield 130, 3) := by decide +kernel
theorem dX4_takeDigits_86 : decode cX4_takeDigits 86 = .ok (.aload_n 0, 1) := by decide +kernel
theorem dX4_takeDigits_87 : decode cX4_takeDigits 87 = .ok (.getfield 136, 3) := by decide +kernel
theorem dX4_takeDigits_90 : decode cX4_takeDigits 90 = .ok (.isub, 1) := by decide +kernel
theorem dX4_takeDigits_91 : decode cX4_takeDigits 91 = .ok (.iconst 3, 1) := by decide +kernel
theorem dX4_takeDigits_92 : decode cX4_takeDigits 92 = .ok (.if_icmp .gt 7, 3) := by decide +kernel
theorem dX4_takeDigits_95 : decode cX4_takeDigits 95 = .ok (.iconst 2, 1) := by decide +kernel
theorem dX4_takeDigits_96 : decode cX4_takeDigits 96 = .ok (.goto 4, 3) := by decide +kernel
theorem dX4_takeDigits_99 : decode cX4_takeDigits 99 = .ok (.iconst 4, 1) := by decide +kernel
theorem dX4_takeDigits_100 : decode cX4_takeDigits 100 = .ok (.putfield 99, 3) := by decide +kernel
theorem dX4_takeDigits_103 : decode cX4_takeDigits 103 = .ok (.return_, 1) := by decide +kernel
abbrev rm_X4_takeDigits : Room := { frames := 0, cells := 0, slots := 0, locals := 0 }
def b_X4_takeDigits_5 (h : Mem) (v0 : Nat) : Option (Mem ⊕ Mem) :=
  (gI h v0 10 3).bind fun x2 => (gI h v0 8 3).bind fun x3 => (if x3 ≤ x2 then some (.inr h) else (gR h v0 0 3).bind fun r4 => (gI h v0 10 3).bind fun x5 => (aI h r4 x5).bind fun x6 => (if x6 < 48 then some (.inr h) else (gR h v0 0 3).bind fun r7 => (gI h v0 10 3).bind fun x8 => (aI h r7 x8).bind fun x9 => (if 57 < x9 then some (.inr h) else (gI h v0 14 3).bind fun x10 => (gR h v0 0 3).bind fun r11 => (gI h v0 10 3).bind fun x12 => (aI h r11 x12).bind fun x13 => (pI h v0 14 3 ((x10 * 10) + (x13 - 48))).bind fun h14 => (gI h14 v0 10 3).bind fun x15 => (pI h14 v0 10 3 (x15 + 1)).bind fun h16 => some (.inl h16))))
set_option maxRecDepth 100000 in
set_option maxHeartbeats 4000000 in
theorem wb_X4_takeDigits_5 {G : GE} {X : CX} {l : Launch} (hX : Ok G X cX4_takeDigits RX4) (hN : xn X = 1) {P0 : Mem → Prop} (hr : Rt G X l yX4_takeDigits none rm_X4_takeDigits (pmV P0))  (v0 : Nat) {P : (Mem ⊕ Mem) → Prop} (hc : ∀ s, P (.inl s) → AW G X 5 [(0, vR v0)] [] s 0 0) (he0 : ∀ e, P (.inr e) → AW G X 81 [(0, vR v0)] [] e 0 0) (h : Mem) (hy : OK (b_X4_takeDigits_5 h v0) P) : AW G X 5 [(0, vR v0)] [] h 0 0 := by
  unfold b_X4_takeDigits_5 at hy
  refine aw_aloadn (pc := 5) hX 0 rfl dX4_takeDigits_5 ?_
  refine aw_gI (pc := 6) hX hy fl_X4_130 (fun _ _ => rfl) dX4_takeDigits_6 (fun x2 hy => ?_)
  refine aw_aloadn (pc := 9) hX 0 rfl dX4_takeDigits_9 ?_
  refine aw_gI (pc := 10) hX hy fl_X4_92 (fun _ _ => rfl) dX4_takeDigits_10 (fun x3 hy => ?_)
  refine aw_ic_ge (pc := 13) hX 81 (by decide) dX4_takeDigits_13 (fun hc9 => ?_) (fun hc9 => ?_)
  · have hy := hy.t hc9
    exact he0 h hy.s
  · have hy := hy.f hc9
    refine aw_aloadn (pc := 16) hX 0 rfl dX4_takeDigits_16 ?_
    refine aw_gR (pc := 17) hX hy fl_X4_13 (fun _ _ => rfl) dX4_takeDigits_17 (fun r4 hy => ?_)
    refine aw_aloadn (pc := 20) hX 0 rfl dX4_takeDigits_20 ?_
    refine aw_gI (pc := 21) hX hy fl_X4_130 (fun _ _ => rfl) dX4_takeDigits_21 (fun x5 hy => ?_)
    refine aw_aI (pc := 24) hX hy dX4_takeDigits_24 (fun x6 hy => ?_)
    refine aw_bipush (pc := 25) hX 48 (by decide) dX4_takeDigits_25 ?_
    refine aw_ic_lt (pc := 27) hX 81 (by decide) dX4_takeDigits_27 (fun hc9 => ?_) (fun hc9 => ?_)
    · have hy := hy.t hc9
      exact he0 h hy.s
    · have hy := hy.f hc9
      refine aw_aloadn (pc := 30) hX 0 rfl dX4_takeDigits_30 ?_
      refine aw_gR (pc := 31) hX hy fl_X4_13 (fun _ _ => rfl) dX4_takeDigits_31 (fun r7 hy => ?_)
      refine aw_aloadn (pc := 34) hX 0 rfl dX4_takeDigits_34 ?_
      refine aw_gI (pc := 35) hX hy fl_X4_130 (fun _ _ => rfl) dX4_takeDigits_35 (fun x8 hy => ?_)
      refine aw_aI (pc := 38) hX hy dX4_takeDigits_38 (fun x9 hy => ?_)
      refine aw_bipush (pc := 39) hX 57 (by decide) dX4_takeDigits_39 ?_
      refine aw_ic_gt (pc := 41) hX 81 (by decide) dX4_takeDigits_41 (fun hc9 => ?_) (fun hc9 => ?_)
      · have hy := hy.t hc9
        exact he0 h hy.s
      · have hy := hy.f hc9
        refine aw_aloadn (pc := 44) hX 0 rfl dX4_takeDigits_44 ?_
        refine aw_aloadn (pc := 45) hX 0 rfl dX4_takeDigits_45 ?_
        refine aw_gI (pc := 46) hX hy fl_X4_235 (fun _ _ => rfl) dX4_takeDigits_46 (fun x10 hy => ?_)
        refine aw_bipush (pc := 49) hX 10 (by decide) dX4_takeDigits_49 ?_
        refine aw_imul (pc := 51) hX dX4_takeDigits_51 ?_
        refine aw_aloadn (pc := 52) hX 0 rfl dX4_takeDigits_52 ?_
        refine aw_gR (pc := 53) hX hy fl_X4_13 (fun _ _ => rfl) dX4_takeDigits_53 (fun r11 hy => ?_)
        refine aw_aloadn (pc := 56) hX 0 rfl dX4_takeDigits_56 ?_
        refine aw_gI (pc := 57) hX hy fl_X4_130 (fun _ _ => rfl) dX4_takeDigits_57 (fun x12 hy => ?_)
        refine aw_aI (pc := 60) hX hy dX4_takeDigits_60 (fun x13 hy => ?_)
        refine aw_bipush (pc := 61) hX 48 (by decide) dX4_takeDigits_61 ?_
        refine aw_isub (pc := 63) hX dX4_takeDigits_63 ?_
        refine aw_iadd (pc := 64) hX dX4_takeDigits_64 ?_
        refine aw_pI (pc := 65) hX hy fl_X4_235 rfl (Or.inl rfl) dX4_takeDigits_65 (fun h14 hy => ?_)
        refine aw_aloadn (pc := 68) hX 0 rfl dX4_takeDigits_68 ?_
        refine aw_dup (pc := 69) hX rfl dX4_takeDigits_69 ?_
        refine aw_gI (pc := 70) hX hy fl_X4_130 (fun _ _ => rfl) dX4_takeDigits_70 (fun x15 hy => ?_)
        refine aw_iconst (pc := 73) hX 1 (by decide) dX4_takeDigits_73 ?_
        refine aw_iadd (pc := 74) hX dX4_takeDigits_74 ?_
        refine aw_pI (pc := 75) hX hy fl_X4_130 rfl (Or.inl rfl) dX4_takeDigits_75 (fun h16 hy => ?_)
        refine aw_goto (pc := 78) hX 5 (by decide) dX4_takeDigits_78 ?_
        exact hc h16 hy.s
theorem wl_X4_takeDigits_5 {G : GE} {X : CX} {l : Launch} (hX : Ok G X cX4_takeDigits RX4) (hN : xn X = 1) {P0 : Mem → Prop} (hr : Rt G X l yX4_takeDigits none rm_X4_takeDigits (pmV P0)) (v0 : Nat) {P : (Mem) → Prop} (he0 : ∀ e, P e → AW G X 81 [(0, vR v0)] [] e 0 0) : ∀ (n : Nat) (s : Mem), OK (iter (fun (s : Mem) => b_X4_takeDigits_5 s v0) n s) P → AW G X 5 [(0, vR v0)] [] s 0 0 := by
  intro n
  induction n with
  | zero => exact fun s hy => hy.it0.elim
  | succ n ih =>
    intro s hy
    exact wb_X4_takeDigits_5 hX hN hr v0 (fun s hs => ih s hs) (fun e hs => he0 e hs) s hy.it
def f_X4_takeDigits (h : Mem) (v0 : Nat) : Option Mem :=
  (ck h v0 3).bind fun _ => (pI h v0 14 3 0).bind fun h1 => (iter (fun (s : Mem) => b_X4_takeDigits_5 s v0) FU h1).bind (fun q17 => (gI q17 v0 10 3).bind fun x18 => (gI q17 v0 9 3).bind fun x19 => (if 3 < (x18 - x19) then (pI q17 v0 11 3 4).bind fun h20 => some h20 else (pI q17 v0 11 3 2).bind fun h21 => some h21))
set_option maxRecDepth 100000 in
set_option maxHeartbeats 4000000 in
theorem w_X4_takeDigits {G : GE} {X : CX} {l : Launch} (hX : Ok G X cX4_takeDigits RX4) (hN : xn X = 1) {P : Mem → Prop} (hr : Rt G X l yX4_takeDigits none rm_X4_takeDigits (pmV P)) (h : Mem) (v0 : Nat) (hy : OK (f_X4_takeDigits h v0) P) : AW G X 0 [(0, vR v0)] [] h 0 0 := by
  unfold f_X4_takeDigits at hy
  have hkd := hy.kd
  have hy := hy.kb
  refine aw_aloadn (pc := 0) hX 0 rfl dX4_takeDigits_0 ?_
  refine aw_iconst (pc := 1) hX 0 (by decide) dX4_takeDigits_1 ?_
  refine aw_pI (pc := 2) hX hy fl_X4_235 rfl (Or.inl rfl) dX4_takeDigits_2 (fun h1 hy => ?_)
  refine wl_X4_takeDigits_5 hX hN hr v0 ?_ FU h1 hy.bd
  · intro q17 hy
    refine aw_aloadn (pc := 81) hX 0 rfl dX4_takeDigits_81 ?_
    refine aw_aloadn (pc := 82) hX 0 rfl dX4_takeDigits_82 ?_
    refine aw_gI (pc := 83) hX hy fl_X4_130 (fun _ _ => rfl) dX4_takeDigits_83 (fun x18 hy => ?_)
    refine aw_aloadn (pc := 86) hX 0 rfl dX4_takeDigits_86 ?_
    refine aw_gI (pc := 87) hX hy fl_X4_136 (fun _ _ => rfl) dX4_takeDigits_87 (fun x19 hy => ?_)
    refine aw_isub (pc := 90) hX dX4_takeDigits_90 ?_
    refine aw_iconst (pc := 91) hX 3 (by decide) dX4_takeDigits_91 ?_
    refine aw_ic_gt (pc := 92) hX 99 (by decide) dX4_takeDigits_92 (fun hc9 => ?_) (fun hc9 => ?_)
    · have hy := hy.t hc9
      refine aw_iconst (pc := 99) hX 4 (by decide) dX4_takeDigits_99 ?_
      refine aw_pI (pc := 100) hX hy fl_X4_99 rfl (Or.inl rfl) dX4_takeDigits_100 (fun h20 hy => ?_)
      exact aw_vret (pc := 103) hX hr (by decide) (by decide) dX4_takeDigits_103 ⟨rfl, hy.s⟩
    · have hy := hy.f hc9
      refine aw_iconst (pc := 95) hX 2 (by decide) dX4_takeDigits_95 ?_
      refine aw_goto (pc := 96) hX 100 (by decide) dX4_takeDigits_96 ?_
      refine aw_pI (pc := 100) hX hy fl_X4_99 rfl (Or.inl rfl) dX4_takeDigits_100 (fun h21 hy => ?_)
      exact aw_vret (pc := 103) hX hr (by decide) (by decide) dX4_takeDigits_103 ⟨rfl, hy.s⟩
theorem con_X4_takeDigits (l : Launch) (G : GE) (h : Mem) (v0 : Nat) {P : Mem → Prop} (hy : OK (f_X4_takeDigits h v0) P) : Con l G yX4_takeDigits cX4_takeDigits 1 none rm_X4_takeDigits [vR v0] h (pmV P) := Con.of (by decide) (Nat.le_of_ble_eq_true rfl) (fun X hX hr hN => w_X4_takeDigits hX hN hr h v0 hy)
/-! X4_step -/
theorem dX4_step_0 : decode cX4_step 0 = .ok (.aload_n 0, 1) := by decide +kernel
theorem dX4_step_1 : decode cX4_step 1 = .ok (.aload_n 0, 1) := by decide +kernel
theorem dX4_step_2 : decode cX4_step 2 = .ok (.getfield 130, 3) := by decide +kernel
theorem dX4_step_5 : decode cX4_step 5 = .ok (.putfield 136, 3) := by decide +kernel
theorem dX4_step_8 : decode cX4_step 8 = .ok (.aload_n 0, 1) := by decide +kernel
theorem dX4_step_9 : decode cX4_step 9 = .ok (.getfield 136, 3) := by decide +kernel
theorem dX4_step_12 : decode cX4_step 12 = .ok (.aload_n 0, 1) := by decide +kernel
theorem dX4_step_13 : decode cX4_step 13 = .ok (.getfield 92, 3) := by decide +kernel
theorem dX4_step_16 : decode cX4_step 16 = .ok (.if_icmp .ge 30, 3) := by decide +kernel
theorem dX4_step_19 : decode cX4_step 19 = .ok (.aload_n 0, 1) := by decide +kernel
theorem dX4_step_20 : decode cX4_step 20 = .ok (.getfield 13, 3) := by decide +kernel
theorem dX4_step_23 : decode cX4_step 23 = .ok (.aload_n 0, 1) := by decide +kernel
theorem dX4_step_24 : decode cX4_step 24 = .ok (.getfield 136, 3) := by decide +kernel
theorem dX4_step_27 : decode cX4_step 27 = .ok (.iaload, 1) := by decide +kernel
theorem dX4_step_28 : decode cX4_step 28 = .ok (.bipush 32, 2) := by decide +kernel
theorem dX4_step_30 : decode cX4_step 30 = .ok (.if_icmp .ne 16, 3) := by decide +kernel
theorem dX4_step_33 : decode cX4_step 33 = .ok (.aload_n 0, 1) := by decide +kernel
theorem dX4_step_34 : decode cX4_step 34 = .ok (.dup, 1) := by decide +kernel
theorem dX4_step_35 : decode cX4_step 35 = .ok (.getfield 136, 3) := by decide +kernel
theorem dX4_step_38 : decode cX4_step 38 = .ok (.iconst 1, 1) := by decide +kernel
theorem dX4_step_39 : decode cX4_step 39 = .ok (.iadd, 1) := by decide +kernel
theorem dX4_step_40 : decode cX4_step 40 = .ok (.putfield 136, 3) := by decide +kernel
theorem dX4_step_43 : decode cX4_step 43 = .ok (.goto (-35), 3) := by decide +kernel
theorem dX4_step_46 : decode cX4_step 46 = .ok (.aload_n 0, 1) := by decide +kernel
theorem dX4_step_47 : decode cX4_step 47 = .ok (.aload_n 0, 1) := by decide +kernel
theorem dX4_step_48 : decode cX4_step 48 = .ok (.getfield 136, 3) := by decide +kernel
theorem dX4_step_51 : decode cX4_step 51 = .ok (.putfield 130, 3) := by decide +kernel
theorem dX4_step_54 : decode cX4_step 54 = .ok (.aload_n 0, 1) := by decide +kernel
theorem dX4_step_55 : decode cX4_step 55 = .ok (.getfield 136, 3) := by decide +kernel
theorem dX4_step_58 : decode cX4_step 58 = .ok (.aload_n 0, 1) := by decide +kernel
theorem dX4_step_59 : decode cX4_step 59 = .ok (.getfield 92, 3) := by decide +kernel
theorem dX4_step_62 : decode cX4_step 62 = .ok (.if_icmp .lt 11, 3) := by decide +kernel
theorem dX4_step_65 : decode cX4_step 65 = .ok (.aload_n 0, 1) := by decide +kernel
theorem dX4_step_66 : decode cX4_step 66 = .ok (.iconst 0, 1) := by decide +kernel
theorem dX4_step_67 : decode cX4_step 67 = .ok (.putfield 99, 3) := by decide +kernel
theorem dX4_step_70 : decode cX4_step 70 = .ok (.goto 120, 3) := by decide +kernel
theorem dX4_step_73 : decode cX4_step 73 = .ok (.aload_n 0, 1) := by decide +kernel
theorem dX4_step_74 : decode cX4_step 74 = .ok (.getfield 13, 3) := by decide +kernel
theorem dX4_step_77 : decode cX4_step 77 = .ok (.aload_n 0, 1) := by decide +kernel
theorem dX4_step_78 : decode cX4_step 78 = .ok (.getfield 136, 3) := by decide +kernel
theorem dX4_step_81 : decode cX4_step 81 = .ok (.iaload, 1) := by decide +kernel
theorem dX4_step_82 : decode cX4_step 82 = .ok (.bipush 97, 2) := by decide +kernel
theorem dX4_step_84 : decode cX4_step 84 = .ok (.if_icmp .lt 38, 3) := by decide +kernel
theorem dX4_step_87 : decode cX4_step 87 = .ok (.aload_n 0, 1) := by decide +kernel
theorem dX4_step_88 : decode cX4_step 88 = .ok (.getfield 13, 3) := by decide +kernel
theorem dX4_step_91 : decode cX4_step 91 = .ok (.aload_n 0, 1) := by decide +kernel
theorem dX4_step_92 : decode cX4_step 92 = .ok (.getfield 136, 3) := by decide +kernel
theorem dX4_step_95 : decode cX4_step 95 = .ok (.iaload, 1) := by decide +kernel
theorem dX4_step_96 : decode cX4_step 96 = .ok (.bipush 122, 2) := by decide +kernel
theorem dX4_step_98 : decode cX4_step 98 = .ok (.if_icmp .gt 24, 3) := by decide +kernel
theorem dX4_step_101 : decode cX4_step 101 = .ok (.aload_n 0, 1) := by decide +kernel
theorem dX4_step_102 : decode cX4_step 102 = .ok (.invokevirtual 249, 3) := by decide +kernel
theorem dX4_step_105 : decode cX4_step 105 = .ok (.aload_n 0, 1) := by decide +kernel
theorem dX4_step_106 : decode cX4_step 106 = .ok (.aload_n 0, 1) := by decide +kernel
theorem dX4_step_107 : decode cX4_step 107 = .ok (.aload_n 0, 1) := by decide +kernel
theorem dX4_step_108 : decode cX4_step 108 = .ok (.getfield 17, 3) := by decide +kernel
theorem dX4_step_111 : decode cX4_step 111 = .ok (.bipush 20, 2) := by decide +kernel
theorem dX4_step_113 : decode cX4_step 113 = .ok (.invokevirtual 241, 3) := by decide +kernel
theorem dX4_step_116 : decode cX4_step 116 = .ok (.putfield 138, 3) := by decide +kernel
theorem dX4_step_119 : decode cX4_step 119 = .ok (.goto 71, 3) := by decide +kernel
theorem dX4_step_122 : decode cX4_step 122 = .ok (.aload_n 0, 1) := by decide +kernel
theorem dX4_step_123 : decode cX4_step 123 = .ok (.getfield 13, 3) := by decide +kernel
theorem dX4_step_126 : decode cX4_step 126 = .ok (.aload_n 0, 1) := by decide +kernel
theorem dX4_step_127 : decode cX4_step 127 = .ok (.getfield 136, 3) := by decide +kernel
theorem dX4_step_130 : decode cX4_step 130 = .ok (.iaload, 1) := by decide +kernel
theorem dX4_step_131 : decode cX4_step 131 = .ok (.bipush 48, 2) := by decide +kernel
theorem dX4_step_133 : decode cX4_step 133 = .ok (.if_icmp .lt 24, 3) := by decide +kernel
theorem dX4_step_136 : decode cX4_step 136 = .ok (.aload_n 0, 1) := by decide +kernel
theorem dX4_step_137 : decode cX4_step 137 = .ok (.getfield 13, 3) := by decide +kernel
theorem dX4_step_140 : decode cX4_step 140 = .ok (.aload_n 0, 1) := by decide +kernel
theorem dX4_step_141 : decode cX4_step 141 = .ok (.getfield 136, 3) := by decide +kernel
theorem dX4_step_144 : decode cX4_step 144 = .ok (.iaload, 1) := by decide +kernel
theorem dX4_step_145 : decode cX4_step 145 = .ok (.bipush 57, 2) := by decide +kernel
theorem dX4_step_147 : decode cX4_step 147 = .ok (.if_icmp .gt 10, 3) := by decide +kernel
theorem dX4_step_150 : decode cX4_step 150 = .ok (.aload_n 0, 1) := by decide +kernel
theorem dX4_step_151 : decode cX4_step 151 = .ok (.invokevirtual 252, 3) := by decide +kernel
theorem dX4_step_154 : decode cX4_step 154 = .ok (.goto 36, 3) := by decide +kernel
theorem dX4_step_157 : decode cX4_step 157 = .ok (.aload_n 0, 1) := by decide +kernel
theorem dX4_step_158 : decode cX4_step 158 = .ok (.aload_n 0, 1) := by decide +kernel
theorem dX4_step_159 : decode cX4_step 159 = .ok (.getfield 13, 3) := by decide +kernel
theorem dX4_step_162 : decode cX4_step 162 = .ok (.aload_n 0, 1) := by decide +kernel
theorem dX4_step_163 : decode cX4_step 163 = .ok (.getfield 136, 3) := by decide +kernel
theorem dX4_step_166 : decode cX4_step 166 = .ok (.iaload, 1) := by decide +kernel
theorem dX4_step_167 : decode cX4_step 167 = .ok (.bipush 59, 2) := by decide +kernel
theorem dX4_step_169 : decode cX4_step 169 = .ok (.if_icmp .ne 7, 3) := by decide +kernel
theorem dX4_step_172 : decode cX4_step 172 = .ok (.iconst 3, 1) := by decide +kernel
theorem dX4_step_173 : decode cX4_step 173 = .ok (.goto 4, 3) := by decide +kernel
theorem dX4_step_176 : decode cX4_step 176 = .ok (.iconst 4, 1) := by decide +kernel
theorem dX4_step_177 : decode cX4_step 177 = .ok (.putfield 99, 3) := by decide +kernel
theorem dX4_step_180 : decode cX4_step 180 = .ok (.aload_n 0, 1) := by decide +kernel
theorem dX4_step_181 : decode cX4_step 181 = .ok (.dup, 1) := by decide +kernel
theorem dX4_step_182 : decode cX4_step 182 = .ok (.getfield 130, 3) := by decide +kernel
theorem dX4_step_185 : decode cX4_step 185 = .ok (.iconst 1, 1) := by decide +kernel
theorem dX4_step_186 : decode cX4_step 186 = .ok (.iadd, 1) := by decide +kernel
theorem dX4_step_187 : decode cX4_step 187 = .ok (.putfield 130, 3) := by decide +kernel
theorem dX4_step_190 : decode cX4_step 190 = .ok (.return_, 1) := by decide +kernel
abbrev rm_X4_step : Room := { frames := 1, cells := 0, slots := 0, locals := 23 }
def b_X4_step_8 (h : Mem) (v0 : Nat) : Option (Mem ⊕ Mem) :=
  (gI h v0 9 3).bind fun x3 => (gI h v0 8 3).bind fun x4 => (if x4 ≤ x3 then some (.inr h) else (gR h v0 0 3).bind fun r5 => (gI h v0 9 3).bind fun x6 => (aI h r5 x6).bind fun x7 => (if x7 = 32 then (gI h v0 9 3).bind fun x8 => (pI h v0 9 3 (x8 + 1)).bind fun h9 => some (.inl h9) else some (.inr h)))
set_option maxRecDepth 100000 in
set_option maxHeartbeats 4000000 in
theorem wb_X4_step_8 {G : GE} {X : CX} {l : Launch} (hX : Ok G X cX4_step RX4) (hN : xn X = 1) {P0 : Mem → Prop} (hr : Rt G X l yX4_step none rm_X4_step (pmV P0))  (v0 : Nat) {P : (Mem ⊕ Mem) → Prop} (hc : ∀ s, P (.inl s) → AW G X 8 [(0, vR v0)] [] s 0 0) (he0 : ∀ e, P (.inr e) → AW G X 46 [(0, vR v0)] [] e 0 0) (h : Mem) (hy : OK (b_X4_step_8 h v0) P) : AW G X 8 [(0, vR v0)] [] h 0 0 := by
  unfold b_X4_step_8 at hy
  refine aw_aloadn (pc := 8) hX 0 rfl dX4_step_8 ?_
  refine aw_gI (pc := 9) hX hy fl_X4_136 (fun _ _ => rfl) dX4_step_9 (fun x3 hy => ?_)
  refine aw_aloadn (pc := 12) hX 0 rfl dX4_step_12 ?_
  refine aw_gI (pc := 13) hX hy fl_X4_92 (fun _ _ => rfl) dX4_step_13 (fun x4 hy => ?_)
  refine aw_ic_ge (pc := 16) hX 46 (by decide) dX4_step_16 (fun hc9 => ?_) (fun hc9 => ?_)
  · have hy := hy.t hc9
    exact he0 h hy.s
  · have hy := hy.f hc9
    refine aw_aloadn (pc := 19) hX 0 rfl dX4_step_19 ?_
    refine aw_gR (pc := 20) hX hy fl_X4_13 (fun _ _ => rfl) dX4_step_20 (fun r5 hy => ?_)
    refine aw_aloadn (pc := 23) hX 0 rfl dX4_step_23 ?_
    refine aw_gI (pc := 24) hX hy fl_X4_136 (fun _ _ => rfl) dX4_step_24 (fun x6 hy => ?_)
    refine aw_aI (pc := 27) hX hy dX4_step_27 (fun x7 hy => ?_)
    refine aw_bipush (pc := 28) hX 32 (by decide) dX4_step_28 ?_
    refine aw_ic_ne (pc := 30) hX 46 (by decide) dX4_step_30 (fun hc9 => ?_) (fun hc9 => ?_)
    · have hy := hy.f hc9
      exact he0 h hy.s
    · have hy := hy.t hc9
      refine aw_aloadn (pc := 33) hX 0 rfl dX4_step_33 ?_
      refine aw_dup (pc := 34) hX rfl dX4_step_34 ?_
      refine aw_gI (pc := 35) hX hy fl_X4_136 (fun _ _ => rfl) dX4_step_35 (fun x8 hy => ?_)
      refine aw_iconst (pc := 38) hX 1 (by decide) dX4_step_38 ?_
      refine aw_iadd (pc := 39) hX dX4_step_39 ?_
      refine aw_pI (pc := 40) hX hy fl_X4_136 rfl (Or.inl rfl) dX4_step_40 (fun h9 hy => ?_)
      refine aw_goto (pc := 43) hX 8 (by decide) dX4_step_43 ?_
      exact hc h9 hy.s
theorem wl_X4_step_8 {G : GE} {X : CX} {l : Launch} (hX : Ok G X cX4_step RX4) (hN : xn X = 1) {P0 : Mem → Prop} (hr : Rt G X l yX4_step none rm_X4_step (pmV P0)) (v0 : Nat) {P : (Mem) → Prop} (he0 : ∀ e, P e → AW G X 46 [(0, vR v0)] [] e 0 0) : ∀ (n : Nat) (s : Mem), OK (iter (fun (s : Mem) => b_X4_step_8 s v0) n s) P → AW G X 8 [(0, vR v0)] [] s 0 0 := by
  intro n
  induction n with
  | zero => exact fun s hy => hy.it0.elim
  | succ n ih =>
    intro s hy
    exact wb_X4_step_8 hX hN hr v0 (fun s hs => ih s hs) (fun e hs => he0 e hs) s hy.it
def f_X4_step_177 (h : Mem) (v0 : Nat) (s0 : Nat) (s1 : Int32) : Option Mem :=
  (pI h s0 11 3 s1).bind fun h24 => (gI h24 v0 10 3).bind fun x25 => (pI h24 v0 10 3 (x25 + 1)).bind fun h26 => some h26
set_option maxRecDepth 100000 in
set_option maxHeartbeats 4000000 in
theorem w_X4_step_177 {G : GE} {X : CX} {l : Launch} (hX : Ok G X cX4_step RX4) (hN : xn X = 1) {P : Mem → Prop} (hr : Rt G X l yX4_step none rm_X4_step (pmV P)) (h : Mem) (v0 : Nat) (s0 : Nat) (s1 : Int32) (hy : OK (f_X4_step_177 h v0 s0 s1) P) : AW G X 177 [(0, vR v0)] [vI s1, vR s0] h 0 0 := by
  unfold f_X4_step_177 at hy
  refine aw_pI (pc := 177) hX hy fl_X4_99 rfl (Or.inl rfl) dX4_step_177 (fun h24 hy => ?_)
  refine aw_aloadn (pc := 180) hX 0 rfl dX4_step_180 ?_
  refine aw_dup (pc := 181) hX rfl dX4_step_181 ?_
  refine aw_gI (pc := 182) hX hy fl_X4_130 (fun _ _ => rfl) dX4_step_182 (fun x25 hy => ?_)
  refine aw_iconst (pc := 185) hX 1 (by decide) dX4_step_185 ?_
  refine aw_iadd (pc := 186) hX dX4_step_186 ?_
  refine aw_pI (pc := 187) hX hy fl_X4_130 rfl (Or.inl rfl) dX4_step_187 (fun h26 hy => ?_)
  exact aw_vret (pc := 190) hX hr (by decide) (by decide) dX4_step_190 ⟨rfl, hy.s⟩
def f_X4_step_157 (h : Mem) (v0 : Nat) : Option Mem :=
  (gR h v0 0 3).bind fun r21 => (gI h v0 9 3).bind fun x22 => (aI h r21 x22).bind fun x23 => (if x23 = 59 then f_X4_step_177 h v0 v0 3 else f_X4_step_177 h v0 v0 4)
set_option maxRecDepth 100000 in
set_option maxHeartbeats 4000000 in
theorem w_X4_step_157 {G : GE} {X : CX} {l : Launch} (hX : Ok G X cX4_step RX4) (hN : xn X = 1) {P : Mem → Prop} (hr : Rt G X l yX4_step none rm_X4_step (pmV P)) (h : Mem) (v0 : Nat) (hy : OK (f_X4_step_157 h v0) P) : AW G X 157 [(0, vR v0)] [] h 0 0 := by
  unfold f_X4_step_157 at hy
  refine aw_aloadn (pc := 157) hX 0 rfl dX4_step_157 ?_
  refine aw_aloadn (pc := 158) hX 0 rfl dX4_step_158 ?_
  refine aw_gR (pc := 159) hX hy fl_X4_13 (fun _ _ => rfl) dX4_step_159 (fun r21 hy => ?_)
  refine aw_aloadn (pc := 162) hX 0 rfl dX4_step_162 ?_
  refine aw_gI (pc := 163) hX hy fl_X4_136 (fun _ _ => rfl) dX4_step_163 (fun x22 hy => ?_)
  refine aw_aI (pc := 166) hX hy dX4_step_166 (fun x23 hy => ?_)
  refine aw_bipush (pc := 167) hX 59 (by decide) dX4_step_167 ?_
  refine aw_ic_ne (pc := 169) hX 176 (by decide) dX4_step_169 (fun hc9 => ?_) (fun hc9 => ?_)
  · have hy := hy.f hc9
    refine aw_iconst (pc := 176) hX 4 (by decide) dX4_step_176 ?_
    exact w_X4_step_177 hX hN hr h v0 v0 4 hy
  · have hy := hy.t hc9
    refine aw_iconst (pc := 172) hX 3 (by decide) dX4_step_172 ?_
    refine aw_goto (pc := 173) hX 177 (by decide) dX4_step_173 ?_
    exact w_X4_step_177 hX hN hr h v0 v0 3 hy
def f_X4_step_122 (h : Mem) (v0 : Nat) : Option Mem :=
  (gR h v0 0 3).bind fun r18 => (gI h v0 9 3).bind fun x19 => (aI h r18 x19).bind fun x20 => (if x20 < 48 then f_X4_step_157 h v0 else (gR h v0 0 3).bind fun r27 => (gI h v0 9 3).bind fun x28 => (aI h r27 x28).bind fun x29 => (if 57 < x29 then f_X4_step_157 h v0 else (f_X4_takeDigits h v0).bind fun h30 => some h30))
set_option maxRecDepth 100000 in
set_option maxHeartbeats 4000000 in
theorem w_X4_step_122 {G : GE} {X : CX} {l : Launch} (hX : Ok G X cX4_step RX4) (hN : xn X = 1) {P : Mem → Prop} (hr : Rt G X l yX4_step none rm_X4_step (pmV P)) (h : Mem) (v0 : Nat) (hy : OK (f_X4_step_122 h v0) P) : AW G X 122 [(0, vR v0)] [] h 0 0 := by
  unfold f_X4_step_122 at hy
  refine aw_aloadn (pc := 122) hX 0 rfl dX4_step_122 ?_
  refine aw_gR (pc := 123) hX hy fl_X4_13 (fun _ _ => rfl) dX4_step_123 (fun r18 hy => ?_)
  refine aw_aloadn (pc := 126) hX 0 rfl dX4_step_126 ?_
  refine aw_gI (pc := 127) hX hy fl_X4_136 (fun _ _ => rfl) dX4_step_127 (fun x19 hy => ?_)
  refine aw_aI (pc := 130) hX hy dX4_step_130 (fun x20 hy => ?_)
  refine aw_bipush (pc := 131) hX 48 (by decide) dX4_step_131 ?_
  refine aw_ic_lt (pc := 133) hX 157 (by decide) dX4_step_133 (fun hc9 => ?_) (fun hc9 => ?_)
  · have hy := hy.t hc9
    exact w_X4_step_157 hX hN hr h v0 hy
  · have hy := hy.f hc9
    refine aw_aloadn (pc := 136) hX 0 rfl dX4_step_136 ?_
    refine aw_gR (pc := 137) hX hy fl_X4_13 (fun _ _ => rfl) dX4_step_137 (fun r27 hy => ?_)
    refine aw_aloadn (pc := 140) hX 0 rfl dX4_step_140 ?_
    refine aw_gI (pc := 141) hX hy fl_X4_136 (fun _ _ => rfl) dX4_step_141 (fun x28 hy => ?_)
    refine aw_aI (pc := 144) hX hy dX4_step_144 (fun x29 hy => ?_)
    refine aw_bipush (pc := 145) hX 57 (by decide) dX4_step_145 ?_
    refine aw_ic_gt (pc := 147) hX 157 (by decide) dX4_step_147 (fun hc9 => ?_) (fun hc9 => ?_)
    · have hy := hy.t hc9
      exact w_X4_step_157 hX hN hr h v0 hy
    · have hy := hy.f hc9
      refine aw_aloadn (pc := 150) hX 0 rfl dX4_step_150 ?_
      refine aw_callV (pc := 151) (st := []) (a := v0) hX [] (con_X4_takeDigits _ G _ v0 hy.bd) mc_X4_takeDigits ml_X4_252 im_X4_takeDigits se_X4_takeDigits (by decide) hy.bd.kd rfl (rm_of hr (by decide)) (Nat.le_of_ble_eq_true rfl) rfl dX4_step_151 (kmV rfl rfl (fun h30 hy => ?_))
      refine aw_goto (pc := 154) hX 190 (by decide) dX4_step_154 ?_
      exact aw_vret (pc := 190) hX hr (by decide) (by decide) dX4_step_190 ⟨rfl, hy.s⟩
def f_X4_step (h : Mem) (v0 : Nat) : Option Mem :=
  (ck h v0 3).bind fun _ => (gI h v0 10 3).bind fun x1 => (pI h v0 9 3 x1).bind fun h2 => (iter (fun (s : Mem) => b_X4_step_8 s v0) FU h2).bind (fun q10 => (gI q10 v0 9 3).bind fun x11 => (pI q10 v0 10 3 x11).bind fun h12 => (gI h12 v0 9 3).bind fun x13 => (gI h12 v0 8 3).bind fun x14 => (if x13 < x14 then (gR h12 v0 0 3).bind fun r15 => (gI h12 v0 9 3).bind fun x16 => (aI h12 r15 x16).bind fun x17 => (if x17 < 97 then f_X4_step_122 h12 v0 else (gR h12 v0 0 3).bind fun r31 => (gI h12 v0 9 3).bind fun x32 => (aI h12 r31 x32).bind fun x33 => (if 122 < x33 then f_X4_step_122 h12 v0 else (f_X4_takeLetters h12 v0).bind fun h34 => (gR h34 v0 1 3).bind fun r35 => (f_X4_placeOfWord h34 v0 r35 20).bind fun x36 => (pI h34 v0 13 3 x36).bind fun h37 => some h37)) else (pI h12 v0 11 3 0).bind fun h38 => some h38))
set_option maxRecDepth 100000 in
set_option maxHeartbeats 4000000 in
theorem w_X4_step {G : GE} {X : CX} {l : Launch} (hX : Ok G X cX4_step RX4) (hN : xn X = 1) {P : Mem → Prop} (hr : Rt G X l yX4_step none rm_X4_step (pmV P)) (h : Mem) (v0 : Nat) (hy : OK (f_X4_step h v0) P) : AW G X 0 [(0, vR v0)] [] h 0 0 := by
  unfold f_X4_step at hy
  have hkd := hy.kd
  have hy := hy.kb
  refine aw_aloadn (pc := 0) hX 0 rfl dX4_step_0 ?_
  refine aw_aloadn (pc := 1) hX 0 rfl dX4_step_1 ?_
  refine aw_gI (pc := 2) hX hy fl_X4_130 (fun _ _ => rfl) dX4_step_2 (fun x1 hy => ?_)
  refine aw_pI (pc := 5) hX hy fl_X4_136 rfl (Or.inl rfl) dX4_step_5 (fun h2 hy => ?_)
  refine wl_X4_step_8 hX hN hr v0 ?_ FU h2 hy.bd
  · intro q10 hy
    refine aw_aloadn (pc := 46) hX 0 rfl dX4_step_46 ?_
    refine aw_aloadn (pc := 47) hX 0 rfl dX4_step_47 ?_
    refine aw_gI (pc := 48) hX hy fl_X4_136 (fun _ _ => rfl) dX4_step_48 (fun x11 hy => ?_)
    refine aw_pI (pc := 51) hX hy fl_X4_130 rfl (Or.inl rfl) dX4_step_51 (fun h12 hy => ?_)
    refine aw_aloadn (pc := 54) hX 0 rfl dX4_step_54 ?_
    refine aw_gI (pc := 55) hX hy fl_X4_136 (fun _ _ => rfl) dX4_step_55 (fun x13 hy => ?_)
    refine aw_aloadn (pc := 58) hX 0 rfl dX4_step_58 ?_
    refine aw_gI (pc := 59) hX hy fl_X4_92 (fun _ _ => rfl) dX4_step_59 (fun x14 hy => ?_)
    refine aw_ic_lt (pc := 62) hX 73 (by decide) dX4_step_62 (fun hc9 => ?_) (fun hc9 => ?_)
    · have hy := hy.t hc9
      refine aw_aloadn (pc := 73) hX 0 rfl dX4_step_73 ?_
      refine aw_gR (pc := 74) hX hy fl_X4_13 (fun _ _ => rfl) dX4_step_74 (fun r15 hy => ?_)
      refine aw_aloadn (pc := 77) hX 0 rfl dX4_step_77 ?_
      refine aw_gI (pc := 78) hX hy fl_X4_136 (fun _ _ => rfl) dX4_step_78 (fun x16 hy => ?_)
      refine aw_aI (pc := 81) hX hy dX4_step_81 (fun x17 hy => ?_)
      refine aw_bipush (pc := 82) hX 97 (by decide) dX4_step_82 ?_
      refine aw_ic_lt (pc := 84) hX 122 (by decide) dX4_step_84 (fun hc9 => ?_) (fun hc9 => ?_)
      · have hy := hy.t hc9
        exact w_X4_step_122 hX hN hr h12 v0 hy
      · have hy := hy.f hc9
        refine aw_aloadn (pc := 87) hX 0 rfl dX4_step_87 ?_
        refine aw_gR (pc := 88) hX hy fl_X4_13 (fun _ _ => rfl) dX4_step_88 (fun r31 hy => ?_)
        refine aw_aloadn (pc := 91) hX 0 rfl dX4_step_91 ?_
        refine aw_gI (pc := 92) hX hy fl_X4_136 (fun _ _ => rfl) dX4_step_92 (fun x32 hy => ?_)
        refine aw_aI (pc := 95) hX hy dX4_step_95 (fun x33 hy => ?_)
        refine aw_bipush (pc := 96) hX 122 (by decide) dX4_step_96 ?_
        refine aw_ic_gt (pc := 98) hX 122 (by decide) dX4_step_98 (fun hc9 => ?_) (fun hc9 => ?_)
        · have hy := hy.t hc9
          exact w_X4_step_122 hX hN hr h12 v0 hy
        · have hy := hy.f hc9
          refine aw_aloadn (pc := 101) hX 0 rfl dX4_step_101 ?_
          refine aw_callV (pc := 102) (st := []) (a := v0) hX [] (con_X4_takeLetters _ G _ v0 hy.bd) mc_X4_takeLetters ml_X4_249 im_X4_takeLetters se_X4_takeLetters (by decide) hy.bd.kd rfl (rm_of hr (by decide)) (Nat.le_of_ble_eq_true rfl) rfl dX4_step_102 (kmV rfl rfl (fun h34 hy => ?_))
          refine aw_aloadn (pc := 105) hX 0 rfl dX4_step_105 ?_
          refine aw_aloadn (pc := 106) hX 0 rfl dX4_step_106 ?_
          refine aw_aloadn (pc := 107) hX 0 rfl dX4_step_107 ?_
          refine aw_gR (pc := 108) hX hy fl_X4_17 (fun _ _ => rfl) dX4_step_108 (fun r35 hy => ?_)
          refine aw_bipush (pc := 111) hX 20 (by decide) dX4_step_111 ?_
          refine aw_callV (pc := 113) (st := [vR v0]) (a := v0) hX [vR r35, vI 20] (con_X4_placeOfWord _ G _ v0 r35 20 hy.bd) mc_X4_placeOfWord ml_X4_241 im_X4_placeOfWord se_X4_placeOfWord (by decide) hy.bd.kd rfl (rm_of hr (by decide)) (Nat.le_of_ble_eq_true rfl) rfl dX4_step_113 (kpI rfl rfl (fun x36 hy => ?_))
          refine aw_pI (pc := 116) hX hy fl_X4_138 rfl (Or.inl rfl) dX4_step_116 (fun h37 hy => ?_)
          refine aw_goto (pc := 119) hX 190 (by decide) dX4_step_119 ?_
          exact aw_vret (pc := 190) hX hr (by decide) (by decide) dX4_step_190 ⟨rfl, hy.s⟩
    · have hy := hy.f hc9
      refine aw_aloadn (pc := 65) hX 0 rfl dX4_step_65 ?_
      refine aw_iconst (pc := 66) hX 0 (by decide) dX4_step_66 ?_
      refine aw_pI (pc := 67) hX hy fl_X4_99 rfl (Or.inl rfl) dX4_step_67 (fun h38 hy => ?_)
      refine aw_goto (pc := 70) hX 190 (by decide) dX4_step_70 ?_
      exact aw_vret (pc := 190) hX hr (by decide) (by decide) dX4_step_190 ⟨rfl, hy.s⟩
theorem con_X4_step (l : Launch) (G : GE) (h : Mem) (v0 : Nat) {P : Mem → Prop} (hy : OK (f_X4_step h v0) P) : Con l G yX4_step cX4_step 1 none rm_X4_step [vR v0] h (pmV P) := Con.of (by decide) (Nat.le_of_ble_eq_true rfl) (fun X hX hr hN => w_X4_step hX hN hr h v0 hy)
/-! X4_begin -/
theorem dX4_begin_0 : decode cX4_begin 0 = .ok (.aload_n 0, 1) := by decide +kernel
theorem dX4_begin_1 : decode cX4_begin 1 = .ok (.getfield 34, 3) := by decide +kernel
theorem dX4_begin_4 : decode cX4_begin 4 = .ok (.invokevirtual 112, 3) := by decide +kernel
theorem dX4_begin_7 : decode cX4_begin 7 = .ok (.aload_n 0, 1) := by decide +kernel
theorem dX4_begin_8 : decode cX4_begin 8 = .ok (.getfield 30, 3) := by decide +kernel
theorem dX4_begin_11 : decode cX4_begin 11 = .ok (.iconst 0, 1) := by decide +kernel
theorem dX4_begin_12 : decode cX4_begin 12 = .ok (.invokestatic 115, 3) := by decide +kernel
theorem dX4_begin_15 : decode cX4_begin 15 = .ok (.aload_n 0, 1) := by decide +kernel
theorem dX4_begin_16 : decode cX4_begin 16 = .ok (.iconst 0, 1) := by decide +kernel
theorem dX4_begin_17 : decode cX4_begin 17 = .ok (.putfield 121, 3) := by decide +kernel
theorem dX4_begin_20 : decode cX4_begin 20 = .ok (.aload_n 0, 1) := by decide +kernel
theorem dX4_begin_21 : decode cX4_begin 21 = .ok (.iload_n 1, 1) := by decide +kernel
theorem dX4_begin_22 : decode cX4_begin 22 = .ok (.aload_n 0, 1) := by decide +kernel
theorem dX4_begin_23 : decode cX4_begin 23 = .ok (.getfield 85, 3) := by decide +kernel
theorem dX4_begin_26 : decode cX4_begin 26 = .ok (.invokestatic 124, 3) := by decide +kernel
theorem dX4_begin_29 : decode cX4_begin 29 = .ok (.putfield 92, 3) := by decide +kernel
theorem dX4_begin_32 : decode cX4_begin 32 = .ok (.aload_n 0, 1) := by decide +kernel
theorem dX4_begin_33 : decode cX4_begin 33 = .ok (.iconst 0, 1) := by decide +kernel
theorem dX4_begin_34 : decode cX4_begin 34 = .ok (.putfield 85, 3) := by decide +kernel
theorem dX4_begin_37 : decode cX4_begin 37 = .ok (.aload_n 0, 1) := by decide +kernel
theorem dX4_begin_38 : decode cX4_begin 38 = .ok (.iconst 0, 1) := by decide +kernel
theorem dX4_begin_39 : decode cX4_begin 39 = .ok (.putfield 130, 3) := by decide +kernel
theorem dX4_begin_42 : decode cX4_begin 42 = .ok (.aload_n 0, 1) := by decide +kernel
theorem dX4_begin_43 : decode cX4_begin 43 = .ok (.iconst 0, 1) := by decide +kernel
theorem dX4_begin_44 : decode cX4_begin 44 = .ok (.putfield 133, 3) := by decide +kernel
theorem dX4_begin_47 : decode cX4_begin 47 = .ok (.aload_n 0, 1) := by decide +kernel
theorem dX4_begin_48 : decode cX4_begin 48 = .ok (.iconst (-1), 1) := by decide +kernel
theorem dX4_begin_49 : decode cX4_begin 49 = .ok (.putfield 38, 3) := by decide +kernel
theorem dX4_begin_52 : decode cX4_begin 52 = .ok (.aload_n 0, 1) := by decide +kernel
theorem dX4_begin_53 : decode cX4_begin 53 = .ok (.invokevirtual 109, 3) := by decide +kernel
theorem dX4_begin_56 : decode cX4_begin 56 = .ok (.return_, 1) := by decide +kernel
abbrev rm_X4_begin : Room := { frames := 2, cells := 0, slots := 0, locals := 43 }
def f_X4_begin (h : Mem) (v0 : Nat) (v1 : Int32) : Option Mem :=
  (ck h v0 3).bind fun _ => (gR h v0 6 3).bind fun r1 => (f_X5_clear h r1).bind fun h2 => (gR h2 v0 5 3).bind fun r3 => (f_J7_fill_53178 h2 r3 0).bind fun h4 => (pI h4 v0 7 3 0).bind fun h5 => (gI h5 v0 15 3).bind fun x6 => (pI h5 v0 8 3 (mMin v1 x6)).bind fun h7 => (pI h7 v0 15 3 0).bind fun h8 => (pI h8 v0 10 3 0).bind fun h9 => (pI h9 v0 16 3 0).bind fun h10 => (pI h10 v0 17 3 (-1)).bind fun h11 => (f_X4_step h11 v0).bind fun h12 => some h12
set_option maxRecDepth 100000 in
set_option maxHeartbeats 4000000 in
theorem w_X4_begin {G : GE} {X : CX} {l : Launch} (hX : Ok G X cX4_begin RX4) (hN : xn X = 2) {P : Mem → Prop} (hr : Rt G X l yX4_begin none rm_X4_begin (pmV P)) (h : Mem) (v0 : Nat) (v1 : Int32) (hy : OK (f_X4_begin h v0 v1) P) : AW G X 0 [(0, vR v0), (1, vI v1)] [] h 0 0 := by
  unfold f_X4_begin at hy
  have hkd := hy.kd
  have hy := hy.kb
  refine aw_aloadn (pc := 0) hX 0 rfl dX4_begin_0 ?_
  refine aw_gR (pc := 1) hX hy fl_X4_34 (fun _ _ => rfl) dX4_begin_1 (fun r1 hy => ?_)
  refine aw_callV (pc := 4) (st := []) (a := r1) hX [] (con_X5_clear _ G _ r1 hy.bd) mc_X5_clear ml_X4_112 im_X5_clear se_X5_clear (by decide) hy.bd.kd rfl (rm_of hr (by decide)) (Nat.le_of_ble_eq_true rfl) rfl dX4_begin_4 (kmV rfl rfl (fun h2 hy => ?_))
  refine aw_aloadn (pc := 7) hX 0 rfl dX4_begin_7 ?_
  refine aw_gR (pc := 8) hX hy fl_X4_30 (fun _ _ => rfl) dX4_begin_8 (fun r3 hy => ?_)
  refine aw_iconst (pc := 11) hX 0 (by decide) dX4_begin_11 ?_
  refine aw_callS (pc := 12) (st := []) hX [vR r3, vI 0] (con_J7_fill_53178 _ G _ r3 0 hy.bd) mc_J7_fill_53178 ml_X4_115 st_J7_fill_53178 rfl (rm_of hr (by decide)) (Nat.le_of_ble_eq_true rfl) rfl dX4_begin_12 (kmV rfl rfl (fun h4 hy => ?_))
  refine aw_aloadn (pc := 15) hX 0 rfl dX4_begin_15 ?_
  refine aw_iconst (pc := 16) hX 0 (by decide) dX4_begin_16 ?_
  refine aw_pI (pc := 17) hX hy fl_X4_121 rfl (Or.inl rfl) dX4_begin_17 (fun h5 hy => ?_)
  refine aw_aloadn (pc := 20) hX 0 rfl dX4_begin_20 ?_
  refine aw_iloadn (pc := 21) hX 1 rfl dX4_begin_21 ?_
  refine aw_aloadn (pc := 22) hX 0 rfl dX4_begin_22 ?_
  refine aw_gI (pc := 23) hX hy fl_X4_85 (fun _ _ => rfl) dX4_begin_23 (fun x6 hy => ?_)
  refine aw_mmin (pc := 26) hX ml_X4_124 (Nat.le_of_ble_eq_true rfl) (le_f hr (by decide)) (le_l hr (by decide)) (le_c hr (by decide)) (le_s hr (by decide)) dX4_begin_26 ?_
  refine aw_pI (pc := 29) hX hy fl_X4_92 rfl (Or.inl rfl) dX4_begin_29 (fun h7 hy => ?_)
  refine aw_aloadn (pc := 32) hX 0 rfl dX4_begin_32 ?_
  refine aw_iconst (pc := 33) hX 0 (by decide) dX4_begin_33 ?_
  refine aw_pI (pc := 34) hX hy fl_X4_85 rfl (Or.inl rfl) dX4_begin_34 (fun h8 hy => ?_)
  refine aw_aloadn (pc := 37) hX 0 rfl dX4_begin_37 ?_
  refine aw_iconst (pc := 38) hX 0 (by decide) dX4_begin_38 ?_
  refine aw_pI (pc := 39) hX hy fl_X4_130 rfl (Or.inl rfl) dX4_begin_39 (fun h9 hy => ?_)
  refine aw_aloadn (pc := 42) hX 0 rfl dX4_begin_42 ?_
  refine aw_iconst (pc := 43) hX 0 (by decide) dX4_begin_43 ?_
  refine aw_pI (pc := 44) hX hy fl_X4_133 rfl (Or.inl rfl) dX4_begin_44 (fun h10 hy => ?_)
  refine aw_aloadn (pc := 47) hX 0 rfl dX4_begin_47 ?_
  refine aw_iconst (pc := 48) hX (-1) (by decide) dX4_begin_48 ?_
  refine aw_pI (pc := 49) hX hy fl_X4_38 rfl (Or.inl rfl) dX4_begin_49 (fun h11 hy => ?_)
  refine aw_aloadn (pc := 52) hX 0 rfl dX4_begin_52 ?_
  refine aw_callV (pc := 53) (st := []) (a := v0) hX [] (con_X4_step _ G _ v0 hy.bd) mc_X4_step ml_X4_109 im_X4_step se_X4_step (by decide) hy.bd.kd rfl (rm_of hr (by decide)) (Nat.le_of_ble_eq_true rfl) rfl dX4_begin_53 (kmV rfl rfl (fun h12 hy => ?_))
  exact aw_vret (pc := 56) hX hr (by decide) (by decide) dX4_begin_56 ⟨rfl, hy.s⟩
theorem con_X4_begin (l : Launch) (G : GE) (h : Mem) (v0 : Nat) (v1 : Int32) {P : Mem → Prop} (hy : OK (f_X4_begin h v0 v1) P) : Con l G yX4_begin cX4_begin 2 none rm_X4_begin [vR v0, vI v1] h (pmV P) := Con.of (by decide) (Nat.le_of_ble_eq_true rfl) (fun X hX hr hN => w_X4_begin hX hN hr h v0 v1 hy)
/-! X4_fail -/
theorem dX4_fail_0 : decode cX4_fail 0 = .ok (.aload_n 0, 1) := by decide +kernel
theorem dX4_fail_1 : decode cX4_fail 1 = .ok (.iload_n 1, 1) := by decide +kernel
theorem dX4_fail_2 : decode cX4_fail 2 = .ok (.putfield 133, 3) := by decide +kernel
theorem dX4_fail_5 : decode cX4_fail 5 = .ok (.aload_n 0, 1) := by decide +kernel
theorem dX4_fail_6 : decode cX4_fail 6 = .ok (.aload_n 0, 1) := by decide +kernel
theorem dX4_fail_7 : decode cX4_fail 7 = .ok (.getfield 136, 3) := by decide +kernel
theorem dX4_fail_10 : decode cX4_fail 10 = .ok (.putfield 38, 3) := by decide +kernel
theorem dX4_fail_13 : decode cX4_fail 13 = .ok (.iconst 0, 1) := by decide +kernel
theorem dX4_fail_14 : decode cX4_fail 14 = .ok (.ireturn, 1) := by decide +kernel
abbrev rm_X4_fail : Room := { frames := 0, cells := 0, slots := 0, locals := 0 }
def f_X4_fail (h : Mem) (v0 : Nat) (v1 : Int32) : Option (Int32 × Mem) :=
  (ck h v0 3).bind fun _ => (pI h v0 16 3 v1).bind fun h1 => (gI h1 v0 9 3).bind fun x2 => (pI h1 v0 17 3 x2).bind fun h3 => some (0, h3)
set_option maxRecDepth 100000 in
set_option maxHeartbeats 4000000 in
theorem w_X4_fail {G : GE} {X : CX} {l : Launch} (hX : Ok G X cX4_fail RX4) (hN : xn X = 2) {P : (Int32 × Mem) → Prop} (hr : Rt G X l yX4_fail (some .boolean) rm_X4_fail (pmI P)) (h : Mem) (v0 : Nat) (v1 : Int32) (hy : OK (f_X4_fail h v0 v1) P) : AW G X 0 [(0, vR v0), (1, vI v1)] [] h 0 0 := by
  unfold f_X4_fail at hy
  have hkd := hy.kd
  have hy := hy.kb
  refine aw_aloadn (pc := 0) hX 0 rfl dX4_fail_0 ?_
  refine aw_iloadn (pc := 1) hX 1 rfl dX4_fail_1 ?_
  refine aw_pI (pc := 2) hX hy fl_X4_133 rfl (Or.inl rfl) dX4_fail_2 (fun h1 hy => ?_)
  refine aw_aloadn (pc := 5) hX 0 rfl dX4_fail_5 ?_
  refine aw_aloadn (pc := 6) hX 0 rfl dX4_fail_6 ?_
  refine aw_gI (pc := 7) hX hy fl_X4_136 (fun _ _ => rfl) dX4_fail_7 (fun x2 hy => ?_)
  refine aw_pI (pc := 10) hX hy fl_X4_38 rfl (Or.inl rfl) dX4_fail_10 (fun h3 hy => ?_)
  refine aw_iconst (pc := 13) hX 0 (by decide) dX4_fail_13 ?_
  exact aw_zret (pc := 14) hX hr (by decide) (by decide) dX4_fail_14 (Or.inl rfl) ⟨_, rfl, hy.s⟩
theorem con_X4_fail (l : Launch) (G : GE) (h : Mem) (v0 : Nat) (v1 : Int32) {P : (Int32 × Mem) → Prop} (hy : OK (f_X4_fail h v0 v1) P) : Con l G yX4_fail cX4_fail 2 (some .boolean) rm_X4_fail [vR v0, vI v1] h (pmI P) := Con.of (by decide) (Nat.le_of_ble_eq_true rfl) (fun X hX hr hN => w_X4_fail hX hN hr h v0 v1 hy)
/-! X4_isWord -/
theorem dX4_isWord_0 : decode cX4_isWord 0 = .ok (.aload_n 0, 1) := by decide +kernel
theorem dX4_isWord_1 : decode cX4_isWord 1 = .ok (.getfield 99, 3) := by decide +kernel
theorem dX4_isWord_4 : decode cX4_isWord 4 = .ok (.iconst 1, 1) := by decide +kernel
theorem dX4_isWord_5 : decode cX4_isWord 5 = .ok (.if_icmp .ne 15, 3) := by decide +kernel
theorem dX4_isWord_8 : decode cX4_isWord 8 = .ok (.aload_n 0, 1) := by decide +kernel
theorem dX4_isWord_9 : decode cX4_isWord 9 = .ok (.getfield 138, 3) := by decide +kernel
theorem dX4_isWord_12 : decode cX4_isWord 12 = .ok (.iload_n 1, 1) := by decide +kernel
theorem dX4_isWord_13 : decode cX4_isWord 13 = .ok (.if_icmp .ne 7, 3) := by decide +kernel
theorem dX4_isWord_16 : decode cX4_isWord 16 = .ok (.iconst 1, 1) := by decide +kernel
theorem dX4_isWord_17 : decode cX4_isWord 17 = .ok (.goto 4, 3) := by decide +kernel
theorem dX4_isWord_20 : decode cX4_isWord 20 = .ok (.iconst 0, 1) := by decide +kernel
theorem dX4_isWord_21 : decode cX4_isWord 21 = .ok (.ireturn, 1) := by decide +kernel
abbrev rm_X4_isWord : Room := { frames := 0, cells := 0, slots := 0, locals := 0 }
def f_X4_isWord_20 (h : Mem) : Option Int32 :=
  some 0
set_option maxRecDepth 100000 in
set_option maxHeartbeats 4000000 in
theorem w_X4_isWord_20 {G : GE} {X : CX} {l : Launch} (hX : Ok G X cX4_isWord RX4) (hN : xn X = 2) (h : Mem) {P : Int32 → Prop} (hr : Rt G X l yX4_isWord (some .boolean) rm_X4_isWord (ppI h P)) (hy : OK (f_X4_isWord_20 h) P) : AW G X 20 [] [] h 0 0 := by
  unfold f_X4_isWord_20 at hy
  refine aw_iconst (pc := 20) hX 0 (by decide) dX4_isWord_20 ?_
  exact aw_zret (pc := 21) hX hr (by decide) (by decide) dX4_isWord_21 (Or.inl rfl) ⟨rfl, _, rfl, hy.s⟩
def f_X4_isWord (h : Mem) (v0 : Nat) (v1 : Int32) : Option Int32 :=
  (ck h v0 3).bind fun _ => (gI h v0 11 3).bind fun x1 => (if x1 = 1 then (gI h v0 13 3).bind fun x2 => (if x2 = v1 then some 1 else f_X4_isWord_20 h) else f_X4_isWord_20 h)
set_option maxRecDepth 100000 in
set_option maxHeartbeats 4000000 in
theorem w_X4_isWord {G : GE} {X : CX} {l : Launch} (hX : Ok G X cX4_isWord RX4) (hN : xn X = 2) (h : Mem) {P : Int32 → Prop} (hr : Rt G X l yX4_isWord (some .boolean) rm_X4_isWord (ppI h P)) (v0 : Nat) (v1 : Int32) (hy : OK (f_X4_isWord h v0 v1) P) : AW G X 0 [(0, vR v0), (1, vI v1)] [] h 0 0 := by
  unfold f_X4_isWord at hy
  have hkd := hy.kd
  have hy := hy.kb
  refine aw_aloadn (pc := 0) hX 0 rfl dX4_isWord_0 ?_
  refine aw_gI (pc := 1) hX hy fl_X4_99 (fun _ _ => rfl) dX4_isWord_1 (fun x1 hy => ?_)
  refine aw_iconst (pc := 4) hX 1 (by decide) dX4_isWord_4 ?_
  refine aw_ic_ne (pc := 5) hX 20 (by decide) dX4_isWord_5 (fun hc9 => ?_) (fun hc9 => ?_)
  · have hy := hy.f hc9
    refine AW.sub [] rfl ?_
    exact w_X4_isWord_20 hX hN _ hr hy
  · have hy := hy.t hc9
    refine aw_aloadn (pc := 8) hX 0 rfl dX4_isWord_8 ?_
    refine aw_gI (pc := 9) hX hy fl_X4_138 (fun _ _ => rfl) dX4_isWord_9 (fun x2 hy => ?_)
    refine aw_iloadn (pc := 12) hX 1 rfl dX4_isWord_12 ?_
    refine aw_ic_ne (pc := 13) hX 20 (by decide) dX4_isWord_13 (fun hc9 => ?_) (fun hc9 => ?_)
    · have hy := hy.f hc9
      refine AW.sub [] rfl ?_
      exact w_X4_isWord_20 hX hN _ hr hy
    · have hy := hy.t hc9
      refine aw_iconst (pc := 16) hX 1 (by decide) dX4_isWord_16 ?_
      refine aw_goto (pc := 17) hX 21 (by decide) dX4_isWord_17 ?_
      exact aw_zret (pc := 21) hX hr (by decide) (by decide) dX4_isWord_21 (Or.inr rfl) ⟨rfl, _, rfl, hy.s⟩
theorem con_X4_isWord (l : Launch) (G : GE) (h : Mem) (v0 : Nat) (v1 : Int32) {P : Int32 → Prop} (hy : OK (f_X4_isWord h v0 v1) P) : Con l G yX4_isWord cX4_isWord 2 (some .boolean) rm_X4_isWord [vR v0, vI v1] h (ppI h P) := Con.of (by decide) (Nat.le_of_ble_eq_true rfl) (fun X hX hr hN => w_X4_isWord hX hN h hr v0 v1 hy)
/-! X4_readWord -/
theorem dX4_readWord_0 : decode cX4_readWord 0 = .ok (.aload_n 0, 1) := by decide +kernel
theorem dX4_readWord_1 : decode cX4_readWord 1 = .ok (.iload_n 1, 1) := by decide +kernel
theorem dX4_readWord_2 : decode cX4_readWord 2 = .ok (.invokevirtual 212, 3) := by decide +kernel
theorem dX4_readWord_5 : decode cX4_readWord 5 = .ok (.ifCond .ne 9, 3) := by decide +kernel
theorem dX4_readWord_8 : decode cX4_readWord 8 = .ok (.aload_n 0, 1) := by decide +kernel
theorem dX4_readWord_9 : decode cX4_readWord 9 = .ok (.iconst 1, 1) := by decide +kernel
theorem dX4_readWord_10 : decode cX4_readWord 10 = .ok (.invokevirtual 105, 3) := by decide +kernel
theorem dX4_readWord_13 : decode cX4_readWord 13 = .ok (.ireturn, 1) := by decide +kernel
theorem dX4_readWord_14 : decode cX4_readWord 14 = .ok (.aload_n 0, 1) := by decide +kernel
theorem dX4_readWord_15 : decode cX4_readWord 15 = .ok (.invokevirtual 109, 3) := by decide +kernel
theorem dX4_readWord_18 : decode cX4_readWord 18 = .ok (.iconst 1, 1) := by decide +kernel
theorem dX4_readWord_19 : decode cX4_readWord 19 = .ok (.ireturn, 1) := by decide +kernel
abbrev rm_X4_readWord : Room := { frames := 2, cells := 0, slots := 0, locals := 43 }
def f_X4_readWord (h : Mem) (v0 : Nat) (v1 : Int32) : Option (Int32 × Mem) :=
  (ck h v0 3).bind fun _ => (f_X4_isWord h v0 v1).bind fun x1 => (if x1 = 0 then (f_X4_fail h v0 1).bind fun q5 => retZ q5.1 (q5.1, q5.2) else (f_X4_step h v0).bind fun h2 => some (1, h2))
set_option maxRecDepth 100000 in
set_option maxHeartbeats 4000000 in
theorem w_X4_readWord {G : GE} {X : CX} {l : Launch} (hX : Ok G X cX4_readWord RX4) (hN : xn X = 2) {P : (Int32 × Mem) → Prop} (hr : Rt G X l yX4_readWord (some .boolean) rm_X4_readWord (pmI P)) (h : Mem) (v0 : Nat) (v1 : Int32) (hy : OK (f_X4_readWord h v0 v1) P) : AW G X 0 [(0, vR v0), (1, vI v1)] [] h 0 0 := by
  unfold f_X4_readWord at hy
  have hkd := hy.kd
  have hy := hy.kb
  refine aw_aloadn (pc := 0) hX 0 rfl dX4_readWord_0 ?_
  refine aw_iloadn (pc := 1) hX 1 rfl dX4_readWord_1 ?_
  refine aw_callV (pc := 2) (st := []) (a := v0) hX [vI v1] (con_X4_isWord _ G _ v0 v1 hy.bd) mc_X4_isWord ml_X4_212 im_X4_isWord se_X4_isWord (by decide) hy.bd.kd rfl (rm_of hr (by decide)) (Nat.le_of_ble_eq_true rfl) rfl dX4_readWord_2 (kpI rfl rfl (fun x1 hy => ?_))
  refine aw_if_ne (pc := 5) hX 14 (by decide) dX4_readWord_5 (fun hc9 => ?_) (fun hc9 => ?_)
  · have hy := hy.f hc9
    refine aw_aloadn (pc := 14) hX 0 rfl dX4_readWord_14 ?_
    refine aw_callV (pc := 15) (st := []) (a := v0) hX [] (con_X4_step _ G _ v0 hy.bd) mc_X4_step ml_X4_109 im_X4_step se_X4_step (by decide) hy.bd.kd rfl (rm_of hr (by decide)) (Nat.le_of_ble_eq_true rfl) rfl dX4_readWord_15 (kmV rfl rfl (fun h2 hy => ?_))
    refine aw_iconst (pc := 18) hX 1 (by decide) dX4_readWord_18 ?_
    exact aw_zret (pc := 19) hX hr (by decide) (by decide) dX4_readWord_19 (Or.inr rfl) ⟨_, rfl, hy.s⟩
  · have hy := hy.t hc9
    refine aw_aloadn (pc := 8) hX 0 rfl dX4_readWord_8 ?_
    refine aw_iconst (pc := 9) hX 1 (by decide) dX4_readWord_9 ?_
    refine aw_callV (pc := 10) (st := []) (a := v0) hX [vI 1] (con_X4_fail _ G _ v0 1 hy.bd) mc_X4_fail ml_X4_105 im_X4_fail se_X4_fail (by decide) hy.bd.kd rfl (rm_of hr (by decide)) (Nat.le_of_ble_eq_true rfl) rfl dX4_readWord_10 (kmI rfl rfl (fun q5 hy => ?_))
    exact aw_zret (pc := 13) hX hr (by decide) (by decide) dX4_readWord_13 hy.rz.1 ⟨_, rfl, hy.rz.2⟩
theorem con_X4_readWord (l : Launch) (G : GE) (h : Mem) (v0 : Nat) (v1 : Int32) {P : (Int32 × Mem) → Prop} (hy : OK (f_X4_readWord h v0 v1) P) : Con l G yX4_readWord cX4_readWord 2 (some .boolean) rm_X4_readWord [vR v0, vI v1] h (pmI P) := Con.of (by decide) (Nat.le_of_ble_eq_true rfl) (fun X hX hr hN => w_X4_readWord hX hN hr h v0 v1 hy)
/-! X4_readWhole -/
theorem dX4_readWhole_0 : decode cX4_readWhole 0 = .ok (.aload_n 0, 1) := by decide +kernel
theorem dX4_readWhole_1 : decode cX4_readWhole 1 = .ok (.getfield 235, 3) := by decide +kernel
theorem dX4_readWhole_4 : decode cX4_readWhole 4 = .ok (.istore_n 3, 1) := by decide +kernel
theorem dX4_readWhole_5 : decode cX4_readWhole 5 = .ok (.aload_n 0, 1) := by decide +kernel
theorem dX4_readWhole_6 : decode cX4_readWhole 6 = .ok (.getfield 99, 3) := by decide +kernel
theorem dX4_readWhole_9 : decode cX4_readWhole 9 = .ok (.iconst 2, 1) := by decide +kernel
theorem dX4_readWhole_10 : decode cX4_readWhole 10 = .ok (.if_icmp .eq 11, 3) := by decide +kernel
theorem dX4_readWhole_13 : decode cX4_readWhole 13 = .ok (.aload_n 0, 1) := by decide +kernel
theorem dX4_readWhole_14 : decode cX4_readWhole 14 = .ok (.iconst 1, 1) := by decide +kernel
theorem dX4_readWhole_15 : decode cX4_readWhole 15 = .ok (.invokevirtual 105, 3) := by decide +kernel
theorem dX4_readWhole_18 : decode cX4_readWhole 18 = .ok (.pop, 1) := by decide +kernel
theorem dX4_readWhole_19 : decode cX4_readWhole 19 = .ok (.iconst (-1), 1) := by decide +kernel
theorem dX4_readWhole_20 : decode cX4_readWhole 20 = .ok (.ireturn, 1) := by decide +kernel
theorem dX4_readWhole_21 : decode cX4_readWhole 21 = .ok (.iload_n 3, 1) := by decide +kernel
theorem dX4_readWhole_22 : decode cX4_readWhole 22 = .ok (.iload_n 1, 1) := by decide +kernel
theorem dX4_readWhole_23 : decode cX4_readWhole 23 = .ok (.if_icmp .lt 8, 3) := by decide +kernel
theorem dX4_readWhole_26 : decode cX4_readWhole 26 = .ok (.iload_n 3, 1) := by decide +kernel
theorem dX4_readWhole_27 : decode cX4_readWhole 27 = .ok (.iload_n 2, 1) := by decide +kernel
theorem dX4_readWhole_28 : decode cX4_readWhole 28 = .ok (.if_icmp .le 11, 3) := by decide +kernel
theorem dX4_readWhole_31 : decode cX4_readWhole 31 = .ok (.aload_n 0, 1) := by decide +kernel
theorem dX4_readWhole_32 : decode cX4_readWhole 32 = .ok (.iconst 4, 1) := by decide +kernel
theorem dX4_readWhole_33 : decode cX4_readWhole 33 = .ok (.invokevirtual 105, 3) := by decide +kernel
theorem dX4_readWhole_36 : decode cX4_readWhole 36 = .ok (.pop, 1) := by decide +kernel
theorem dX4_readWhole_37 : decode cX4_readWhole 37 = .ok (.iconst (-1), 1) := by decide +kernel
theorem dX4_readWhole_38 : decode cX4_readWhole 38 = .ok (.ireturn, 1) := by decide +kernel
theorem dX4_readWhole_39 : decode cX4_readWhole 39 = .ok (.aload_n 0, 1) := by decide +kernel
theorem dX4_readWhole_40 : decode cX4_readWhole 40 = .ok (.invokevirtual 109, 3) := by decide +kernel
theorem dX4_readWhole_43 : decode cX4_readWhole 43 = .ok (.iload_n 3, 1) := by decide +kernel
theorem dX4_readWhole_44 : decode cX4_readWhole 44 = .ok (.ireturn, 1) := by decide +kernel
abbrev rm_X4_readWhole : Room := { frames := 2, cells := 0, slots := 0, locals := 43 }
def f_X4_readWhole_31 (h : Mem) (v0 : Nat) : Option (Int32 × Mem) :=
  (f_X4_fail h v0 4).bind fun q5 => some ((-1), q5.2)
set_option maxRecDepth 100000 in
set_option maxHeartbeats 4000000 in
theorem w_X4_readWhole_31 {G : GE} {X : CX} {l : Launch} (hX : Ok G X cX4_readWhole RX4) (hN : xn X = 4) {P : (Int32 × Mem) → Prop} (hr : Rt G X l yX4_readWhole (some .int) rm_X4_readWhole (pmI P)) (h : Mem) (v0 : Nat) (hy : OK (f_X4_readWhole_31 h v0) P) : AW G X 31 [(0, vR v0)] [] h 0 0 := by
  unfold f_X4_readWhole_31 at hy
  refine aw_aloadn (pc := 31) hX 0 rfl dX4_readWhole_31 ?_
  refine aw_iconst (pc := 32) hX 4 (by decide) dX4_readWhole_32 ?_
  refine aw_callV (pc := 33) (st := []) (a := v0) hX [vI 4] (con_X4_fail _ G _ v0 4 hy.bd) mc_X4_fail ml_X4_105 im_X4_fail se_X4_fail (by decide) hy.bd.kd rfl (rm_of hr (by decide)) (Nat.le_of_ble_eq_true rfl) rfl dX4_readWhole_33 (kmI rfl rfl (fun q5 hy => ?_))
  refine aw_pop (pc := 36) hX rfl dX4_readWhole_36 ?_
  refine aw_iconst (pc := 37) hX (-1) (by decide) dX4_readWhole_37 ?_
  exact aw_iret (pc := 38) hX hr (by decide) (by decide) dX4_readWhole_38 ⟨_, rfl, hy.s⟩
def f_X4_readWhole (h : Mem) (v0 : Nat) (v1 : Int32) (v2 : Int32) : Option (Int32 × Mem) :=
  (ck h v0 3).bind fun _ => (gI h v0 14 3).bind fun x1 => (gI h v0 11 3).bind fun x2 => (if x2 = 2 then (if x1 < v1 then f_X4_readWhole_31 h v0 else (if x1 ≤ v2 then (f_X4_step h v0).bind fun h6 => some (x1, h6) else f_X4_readWhole_31 h v0)) else (f_X4_fail h v0 1).bind fun q9 => some ((-1), q9.2))
set_option maxRecDepth 100000 in
set_option maxHeartbeats 4000000 in
theorem w_X4_readWhole {G : GE} {X : CX} {l : Launch} (hX : Ok G X cX4_readWhole RX4) (hN : xn X = 4) {P : (Int32 × Mem) → Prop} (hr : Rt G X l yX4_readWhole (some .int) rm_X4_readWhole (pmI P)) (h : Mem) (v0 : Nat) (v1 : Int32) (v2 : Int32) (hy : OK (f_X4_readWhole h v0 v1 v2) P) : AW G X 0 [(0, vR v0), (1, vI v1), (2, vI v2)] [] h 0 0 := by
  unfold f_X4_readWhole at hy
  have hkd := hy.kd
  have hy := hy.kb
  refine aw_aloadn (pc := 0) hX 0 rfl dX4_readWhole_0 ?_
  refine aw_gI (pc := 1) hX hy fl_X4_235 (fun _ _ => rfl) dX4_readWhole_1 (fun x1 hy => ?_)
  refine aw_istoren (pc := 4) hX [(3, vI x1), (0, vR v0), (1, vI v1), (2, vI v2)] rfl (lt_n hN (by decide)) dX4_readWhole_4 ?_
  refine aw_aloadn (pc := 5) hX 1 rfl dX4_readWhole_5 ?_
  refine aw_gI (pc := 6) hX hy fl_X4_99 (fun _ _ => rfl) dX4_readWhole_6 (fun x2 hy => ?_)
  refine aw_iconst (pc := 9) hX 2 (by decide) dX4_readWhole_9 ?_
  refine aw_ic_eq (pc := 10) hX 21 (by decide) dX4_readWhole_10 (fun hc9 => ?_) (fun hc9 => ?_)
  · have hy := hy.t hc9
    refine aw_iloadn (pc := 21) hX 0 rfl dX4_readWhole_21 ?_
    refine aw_iloadn (pc := 22) hX 2 rfl dX4_readWhole_22 ?_
    refine aw_ic_lt (pc := 23) hX 31 (by decide) dX4_readWhole_23 (fun hc9 => ?_) (fun hc9 => ?_)
    · have hy := hy.t hc9
      refine AW.sub [1] rfl ?_
      exact w_X4_readWhole_31 hX hN hr h v0 hy
    · have hy := hy.f hc9
      refine aw_iloadn (pc := 26) hX 0 rfl dX4_readWhole_26 ?_
      refine aw_iloadn (pc := 27) hX 3 rfl dX4_readWhole_27 ?_
      refine aw_ic_le (pc := 28) hX 39 (by decide) dX4_readWhole_28 (fun hc9 => ?_) (fun hc9 => ?_)
      · have hy := hy.t hc9
        refine aw_aloadn (pc := 39) hX 1 rfl dX4_readWhole_39 ?_
        refine aw_callV (pc := 40) (st := []) (a := v0) hX [] (con_X4_step _ G _ v0 hy.bd) mc_X4_step ml_X4_109 im_X4_step se_X4_step (by decide) hy.bd.kd rfl (rm_of hr (by decide)) (Nat.le_of_ble_eq_true rfl) rfl dX4_readWhole_40 (kmV rfl rfl (fun h6 hy => ?_))
        refine aw_iloadn (pc := 43) hX 0 rfl dX4_readWhole_43 ?_
        exact aw_iret (pc := 44) hX hr (by decide) (by decide) dX4_readWhole_44 ⟨_, rfl, hy.s⟩
      · have hy := hy.f hc9
        refine AW.sub [1] rfl ?_
        exact w_X4_readWhole_31 hX hN hr h v0 hy
  · have hy := hy.f hc9
    refine aw_aloadn (pc := 13) hX 1 rfl dX4_readWhole_13 ?_
    refine aw_iconst (pc := 14) hX 1 (by decide) dX4_readWhole_14 ?_
    refine aw_callV (pc := 15) (st := []) (a := v0) hX [vI 1] (con_X4_fail _ G _ v0 1 hy.bd) mc_X4_fail ml_X4_105 im_X4_fail se_X4_fail (by decide) hy.bd.kd rfl (rm_of hr (by decide)) (Nat.le_of_ble_eq_true rfl) rfl dX4_readWhole_15 (kmI rfl rfl (fun q9 hy => ?_))
    refine aw_pop (pc := 18) hX rfl dX4_readWhole_18 ?_
    refine aw_iconst (pc := 19) hX (-1) (by decide) dX4_readWhole_19 ?_
    exact aw_iret (pc := 20) hX hr (by decide) (by decide) dX4_readWhole_20 ⟨_, rfl, hy.s⟩
theorem con_X4_readWhole (l : Launch) (G : GE) (h : Mem) (v0 : Nat) (v1 : Int32) (v2 : Int32) {P : (Int32 × Mem) → Prop} (hy : OK (f_X4_readWhole h v0 v1 v2) P) : Con l G yX4_readWhole cX4_readWhole 4 (some .int) rm_X4_readWhole [vR v0, vI v1, vI v2] h (pmI P) := Con.of (by decide) (Nat.le_of_ble_eq_true rfl) (fun X hX hr hN => w_X4_readWhole hX hN hr h v0 v1 v2 hy)
/-! X4_readTurnpike -/
theorem dX4_readTurnpike_0 : decode cX4_readTurnpike 0 = .ok (.aload_n 0, 1) := by decide +kernel
theorem dX4_readTurnpike_1 : decode cX4_readTurnpike 1 = .ok (.bipush 9, 2) := by decide +kernel
theorem dX4_readTurnpike_3 : decode cX4_readTurnpike 3 = .ok (.invokevirtual 171, 3) := by decide +kernel
theorem dX4_readTurnpike_6 : decode cX4_readTurnpike 6 = .ok (.ifCond .ne 5, 3) := by decide +kernel
theorem dX4_readTurnpike_9 : decode cX4_readTurnpike 9 = .ok (.iconst 0, 1) := by decide +kernel
theorem dX4_readTurnpike_10 : decode cX4_readTurnpike 10 = .ok (.ireturn, 1) := by decide +kernel
theorem dX4_readTurnpike_11 : decode cX4_readTurnpike 11 = .ok (.aload_n 0, 1) := by decide +kernel
theorem dX4_readTurnpike_12 : decode cX4_readTurnpike 12 = .ok (.iconst 0, 1) := by decide +kernel
theorem dX4_readTurnpike_13 : decode cX4_readTurnpike 13 = .ok (.bipush 100, 2) := by decide +kernel
theorem dX4_readTurnpike_15 : decode cX4_readTurnpike 15 = .ok (.invokevirtual 174, 3) := by decide +kernel
theorem dX4_readTurnpike_18 : decode cX4_readTurnpike 18 = .ok (.istore_n 1, 1) := by decide +kernel
theorem dX4_readTurnpike_19 : decode cX4_readTurnpike 19 = .ok (.aload_n 0, 1) := by decide +kernel
theorem dX4_readTurnpike_20 : decode cX4_readTurnpike 20 = .ok (.getfield 34, 3) := by decide +kernel
theorem dX4_readTurnpike_23 : decode cX4_readTurnpike 23 = .ok (.iload_n 1, 1) := by decide +kernel
theorem dX4_readTurnpike_24 : decode cX4_readTurnpike 24 = .ok (.putfield 177, 3) := by decide +kernel
theorem dX4_readTurnpike_27 : decode cX4_readTurnpike 27 = .ok (.iload_n 1, 1) := by decide +kernel
theorem dX4_readTurnpike_28 : decode cX4_readTurnpike 28 = .ok (.ifCond .lt 7, 3) := by decide +kernel
theorem dX4_readTurnpike_31 : decode cX4_readTurnpike 31 = .ok (.iconst 1, 1) := by decide +kernel
theorem dX4_readTurnpike_32 : decode cX4_readTurnpike 32 = .ok (.goto 4, 3) := by decide +kernel
theorem dX4_readTurnpike_35 : decode cX4_readTurnpike 35 = .ok (.iconst 0, 1) := by decide +kernel
theorem dX4_readTurnpike_36 : decode cX4_readTurnpike 36 = .ok (.ireturn, 1) := by decide +kernel
abbrev rm_X4_readTurnpike : Room := { frames := 3, cells := 0, slots := 0, locals := 66 }
def f_X4_readTurnpike (h : Mem) (v0 : Nat) : Option (Int32 × Mem) :=
  (ck h v0 3).bind fun _ => (f_X4_readWord h v0 9).bind fun q3 => (if q3.1 = 0 then some (0, q3.2) else (f_X4_readWhole q3.2 v0 0 100).bind fun q6 => (gR q6.2 v0 6 3).bind fun r7 => (pI q6.2 r7 0 4 q6.1).bind fun h8 => (if q6.1 < 0 then some (0, h8) else some (1, h8)))
set_option maxRecDepth 100000 in
set_option maxHeartbeats 4000000 in
theorem w_X4_readTurnpike {G : GE} {X : CX} {l : Launch} (hX : Ok G X cX4_readTurnpike RX4) (hN : xn X = 2) {P : (Int32 × Mem) → Prop} (hr : Rt G X l yX4_readTurnpike (some .boolean) rm_X4_readTurnpike (pmI P)) (h : Mem) (v0 : Nat) (hy : OK (f_X4_readTurnpike h v0) P) : AW G X 0 [(0, vR v0)] [] h 0 0 := by
  unfold f_X4_readTurnpike at hy
  have hkd := hy.kd
  have hy := hy.kb
  refine aw_aloadn (pc := 0) hX 0 rfl dX4_readTurnpike_0 ?_
  refine aw_bipush (pc := 1) hX 9 (by decide) dX4_readTurnpike_1 ?_
  refine aw_callV (pc := 3) (st := []) (a := v0) hX [vI 9] (con_X4_readWord _ G _ v0 9 hy.bd) mc_X4_readWord ml_X4_171 im_X4_readWord se_X4_readWord (by decide) hy.bd.kd rfl (rm_of hr (by decide)) (Nat.le_of_ble_eq_true rfl) rfl dX4_readTurnpike_3 (kmI rfl rfl (fun q3 hy => ?_))
  refine aw_if_ne (pc := 6) hX 11 (by decide) dX4_readTurnpike_6 (fun hc9 => ?_) (fun hc9 => ?_)
  · have hy := hy.f hc9
    refine aw_aloadn (pc := 11) hX 0 rfl dX4_readTurnpike_11 ?_
    refine aw_iconst (pc := 12) hX 0 (by decide) dX4_readTurnpike_12 ?_
    refine aw_bipush (pc := 13) hX 100 (by decide) dX4_readTurnpike_13 ?_
    refine aw_callV (pc := 15) (st := []) (a := v0) hX [vI 0, vI 100] (con_X4_readWhole _ G _ v0 0 100 hy.bd) mc_X4_readWhole ml_X4_174 im_X4_readWhole se_X4_readWhole (by decide) hy.bd.kd rfl (rm_of hr (by decide)) (Nat.le_of_ble_eq_true rfl) rfl dX4_readTurnpike_15 (kmI rfl rfl (fun q6 hy => ?_))
    refine aw_istoren (pc := 18) hX [(1, vI q6.1), (0, vR v0)] rfl (lt_n hN (by decide)) dX4_readTurnpike_18 ?_
    refine aw_aloadn (pc := 19) hX 1 rfl dX4_readTurnpike_19 ?_
    refine aw_gR (pc := 20) hX hy fl_X4_34 (fun _ _ => rfl) dX4_readTurnpike_20 (fun r7 hy => ?_)
    refine aw_iloadn (pc := 23) hX 0 rfl dX4_readTurnpike_23 ?_
    refine aw_pI (pc := 24) hX hy fl_X4_177 rfl (Or.inl rfl) dX4_readTurnpike_24 (fun h8 hy => ?_)
    refine aw_iloadn (pc := 27) hX 0 rfl dX4_readTurnpike_27 ?_
    refine aw_if_lt (pc := 28) hX 35 (by decide) dX4_readTurnpike_28 (fun hc9 => ?_) (fun hc9 => ?_)
    · have hy := hy.t hc9
      refine aw_iconst (pc := 35) hX 0 (by decide) dX4_readTurnpike_35 ?_
      exact aw_zret (pc := 36) hX hr (by decide) (by decide) dX4_readTurnpike_36 (Or.inl rfl) ⟨_, rfl, hy.s⟩
    · have hy := hy.f hc9
      refine aw_iconst (pc := 31) hX 1 (by decide) dX4_readTurnpike_31 ?_
      refine aw_goto (pc := 32) hX 36 (by decide) dX4_readTurnpike_32 ?_
      exact aw_zret (pc := 36) hX hr (by decide) (by decide) dX4_readTurnpike_36 (Or.inr rfl) ⟨_, rfl, hy.s⟩
  · have hy := hy.t hc9
    refine aw_iconst (pc := 9) hX 0 (by decide) dX4_readTurnpike_9 ?_
    exact aw_zret (pc := 10) hX hr (by decide) (by decide) dX4_readTurnpike_10 (Or.inl rfl) ⟨_, rfl, hy.s⟩
theorem con_X4_readTurnpike (l : Launch) (G : GE) (h : Mem) (v0 : Nat) {P : (Int32 × Mem) → Prop} (hy : OK (f_X4_readTurnpike h v0) P) : Con l G yX4_readTurnpike cX4_readTurnpike 2 (some .boolean) rm_X4_readTurnpike [vR v0] h (pmI P) := Con.of (by decide) (Nat.le_of_ble_eq_true rfl) (fun X hX hr hN => w_X4_readTurnpike hX hN hr h v0 hy)
/-! X4_isName -/
theorem dX4_isName_0 : decode cX4_isName 0 = .ok (.aload_n 0, 1) := by decide +kernel
theorem dX4_isName_1 : decode cX4_isName 1 = .ok (.getfield 99, 3) := by decide +kernel
theorem dX4_isName_4 : decode cX4_isName 4 = .ok (.iconst 1, 1) := by decide +kernel
theorem dX4_isName_5 : decode cX4_isName 5 = .ok (.if_icmp .ne 23, 3) := by decide +kernel
theorem dX4_isName_8 : decode cX4_isName 8 = .ok (.aload_n 0, 1) := by decide +kernel
theorem dX4_isName_9 : decode cX4_isName 9 = .ok (.getfield 138, 3) := by decide +kernel
theorem dX4_isName_12 : decode cX4_isName 12 = .ok (.ifCond .lt 12, 3) := by decide +kernel
theorem dX4_isName_15 : decode cX4_isName 15 = .ok (.aload_n 0, 1) := by decide +kernel
theorem dX4_isName_16 : decode cX4_isName 16 = .ok (.getfield 138, 3) := by decide +kernel
theorem dX4_isName_19 : decode cX4_isName 19 = .ok (.bipush 9, 2) := by decide +kernel
theorem dX4_isName_21 : decode cX4_isName 21 = .ok (.if_icmp .lt 7, 3) := by decide +kernel
theorem dX4_isName_24 : decode cX4_isName 24 = .ok (.iconst 1, 1) := by decide +kernel
theorem dX4_isName_25 : decode cX4_isName 25 = .ok (.goto 4, 3) := by decide +kernel
theorem dX4_isName_28 : decode cX4_isName 28 = .ok (.iconst 0, 1) := by decide +kernel
theorem dX4_isName_29 : decode cX4_isName 29 = .ok (.ireturn, 1) := by decide +kernel
abbrev rm_X4_isName : Room := { frames := 0, cells := 0, slots := 0, locals := 0 }
def f_X4_isName_28 (h : Mem) : Option Int32 :=
  some 0
set_option maxRecDepth 100000 in
set_option maxHeartbeats 4000000 in
theorem w_X4_isName_28 {G : GE} {X : CX} {l : Launch} (hX : Ok G X cX4_isName RX4) (hN : xn X = 1) (h : Mem) {P : Int32 → Prop} (hr : Rt G X l yX4_isName (some .boolean) rm_X4_isName (ppI h P)) (hy : OK (f_X4_isName_28 h) P) : AW G X 28 [] [] h 0 0 := by
  unfold f_X4_isName_28 at hy
  refine aw_iconst (pc := 28) hX 0 (by decide) dX4_isName_28 ?_
  exact aw_zret (pc := 29) hX hr (by decide) (by decide) dX4_isName_29 (Or.inl rfl) ⟨rfl, _, rfl, hy.s⟩
def f_X4_isName_24 (h : Mem) : Option Int32 :=
  some 1
set_option maxRecDepth 100000 in
set_option maxHeartbeats 4000000 in
theorem w_X4_isName_24 {G : GE} {X : CX} {l : Launch} (hX : Ok G X cX4_isName RX4) (hN : xn X = 1) (h : Mem) {P : Int32 → Prop} (hr : Rt G X l yX4_isName (some .boolean) rm_X4_isName (ppI h P)) (hy : OK (f_X4_isName_24 h) P) : AW G X 24 [] [] h 0 0 := by
  unfold f_X4_isName_24 at hy
  refine aw_iconst (pc := 24) hX 1 (by decide) dX4_isName_24 ?_
  refine aw_goto (pc := 25) hX 29 (by decide) dX4_isName_25 ?_
  exact aw_zret (pc := 29) hX hr (by decide) (by decide) dX4_isName_29 (Or.inr rfl) ⟨rfl, _, rfl, hy.s⟩
def f_X4_isName (h : Mem) (v0 : Nat) : Option Int32 :=
  (ck h v0 3).bind fun _ => (gI h v0 11 3).bind fun x1 => (if x1 = 1 then (gI h v0 13 3).bind fun x2 => (if x2 < 0 then f_X4_isName_24 h else (gI h v0 13 3).bind fun x3 => (if x3 < 9 then f_X4_isName_28 h else f_X4_isName_24 h)) else f_X4_isName_28 h)
set_option maxRecDepth 100000 in
set_option maxHeartbeats 4000000 in
theorem w_X4_isName {G : GE} {X : CX} {l : Launch} (hX : Ok G X cX4_isName RX4) (hN : xn X = 1) (h : Mem) {P : Int32 → Prop} (hr : Rt G X l yX4_isName (some .boolean) rm_X4_isName (ppI h P)) (v0 : Nat) (hy : OK (f_X4_isName h v0) P) : AW G X 0 [(0, vR v0)] [] h 0 0 := by
  unfold f_X4_isName at hy
  have hkd := hy.kd
  have hy := hy.kb
  refine aw_aloadn (pc := 0) hX 0 rfl dX4_isName_0 ?_
  refine aw_gI (pc := 1) hX hy fl_X4_99 (fun _ _ => rfl) dX4_isName_1 (fun x1 hy => ?_)
  refine aw_iconst (pc := 4) hX 1 (by decide) dX4_isName_4 ?_
  refine aw_ic_ne (pc := 5) hX 28 (by decide) dX4_isName_5 (fun hc9 => ?_) (fun hc9 => ?_)
  · have hy := hy.f hc9
    refine AW.sub [] rfl ?_
    exact w_X4_isName_28 hX hN _ hr hy
  · have hy := hy.t hc9
    refine aw_aloadn (pc := 8) hX 0 rfl dX4_isName_8 ?_
    refine aw_gI (pc := 9) hX hy fl_X4_138 (fun _ _ => rfl) dX4_isName_9 (fun x2 hy => ?_)
    refine aw_if_lt (pc := 12) hX 24 (by decide) dX4_isName_12 (fun hc9 => ?_) (fun hc9 => ?_)
    · have hy := hy.t hc9
      refine AW.sub [] rfl ?_
      exact w_X4_isName_24 hX hN _ hr hy
    · have hy := hy.f hc9
      refine aw_aloadn (pc := 15) hX 0 rfl dX4_isName_15 ?_
      refine aw_gI (pc := 16) hX hy fl_X4_138 (fun _ _ => rfl) dX4_isName_16 (fun x3 hy => ?_)
      refine aw_bipush (pc := 19) hX 9 (by decide) dX4_isName_19 ?_
      refine aw_ic_lt (pc := 21) hX 28 (by decide) dX4_isName_21 (fun hc9 => ?_) (fun hc9 => ?_)
      · have hy := hy.t hc9
        refine AW.sub [] rfl ?_
        exact w_X4_isName_28 hX hN _ hr hy
      · have hy := hy.f hc9
        refine AW.sub [] rfl ?_
        exact w_X4_isName_24 hX hN _ hr hy
theorem con_X4_isName (l : Launch) (G : GE) (h : Mem) (v0 : Nat) {P : Int32 → Prop} (hy : OK (f_X4_isName h v0) P) : Con l G yX4_isName cX4_isName 1 (some .boolean) rm_X4_isName [vR v0] h (ppI h P) := Con.of (by decide) (Nat.le_of_ble_eq_true rfl) (fun X hX hr hN => w_X4_isName hX hN h hr v0 hy)
/-! X4_readNewName -/
theorem dX4_readNewName_0 : decode cX4_readNewName 0 = .ok (.aload_n 0, 1) := by decide +kernel
theorem dX4_readNewName_1 : decode cX4_readNewName 1 = .ok (.invokevirtual 238, 3) := by decide +kernel
theorem dX4_readNewName_4 : decode cX4_readNewName 4 = .ok (.ifCond .ne 9, 3) := by decide +kernel
theorem dX4_readNewName_7 : decode cX4_readNewName 7 = .ok (.aload_n 0, 1) := by decide +kernel
theorem dX4_readNewName_8 : decode cX4_readNewName 8 = .ok (.iconst 1, 1) := by decide +kernel
theorem dX4_readNewName_9 : decode cX4_readNewName 9 = .ok (.invokevirtual 105, 3) := by decide +kernel
theorem dX4_readNewName_12 : decode cX4_readNewName 12 = .ok (.ireturn, 1) := by decide +kernel
theorem dX4_readNewName_13 : decode cX4_readNewName 13 = .ok (.aload_n 0, 1) := by decide +kernel
theorem dX4_readNewName_14 : decode cX4_readNewName 14 = .ok (.aload_n 0, 1) := by decide +kernel
theorem dX4_readNewName_15 : decode cX4_readNewName 15 = .ok (.getfield 21, 3) := by decide +kernel
theorem dX4_readNewName_18 : decode cX4_readNewName 18 = .ok (.aload_n 0, 1) := by decide +kernel
theorem dX4_readNewName_19 : decode cX4_readNewName 19 = .ok (.getfield 121, 3) := by decide +kernel
theorem dX4_readNewName_22 : decode cX4_readNewName 22 = .ok (.invokevirtual 241, 3) := by decide +kernel
theorem dX4_readNewName_25 : decode cX4_readNewName 25 = .ok (.ifCond .lt 9, 3) := by decide +kernel
theorem dX4_readNewName_28 : decode cX4_readNewName 28 = .ok (.aload_n 0, 1) := by decide +kernel
theorem dX4_readNewName_29 : decode cX4_readNewName 29 = .ok (.iconst 3, 1) := by decide +kernel
theorem dX4_readNewName_30 : decode cX4_readNewName 30 = .ok (.invokevirtual 105, 3) := by decide +kernel
theorem dX4_readNewName_33 : decode cX4_readNewName 33 = .ok (.ireturn, 1) := by decide +kernel
theorem dX4_readNewName_34 : decode cX4_readNewName 34 = .ok (.aload_n 0, 1) := by decide +kernel
theorem dX4_readNewName_35 : decode cX4_readNewName 35 = .ok (.getfield 21, 3) := by decide +kernel
theorem dX4_readNewName_38 : decode cX4_readNewName 38 = .ok (.aload_n 0, 1) := by decide +kernel
theorem dX4_readNewName_39 : decode cX4_readNewName 39 = .ok (.getfield 121, 3) := by decide +kernel
theorem dX4_readNewName_42 : decode cX4_readNewName 42 = .ok (.aload_n 0, 1) := by decide +kernel
theorem dX4_readNewName_43 : decode cX4_readNewName 43 = .ok (.getfield 245, 3) := by decide +kernel
theorem dX4_readNewName_46 : decode cX4_readNewName 46 = .ok (.lastore, 1) := by decide +kernel
theorem dX4_readNewName_47 : decode cX4_readNewName 47 = .ok (.aload_n 0, 1) := by decide +kernel
theorem dX4_readNewName_48 : decode cX4_readNewName 48 = .ok (.getfield 24, 3) := by decide +kernel
theorem dX4_readNewName_51 : decode cX4_readNewName 51 = .ok (.aload_n 0, 1) := by decide +kernel
theorem dX4_readNewName_52 : decode cX4_readNewName 52 = .ok (.getfield 121, 3) := by decide +kernel
theorem dX4_readNewName_55 : decode cX4_readNewName 55 = .ok (.iload_n 1, 1) := by decide +kernel
theorem dX4_readNewName_56 : decode cX4_readNewName 56 = .ok (.iastore, 1) := by decide +kernel
theorem dX4_readNewName_57 : decode cX4_readNewName 57 = .ok (.aload_n 0, 1) := by decide +kernel
theorem dX4_readNewName_58 : decode cX4_readNewName 58 = .ok (.getfield 27, 3) := by decide +kernel
theorem dX4_readNewName_61 : decode cX4_readNewName 61 = .ok (.aload_n 0, 1) := by decide +kernel
theorem dX4_readNewName_62 : decode cX4_readNewName 62 = .ok (.getfield 121, 3) := by decide +kernel
theorem dX4_readNewName_65 : decode cX4_readNewName 65 = .ok (.aload_n 0, 1) := by decide +kernel
theorem dX4_readNewName_66 : decode cX4_readNewName 66 = .ok (.getfield 30, 3) := by decide +kernel
theorem dX4_readNewName_69 : decode cX4_readNewName 69 = .ok (.iload_n 1, 1) := by decide +kernel
theorem dX4_readNewName_70 : decode cX4_readNewName 70 = .ok (.iaload, 1) := by decide +kernel
theorem dX4_readNewName_71 : decode cX4_readNewName 71 = .ok (.iconst 1, 1) := by decide +kernel
theorem dX4_readNewName_72 : decode cX4_readNewName 72 = .ok (.isub, 1) := by decide +kernel
theorem dX4_readNewName_73 : decode cX4_readNewName 73 = .ok (.iastore, 1) := by decide +kernel
theorem dX4_readNewName_74 : decode cX4_readNewName 74 = .ok (.aload_n 0, 1) := by decide +kernel
theorem dX4_readNewName_75 : decode cX4_readNewName 75 = .ok (.dup, 1) := by decide +kernel
theorem dX4_readNewName_76 : decode cX4_readNewName 76 = .ok (.getfield 121, 3) := by decide +kernel
theorem dX4_readNewName_79 : decode cX4_readNewName 79 = .ok (.iconst 1, 1) := by decide +kernel
theorem dX4_readNewName_80 : decode cX4_readNewName 80 = .ok (.iadd, 1) := by decide +kernel
theorem dX4_readNewName_81 : decode cX4_readNewName 81 = .ok (.putfield 121, 3) := by decide +kernel
theorem dX4_readNewName_84 : decode cX4_readNewName 84 = .ok (.aload_n 0, 1) := by decide +kernel
theorem dX4_readNewName_85 : decode cX4_readNewName 85 = .ok (.invokevirtual 109, 3) := by decide +kernel
theorem dX4_readNewName_88 : decode cX4_readNewName 88 = .ok (.iconst 1, 1) := by decide +kernel
theorem dX4_readNewName_89 : decode cX4_readNewName 89 = .ok (.ireturn, 1) := by decide +kernel
abbrev rm_X4_readNewName : Room := { frames := 2, cells := 0, slots := 0, locals := 43 }
def f_X4_readNewName (h : Mem) (v0 : Nat) (v1 : Int32) : Option (Int32 × Mem) :=
  (ck h v0 3).bind fun _ => (f_X4_isName h v0).bind fun x1 => (if x1 = 0 then (f_X4_fail h v0 1).bind fun q25 => retZ q25.1 (q25.1, q25.2) else (gR h v0 2 3).bind fun r2 => (gI h v0 7 3).bind fun x3 => (f_X4_placeOfWord h v0 r2 x3).bind fun x4 => (if x4 < 0 then (gR h v0 2 3).bind fun r5 => (gI h v0 7 3).bind fun x6 => (gL h v0 12 3).bind fun x7 => (sL h r5 x6 x7).bind fun h8 => (gR h8 v0 3 3).bind fun r9 => (gI h8 v0 7 3).bind fun x10 => (sI h8 r9 x10 v1).bind fun h11 => (gR h11 v0 4 3).bind fun r12 => (gI h11 v0 7 3).bind fun x13 => (gR h11 v0 5 3).bind fun r14 => (aI h11 r14 v1).bind fun x15 => (sI h11 r12 x13 (x15 - 1)).bind fun h16 => (gI h16 v0 7 3).bind fun x17 => (pI h16 v0 7 3 (x17 + 1)).bind fun h18 => (f_X4_step h18 v0).bind fun h19 => some (1, h19) else (f_X4_fail h v0 3).bind fun q22 => retZ q22.1 (q22.1, q22.2)))
set_option maxRecDepth 100000 in
set_option maxHeartbeats 4000000 in
theorem w_X4_readNewName {G : GE} {X : CX} {l : Launch} (hX : Ok G X cX4_readNewName RX4) (hN : xn X = 2) {P : (Int32 × Mem) → Prop} (hr : Rt G X l yX4_readNewName (some .boolean) rm_X4_readNewName (pmI P)) (h : Mem) (v0 : Nat) (v1 : Int32) (hy : OK (f_X4_readNewName h v0 v1) P) : AW G X 0 [(0, vR v0), (1, vI v1)] [] h 0 0 := by
  unfold f_X4_readNewName at hy
  have hkd := hy.kd
  have hy := hy.kb
  refine aw_aloadn (pc := 0) hX 0 rfl dX4_readNewName_0 ?_
  refine aw_callV (pc := 1) (st := []) (a := v0) hX [] (con_X4_isName _ G _ v0 hy.bd) mc_X4_isName ml_X4_238 im_X4_isName se_X4_isName (by decide) hy.bd.kd rfl (rm_of hr (by decide)) (Nat.le_of_ble_eq_true rfl) rfl dX4_readNewName_1 (kpI rfl rfl (fun x1 hy => ?_))
  refine aw_if_ne (pc := 4) hX 13 (by decide) dX4_readNewName_4 (fun hc9 => ?_) (fun hc9 => ?_)
  · have hy := hy.f hc9
    refine aw_aloadn (pc := 13) hX 0 rfl dX4_readNewName_13 ?_
    refine aw_aloadn (pc := 14) hX 0 rfl dX4_readNewName_14 ?_
    refine aw_gR (pc := 15) hX hy fl_X4_21 (fun _ _ => rfl) dX4_readNewName_15 (fun r2 hy => ?_)
    refine aw_aloadn (pc := 18) hX 0 rfl dX4_readNewName_18 ?_
    refine aw_gI (pc := 19) hX hy fl_X4_121 (fun _ _ => rfl) dX4_readNewName_19 (fun x3 hy => ?_)
    refine aw_callV (pc := 22) (st := []) (a := v0) hX [vR r2, vI x3] (con_X4_placeOfWord _ G _ v0 r2 x3 hy.bd) mc_X4_placeOfWord ml_X4_241 im_X4_placeOfWord se_X4_placeOfWord (by decide) hy.bd.kd rfl (rm_of hr (by decide)) (Nat.le_of_ble_eq_true rfl) rfl dX4_readNewName_22 (kpI rfl rfl (fun x4 hy => ?_))
    refine aw_if_lt (pc := 25) hX 34 (by decide) dX4_readNewName_25 (fun hc9 => ?_) (fun hc9 => ?_)
    · have hy := hy.t hc9
      refine aw_aloadn (pc := 34) hX 0 rfl dX4_readNewName_34 ?_
      refine aw_gR (pc := 35) hX hy fl_X4_21 (fun _ _ => rfl) dX4_readNewName_35 (fun r5 hy => ?_)
      refine aw_aloadn (pc := 38) hX 0 rfl dX4_readNewName_38 ?_
      refine aw_gI (pc := 39) hX hy fl_X4_121 (fun _ _ => rfl) dX4_readNewName_39 (fun x6 hy => ?_)
      refine aw_aloadn (pc := 42) hX 0 rfl dX4_readNewName_42 ?_
      refine aw_gL (pc := 43) hX hy fl_X4_245 (fun _ _ => rfl) dX4_readNewName_43 (fun x7 hy => ?_)
      refine aw_sL (pc := 46) hX hy dX4_readNewName_46 (fun h8 hy => ?_)
      refine aw_aloadn (pc := 47) hX 0 rfl dX4_readNewName_47 ?_
      refine aw_gR (pc := 48) hX hy fl_X4_24 (fun _ _ => rfl) dX4_readNewName_48 (fun r9 hy => ?_)
      refine aw_aloadn (pc := 51) hX 0 rfl dX4_readNewName_51 ?_
      refine aw_gI (pc := 52) hX hy fl_X4_121 (fun _ _ => rfl) dX4_readNewName_52 (fun x10 hy => ?_)
      refine aw_iloadn (pc := 55) hX 1 rfl dX4_readNewName_55 ?_
      refine aw_sI (pc := 56) hX hy dX4_readNewName_56 (fun h11 hy => ?_)
      refine aw_aloadn (pc := 57) hX 0 rfl dX4_readNewName_57 ?_
      refine aw_gR (pc := 58) hX hy fl_X4_27 (fun _ _ => rfl) dX4_readNewName_58 (fun r12 hy => ?_)
      refine aw_aloadn (pc := 61) hX 0 rfl dX4_readNewName_61 ?_
      refine aw_gI (pc := 62) hX hy fl_X4_121 (fun _ _ => rfl) dX4_readNewName_62 (fun x13 hy => ?_)
      refine aw_aloadn (pc := 65) hX 0 rfl dX4_readNewName_65 ?_
      refine aw_gR (pc := 66) hX hy fl_X4_30 (fun _ _ => rfl) dX4_readNewName_66 (fun r14 hy => ?_)
      refine aw_iloadn (pc := 69) hX 1 rfl dX4_readNewName_69 ?_
      refine aw_aI (pc := 70) hX hy dX4_readNewName_70 (fun x15 hy => ?_)
      refine aw_iconst (pc := 71) hX 1 (by decide) dX4_readNewName_71 ?_
      refine aw_isub (pc := 72) hX dX4_readNewName_72 ?_
      refine aw_sI (pc := 73) hX hy dX4_readNewName_73 (fun h16 hy => ?_)
      refine aw_aloadn (pc := 74) hX 0 rfl dX4_readNewName_74 ?_
      refine aw_dup (pc := 75) hX rfl dX4_readNewName_75 ?_
      refine aw_gI (pc := 76) hX hy fl_X4_121 (fun _ _ => rfl) dX4_readNewName_76 (fun x17 hy => ?_)
      refine aw_iconst (pc := 79) hX 1 (by decide) dX4_readNewName_79 ?_
      refine aw_iadd (pc := 80) hX dX4_readNewName_80 ?_
      refine aw_pI (pc := 81) hX hy fl_X4_121 rfl (Or.inl rfl) dX4_readNewName_81 (fun h18 hy => ?_)
      refine aw_aloadn (pc := 84) hX 0 rfl dX4_readNewName_84 ?_
      refine aw_callV (pc := 85) (st := []) (a := v0) hX [] (con_X4_step _ G _ v0 hy.bd) mc_X4_step ml_X4_109 im_X4_step se_X4_step (by decide) hy.bd.kd rfl (rm_of hr (by decide)) (Nat.le_of_ble_eq_true rfl) rfl dX4_readNewName_85 (kmV rfl rfl (fun h19 hy => ?_))
      refine aw_iconst (pc := 88) hX 1 (by decide) dX4_readNewName_88 ?_
      exact aw_zret (pc := 89) hX hr (by decide) (by decide) dX4_readNewName_89 (Or.inr rfl) ⟨_, rfl, hy.s⟩
    · have hy := hy.f hc9
      refine aw_aloadn (pc := 28) hX 0 rfl dX4_readNewName_28 ?_
      refine aw_iconst (pc := 29) hX 3 (by decide) dX4_readNewName_29 ?_
      refine aw_callV (pc := 30) (st := []) (a := v0) hX [vI 3] (con_X4_fail _ G _ v0 3 hy.bd) mc_X4_fail ml_X4_105 im_X4_fail se_X4_fail (by decide) hy.bd.kd rfl (rm_of hr (by decide)) (Nat.le_of_ble_eq_true rfl) rfl dX4_readNewName_30 (kmI rfl rfl (fun q22 hy => ?_))
      exact aw_zret (pc := 33) hX hr (by decide) (by decide) dX4_readNewName_33 hy.rz.1 ⟨_, rfl, hy.rz.2⟩
  · have hy := hy.t hc9
    refine aw_aloadn (pc := 7) hX 0 rfl dX4_readNewName_7 ?_
    refine aw_iconst (pc := 8) hX 1 (by decide) dX4_readNewName_8 ?_
    refine aw_callV (pc := 9) (st := []) (a := v0) hX [vI 1] (con_X4_fail _ G _ v0 1 hy.bd) mc_X4_fail ml_X4_105 im_X4_fail se_X4_fail (by decide) hy.bd.kd rfl (rm_of hr (by decide)) (Nat.le_of_ble_eq_true rfl) rfl dX4_readNewName_9 (kmI rfl rfl (fun q25 hy => ?_))
    exact aw_zret (pc := 12) hX hr (by decide) (by decide) dX4_readNewName_12 hy.rz.1 ⟨_, rfl, hy.rz.2⟩
theorem con_X4_readNewName (l : Launch) (G : GE) (h : Mem) (v0 : Nat) (v1 : Int32) {P : (Int32 × Mem) → Prop} (hy : OK (f_X4_readNewName h v0 v1) P) : Con l G yX4_readNewName cX4_readNewName 2 (some .boolean) rm_X4_readNewName [vR v0, vI v1] h (pmI P) := Con.of (by decide) (Nat.le_of_ble_eq_true rfl) (fun X hX hr hN => w_X4_readNewName hX hN hr h v0 v1 hy)
/-! X4_readTune -/
theorem dX4_readTune_0 : decode cX4_readTune 0 = .ok (.aload_n 0, 1) := by decide +kernel
theorem dX4_readTune_1 : decode cX4_readTune 1 = .ok (.iconst 1, 1) := by decide +kernel
theorem dX4_readTune_2 : decode cX4_readTune 2 = .ok (.invokevirtual 180, 3) := by decide +kernel
theorem dX4_readTune_5 : decode cX4_readTune 5 = .ok (.ifCond .ne 5, 3) := by decide +kernel
theorem dX4_readTune_8 : decode cX4_readTune 8 = .ok (.iconst 0, 1) := by decide +kernel
theorem dX4_readTune_9 : decode cX4_readTune 9 = .ok (.ireturn, 1) := by decide +kernel
theorem dX4_readTune_10 : decode cX4_readTune 10 = .ok (.aload_n 0, 1) := by decide +kernel
theorem dX4_readTune_11 : decode cX4_readTune 11 = .ok (.getfield 99, 3) := by decide +kernel
theorem dX4_readTune_14 : decode cX4_readTune 14 = .ok (.iconst 1, 1) := by decide +kernel
theorem dX4_readTune_15 : decode cX4_readTune 15 = .ok (.if_icmp .eq 9, 3) := by decide +kernel
theorem dX4_readTune_18 : decode cX4_readTune 18 = .ok (.aload_n 0, 1) := by decide +kernel
theorem dX4_readTune_19 : decode cX4_readTune 19 = .ok (.iconst 1, 1) := by decide +kernel
theorem dX4_readTune_20 : decode cX4_readTune 20 = .ok (.invokevirtual 105, 3) := by decide +kernel
theorem dX4_readTune_23 : decode cX4_readTune 23 = .ok (.ireturn, 1) := by decide +kernel
theorem dX4_readTune_24 : decode cX4_readTune 24 = .ok (.aload_n 0, 1) := by decide +kernel
theorem dX4_readTune_25 : decode cX4_readTune 25 = .ok (.getfield 130, 3) := by decide +kernel
theorem dX4_readTune_28 : decode cX4_readTune 28 = .ok (.aload_n 0, 1) := by decide +kernel
theorem dX4_readTune_29 : decode cX4_readTune 29 = .ok (.getfield 136, 3) := by decide +kernel
theorem dX4_readTune_32 : decode cX4_readTune 32 = .ok (.isub, 1) := by decide +kernel
theorem dX4_readTune_33 : decode cX4_readTune 33 = .ok (.istore_n 1, 1) := by decide +kernel
theorem dX4_readTune_34 : decode cX4_readTune 34 = .ok (.iload_n 1, 1) := by decide +kernel
theorem dX4_readTune_35 : decode cX4_readTune 35 = .ok (.iconst 2, 1) := by decide +kernel
theorem dX4_readTune_36 : decode cX4_readTune 36 = .ok (.if_icmp .ge 10, 3) := by decide +kernel
theorem dX4_readTune_39 : decode cX4_readTune 39 = .ok (.aload_n 0, 1) := by decide +kernel
theorem dX4_readTune_40 : decode cX4_readTune 40 = .ok (.bipush 7, 2) := by decide +kernel
theorem dX4_readTune_42 : decode cX4_readTune 42 = .ok (.invokevirtual 105, 3) := by decide +kernel
theorem dX4_readTune_45 : decode cX4_readTune 45 = .ok (.ireturn, 1) := by decide +kernel
theorem dX4_readTune_46 : decode cX4_readTune 46 = .ok (.iconst 0, 1) := by decide +kernel
theorem dX4_readTune_47 : decode cX4_readTune 47 = .ok (.istore_n 2, 1) := by decide +kernel
theorem dX4_readTune_48 : decode cX4_readTune 48 = .ok (.iload_n 2, 1) := by decide +kernel
theorem dX4_readTune_49 : decode cX4_readTune 49 = .ok (.iload_n 1, 1) := by decide +kernel
theorem dX4_readTune_50 : decode cX4_readTune 50 = .ok (.if_icmp .ge 66, 3) := by decide +kernel
theorem dX4_readTune_53 : decode cX4_readTune 53 = .ok (.aload_n 0, 1) := by decide +kernel
theorem dX4_readTune_54 : decode cX4_readTune 54 = .ok (.getfield 13, 3) := by decide +kernel
theorem dX4_readTune_57 : decode cX4_readTune 57 = .ok (.aload_n 0, 1) := by decide +kernel
theorem dX4_readTune_58 : decode cX4_readTune 58 = .ok (.getfield 136, 3) := by decide +kernel
theorem dX4_readTune_61 : decode cX4_readTune 61 = .ok (.iload_n 2, 1) := by decide +kernel
theorem dX4_readTune_62 : decode cX4_readTune 62 = .ok (.iadd, 1) := by decide +kernel
theorem dX4_readTune_63 : decode cX4_readTune 63 = .ok (.iaload, 1) := by decide +kernel
theorem dX4_readTune_64 : decode cX4_readTune 64 = .ok (.bipush 103, 2) := by decide +kernel
theorem dX4_readTune_66 : decode cX4_readTune 66 = .ok (.if_icmp .le 10, 3) := by decide +kernel
theorem dX4_readTune_69 : decode cX4_readTune 69 = .ok (.aload_n 0, 1) := by decide +kernel
theorem dX4_readTune_70 : decode cX4_readTune 70 = .ok (.bipush 7, 2) := by decide +kernel
theorem dX4_readTune_72 : decode cX4_readTune 72 = .ok (.invokevirtual 105, 3) := by decide +kernel
theorem dX4_readTune_75 : decode cX4_readTune 75 = .ok (.ireturn, 1) := by decide +kernel
theorem dX4_readTune_76 : decode cX4_readTune 76 = .ok (.aload_n 0, 1) := by decide +kernel
theorem dX4_readTune_77 : decode cX4_readTune 77 = .ok (.getfield 34, 3) := by decide +kernel
theorem dX4_readTune_80 : decode cX4_readTune 80 = .ok (.getfield 183, 3) := by decide +kernel
theorem dX4_readTune_83 : decode cX4_readTune 83 = .ok (.aload_n 0, 1) := by decide +kernel
theorem dX4_readTune_84 : decode cX4_readTune 84 = .ok (.getfield 34, 3) := by decide +kernel
theorem dX4_readTune_87 : decode cX4_readTune 87 = .ok (.getfield 186, 3) := by decide +kernel
theorem dX4_readTune_90 : decode cX4_readTune 90 = .ok (.bipush 8, 2) := by decide +kernel
theorem dX4_readTune_92 : decode cX4_readTune 92 = .ok (.imul, 1) := by decide +kernel
theorem dX4_readTune_93 : decode cX4_readTune 93 = .ok (.iload_n 2, 1) := by decide +kernel
theorem dX4_readTune_94 : decode cX4_readTune 94 = .ok (.iadd, 1) := by decide +kernel
theorem dX4_readTune_95 : decode cX4_readTune 95 = .ok (.aload_n 0, 1) := by decide +kernel
theorem dX4_readTune_96 : decode cX4_readTune 96 = .ok (.getfield 13, 3) := by decide +kernel
theorem dX4_readTune_99 : decode cX4_readTune 99 = .ok (.aload_n 0, 1) := by decide +kernel
theorem dX4_readTune_100 : decode cX4_readTune 100 = .ok (.getfield 136, 3) := by decide +kernel
theorem dX4_readTune_103 : decode cX4_readTune 103 = .ok (.iload_n 2, 1) := by decide +kernel
theorem dX4_readTune_104 : decode cX4_readTune 104 = .ok (.iadd, 1) := by decide +kernel
theorem dX4_readTune_105 : decode cX4_readTune 105 = .ok (.iaload, 1) := by decide +kernel
theorem dX4_readTune_106 : decode cX4_readTune 106 = .ok (.bipush 97, 2) := by decide +kernel
theorem dX4_readTune_108 : decode cX4_readTune 108 = .ok (.isub, 1) := by decide +kernel
theorem dX4_readTune_109 : decode cX4_readTune 109 = .ok (.iastore, 1) := by decide +kernel
theorem dX4_readTune_110 : decode cX4_readTune 110 = .ok (.iinc 2 1, 3) := by decide +kernel
theorem dX4_readTune_113 : decode cX4_readTune 113 = .ok (.goto (-65), 3) := by decide +kernel
theorem dX4_readTune_116 : decode cX4_readTune 116 = .ok (.aload_n 0, 1) := by decide +kernel
theorem dX4_readTune_117 : decode cX4_readTune 117 = .ok (.getfield 34, 3) := by decide +kernel
theorem dX4_readTune_120 : decode cX4_readTune 120 = .ok (.getfield 189, 3) := by decide +kernel
theorem dX4_readTune_123 : decode cX4_readTune 123 = .ok (.aload_n 0, 1) := by decide +kernel
theorem dX4_readTune_124 : decode cX4_readTune 124 = .ok (.getfield 34, 3) := by decide +kernel
theorem dX4_readTune_127 : decode cX4_readTune 127 = .ok (.getfield 186, 3) := by decide +kernel
theorem dX4_readTune_130 : decode cX4_readTune 130 = .ok (.iload_n 1, 1) := by decide +kernel
theorem dX4_readTune_131 : decode cX4_readTune 131 = .ok (.iastore, 1) := by decide +kernel
theorem dX4_readTune_132 : decode cX4_readTune 132 = .ok (.aload_n 0, 1) := by decide +kernel
theorem dX4_readTune_133 : decode cX4_readTune 133 = .ok (.getfield 34, 3) := by decide +kernel
theorem dX4_readTune_136 : decode cX4_readTune 136 = .ok (.dup, 1) := by decide +kernel
theorem dX4_readTune_137 : decode cX4_readTune 137 = .ok (.getfield 186, 3) := by decide +kernel
theorem dX4_readTune_140 : decode cX4_readTune 140 = .ok (.iconst 1, 1) := by decide +kernel
theorem dX4_readTune_141 : decode cX4_readTune 141 = .ok (.iadd, 1) := by decide +kernel
theorem dX4_readTune_142 : decode cX4_readTune 142 = .ok (.putfield 186, 3) := by decide +kernel
theorem dX4_readTune_145 : decode cX4_readTune 145 = .ok (.aload_n 0, 1) := by decide +kernel
theorem dX4_readTune_146 : decode cX4_readTune 146 = .ok (.invokevirtual 109, 3) := by decide +kernel
theorem dX4_readTune_149 : decode cX4_readTune 149 = .ok (.iconst 1, 1) := by decide +kernel
theorem dX4_readTune_150 : decode cX4_readTune 150 = .ok (.ireturn, 1) := by decide +kernel
abbrev rm_X4_readTune : Room := { frames := 3, cells := 0, slots := 0, locals := 64 }
def b_X4_readTune_48 (h : Mem) (v0 : Nat) (v1 : Int32) (v2 : Int32) : Option ((Int32 × Mem) ⊕ (Mem ⊕ Mem)) :=
  (if v1 ≤ v2 then some (.inr (.inr h)) else (gR h v0 0 3).bind fun r7 => (gI h v0 9 3).bind fun x8 => (aI h r7 (x8 + v2)).bind fun x9 => (if x9 ≤ 103 then (gR h v0 6 3).bind fun r10 => (gR h r10 10 4).bind fun r11 => (gR h v0 6 3).bind fun r12 => (gI h r12 1 4).bind fun x13 => (gR h v0 0 3).bind fun r14 => (gI h v0 9 3).bind fun x15 => (aI h r14 (x15 + v2)).bind fun x16 => (sI h r11 ((x13 * 8) + v2) (x16 - 97)).bind fun h17 => some (.inl ((v2 + 1), h17)) else some (.inr (.inl h))))
set_option maxRecDepth 100000 in
set_option maxHeartbeats 4000000 in
theorem wb_X4_readTune_48 {G : GE} {X : CX} {l : Launch} (hX : Ok G X cX4_readTune RX4) (hN : xn X = 3) {P0 : (Int32 × Mem) → Prop} (hr : Rt G X l yX4_readTune (some .boolean) rm_X4_readTune (pmI P0))  (v0 : Nat) (v1 : Int32) {P : ((Int32 × Mem) ⊕ (Mem ⊕ Mem)) → Prop} (hc : ∀ s, P (.inl s) → AW G X 48 [(0, vR v0), (1, vI v1), (2, vI s.1)] [] s.2 0 0) (he0 : ∀ e, P (.inr (.inl e)) → AW G X 69 [(0, vR v0)] [] e 0 0) (he1 : ∀ e, P (.inr (.inr e)) → AW G X 116 [(0, vR v0), (1, vI v1)] [] e 0 0) (h : Mem) (v2 : Int32) (hy : OK (b_X4_readTune_48 h v0 v1 v2) P) : AW G X 48 [(0, vR v0), (1, vI v1), (2, vI v2)] [] h 0 0 := by
  unfold b_X4_readTune_48 at hy
  refine aw_iloadn (pc := 48) hX 2 rfl dX4_readTune_48 ?_
  refine aw_iloadn (pc := 49) hX 1 rfl dX4_readTune_49 ?_
  refine aw_ic_ge (pc := 50) hX 116 (by decide) dX4_readTune_50 (fun hc9 => ?_) (fun hc9 => ?_)
  · have hy := hy.t hc9
    refine AW.sub [0, 1] rfl ?_
    exact he1 h hy.s
  · have hy := hy.f hc9
    refine aw_aloadn (pc := 53) hX 0 rfl dX4_readTune_53 ?_
    refine aw_gR (pc := 54) hX hy fl_X4_13 (fun _ _ => rfl) dX4_readTune_54 (fun r7 hy => ?_)
    refine aw_aloadn (pc := 57) hX 0 rfl dX4_readTune_57 ?_
    refine aw_gI (pc := 58) hX hy fl_X4_136 (fun _ _ => rfl) dX4_readTune_58 (fun x8 hy => ?_)
    refine aw_iloadn (pc := 61) hX 2 rfl dX4_readTune_61 ?_
    refine aw_iadd (pc := 62) hX dX4_readTune_62 ?_
    refine aw_aI (pc := 63) hX hy dX4_readTune_63 (fun x9 hy => ?_)
    refine aw_bipush (pc := 64) hX 103 (by decide) dX4_readTune_64 ?_
    refine aw_ic_le (pc := 66) hX 76 (by decide) dX4_readTune_66 (fun hc9 => ?_) (fun hc9 => ?_)
    · have hy := hy.t hc9
      refine aw_aloadn (pc := 76) hX 0 rfl dX4_readTune_76 ?_
      refine aw_gR (pc := 77) hX hy fl_X4_34 (fun _ _ => rfl) dX4_readTune_77 (fun r10 hy => ?_)
      refine aw_gR (pc := 80) hX hy fl_X4_183 (fun _ _ => rfl) dX4_readTune_80 (fun r11 hy => ?_)
      refine aw_aloadn (pc := 83) hX 0 rfl dX4_readTune_83 ?_
      refine aw_gR (pc := 84) hX hy fl_X4_34 (fun _ _ => rfl) dX4_readTune_84 (fun r12 hy => ?_)
      refine aw_gI (pc := 87) hX hy fl_X4_186 (fun _ _ => rfl) dX4_readTune_87 (fun x13 hy => ?_)
      refine aw_bipush (pc := 90) hX 8 (by decide) dX4_readTune_90 ?_
      refine aw_imul (pc := 92) hX dX4_readTune_92 ?_
      refine aw_iloadn (pc := 93) hX 2 rfl dX4_readTune_93 ?_
      refine aw_iadd (pc := 94) hX dX4_readTune_94 ?_
      refine aw_aloadn (pc := 95) hX 0 rfl dX4_readTune_95 ?_
      refine aw_gR (pc := 96) hX hy fl_X4_13 (fun _ _ => rfl) dX4_readTune_96 (fun r14 hy => ?_)
      refine aw_aloadn (pc := 99) hX 0 rfl dX4_readTune_99 ?_
      refine aw_gI (pc := 100) hX hy fl_X4_136 (fun _ _ => rfl) dX4_readTune_100 (fun x15 hy => ?_)
      refine aw_iloadn (pc := 103) hX 2 rfl dX4_readTune_103 ?_
      refine aw_iadd (pc := 104) hX dX4_readTune_104 ?_
      refine aw_aI (pc := 105) hX hy dX4_readTune_105 (fun x16 hy => ?_)
      refine aw_bipush (pc := 106) hX 97 (by decide) dX4_readTune_106 ?_
      refine aw_isub (pc := 108) hX dX4_readTune_108 ?_
      refine aw_sI (pc := 109) hX hy dX4_readTune_109 (fun h17 hy => ?_)
      refine aw_iinc (pc := 110) hX 1 (by decide) 2 rfl [(2, vI (v2 + 1)), (0, vR v0), (1, vI v1)] rfl (lt_n hN (by decide)) dX4_readTune_110 ?_
      refine aw_goto (pc := 113) hX 48 (by decide) dX4_readTune_113 ?_
      refine AW.sub [1, 2, 0] rfl ?_
      exact hc ((v2 + 1), h17) hy.s
    · have hy := hy.f hc9
      refine AW.sub [0] rfl ?_
      exact he0 h hy.s
theorem wl_X4_readTune_48 {G : GE} {X : CX} {l : Launch} (hX : Ok G X cX4_readTune RX4) (hN : xn X = 3) {P0 : (Int32 × Mem) → Prop} (hr : Rt G X l yX4_readTune (some .boolean) rm_X4_readTune (pmI P0)) (v0 : Nat) (v1 : Int32) {P : (Mem ⊕ Mem) → Prop} (he0 : ∀ e, P (.inl e) → AW G X 69 [(0, vR v0)] [] e 0 0) (he1 : ∀ e, P (.inr e) → AW G X 116 [(0, vR v0), (1, vI v1)] [] e 0 0) : ∀ (n : Nat) (s : Int32 × Mem), OK (iter (fun (s : Int32 × Mem) => b_X4_readTune_48 s.2 v0 v1 s.1) n s) P → AW G X 48 [(0, vR v0), (1, vI v1), (2, vI s.1)] [] s.2 0 0 := by
  intro n
  induction n with
  | zero => exact fun s hy => hy.it0.elim
  | succ n ih =>
    intro s hy
    exact wb_X4_readTune_48 hX hN hr v0 v1 (fun s hs => ih s hs) (fun e hs => he0 e hs) (fun e hs => he1 e hs) s.2 s.1 hy.it
def f_X4_readTune (h : Mem) (v0 : Nat) : Option (Int32 × Mem) :=
  (ck h v0 3).bind fun _ => (f_X4_readNewName h v0 1).bind fun q3 => (if q3.1 = 0 then some (0, q3.2) else (gI q3.2 v0 11 3).bind fun x4 => (if x4 = 1 then (gI q3.2 v0 10 3).bind fun x5 => (gI q3.2 v0 9 3).bind fun x6 => (if 2 ≤ (x5 - x6) then (iter (fun (s : Int32 × Mem) => b_X4_readTune_48 s.2 v0 (x5 - x6) s.1) FU (0, q3.2)).bind (Sum.elim (fun e19 => (f_X4_fail e19 v0 7).bind fun q22 => retZ q22.1 (q22.1, q22.2)) (fun e23 => (gR e23 v0 6 3).bind fun r24 => (gR e23 r24 9 4).bind fun r25 => (gR e23 v0 6 3).bind fun r26 => (gI e23 r26 1 4).bind fun x27 => (sI e23 r25 x27 (x5 - x6)).bind fun h28 => (gR h28 v0 6 3).bind fun r29 => (gI h28 r29 1 4).bind fun x30 => (pI h28 r29 1 4 (x30 + 1)).bind fun h31 => (f_X4_step h31 v0).bind fun h32 => some (1, h32))) else (f_X4_fail q3.2 v0 7).bind fun q35 => retZ q35.1 (q35.1, q35.2)) else (f_X4_fail q3.2 v0 1).bind fun q38 => retZ q38.1 (q38.1, q38.2)))
set_option maxRecDepth 100000 in
set_option maxHeartbeats 4000000 in
theorem w_X4_readTune {G : GE} {X : CX} {l : Launch} (hX : Ok G X cX4_readTune RX4) (hN : xn X = 3) {P : (Int32 × Mem) → Prop} (hr : Rt G X l yX4_readTune (some .boolean) rm_X4_readTune (pmI P)) (h : Mem) (v0 : Nat) (hy : OK (f_X4_readTune h v0) P) : AW G X 0 [(0, vR v0)] [] h 0 0 := by
  unfold f_X4_readTune at hy
  have hkd := hy.kd
  have hy := hy.kb
  refine aw_aloadn (pc := 0) hX 0 rfl dX4_readTune_0 ?_
  refine aw_iconst (pc := 1) hX 1 (by decide) dX4_readTune_1 ?_
  refine aw_callV (pc := 2) (st := []) (a := v0) hX [vI 1] (con_X4_readNewName _ G _ v0 1 hy.bd) mc_X4_readNewName ml_X4_180 im_X4_readNewName se_X4_readNewName (by decide) hy.bd.kd rfl (rm_of hr (by decide)) (Nat.le_of_ble_eq_true rfl) rfl dX4_readTune_2 (kmI rfl rfl (fun q3 hy => ?_))
  refine aw_if_ne (pc := 5) hX 10 (by decide) dX4_readTune_5 (fun hc9 => ?_) (fun hc9 => ?_)
  · have hy := hy.f hc9
    refine aw_aloadn (pc := 10) hX 0 rfl dX4_readTune_10 ?_
    refine aw_gI (pc := 11) hX hy fl_X4_99 (fun _ _ => rfl) dX4_readTune_11 (fun x4 hy => ?_)
    refine aw_iconst (pc := 14) hX 1 (by decide) dX4_readTune_14 ?_
    refine aw_ic_eq (pc := 15) hX 24 (by decide) dX4_readTune_15 (fun hc9 => ?_) (fun hc9 => ?_)
    · have hy := hy.t hc9
      refine aw_aloadn (pc := 24) hX 0 rfl dX4_readTune_24 ?_
      refine aw_gI (pc := 25) hX hy fl_X4_130 (fun _ _ => rfl) dX4_readTune_25 (fun x5 hy => ?_)
      refine aw_aloadn (pc := 28) hX 0 rfl dX4_readTune_28 ?_
      refine aw_gI (pc := 29) hX hy fl_X4_136 (fun _ _ => rfl) dX4_readTune_29 (fun x6 hy => ?_)
      refine aw_isub (pc := 32) hX dX4_readTune_32 ?_
      refine aw_istoren (pc := 33) hX [(1, vI (x5 - x6)), (0, vR v0)] rfl (lt_n hN (by decide)) dX4_readTune_33 ?_
      refine aw_iloadn (pc := 34) hX 0 rfl dX4_readTune_34 ?_
      refine aw_iconst (pc := 35) hX 2 (by decide) dX4_readTune_35 ?_
      refine aw_ic_ge (pc := 36) hX 46 (by decide) dX4_readTune_36 (fun hc9 => ?_) (fun hc9 => ?_)
      · have hy := hy.t hc9
        refine aw_iconst (pc := 46) hX 0 (by decide) dX4_readTune_46 ?_
        refine aw_istoren (pc := 47) hX [(2, vI 0), (1, vI (x5 - x6)), (0, vR v0)] rfl (lt_n hN (by decide)) dX4_readTune_47 ?_
        refine AW.sub [2, 1, 0] rfl ?_
        refine wl_X4_readTune_48 hX hN hr v0 (x5 - x6) ?_ ?_ FU (0, q3.2) hy.bd
        · intro e19 hy
          refine aw_aloadn (pc := 69) hX 0 rfl dX4_readTune_69 ?_
          refine aw_bipush (pc := 70) hX 7 (by decide) dX4_readTune_70 ?_
          refine aw_callV (pc := 72) (st := []) (a := v0) hX [vI 7] (con_X4_fail _ G _ v0 7 hy.bd) mc_X4_fail ml_X4_105 im_X4_fail se_X4_fail (by decide) hy.bd.kd rfl (rm_of hr (by decide)) (Nat.le_of_ble_eq_true rfl) rfl dX4_readTune_72 (kmI rfl rfl (fun q22 hy => ?_))
          exact aw_zret (pc := 75) hX hr (by decide) (by decide) dX4_readTune_75 hy.rz.1 ⟨_, rfl, hy.rz.2⟩
        · intro e23 hy
          refine aw_aloadn (pc := 116) hX 0 rfl dX4_readTune_116 ?_
          refine aw_gR (pc := 117) hX hy fl_X4_34 (fun _ _ => rfl) dX4_readTune_117 (fun r24 hy => ?_)
          refine aw_gR (pc := 120) hX hy fl_X4_189 (fun _ _ => rfl) dX4_readTune_120 (fun r25 hy => ?_)
          refine aw_aloadn (pc := 123) hX 0 rfl dX4_readTune_123 ?_
          refine aw_gR (pc := 124) hX hy fl_X4_34 (fun _ _ => rfl) dX4_readTune_124 (fun r26 hy => ?_)
          refine aw_gI (pc := 127) hX hy fl_X4_186 (fun _ _ => rfl) dX4_readTune_127 (fun x27 hy => ?_)
          refine aw_iloadn (pc := 130) hX 1 rfl dX4_readTune_130 ?_
          refine aw_sI (pc := 131) hX hy dX4_readTune_131 (fun h28 hy => ?_)
          refine aw_aloadn (pc := 132) hX 0 rfl dX4_readTune_132 ?_
          refine aw_gR (pc := 133) hX hy fl_X4_34 (fun _ _ => rfl) dX4_readTune_133 (fun r29 hy => ?_)
          refine aw_dup (pc := 136) hX rfl dX4_readTune_136 ?_
          refine aw_gI (pc := 137) hX hy fl_X4_186 (fun _ _ => rfl) dX4_readTune_137 (fun x30 hy => ?_)
          refine aw_iconst (pc := 140) hX 1 (by decide) dX4_readTune_140 ?_
          refine aw_iadd (pc := 141) hX dX4_readTune_141 ?_
          refine aw_pI (pc := 142) hX hy fl_X4_186 rfl (Or.inl rfl) dX4_readTune_142 (fun h31 hy => ?_)
          refine aw_aloadn (pc := 145) hX 0 rfl dX4_readTune_145 ?_
          refine aw_callV (pc := 146) (st := []) (a := v0) hX [] (con_X4_step _ G _ v0 hy.bd) mc_X4_step ml_X4_109 im_X4_step se_X4_step (by decide) hy.bd.kd rfl (rm_of hr (by decide)) (Nat.le_of_ble_eq_true rfl) rfl dX4_readTune_146 (kmV rfl rfl (fun h32 hy => ?_))
          refine aw_iconst (pc := 149) hX 1 (by decide) dX4_readTune_149 ?_
          exact aw_zret (pc := 150) hX hr (by decide) (by decide) dX4_readTune_150 (Or.inr rfl) ⟨_, rfl, hy.s⟩
      · have hy := hy.f hc9
        refine aw_aloadn (pc := 39) hX 1 rfl dX4_readTune_39 ?_
        refine aw_bipush (pc := 40) hX 7 (by decide) dX4_readTune_40 ?_
        refine aw_callV (pc := 42) (st := []) (a := v0) hX [vI 7] (con_X4_fail _ G _ v0 7 hy.bd) mc_X4_fail ml_X4_105 im_X4_fail se_X4_fail (by decide) hy.bd.kd rfl (rm_of hr (by decide)) (Nat.le_of_ble_eq_true rfl) rfl dX4_readTune_42 (kmI rfl rfl (fun q35 hy => ?_))
        exact aw_zret (pc := 45) hX hr (by decide) (by decide) dX4_readTune_45 hy.rz.1 ⟨_, rfl, hy.rz.2⟩
    · have hy := hy.f hc9
      refine aw_aloadn (pc := 18) hX 0 rfl dX4_readTune_18 ?_
      refine aw_iconst (pc := 19) hX 1 (by decide) dX4_readTune_19 ?_
      refine aw_callV (pc := 20) (st := []) (a := v0) hX [vI 1] (con_X4_fail _ G _ v0 1 hy.bd) mc_X4_fail ml_X4_105 im_X4_fail se_X4_fail (by decide) hy.bd.kd rfl (rm_of hr (by decide)) (Nat.le_of_ble_eq_true rfl) rfl dX4_readTune_20 (kmI rfl rfl (fun q38 hy => ?_))
      exact aw_zret (pc := 23) hX hr (by decide) (by decide) dX4_readTune_23 hy.rz.1 ⟨_, rfl, hy.rz.2⟩
  · have hy := hy.t hc9
    refine aw_iconst (pc := 8) hX 0 (by decide) dX4_readTune_8 ?_
    exact aw_zret (pc := 9) hX hr (by decide) (by decide) dX4_readTune_9 (Or.inl rfl) ⟨_, rfl, hy.s⟩
theorem con_X4_readTune (l : Launch) (G : GE) (h : Mem) (v0 : Nat) {P : (Int32 × Mem) → Prop} (hy : OK (f_X4_readTune h v0) P) : Con l G yX4_readTune cX4_readTune 3 (some .boolean) rm_X4_readTune [vR v0] h (pmI P) := Con.of (by decide) (Nat.le_of_ble_eq_true rfl) (fun X hX hr hN => w_X4_readTune hX hN hr h v0 hy)
/-! X4_readPlace -/
theorem dX4_readPlace_0 : decode cX4_readPlace 0 = .ok (.aload_n 0, 1) := by decide +kernel
theorem dX4_readPlace_1 : decode cX4_readPlace 1 = .ok (.iconst 2, 1) := by decide +kernel
theorem dX4_readPlace_2 : decode cX4_readPlace 2 = .ok (.invokevirtual 180, 3) := by decide +kernel
theorem dX4_readPlace_5 : decode cX4_readPlace 5 = .ok (.ifCond .ne 5, 3) := by decide +kernel
theorem dX4_readPlace_8 : decode cX4_readPlace 8 = .ok (.iconst 0, 1) := by decide +kernel
theorem dX4_readPlace_9 : decode cX4_readPlace 9 = .ok (.ireturn, 1) := by decide +kernel
theorem dX4_readPlace_10 : decode cX4_readPlace 10 = .ok (.aload_n 0, 1) := by decide +kernel
theorem dX4_readPlace_11 : decode cX4_readPlace 11 = .ok (.getfield 34, 3) := by decide +kernel
theorem dX4_readPlace_14 : decode cX4_readPlace 14 = .ok (.dup, 1) := by decide +kernel
theorem dX4_readPlace_15 : decode cX4_readPlace 15 = .ok (.getfield 102, 3) := by decide +kernel
theorem dX4_readPlace_18 : decode cX4_readPlace 18 = .ok (.iconst 1, 1) := by decide +kernel
theorem dX4_readPlace_19 : decode cX4_readPlace 19 = .ok (.iadd, 1) := by decide +kernel
theorem dX4_readPlace_20 : decode cX4_readPlace 20 = .ok (.putfield 102, 3) := by decide +kernel
theorem dX4_readPlace_23 : decode cX4_readPlace 23 = .ok (.iconst 1, 1) := by decide +kernel
theorem dX4_readPlace_24 : decode cX4_readPlace 24 = .ok (.ireturn, 1) := by decide +kernel
abbrev rm_X4_readPlace : Room := { frames := 3, cells := 0, slots := 0, locals := 64 }
def f_X4_readPlace (h : Mem) (v0 : Nat) : Option (Int32 × Mem) :=
  (ck h v0 3).bind fun _ => (f_X4_readNewName h v0 2).bind fun q3 => (if q3.1 = 0 then some (0, q3.2) else (gR q3.2 v0 6 3).bind fun r4 => (gI q3.2 r4 2 4).bind fun x5 => (pI q3.2 r4 2 4 (x5 + 1)).bind fun h6 => some (1, h6))
set_option maxRecDepth 100000 in
set_option maxHeartbeats 4000000 in
theorem w_X4_readPlace {G : GE} {X : CX} {l : Launch} (hX : Ok G X cX4_readPlace RX4) (hN : xn X = 1) {P : (Int32 × Mem) → Prop} (hr : Rt G X l yX4_readPlace (some .boolean) rm_X4_readPlace (pmI P)) (h : Mem) (v0 : Nat) (hy : OK (f_X4_readPlace h v0) P) : AW G X 0 [(0, vR v0)] [] h 0 0 := by
  unfold f_X4_readPlace at hy
  have hkd := hy.kd
  have hy := hy.kb
  refine aw_aloadn (pc := 0) hX 0 rfl dX4_readPlace_0 ?_
  refine aw_iconst (pc := 1) hX 2 (by decide) dX4_readPlace_1 ?_
  refine aw_callV (pc := 2) (st := []) (a := v0) hX [vI 2] (con_X4_readNewName _ G _ v0 2 hy.bd) mc_X4_readNewName ml_X4_180 im_X4_readNewName se_X4_readNewName (by decide) hy.bd.kd rfl (rm_of hr (by decide)) (Nat.le_of_ble_eq_true rfl) rfl dX4_readPlace_2 (kmI rfl rfl (fun q3 hy => ?_))
  refine aw_if_ne (pc := 5) hX 10 (by decide) dX4_readPlace_5 (fun hc9 => ?_) (fun hc9 => ?_)
  · have hy := hy.f hc9
    refine aw_aloadn (pc := 10) hX 0 rfl dX4_readPlace_10 ?_
    refine aw_gR (pc := 11) hX hy fl_X4_34 (fun _ _ => rfl) dX4_readPlace_11 (fun r4 hy => ?_)
    refine aw_dup (pc := 14) hX rfl dX4_readPlace_14 ?_
    refine aw_gI (pc := 15) hX hy fl_X4_102 (fun _ _ => rfl) dX4_readPlace_15 (fun x5 hy => ?_)
    refine aw_iconst (pc := 18) hX 1 (by decide) dX4_readPlace_18 ?_
    refine aw_iadd (pc := 19) hX dX4_readPlace_19 ?_
    refine aw_pI (pc := 20) hX hy fl_X4_102 rfl (Or.inl rfl) dX4_readPlace_20 (fun h6 hy => ?_)
    refine aw_iconst (pc := 23) hX 1 (by decide) dX4_readPlace_23 ?_
    exact aw_zret (pc := 24) hX hr (by decide) (by decide) dX4_readPlace_24 (Or.inr rfl) ⟨_, rfl, hy.s⟩
  · have hy := hy.t hc9
    refine aw_iconst (pc := 8) hX 0 (by decide) dX4_readPlace_8 ?_
    exact aw_zret (pc := 9) hX hr (by decide) (by decide) dX4_readPlace_9 (Or.inl rfl) ⟨_, rfl, hy.s⟩
theorem con_X4_readPlace (l : Launch) (G : GE) (h : Mem) (v0 : Nat) {P : (Int32 × Mem) → Prop} (hy : OK (f_X4_readPlace h v0) P) : Con l G yX4_readPlace cX4_readPlace 1 (some .boolean) rm_X4_readPlace [vR v0] h (pmI P) := Con.of (by decide) (Nat.le_of_ble_eq_true rfl) (fun X hX hr hN => w_X4_readPlace hX hN hr h v0 hy)
