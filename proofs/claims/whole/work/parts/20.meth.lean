/-! X13_leaves -/
theorem dX13_leaves_0 : decode cX13_leaves 0 = .ok (.aload_n 0, 1) := by decide +kernel
theorem dX13_leaves_1 : decode cX13_leaves 1 = .ok (.iconst 0, 1) := by decide +kernel
theorem dX13_leaves_2 : decode cX13_leaves 2 = .ok (.putfield 424, 3) := by decide +kernel
theorem dX13_leaves_5 : decode cX13_leaves 5 = .ok (.iconst 0, 1) := by decide +kernel
theorem dX13_leaves_6 : decode cX13_leaves 6 = .ok (.istore_n 2, 1) := by decide +kernel
theorem dX13_leaves_7 : decode cX13_leaves 7 = .ok (.iload_n 2, 1) := by decide +kernel
theorem dX13_leaves_8 : decode cX13_leaves 8 = .ok (.aload_n 0, 1) := by decide +kernel
theorem dX13_leaves_9 : decode cX13_leaves 9 = .ok (.getfield 338, 3) := by decide +kernel
theorem dX13_leaves_12 : decode cX13_leaves 12 = .ok (.getfield 239, 3) := by decide +kernel
theorem dX13_leaves_15 : decode cX13_leaves 15 = .ok (.if_icmp .ge 106, 3) := by decide +kernel
theorem dX13_leaves_18 : decode cX13_leaves 18 = .ok (.iload_n 1, 1) := by decide +kernel
theorem dX13_leaves_19 : decode cX13_leaves 19 = .ok (.iload_n 2, 1) := by decide +kernel
theorem dX13_leaves_20 : decode cX13_leaves 20 = .ok (.invokestatic 322, 3) := by decide +kernel
theorem dX13_leaves_23 : decode cX13_leaves 23 = .ok (.istore_n 3, 1) := by decide +kernel
theorem dX13_leaves_24 : decode cX13_leaves 24 = .ok (.iconst 0, 1) := by decide +kernel
theorem dX13_leaves_25 : decode cX13_leaves 25 = .ok (.istore 4, 2) := by decide +kernel
theorem dX13_leaves_27 : decode cX13_leaves 27 = .ok (.iload 4, 2) := by decide +kernel
theorem dX13_leaves_29 : decode cX13_leaves 29 = .ok (.aload_n 0, 1) := by decide +kernel
theorem dX13_leaves_30 : decode cX13_leaves 30 = .ok (.getfield 338, 3) := by decide +kernel
theorem dX13_leaves_33 : decode cX13_leaves 33 = .ok (.getfield 239, 3) := by decide +kernel
theorem dX13_leaves_36 : decode cX13_leaves 36 = .ok (.if_icmp .ge 52, 3) := by decide +kernel
theorem dX13_leaves_39 : decode cX13_leaves 39 = .ok (.iload_n 1, 1) := by decide +kernel
theorem dX13_leaves_40 : decode cX13_leaves 40 = .ok (.iload 4, 2) := by decide +kernel
theorem dX13_leaves_42 : decode cX13_leaves 42 = .ok (.invokestatic 322, 3) := by decide +kernel
theorem dX13_leaves_45 : decode cX13_leaves 45 = .ok (.ifCond .eq 37, 3) := by decide +kernel
theorem dX13_leaves_48 : decode cX13_leaves 48 = .ok (.iload 4, 2) := by decide +kernel
theorem dX13_leaves_50 : decode cX13_leaves 50 = .ok (.iload_n 2, 1) := by decide +kernel
theorem dX13_leaves_51 : decode cX13_leaves 51 = .ok (.if_icmp .eq 31, 3) := by decide +kernel
theorem dX13_leaves_54 : decode cX13_leaves 54 = .ok (.aload_n 0, 1) := by decide +kernel
theorem dX13_leaves_55 : decode cX13_leaves 55 = .ok (.iload_n 2, 1) := by decide +kernel
theorem dX13_leaves_56 : decode cX13_leaves 56 = .ok (.iload 4, 2) := by decide +kernel
theorem dX13_leaves_58 : decode cX13_leaves 58 = .ok (.invokevirtual 427, 3) := by decide +kernel
theorem dX13_leaves_61 : decode cX13_leaves 61 = .ok (.ifCond .eq 21, 3) := by decide +kernel
theorem dX13_leaves_64 : decode cX13_leaves 64 = .ok (.iload 4, 2) := by decide +kernel
theorem dX13_leaves_66 : decode cX13_leaves 66 = .ok (.iload_n 2, 1) := by decide +kernel
theorem dX13_leaves_67 : decode cX13_leaves 67 = .ok (.if_icmp .lt 13, 3) := by decide +kernel
theorem dX13_leaves_70 : decode cX13_leaves 70 = .ok (.aload_n 0, 1) := by decide +kernel
theorem dX13_leaves_71 : decode cX13_leaves 71 = .ok (.iload 4, 2) := by decide +kernel
theorem dX13_leaves_73 : decode cX13_leaves 73 = .ok (.iload_n 2, 1) := by decide +kernel
theorem dX13_leaves_74 : decode cX13_leaves 74 = .ok (.invokevirtual 427, 3) := by decide +kernel
theorem dX13_leaves_77 : decode cX13_leaves 77 = .ok (.ifCond .ne 5, 3) := by decide +kernel
theorem dX13_leaves_80 : decode cX13_leaves 80 = .ok (.iconst 0, 1) := by decide +kernel
theorem dX13_leaves_81 : decode cX13_leaves 81 = .ok (.istore_n 3, 1) := by decide +kernel
theorem dX13_leaves_82 : decode cX13_leaves 82 = .ok (.iinc 4 1, 3) := by decide +kernel
theorem dX13_leaves_85 : decode cX13_leaves 85 = .ok (.goto (-58), 3) := by decide +kernel
theorem dX13_leaves_88 : decode cX13_leaves 88 = .ok (.iload_n 3, 1) := by decide +kernel
theorem dX13_leaves_89 : decode cX13_leaves 89 = .ok (.ifCond .ne 6, 3) := by decide +kernel
theorem dX13_leaves_92 : decode cX13_leaves 92 = .ok (.goto 23, 3) := by decide +kernel
theorem dX13_leaves_95 : decode cX13_leaves 95 = .ok (.aload_n 0, 1) := by decide +kernel
theorem dX13_leaves_96 : decode cX13_leaves 96 = .ok (.getfield 39, 3) := by decide +kernel
theorem dX13_leaves_99 : decode cX13_leaves 99 = .ok (.aload_n 0, 1) := by decide +kernel
theorem dX13_leaves_100 : decode cX13_leaves 100 = .ok (.getfield 424, 3) := by decide +kernel
theorem dX13_leaves_103 : decode cX13_leaves 103 = .ok (.iload_n 2, 1) := by decide +kernel
theorem dX13_leaves_104 : decode cX13_leaves 104 = .ok (.iastore, 1) := by decide +kernel
theorem dX13_leaves_105 : decode cX13_leaves 105 = .ok (.aload_n 0, 1) := by decide +kernel
theorem dX13_leaves_106 : decode cX13_leaves 106 = .ok (.dup, 1) := by decide +kernel
theorem dX13_leaves_107 : decode cX13_leaves 107 = .ok (.getfield 424, 3) := by decide +kernel
theorem dX13_leaves_110 : decode cX13_leaves 110 = .ok (.iconst 1, 1) := by decide +kernel
theorem dX13_leaves_111 : decode cX13_leaves 111 = .ok (.iadd, 1) := by decide +kernel
theorem dX13_leaves_112 : decode cX13_leaves 112 = .ok (.putfield 424, 3) := by decide +kernel
theorem dX13_leaves_115 : decode cX13_leaves 115 = .ok (.iinc 2 1, 3) := by decide +kernel
theorem dX13_leaves_118 : decode cX13_leaves 118 = .ok (.goto (-111), 3) := by decide +kernel
theorem dX13_leaves_121 : decode cX13_leaves 121 = .ok (.return_, 1) := by decide +kernel
abbrev rm_X13_leaves : Room := { frames := 2, cells := 0, slots := 0, locals := 47 }
def f_X13_leaves_82 (h : Mem) (v0 : Nat) (v1 : Int32) (v2 : Int32) (v3 : Int32) (v4 : Int32) : Option ((Int32 × Int32) ⊕ Int32) :=
  some (.inl (v3, (v4 + 1)))
set_option maxRecDepth 100000 in
set_option maxHeartbeats 4000000 in
theorem w_X13_leaves_82 {G : GE} {X : CX} {l : Launch} (hX : Ok G X cX13_leaves RX13) (hN : xn X = 5) {P0 : Mem → Prop} (hr : Rt G X l yX13_leaves none rm_X13_leaves (pmV P0)) (h : Mem)  (v0 : Nat) (v1 : Int32) (v2 : Int32) {P : ((Int32 × Int32) ⊕ Int32) → Prop} (hc : ∀ s, P (.inl s) → AW G X 27 [(0, vR v0), (1, vI v1), (2, vI v2), (3, vI s.1), (4, vI s.2)] [] h 0 0) (he0 : ∀ e, P (.inr e) → AW G X 88 [(0, vR v0), (1, vI v1), (2, vI v2), (3, vI e)] [] h 0 0) (v3 : Int32) (v4 : Int32) (hy : OK (f_X13_leaves_82 h v0 v1 v2 v3 v4) P) : AW G X 82 [(0, vR v0), (1, vI v1), (2, vI v2), (3, vI v3), (4, vI v4)] [] h 0 0 := by
  unfold f_X13_leaves_82 at hy
  refine aw_iinc (pc := 82) hX 1 (by decide) 4 rfl [(4, vI (v4 + 1)), (0, vR v0), (1, vI v1), (2, vI v2), (3, vI v3)] rfl (lt_n hN (by decide)) dX13_leaves_82 ?_
  refine aw_goto (pc := 85) hX 27 (by decide) dX13_leaves_85 ?_
  refine AW.sub [1, 2, 3, 4, 0] rfl ?_
  exact hc (v3, (v4 + 1)) hy.s
def f_X13_leaves_80 (h : Mem) (v0 : Nat) (v1 : Int32) (v2 : Int32) (v4 : Int32) : Option ((Int32 × Int32) ⊕ Int32) :=
  f_X13_leaves_82 h v0 v1 v2 0 v4
set_option maxRecDepth 100000 in
set_option maxHeartbeats 4000000 in
theorem w_X13_leaves_80 {G : GE} {X : CX} {l : Launch} (hX : Ok G X cX13_leaves RX13) (hN : xn X = 5) {P0 : Mem → Prop} (hr : Rt G X l yX13_leaves none rm_X13_leaves (pmV P0)) (h : Mem)  (v0 : Nat) (v1 : Int32) (v2 : Int32) {P : ((Int32 × Int32) ⊕ Int32) → Prop} (hc : ∀ s, P (.inl s) → AW G X 27 [(0, vR v0), (1, vI v1), (2, vI v2), (3, vI s.1), (4, vI s.2)] [] h 0 0) (he0 : ∀ e, P (.inr e) → AW G X 88 [(0, vR v0), (1, vI v1), (2, vI v2), (3, vI e)] [] h 0 0) (v4 : Int32) (hy : OK (f_X13_leaves_80 h v0 v1 v2 v4) P) : AW G X 80 [(0, vR v0), (1, vI v1), (2, vI v2), (4, vI v4)] [] h 0 0 := by
  unfold f_X13_leaves_80 at hy
  refine aw_iconst (pc := 80) hX 0 (by decide) dX13_leaves_80 ?_
  refine aw_istoren (pc := 81) hX [(3, vI 0), (0, vR v0), (1, vI v1), (2, vI v2), (4, vI v4)] rfl (lt_n hN (by decide)) dX13_leaves_81 ?_
  refine AW.sub [1, 2, 3, 0, 4] rfl ?_
  exact w_X13_leaves_82 hX hN hr _ _ _ _ hc he0 0 v4 hy
def b_X13_leaves_27 (h : Mem) (v0 : Nat) (v1 : Int32) (v2 : Int32) (v3 : Int32) (v4 : Int32) : Option ((Int32 × Int32) ⊕ Int32) :=
  (gR h v0 3 11).bind fun r5 => (gI h r5 1 10).bind fun x6 => (if x6 ≤ v4 then some (.inr v3) else (f_X13_bit h v1 v4).bind fun x7 => (if x7 = 0 then f_X13_leaves_82 h v0 v1 v2 v3 v4 else (if v4 = v2 then f_X13_leaves_82 h v0 v1 v2 v3 v4 else (f_X13_standsIn h v0 v2 v4).bind fun x8 => (if x8 = 0 then f_X13_leaves_82 h v0 v1 v2 v3 v4 else (if v4 < v2 then f_X13_leaves_80 h v0 v1 v2 v4 else (f_X13_standsIn h v0 v4 v2).bind fun x9 => (if x9 = 0 then f_X13_leaves_80 h v0 v1 v2 v4 else f_X13_leaves_82 h v0 v1 v2 v3 v4))))))
set_option maxRecDepth 100000 in
set_option maxHeartbeats 4000000 in
theorem wb_X13_leaves_27 {G : GE} {X : CX} {l : Launch} (hX : Ok G X cX13_leaves RX13) (hN : xn X = 5) {P0 : Mem → Prop} (hr : Rt G X l yX13_leaves none rm_X13_leaves (pmV P0)) (h : Mem)  (v0 : Nat) (v1 : Int32) (v2 : Int32) {P : ((Int32 × Int32) ⊕ Int32) → Prop} (hc : ∀ s, P (.inl s) → AW G X 27 [(0, vR v0), (1, vI v1), (2, vI v2), (3, vI s.1), (4, vI s.2)] [] h 0 0) (he0 : ∀ e, P (.inr e) → AW G X 88 [(0, vR v0), (1, vI v1), (2, vI v2), (3, vI e)] [] h 0 0) (v3 : Int32) (v4 : Int32) (hy : OK (b_X13_leaves_27 h v0 v1 v2 v3 v4) P) : AW G X 27 [(0, vR v0), (1, vI v1), (2, vI v2), (3, vI v3), (4, vI v4)] [] h 0 0 := by
  unfold b_X13_leaves_27 at hy
  refine aw_iload (pc := 27) hX 4 rfl dX13_leaves_27 ?_
  refine aw_aloadn (pc := 29) hX 0 rfl dX13_leaves_29 ?_
  refine aw_gR (pc := 30) hX hy fl_X13_338 (fun _ _ => rfl) dX13_leaves_30 (fun r5 hy => ?_)
  refine aw_gI (pc := 33) hX hy fl_X13_239 (fun _ _ => rfl) dX13_leaves_33 (fun x6 hy => ?_)
  refine aw_ic_ge (pc := 36) hX 88 (by decide) dX13_leaves_36 (fun hc9 => ?_) (fun hc9 => ?_)
  · have hy := hy.t hc9
    refine AW.sub [0, 1, 2, 3] rfl ?_
    exact he0 v3 hy.s
  · have hy := hy.f hc9
    refine aw_iloadn (pc := 39) hX 1 rfl dX13_leaves_39 ?_
    refine aw_iload (pc := 40) hX 4 rfl dX13_leaves_40 ?_
    refine aw_callS (pc := 42) (st := []) hX [vI v1, vI v4] (con_X13_bit _ G _ v1 v4 hy.bd) mc_X13_bit ml_X13_322 st_X13_bit rfl (rm_of hr (by decide)) (Nat.le_of_ble_eq_true rfl) rfl dX13_leaves_42 (kpI rfl rfl (fun x7 hy => ?_))
    refine aw_if_eq (pc := 45) hX 82 (by decide) dX13_leaves_45 (fun hc9 => ?_) (fun hc9 => ?_)
    · have hy := hy.t hc9
      exact w_X13_leaves_82 hX hN hr _ _ _ _ hc he0 v3 v4 hy
    · have hy := hy.f hc9
      refine aw_iload (pc := 48) hX 4 rfl dX13_leaves_48 ?_
      refine aw_iloadn (pc := 50) hX 2 rfl dX13_leaves_50 ?_
      refine aw_ic_eq (pc := 51) hX 82 (by decide) dX13_leaves_51 (fun hc9 => ?_) (fun hc9 => ?_)
      · have hy := hy.t hc9
        exact w_X13_leaves_82 hX hN hr _ _ _ _ hc he0 v3 v4 hy
      · have hy := hy.f hc9
        refine aw_aloadn (pc := 54) hX 0 rfl dX13_leaves_54 ?_
        refine aw_iloadn (pc := 55) hX 2 rfl dX13_leaves_55 ?_
        refine aw_iload (pc := 56) hX 4 rfl dX13_leaves_56 ?_
        refine aw_callV (pc := 58) (st := []) (a := v0) hX [vI v2, vI v4] (con_X13_standsIn _ G _ v0 v2 v4 hy.bd) mc_X13_standsIn ml_X13_427 im_X13_standsIn se_X13_standsIn (by decide) hy.bd.kd rfl (rm_of hr (by decide)) (Nat.le_of_ble_eq_true rfl) rfl dX13_leaves_58 (kpI rfl rfl (fun x8 hy => ?_))
        refine aw_if_eq (pc := 61) hX 82 (by decide) dX13_leaves_61 (fun hc9 => ?_) (fun hc9 => ?_)
        · have hy := hy.t hc9
          exact w_X13_leaves_82 hX hN hr _ _ _ _ hc he0 v3 v4 hy
        · have hy := hy.f hc9
          refine aw_iload (pc := 64) hX 4 rfl dX13_leaves_64 ?_
          refine aw_iloadn (pc := 66) hX 2 rfl dX13_leaves_66 ?_
          refine aw_ic_lt (pc := 67) hX 80 (by decide) dX13_leaves_67 (fun hc9 => ?_) (fun hc9 => ?_)
          · have hy := hy.t hc9
            refine AW.sub [0, 1, 2, 4] rfl ?_
            exact w_X13_leaves_80 hX hN hr _ _ _ _ hc he0 v4 hy
          · have hy := hy.f hc9
            refine aw_aloadn (pc := 70) hX 0 rfl dX13_leaves_70 ?_
            refine aw_iload (pc := 71) hX 4 rfl dX13_leaves_71 ?_
            refine aw_iloadn (pc := 73) hX 2 rfl dX13_leaves_73 ?_
            refine aw_callV (pc := 74) (st := []) (a := v0) hX [vI v4, vI v2] (con_X13_standsIn _ G _ v0 v4 v2 hy.bd) mc_X13_standsIn ml_X13_427 im_X13_standsIn se_X13_standsIn (by decide) hy.bd.kd rfl (rm_of hr (by decide)) (Nat.le_of_ble_eq_true rfl) rfl dX13_leaves_74 (kpI rfl rfl (fun x9 hy => ?_))
            refine aw_if_ne (pc := 77) hX 82 (by decide) dX13_leaves_77 (fun hc9 => ?_) (fun hc9 => ?_)
            · have hy := hy.f hc9
              exact w_X13_leaves_82 hX hN hr _ _ _ _ hc he0 v3 v4 hy
            · have hy := hy.t hc9
              refine AW.sub [0, 1, 2, 4] rfl ?_
              exact w_X13_leaves_80 hX hN hr _ _ _ _ hc he0 v4 hy
theorem wl_X13_leaves_27 {G : GE} {X : CX} {l : Launch} (hX : Ok G X cX13_leaves RX13) (hN : xn X = 5) {P0 : Mem → Prop} (hr : Rt G X l yX13_leaves none rm_X13_leaves (pmV P0)) (h : Mem) (v0 : Nat) (v1 : Int32) (v2 : Int32) {P : (Int32) → Prop} (he0 : ∀ e, P e → AW G X 88 [(0, vR v0), (1, vI v1), (2, vI v2), (3, vI e)] [] h 0 0) : ∀ (n : Nat) (s : Int32 × Int32), OK (iter (fun (s : Int32 × Int32) => b_X13_leaves_27 h v0 v1 v2 s.1 s.2) n s) P → AW G X 27 [(0, vR v0), (1, vI v1), (2, vI v2), (3, vI s.1), (4, vI s.2)] [] h 0 0 := by
  intro n
  induction n with
  | zero => exact fun s hy => hy.it0.elim
  | succ n ih =>
    intro s hy
    exact wb_X13_leaves_27 hX hN hr h v0 v1 v2 (fun s hs => ih s hs) (fun e hs => he0 e hs) s.1 s.2 hy.it
def f_X13_leaves_115 (h : Mem) (v0 : Nat) (v1 : Int32) (v2 : Int32) : Option ((Int32 × Mem) ⊕ Mem) :=
  some (.inl ((v2 + 1), h))
set_option maxRecDepth 100000 in
set_option maxHeartbeats 4000000 in
theorem w_X13_leaves_115 {G : GE} {X : CX} {l : Launch} (hX : Ok G X cX13_leaves RX13) (hN : xn X = 5) {P0 : Mem → Prop} (hr : Rt G X l yX13_leaves none rm_X13_leaves (pmV P0))  (v0 : Nat) (v1 : Int32) {P : ((Int32 × Mem) ⊕ Mem) → Prop} (hc : ∀ s, P (.inl s) → AW G X 7 [(0, vR v0), (1, vI v1), (2, vI s.1)] [] s.2 0 0) (he0 : ∀ e, P (.inr e) → AW G X 121 [] [] e 0 0) (h : Mem) (v2 : Int32) (hy : OK (f_X13_leaves_115 h v0 v1 v2) P) : AW G X 115 [(0, vR v0), (1, vI v1), (2, vI v2)] [] h 0 0 := by
  unfold f_X13_leaves_115 at hy
  refine aw_iinc (pc := 115) hX 1 (by decide) 2 rfl [(2, vI (v2 + 1)), (0, vR v0), (1, vI v1)] rfl (lt_n hN (by decide)) dX13_leaves_115 ?_
  refine aw_goto (pc := 118) hX 7 (by decide) dX13_leaves_118 ?_
  refine AW.sub [1, 2, 0] rfl ?_
  exact hc ((v2 + 1), h) hy.s
def b_X13_leaves_7 (h : Mem) (v0 : Nat) (v1 : Int32) (v2 : Int32) : Option ((Int32 × Mem) ⊕ Mem) :=
  (gR h v0 3 11).bind fun r2 => (gI h r2 1 10).bind fun x3 => (if x3 ≤ v2 then some (.inr h) else (f_X13_bit h v1 v2).bind fun x4 => (iter (fun (s : Int32 × Int32) => b_X13_leaves_27 h v0 v1 v2 s.1 s.2) FU (x4, 0)).bind (fun q10 => (if q10 = 0 then f_X13_leaves_115 h v0 v1 v2 else (gR h v0 28 11).bind fun r11 => (gI h v0 31 11).bind fun x12 => (sI h r11 x12 v2).bind fun h13 => (gI h13 v0 31 11).bind fun x14 => (pI h13 v0 31 11 (x14 + 1)).bind fun h15 => f_X13_leaves_115 h15 v0 v1 v2)))
set_option maxRecDepth 100000 in
set_option maxHeartbeats 4000000 in
theorem wb_X13_leaves_7 {G : GE} {X : CX} {l : Launch} (hX : Ok G X cX13_leaves RX13) (hN : xn X = 5) {P0 : Mem → Prop} (hr : Rt G X l yX13_leaves none rm_X13_leaves (pmV P0))  (v0 : Nat) (v1 : Int32) {P : ((Int32 × Mem) ⊕ Mem) → Prop} (hc : ∀ s, P (.inl s) → AW G X 7 [(0, vR v0), (1, vI v1), (2, vI s.1)] [] s.2 0 0) (he0 : ∀ e, P (.inr e) → AW G X 121 [] [] e 0 0) (h : Mem) (v2 : Int32) (hy : OK (b_X13_leaves_7 h v0 v1 v2) P) : AW G X 7 [(0, vR v0), (1, vI v1), (2, vI v2)] [] h 0 0 := by
  unfold b_X13_leaves_7 at hy
  refine aw_iloadn (pc := 7) hX 2 rfl dX13_leaves_7 ?_
  refine aw_aloadn (pc := 8) hX 0 rfl dX13_leaves_8 ?_
  refine aw_gR (pc := 9) hX hy fl_X13_338 (fun _ _ => rfl) dX13_leaves_9 (fun r2 hy => ?_)
  refine aw_gI (pc := 12) hX hy fl_X13_239 (fun _ _ => rfl) dX13_leaves_12 (fun x3 hy => ?_)
  refine aw_ic_ge (pc := 15) hX 121 (by decide) dX13_leaves_15 (fun hc9 => ?_) (fun hc9 => ?_)
  · have hy := hy.t hc9
    refine AW.sub [] rfl ?_
    exact he0 h hy.s
  · have hy := hy.f hc9
    refine aw_iloadn (pc := 18) hX 1 rfl dX13_leaves_18 ?_
    refine aw_iloadn (pc := 19) hX 2 rfl dX13_leaves_19 ?_
    refine aw_callS (pc := 20) (st := []) hX [vI v1, vI v2] (con_X13_bit _ G _ v1 v2 hy.bd) mc_X13_bit ml_X13_322 st_X13_bit rfl (rm_of hr (by decide)) (Nat.le_of_ble_eq_true rfl) rfl dX13_leaves_20 (kpI rfl rfl (fun x4 hy => ?_))
    refine aw_istoren (pc := 23) hX [(3, vI x4), (0, vR v0), (1, vI v1), (2, vI v2)] rfl (lt_n hN (by decide)) dX13_leaves_23 ?_
    refine aw_iconst (pc := 24) hX 0 (by decide) dX13_leaves_24 ?_
    refine aw_istore (pc := 25) hX [(4, vI 0), (3, vI x4), (0, vR v0), (1, vI v1), (2, vI v2)] rfl (lt_n hN (by decide)) dX13_leaves_25 ?_
    refine AW.sub [2, 3, 4, 1, 0] rfl ?_
    refine wl_X13_leaves_27 hX hN hr _ v0 v1 v2 ?_ FU (x4, 0) hy.bd
    · intro q10 hy
      refine aw_iloadn (pc := 88) hX 3 rfl dX13_leaves_88 ?_
      refine aw_if_ne (pc := 89) hX 95 (by decide) dX13_leaves_89 (fun hc9 => ?_) (fun hc9 => ?_)
      · have hy := hy.f hc9
        refine aw_aloadn (pc := 95) hX 0 rfl dX13_leaves_95 ?_
        refine aw_gR (pc := 96) hX hy fl_X13_39 (fun _ _ => rfl) dX13_leaves_96 (fun r11 hy => ?_)
        refine aw_aloadn (pc := 99) hX 0 rfl dX13_leaves_99 ?_
        refine aw_gI (pc := 100) hX hy fl_X13_424 (fun _ _ => rfl) dX13_leaves_100 (fun x12 hy => ?_)
        refine aw_iloadn (pc := 103) hX 2 rfl dX13_leaves_103 ?_
        refine aw_sI (pc := 104) hX hy dX13_leaves_104 (fun h13 hy => ?_)
        refine aw_aloadn (pc := 105) hX 0 rfl dX13_leaves_105 ?_
        refine aw_dup (pc := 106) hX rfl dX13_leaves_106 ?_
        refine aw_gI (pc := 107) hX hy fl_X13_424 (fun _ _ => rfl) dX13_leaves_107 (fun x14 hy => ?_)
        refine aw_iconst (pc := 110) hX 1 (by decide) dX13_leaves_110 ?_
        refine aw_iadd (pc := 111) hX dX13_leaves_111 ?_
        refine aw_pI (pc := 112) hX hy fl_X13_424 rfl (Or.inl rfl) dX13_leaves_112 (fun h15 hy => ?_)
        refine AW.sub [0, 1, 2] rfl ?_
        exact w_X13_leaves_115 hX hN hr _ _ hc he0 h15 v2 hy
      · have hy := hy.t hc9
        refine aw_goto (pc := 92) hX 115 (by decide) dX13_leaves_92 ?_
        refine AW.sub [0, 1, 2] rfl ?_
        exact w_X13_leaves_115 hX hN hr _ _ hc he0 h v2 hy
theorem wl_X13_leaves_7 {G : GE} {X : CX} {l : Launch} (hX : Ok G X cX13_leaves RX13) (hN : xn X = 5) {P0 : Mem → Prop} (hr : Rt G X l yX13_leaves none rm_X13_leaves (pmV P0)) (v0 : Nat) (v1 : Int32) {P : (Mem) → Prop} (he0 : ∀ e, P e → AW G X 121 [] [] e 0 0) : ∀ (n : Nat) (s : Int32 × Mem), OK (iter (fun (s : Int32 × Mem) => b_X13_leaves_7 s.2 v0 v1 s.1) n s) P → AW G X 7 [(0, vR v0), (1, vI v1), (2, vI s.1)] [] s.2 0 0 := by
  intro n
  induction n with
  | zero => exact fun s hy => hy.it0.elim
  | succ n ih =>
    intro s hy
    exact wb_X13_leaves_7 hX hN hr v0 v1 (fun s hs => ih s hs) (fun e hs => he0 e hs) s.2 s.1 hy.it
def f_X13_leaves (h : Mem) (v0 : Nat) (v1 : Int32) : Option Mem :=
  (ck h v0 11).bind fun _ => (pI h v0 31 11 0).bind fun h1 => (iter (fun (s : Int32 × Mem) => b_X13_leaves_7 s.2 v0 v1 s.1) FU (0, h1)).bind (fun q16 => some q16)
set_option maxRecDepth 100000 in
set_option maxHeartbeats 4000000 in
theorem w_X13_leaves {G : GE} {X : CX} {l : Launch} (hX : Ok G X cX13_leaves RX13) (hN : xn X = 5) {P : Mem → Prop} (hr : Rt G X l yX13_leaves none rm_X13_leaves (pmV P)) (h : Mem) (v0 : Nat) (v1 : Int32) (hy : OK (f_X13_leaves h v0 v1) P) : AW G X 0 [(0, vR v0), (1, vI v1)] [] h 0 0 := by
  unfold f_X13_leaves at hy
  have hkd := hy.kd
  have hy := hy.kb
  refine aw_aloadn (pc := 0) hX 0 rfl dX13_leaves_0 ?_
  refine aw_iconst (pc := 1) hX 0 (by decide) dX13_leaves_1 ?_
  refine aw_pI (pc := 2) hX hy fl_X13_424 rfl (Or.inl rfl) dX13_leaves_2 (fun h1 hy => ?_)
  refine aw_iconst (pc := 5) hX 0 (by decide) dX13_leaves_5 ?_
  refine aw_istoren (pc := 6) hX [(2, vI 0), (0, vR v0), (1, vI v1)] rfl (lt_n hN (by decide)) dX13_leaves_6 ?_
  refine AW.sub [1, 2, 0] rfl ?_
  refine wl_X13_leaves_7 hX hN hr v0 v1 ?_ FU (0, h1) hy.bd
  · intro q16 hy
    exact aw_vret (pc := 121) hX hr (by decide) (by decide) dX13_leaves_121 ⟨rfl, hy.s⟩
theorem con_X13_leaves (l : Launch) (G : GE) (h : Mem) (v0 : Nat) (v1 : Int32) {P : Mem → Prop} (hy : OK (f_X13_leaves h v0 v1) P) : Con l G yX13_leaves cX13_leaves 5 none rm_X13_leaves [vR v0, vI v1] h (pmV P) := Con.of (by decide) (Nat.le_of_ble_eq_true rfl) (fun X hX hr hN => w_X13_leaves hX hN hr h v0 v1 hy)
/-! X13_laysSong -/
theorem dX13_laysSong_0 : decode cX13_laysSong 0 = .ok (.aload_n 0, 1) := by decide +kernel
theorem dX13_laysSong_1 : decode cX13_laysSong 1 = .ok (.iconst 0, 1) := by decide +kernel
theorem dX13_laysSong_2 : decode cX13_laysSong 2 = .ok (.putfield 430, 3) := by decide +kernel
theorem dX13_laysSong_5 : decode cX13_laysSong 5 = .ok (.iconst 0, 1) := by decide +kernel
theorem dX13_laysSong_6 : decode cX13_laysSong 6 = .ok (.istore_n 1, 1) := by decide +kernel
theorem dX13_laysSong_7 : decode cX13_laysSong 7 = .ok (.iload_n 1, 1) := by decide +kernel
theorem dX13_laysSong_8 : decode cX13_laysSong 8 = .ok (.aload_n 0, 1) := by decide +kernel
theorem dX13_laysSong_9 : decode cX13_laysSong 9 = .ok (.getfield 424, 3) := by decide +kernel
theorem dX13_laysSong_12 : decode cX13_laysSong 12 = .ok (.if_icmp .ge 100, 3) := by decide +kernel
theorem dX13_laysSong_15 : decode cX13_laysSong 15 = .ok (.aload_n 0, 1) := by decide +kernel
theorem dX13_laysSong_16 : decode cX13_laysSong 16 = .ok (.getfield 39, 3) := by decide +kernel
theorem dX13_laysSong_19 : decode cX13_laysSong 19 = .ok (.aload_n 0, 1) := by decide +kernel
theorem dX13_laysSong_20 : decode cX13_laysSong 20 = .ok (.getfield 30, 3) := by decide +kernel
theorem dX13_laysSong_23 : decode cX13_laysSong 23 = .ok (.iload_n 1, 1) := by decide +kernel
theorem dX13_laysSong_24 : decode cX13_laysSong 24 = .ok (.iaload, 1) := by decide +kernel
theorem dX13_laysSong_25 : decode cX13_laysSong 25 = .ok (.iaload, 1) := by decide +kernel
theorem dX13_laysSong_26 : decode cX13_laysSong 26 = .ok (.istore_n 2, 1) := by decide +kernel
theorem dX13_laysSong_27 : decode cX13_laysSong 27 = .ok (.iload_n 1, 1) := by decide +kernel
theorem dX13_laysSong_28 : decode cX13_laysSong 28 = .ok (.ifCond .ne 7, 3) := by decide +kernel
theorem dX13_laysSong_31 : decode cX13_laysSong 31 = .ok (.iconst 0, 1) := by decide +kernel
theorem dX13_laysSong_32 : decode cX13_laysSong 32 = .ok (.goto 21, 3) := by decide +kernel
theorem dX13_laysSong_35 : decode cX13_laysSong 35 = .ok (.aload_n 0, 1) := by decide +kernel
theorem dX13_laysSong_36 : decode cX13_laysSong 36 = .ok (.aload_n 0, 1) := by decide +kernel
theorem dX13_laysSong_37 : decode cX13_laysSong 37 = .ok (.getfield 39, 3) := by decide +kernel
theorem dX13_laysSong_40 : decode cX13_laysSong 40 = .ok (.aload_n 0, 1) := by decide +kernel
theorem dX13_laysSong_41 : decode cX13_laysSong 41 = .ok (.getfield 30, 3) := by decide +kernel
theorem dX13_laysSong_44 : decode cX13_laysSong 44 = .ok (.iload_n 1, 1) := by decide +kernel
theorem dX13_laysSong_45 : decode cX13_laysSong 45 = .ok (.iconst 1, 1) := by decide +kernel
theorem dX13_laysSong_46 : decode cX13_laysSong 46 = .ok (.isub, 1) := by decide +kernel
theorem dX13_laysSong_47 : decode cX13_laysSong 47 = .ok (.iaload, 1) := by decide +kernel
theorem dX13_laysSong_48 : decode cX13_laysSong 48 = .ok (.iaload, 1) := by decide +kernel
theorem dX13_laysSong_49 : decode cX13_laysSong 49 = .ok (.iload_n 2, 1) := by decide +kernel
theorem dX13_laysSong_50 : decode cX13_laysSong 50 = .ok (.invokevirtual 433, 3) := by decide +kernel
theorem dX13_laysSong_53 : decode cX13_laysSong 53 = .ok (.istore_n 3, 1) := by decide +kernel
theorem dX13_laysSong_54 : decode cX13_laysSong 54 = .ok (.iload_n 3, 1) := by decide +kernel
theorem dX13_laysSong_55 : decode cX13_laysSong 55 = .ok (.istore 4, 2) := by decide +kernel
theorem dX13_laysSong_57 : decode cX13_laysSong 57 = .ok (.iload 4, 2) := by decide +kernel
theorem dX13_laysSong_59 : decode cX13_laysSong 59 = .ok (.aload_n 0, 1) := by decide +kernel
theorem dX13_laysSong_60 : decode cX13_laysSong 60 = .ok (.getfield 338, 3) := by decide +kernel
theorem dX13_laysSong_63 : decode cX13_laysSong 63 = .ok (.getfield 237, 3) := by decide +kernel
theorem dX13_laysSong_66 : decode cX13_laysSong 66 = .ok (.iload_n 2, 1) := by decide +kernel
theorem dX13_laysSong_67 : decode cX13_laysSong 67 = .ok (.iaload, 1) := by decide +kernel
theorem dX13_laysSong_68 : decode cX13_laysSong 68 = .ok (.if_icmp .ge 38, 3) := by decide +kernel
theorem dX13_laysSong_71 : decode cX13_laysSong 71 = .ok (.aload_n 0, 1) := by decide +kernel
theorem dX13_laysSong_72 : decode cX13_laysSong 72 = .ok (.getfield 33, 3) := by decide +kernel
theorem dX13_laysSong_75 : decode cX13_laysSong 75 = .ok (.aload_n 0, 1) := by decide +kernel
theorem dX13_laysSong_76 : decode cX13_laysSong 76 = .ok (.getfield 430, 3) := by decide +kernel
theorem dX13_laysSong_79 : decode cX13_laysSong 79 = .ok (.aload_n 0, 1) := by decide +kernel
theorem dX13_laysSong_80 : decode cX13_laysSong 80 = .ok (.getfield 338, 3) := by decide +kernel
theorem dX13_laysSong_83 : decode cX13_laysSong 83 = .ok (.iload_n 2, 1) := by decide +kernel
theorem dX13_laysSong_84 : decode cX13_laysSong 84 = .ok (.iload 4, 2) := by decide +kernel
theorem dX13_laysSong_86 : decode cX13_laysSong 86 = .ok (.invokevirtual 350, 3) := by decide +kernel
theorem dX13_laysSong_89 : decode cX13_laysSong 89 = .ok (.iastore, 1) := by decide +kernel
theorem dX13_laysSong_90 : decode cX13_laysSong 90 = .ok (.aload_n 0, 1) := by decide +kernel
theorem dX13_laysSong_91 : decode cX13_laysSong 91 = .ok (.dup, 1) := by decide +kernel
theorem dX13_laysSong_92 : decode cX13_laysSong 92 = .ok (.getfield 430, 3) := by decide +kernel
theorem dX13_laysSong_95 : decode cX13_laysSong 95 = .ok (.iconst 1, 1) := by decide +kernel
theorem dX13_laysSong_96 : decode cX13_laysSong 96 = .ok (.iadd, 1) := by decide +kernel
theorem dX13_laysSong_97 : decode cX13_laysSong 97 = .ok (.putfield 430, 3) := by decide +kernel
theorem dX13_laysSong_100 : decode cX13_laysSong 100 = .ok (.iinc 4 1, 3) := by decide +kernel
theorem dX13_laysSong_103 : decode cX13_laysSong 103 = .ok (.goto (-46), 3) := by decide +kernel
theorem dX13_laysSong_106 : decode cX13_laysSong 106 = .ok (.iinc 1 1, 3) := by decide +kernel
theorem dX13_laysSong_109 : decode cX13_laysSong 109 = .ok (.goto (-102), 3) := by decide +kernel
theorem dX13_laysSong_112 : decode cX13_laysSong 112 = .ok (.return_, 1) := by decide +kernel
abbrev rm_X13_laysSong : Room := { frames := 3, cells := 0, slots := 0, locals := 69 }
def b_X13_laysSong_57 (h : Mem) (v0 : Nat) (v1 : Int32) (v2 : Int32) (v4 : Int32) : Option ((Int32 × Mem) ⊕ Mem) :=
  (gR h v0 3 11).bind fun r12 => (gR h r12 10 10).bind fun r13 => (aI h r13 v2).bind fun x14 => (if x14 ≤ v4 then some (.inr h) else (gR h v0 26 11).bind fun r15 => (gI h v0 29 11).bind fun x16 => (gR h v0 3 11).bind fun r17 => (f_X12_note h r17 v2 v4).bind fun x18 => (sI h r15 x16 x18).bind fun h19 => (gI h19 v0 29 11).bind fun x20 => (pI h19 v0 29 11 (x20 + 1)).bind fun h21 => some (.inl ((v4 + 1), h21)))
set_option maxRecDepth 100000 in
set_option maxHeartbeats 4000000 in
theorem wb_X13_laysSong_57 {G : GE} {X : CX} {l : Launch} (hX : Ok G X cX13_laysSong RX13) (hN : xn X = 5) {P0 : Mem → Prop} (hr : Rt G X l yX13_laysSong none rm_X13_laysSong (pmV P0))  (v0 : Nat) (v1 : Int32) (v2 : Int32) {P : ((Int32 × Mem) ⊕ Mem) → Prop} (hc : ∀ s, P (.inl s) → AW G X 57 [(0, vR v0), (1, vI v1), (2, vI v2), (4, vI s.1)] [] s.2 0 0) (he0 : ∀ e, P (.inr e) → AW G X 106 [(0, vR v0), (1, vI v1)] [] e 0 0) (h : Mem) (v4 : Int32) (hy : OK (b_X13_laysSong_57 h v0 v1 v2 v4) P) : AW G X 57 [(0, vR v0), (1, vI v1), (2, vI v2), (4, vI v4)] [] h 0 0 := by
  unfold b_X13_laysSong_57 at hy
  refine aw_iload (pc := 57) hX 3 rfl dX13_laysSong_57 ?_
  refine aw_aloadn (pc := 59) hX 0 rfl dX13_laysSong_59 ?_
  refine aw_gR (pc := 60) hX hy fl_X13_338 (fun _ _ => rfl) dX13_laysSong_60 (fun r12 hy => ?_)
  refine aw_gR (pc := 63) hX hy fl_X13_237 (fun _ _ => rfl) dX13_laysSong_63 (fun r13 hy => ?_)
  refine aw_iloadn (pc := 66) hX 2 rfl dX13_laysSong_66 ?_
  refine aw_aI (pc := 67) hX hy dX13_laysSong_67 (fun x14 hy => ?_)
  refine aw_ic_ge (pc := 68) hX 106 (by decide) dX13_laysSong_68 (fun hc9 => ?_) (fun hc9 => ?_)
  · have hy := hy.t hc9
    refine AW.sub [0, 1] rfl ?_
    exact he0 h hy.s
  · have hy := hy.f hc9
    refine aw_aloadn (pc := 71) hX 0 rfl dX13_laysSong_71 ?_
    refine aw_gR (pc := 72) hX hy fl_X13_33 (fun _ _ => rfl) dX13_laysSong_72 (fun r15 hy => ?_)
    refine aw_aloadn (pc := 75) hX 0 rfl dX13_laysSong_75 ?_
    refine aw_gI (pc := 76) hX hy fl_X13_430 (fun _ _ => rfl) dX13_laysSong_76 (fun x16 hy => ?_)
    refine aw_aloadn (pc := 79) hX 0 rfl dX13_laysSong_79 ?_
    refine aw_gR (pc := 80) hX hy fl_X13_338 (fun _ _ => rfl) dX13_laysSong_80 (fun r17 hy => ?_)
    refine aw_iloadn (pc := 83) hX 2 rfl dX13_laysSong_83 ?_
    refine aw_iload (pc := 84) hX 3 rfl dX13_laysSong_84 ?_
    refine aw_callV (pc := 86) (st := [vI x16, vR r15]) (a := r17) hX [vI v2, vI v4] (con_X12_note _ G _ r17 v2 v4 hy.bd) mc_X12_note ml_X13_350 im_X12_note se_X12_note (by decide) hy.bd.kd rfl (rm_of hr (by decide)) (Nat.le_of_ble_eq_true rfl) rfl dX13_laysSong_86 (kpI rfl rfl (fun x18 hy => ?_))
    refine aw_sI (pc := 89) hX hy dX13_laysSong_89 (fun h19 hy => ?_)
    refine aw_aloadn (pc := 90) hX 0 rfl dX13_laysSong_90 ?_
    refine aw_dup (pc := 91) hX rfl dX13_laysSong_91 ?_
    refine aw_gI (pc := 92) hX hy fl_X13_430 (fun _ _ => rfl) dX13_laysSong_92 (fun x20 hy => ?_)
    refine aw_iconst (pc := 95) hX 1 (by decide) dX13_laysSong_95 ?_
    refine aw_iadd (pc := 96) hX dX13_laysSong_96 ?_
    refine aw_pI (pc := 97) hX hy fl_X13_430 rfl (Or.inl rfl) dX13_laysSong_97 (fun h21 hy => ?_)
    refine aw_iinc (pc := 100) hX 1 (by decide) 3 rfl [(4, vI (v4 + 1)), (0, vR v0), (1, vI v1), (2, vI v2)] rfl (lt_n hN (by decide)) dX13_laysSong_100 ?_
    refine aw_goto (pc := 103) hX 57 (by decide) dX13_laysSong_103 ?_
    refine AW.sub [1, 2, 3, 0] rfl ?_
    exact hc ((v4 + 1), h21) hy.s
theorem wl_X13_laysSong_57 {G : GE} {X : CX} {l : Launch} (hX : Ok G X cX13_laysSong RX13) (hN : xn X = 5) {P0 : Mem → Prop} (hr : Rt G X l yX13_laysSong none rm_X13_laysSong (pmV P0)) (v0 : Nat) (v1 : Int32) (v2 : Int32) {P : (Mem) → Prop} (he0 : ∀ e, P e → AW G X 106 [(0, vR v0), (1, vI v1)] [] e 0 0) : ∀ (n : Nat) (s : Int32 × Mem), OK (iter (fun (s : Int32 × Mem) => b_X13_laysSong_57 s.2 v0 v1 v2 s.1) n s) P → AW G X 57 [(0, vR v0), (1, vI v1), (2, vI v2), (4, vI s.1)] [] s.2 0 0 := by
  intro n
  induction n with
  | zero => exact fun s hy => hy.it0.elim
  | succ n ih =>
    intro s hy
    exact wb_X13_laysSong_57 hX hN hr v0 v1 v2 (fun s hs => ih s hs) (fun e hs => he0 e hs) s.2 s.1 hy.it
def f_X13_laysSong_53 (h : Mem) (v0 : Nat) (v1 : Int32) (v2 : Int32) (s0 : Int32) : Option ((Int32 × Mem) ⊕ Mem) :=
  (iter (fun (s : Int32 × Mem) => b_X13_laysSong_57 s.2 v0 v1 v2 s.1) FU (s0, h)).bind (fun q22 => some (.inl ((v1 + 1), q22)))
set_option maxRecDepth 100000 in
set_option maxHeartbeats 4000000 in
theorem w_X13_laysSong_53 {G : GE} {X : CX} {l : Launch} (hX : Ok G X cX13_laysSong RX13) (hN : xn X = 5) {P0 : Mem → Prop} (hr : Rt G X l yX13_laysSong none rm_X13_laysSong (pmV P0))  (v0 : Nat) {P : ((Int32 × Mem) ⊕ Mem) → Prop} (hc : ∀ s, P (.inl s) → AW G X 7 [(0, vR v0), (1, vI s.1)] [] s.2 0 0) (he0 : ∀ e, P (.inr e) → AW G X 112 [] [] e 0 0) (h : Mem) (v1 : Int32) (v2 : Int32) (s0 : Int32) (hy : OK (f_X13_laysSong_53 h v0 v1 v2 s0) P) : AW G X 53 [(0, vR v0), (1, vI v1), (2, vI v2)] [vI s0] h 0 0 := by
  unfold f_X13_laysSong_53 at hy
  refine aw_istoren (pc := 53) hX [(3, vI s0), (0, vR v0), (1, vI v1), (2, vI v2)] rfl (lt_n hN (by decide)) dX13_laysSong_53 ?_
  refine aw_iloadn (pc := 54) hX 0 rfl dX13_laysSong_54 ?_
  refine aw_istore (pc := 55) hX [(4, vI s0), (3, vI s0), (0, vR v0), (1, vI v1), (2, vI v2)] rfl (lt_n hN (by decide)) dX13_laysSong_55 ?_
  refine AW.sub [2, 3, 4, 0] rfl ?_
  refine wl_X13_laysSong_57 hX hN hr v0 v1 v2 ?_ FU (s0, h) hy.bd
  · intro q22 hy
    refine aw_iinc (pc := 106) hX 1 (by decide) 1 rfl [(1, vI (v1 + 1)), (0, vR v0)] rfl (lt_n hN (by decide)) dX13_laysSong_106 ?_
    refine aw_goto (pc := 109) hX 7 (by decide) dX13_laysSong_109 ?_
    refine AW.sub [1, 0] rfl ?_
    exact hc ((v1 + 1), q22) hy.s
def b_X13_laysSong_7 (h : Mem) (v0 : Nat) (v1 : Int32) : Option ((Int32 × Mem) ⊕ Mem) :=
  (gI h v0 31 11).bind fun x2 => (if x2 ≤ v1 then some (.inr h) else (gR h v0 28 11).bind fun r3 => (gR h v0 25 11).bind fun r4 => (aI h r4 v1).bind fun x5 => (aI h r3 x5).bind fun x6 => (if v1 = 0 then f_X13_laysSong_53 h v0 v1 x6 0 else (gR h v0 28 11).bind fun r7 => (gR h v0 25 11).bind fun r8 => (aI h r8 (v1 - 1)).bind fun x9 => (aI h r7 x9).bind fun x10 => (f_X13_overlapOf h v0 x10 x6).bind fun x11 => f_X13_laysSong_53 h v0 v1 x6 x11))
set_option maxRecDepth 100000 in
set_option maxHeartbeats 4000000 in
theorem wb_X13_laysSong_7 {G : GE} {X : CX} {l : Launch} (hX : Ok G X cX13_laysSong RX13) (hN : xn X = 5) {P0 : Mem → Prop} (hr : Rt G X l yX13_laysSong none rm_X13_laysSong (pmV P0))  (v0 : Nat) {P : ((Int32 × Mem) ⊕ Mem) → Prop} (hc : ∀ s, P (.inl s) → AW G X 7 [(0, vR v0), (1, vI s.1)] [] s.2 0 0) (he0 : ∀ e, P (.inr e) → AW G X 112 [] [] e 0 0) (h : Mem) (v1 : Int32) (hy : OK (b_X13_laysSong_7 h v0 v1) P) : AW G X 7 [(0, vR v0), (1, vI v1)] [] h 0 0 := by
  unfold b_X13_laysSong_7 at hy
  refine aw_iloadn (pc := 7) hX 1 rfl dX13_laysSong_7 ?_
  refine aw_aloadn (pc := 8) hX 0 rfl dX13_laysSong_8 ?_
  refine aw_gI (pc := 9) hX hy fl_X13_424 (fun _ _ => rfl) dX13_laysSong_9 (fun x2 hy => ?_)
  refine aw_ic_ge (pc := 12) hX 112 (by decide) dX13_laysSong_12 (fun hc9 => ?_) (fun hc9 => ?_)
  · have hy := hy.t hc9
    refine AW.sub [] rfl ?_
    exact he0 h hy.s
  · have hy := hy.f hc9
    refine aw_aloadn (pc := 15) hX 0 rfl dX13_laysSong_15 ?_
    refine aw_gR (pc := 16) hX hy fl_X13_39 (fun _ _ => rfl) dX13_laysSong_16 (fun r3 hy => ?_)
    refine aw_aloadn (pc := 19) hX 0 rfl dX13_laysSong_19 ?_
    refine aw_gR (pc := 20) hX hy fl_X13_30 (fun _ _ => rfl) dX13_laysSong_20 (fun r4 hy => ?_)
    refine aw_iloadn (pc := 23) hX 1 rfl dX13_laysSong_23 ?_
    refine aw_aI (pc := 24) hX hy dX13_laysSong_24 (fun x5 hy => ?_)
    refine aw_aI (pc := 25) hX hy dX13_laysSong_25 (fun x6 hy => ?_)
    refine aw_istoren (pc := 26) hX [(2, vI x6), (0, vR v0), (1, vI v1)] rfl (lt_n hN (by decide)) dX13_laysSong_26 ?_
    refine aw_iloadn (pc := 27) hX 2 rfl dX13_laysSong_27 ?_
    refine aw_if_ne (pc := 28) hX 35 (by decide) dX13_laysSong_28 (fun hc9 => ?_) (fun hc9 => ?_)
    · have hy := hy.f hc9
      refine aw_aloadn (pc := 35) hX 1 rfl dX13_laysSong_35 ?_
      refine aw_aloadn (pc := 36) hX 1 rfl dX13_laysSong_36 ?_
      refine aw_gR (pc := 37) hX hy fl_X13_39 (fun _ _ => rfl) dX13_laysSong_37 (fun r7 hy => ?_)
      refine aw_aloadn (pc := 40) hX 1 rfl dX13_laysSong_40 ?_
      refine aw_gR (pc := 41) hX hy fl_X13_30 (fun _ _ => rfl) dX13_laysSong_41 (fun r8 hy => ?_)
      refine aw_iloadn (pc := 44) hX 2 rfl dX13_laysSong_44 ?_
      refine aw_iconst (pc := 45) hX 1 (by decide) dX13_laysSong_45 ?_
      refine aw_isub (pc := 46) hX dX13_laysSong_46 ?_
      refine aw_aI (pc := 47) hX hy dX13_laysSong_47 (fun x9 hy => ?_)
      refine aw_aI (pc := 48) hX hy dX13_laysSong_48 (fun x10 hy => ?_)
      refine aw_iloadn (pc := 49) hX 0 rfl dX13_laysSong_49 ?_
      refine aw_callV (pc := 50) (st := []) (a := v0) hX [vI x10, vI x6] (con_X13_overlapOf _ G _ v0 x10 x6 hy.bd) mc_X13_overlapOf ml_X13_433 im_X13_overlapOf se_X13_overlapOf (by decide) hy.bd.kd rfl (rm_of hr (by decide)) (Nat.le_of_ble_eq_true rfl) rfl dX13_laysSong_50 (kpI rfl rfl (fun x11 hy => ?_))
      refine AW.sub [1, 2, 0] rfl ?_
      exact w_X13_laysSong_53 hX hN hr _ hc he0 h v1 x6 x11 hy
    · have hy := hy.t hc9
      refine aw_iconst (pc := 31) hX 0 (by decide) dX13_laysSong_31 ?_
      refine aw_goto (pc := 32) hX 53 (by decide) dX13_laysSong_32 ?_
      refine AW.sub [1, 2, 0] rfl ?_
      exact w_X13_laysSong_53 hX hN hr _ hc he0 h v1 x6 0 hy
theorem wl_X13_laysSong_7 {G : GE} {X : CX} {l : Launch} (hX : Ok G X cX13_laysSong RX13) (hN : xn X = 5) {P0 : Mem → Prop} (hr : Rt G X l yX13_laysSong none rm_X13_laysSong (pmV P0)) (v0 : Nat) {P : (Mem) → Prop} (he0 : ∀ e, P e → AW G X 112 [] [] e 0 0) : ∀ (n : Nat) (s : Int32 × Mem), OK (iter (fun (s : Int32 × Mem) => b_X13_laysSong_7 s.2 v0 s.1) n s) P → AW G X 7 [(0, vR v0), (1, vI s.1)] [] s.2 0 0 := by
  intro n
  induction n with
  | zero => exact fun s hy => hy.it0.elim
  | succ n ih =>
    intro s hy
    exact wb_X13_laysSong_7 hX hN hr v0 (fun s hs => ih s hs) (fun e hs => he0 e hs) s.2 s.1 hy.it
def f_X13_laysSong (h : Mem) (v0 : Nat) : Option Mem :=
  (ck h v0 11).bind fun _ => (pI h v0 29 11 0).bind fun h1 => (iter (fun (s : Int32 × Mem) => b_X13_laysSong_7 s.2 v0 s.1) FU (0, h1)).bind (fun q23 => some q23)
set_option maxRecDepth 100000 in
set_option maxHeartbeats 4000000 in
theorem w_X13_laysSong {G : GE} {X : CX} {l : Launch} (hX : Ok G X cX13_laysSong RX13) (hN : xn X = 5) {P : Mem → Prop} (hr : Rt G X l yX13_laysSong none rm_X13_laysSong (pmV P)) (h : Mem) (v0 : Nat) (hy : OK (f_X13_laysSong h v0) P) : AW G X 0 [(0, vR v0)] [] h 0 0 := by
  unfold f_X13_laysSong at hy
  have hkd := hy.kd
  have hy := hy.kb
  refine aw_aloadn (pc := 0) hX 0 rfl dX13_laysSong_0 ?_
  refine aw_iconst (pc := 1) hX 0 (by decide) dX13_laysSong_1 ?_
  refine aw_pI (pc := 2) hX hy fl_X13_430 rfl (Or.inl rfl) dX13_laysSong_2 (fun h1 hy => ?_)
  refine aw_iconst (pc := 5) hX 0 (by decide) dX13_laysSong_5 ?_
  refine aw_istoren (pc := 6) hX [(1, vI 0), (0, vR v0)] rfl (lt_n hN (by decide)) dX13_laysSong_6 ?_
  refine AW.sub [1, 0] rfl ?_
  refine wl_X13_laysSong_7 hX hN hr v0 ?_ FU (0, h1) hy.bd
  · intro q23 hy
    exact aw_vret (pc := 112) hX hr (by decide) (by decide) dX13_laysSong_112 ⟨rfl, hy.s⟩
theorem con_X13_laysSong (l : Launch) (G : GE) (h : Mem) (v0 : Nat) {P : Mem → Prop} (hy : OK (f_X13_laysSong h v0) P) : Con l G yX13_laysSong cX13_laysSong 5 none rm_X13_laysSong [vR v0] h (pmV P) := Con.of (by decide) (Nat.le_of_ble_eq_true rfl) (fun X hX hr hN => w_X13_laysSong hX hN hr h v0 hy)
/-! X13_isBetter -/
theorem dX13_isBetter_0 : decode cX13_isBetter 0 = .ok (.aload_n 0, 1) := by decide +kernel
theorem dX13_isBetter_1 : decode cX13_isBetter 1 = .ok (.getfield 430, 3) := by decide +kernel
theorem dX13_isBetter_4 : decode cX13_isBetter 4 = .ok (.aload_n 0, 1) := by decide +kernel
theorem dX13_isBetter_5 : decode cX13_isBetter 5 = .ok (.getfield 436, 3) := by decide +kernel
theorem dX13_isBetter_8 : decode cX13_isBetter 8 = .ok (.if_icmp .eq 20, 3) := by decide +kernel
theorem dX13_isBetter_11 : decode cX13_isBetter 11 = .ok (.aload_n 0, 1) := by decide +kernel
theorem dX13_isBetter_12 : decode cX13_isBetter 12 = .ok (.getfield 430, 3) := by decide +kernel
theorem dX13_isBetter_15 : decode cX13_isBetter 15 = .ok (.aload_n 0, 1) := by decide +kernel
theorem dX13_isBetter_16 : decode cX13_isBetter 16 = .ok (.getfield 436, 3) := by decide +kernel
theorem dX13_isBetter_19 : decode cX13_isBetter 19 = .ok (.if_icmp .ge 7, 3) := by decide +kernel
theorem dX13_isBetter_22 : decode cX13_isBetter 22 = .ok (.iconst 1, 1) := by decide +kernel
theorem dX13_isBetter_23 : decode cX13_isBetter 23 = .ok (.goto 4, 3) := by decide +kernel
theorem dX13_isBetter_26 : decode cX13_isBetter 26 = .ok (.iconst 0, 1) := by decide +kernel
theorem dX13_isBetter_27 : decode cX13_isBetter 27 = .ok (.ireturn, 1) := by decide +kernel
theorem dX13_isBetter_28 : decode cX13_isBetter 28 = .ok (.iconst 0, 1) := by decide +kernel
theorem dX13_isBetter_29 : decode cX13_isBetter 29 = .ok (.istore_n 1, 1) := by decide +kernel
theorem dX13_isBetter_30 : decode cX13_isBetter 30 = .ok (.iload_n 1, 1) := by decide +kernel
theorem dX13_isBetter_31 : decode cX13_isBetter 31 = .ok (.aload_n 0, 1) := by decide +kernel
theorem dX13_isBetter_32 : decode cX13_isBetter 32 = .ok (.getfield 430, 3) := by decide +kernel
theorem dX13_isBetter_35 : decode cX13_isBetter 35 = .ok (.if_icmp .ge 45, 3) := by decide +kernel
theorem dX13_isBetter_38 : decode cX13_isBetter 38 = .ok (.aload_n 0, 1) := by decide +kernel
theorem dX13_isBetter_39 : decode cX13_isBetter 39 = .ok (.getfield 33, 3) := by decide +kernel
theorem dX13_isBetter_42 : decode cX13_isBetter 42 = .ok (.iload_n 1, 1) := by decide +kernel
theorem dX13_isBetter_43 : decode cX13_isBetter 43 = .ok (.iaload, 1) := by decide +kernel
theorem dX13_isBetter_44 : decode cX13_isBetter 44 = .ok (.aload_n 0, 1) := by decide +kernel
theorem dX13_isBetter_45 : decode cX13_isBetter 45 = .ok (.getfield 36, 3) := by decide +kernel
theorem dX13_isBetter_48 : decode cX13_isBetter 48 = .ok (.iload_n 1, 1) := by decide +kernel
theorem dX13_isBetter_49 : decode cX13_isBetter 49 = .ok (.iaload, 1) := by decide +kernel
theorem dX13_isBetter_50 : decode cX13_isBetter 50 = .ok (.if_icmp .eq 24, 3) := by decide +kernel
theorem dX13_isBetter_53 : decode cX13_isBetter 53 = .ok (.aload_n 0, 1) := by decide +kernel
theorem dX13_isBetter_54 : decode cX13_isBetter 54 = .ok (.getfield 33, 3) := by decide +kernel
theorem dX13_isBetter_57 : decode cX13_isBetter 57 = .ok (.iload_n 1, 1) := by decide +kernel
theorem dX13_isBetter_58 : decode cX13_isBetter 58 = .ok (.iaload, 1) := by decide +kernel
theorem dX13_isBetter_59 : decode cX13_isBetter 59 = .ok (.aload_n 0, 1) := by decide +kernel
theorem dX13_isBetter_60 : decode cX13_isBetter 60 = .ok (.getfield 36, 3) := by decide +kernel
theorem dX13_isBetter_63 : decode cX13_isBetter 63 = .ok (.iload_n 1, 1) := by decide +kernel
theorem dX13_isBetter_64 : decode cX13_isBetter 64 = .ok (.iaload, 1) := by decide +kernel
theorem dX13_isBetter_65 : decode cX13_isBetter 65 = .ok (.if_icmp .ge 7, 3) := by decide +kernel
theorem dX13_isBetter_68 : decode cX13_isBetter 68 = .ok (.iconst 1, 1) := by decide +kernel
theorem dX13_isBetter_69 : decode cX13_isBetter 69 = .ok (.goto 4, 3) := by decide +kernel
theorem dX13_isBetter_72 : decode cX13_isBetter 72 = .ok (.iconst 0, 1) := by decide +kernel
theorem dX13_isBetter_73 : decode cX13_isBetter 73 = .ok (.ireturn, 1) := by decide +kernel
theorem dX13_isBetter_74 : decode cX13_isBetter 74 = .ok (.iinc 1 1, 3) := by decide +kernel
theorem dX13_isBetter_77 : decode cX13_isBetter 77 = .ok (.goto (-47), 3) := by decide +kernel
theorem dX13_isBetter_80 : decode cX13_isBetter 80 = .ok (.iconst 0, 1) := by decide +kernel
theorem dX13_isBetter_81 : decode cX13_isBetter 81 = .ok (.ireturn, 1) := by decide +kernel
abbrev rm_X13_isBetter : Room := { frames := 0, cells := 0, slots := 0, locals := 0 }
def b_X13_isBetter_30 (h : Mem) (v0 : Nat) (v1 : Int32) : Option (Int32 ⊕ (Int32 ⊕ Unit)) :=
  (gI h v0 29 11).bind fun x3 => (if x3 ≤ v1 then some (.inr (.inr ())) else (gR h v0 26 11).bind fun r4 => (aI h r4 v1).bind fun x5 => (gR h v0 27 11).bind fun r6 => (aI h r6 v1).bind fun x7 => (if x5 = x7 then some (.inl (v1 + 1)) else some (.inr (.inl v1))))
set_option maxRecDepth 100000 in
set_option maxHeartbeats 4000000 in
theorem wb_X13_isBetter_30 {G : GE} {X : CX} {l : Launch} (hX : Ok G X cX13_isBetter RX13) (hN : xn X = 2) (h : Mem) {P0 : Int32 → Prop} (hr : Rt G X l yX13_isBetter (some .boolean) rm_X13_isBetter (ppI h P0))  (v0 : Nat) {P : (Int32 ⊕ (Int32 ⊕ Unit)) → Prop} (hc : ∀ s, P (.inl s) → AW G X 30 [(0, vR v0), (1, vI s)] [] h 0 0) (he0 : ∀ e, P (.inr (.inl e)) → AW G X 53 [(0, vR v0), (1, vI e)] [] h 0 0) (he1 : ∀ e, P (.inr (.inr e)) → AW G X 80 [] [] h 0 0) (v1 : Int32) (hy : OK (b_X13_isBetter_30 h v0 v1) P) : AW G X 30 [(0, vR v0), (1, vI v1)] [] h 0 0 := by
  unfold b_X13_isBetter_30 at hy
  refine aw_iloadn (pc := 30) hX 1 rfl dX13_isBetter_30 ?_
  refine aw_aloadn (pc := 31) hX 0 rfl dX13_isBetter_31 ?_
  refine aw_gI (pc := 32) hX hy fl_X13_430 (fun _ _ => rfl) dX13_isBetter_32 (fun x3 hy => ?_)
  refine aw_ic_ge (pc := 35) hX 80 (by decide) dX13_isBetter_35 (fun hc9 => ?_) (fun hc9 => ?_)
  · have hy := hy.t hc9
    refine AW.sub [] rfl ?_
    exact he1 () hy.s
  · have hy := hy.f hc9
    refine aw_aloadn (pc := 38) hX 0 rfl dX13_isBetter_38 ?_
    refine aw_gR (pc := 39) hX hy fl_X13_33 (fun _ _ => rfl) dX13_isBetter_39 (fun r4 hy => ?_)
    refine aw_iloadn (pc := 42) hX 1 rfl dX13_isBetter_42 ?_
    refine aw_aI (pc := 43) hX hy dX13_isBetter_43 (fun x5 hy => ?_)
    refine aw_aloadn (pc := 44) hX 0 rfl dX13_isBetter_44 ?_
    refine aw_gR (pc := 45) hX hy fl_X13_36 (fun _ _ => rfl) dX13_isBetter_45 (fun r6 hy => ?_)
    refine aw_iloadn (pc := 48) hX 1 rfl dX13_isBetter_48 ?_
    refine aw_aI (pc := 49) hX hy dX13_isBetter_49 (fun x7 hy => ?_)
    refine aw_ic_eq (pc := 50) hX 74 (by decide) dX13_isBetter_50 (fun hc9 => ?_) (fun hc9 => ?_)
    · have hy := hy.t hc9
      refine aw_iinc (pc := 74) hX 1 (by decide) 1 rfl [(1, vI (v1 + 1)), (0, vR v0)] rfl (lt_n hN (by decide)) dX13_isBetter_74 ?_
      refine aw_goto (pc := 77) hX 30 (by decide) dX13_isBetter_77 ?_
      refine AW.sub [1, 0] rfl ?_
      exact hc (v1 + 1) hy.s
    · have hy := hy.f hc9
      exact he0 v1 hy.s
theorem wl_X13_isBetter_30 {G : GE} {X : CX} {l : Launch} (hX : Ok G X cX13_isBetter RX13) (hN : xn X = 2) (h : Mem) {P0 : Int32 → Prop} (hr : Rt G X l yX13_isBetter (some .boolean) rm_X13_isBetter (ppI h P0)) (v0 : Nat) {P : (Int32 ⊕ Unit) → Prop} (he0 : ∀ e, P (.inl e) → AW G X 53 [(0, vR v0), (1, vI e)] [] h 0 0) (he1 : ∀ e, P (.inr e) → AW G X 80 [] [] h 0 0) : ∀ (n : Nat) (s : Int32), OK (iter (fun (s : Int32) => b_X13_isBetter_30 h v0 s) n s) P → AW G X 30 [(0, vR v0), (1, vI s)] [] h 0 0 := by
  intro n
  induction n with
  | zero => exact fun s hy => hy.it0.elim
  | succ n ih =>
    intro s hy
    exact wb_X13_isBetter_30 hX hN h hr v0 (fun s hs => ih s hs) (fun e hs => he0 e hs) (fun e hs => he1 e hs) s hy.it
def f_X13_isBetter (h : Mem) (v0 : Nat) : Option Int32 :=
  (ck h v0 11).bind fun _ => (gI h v0 29 11).bind fun x1 => (gI h v0 30 11).bind fun x2 => (if x1 = x2 then (iter (fun (s : Int32) => b_X13_isBetter_30 h v0 s) FU 0).bind (Sum.elim (fun e9 => (gR h v0 26 11).bind fun r10 => (aI h r10 e9).bind fun x11 => (gR h v0 27 11).bind fun r12 => (aI h r12 e9).bind fun x13 => (if x13 ≤ x11 then some 0 else some 1)) (fun e14 => some 0)) else (gI h v0 29 11).bind fun x15 => (gI h v0 30 11).bind fun x16 => (if x16 ≤ x15 then some 0 else some 1))
set_option maxRecDepth 100000 in
set_option maxHeartbeats 4000000 in
theorem w_X13_isBetter {G : GE} {X : CX} {l : Launch} (hX : Ok G X cX13_isBetter RX13) (hN : xn X = 2) (h : Mem) {P : Int32 → Prop} (hr : Rt G X l yX13_isBetter (some .boolean) rm_X13_isBetter (ppI h P)) (v0 : Nat) (hy : OK (f_X13_isBetter h v0) P) : AW G X 0 [(0, vR v0)] [] h 0 0 := by
  unfold f_X13_isBetter at hy
  have hkd := hy.kd
  have hy := hy.kb
  refine aw_aloadn (pc := 0) hX 0 rfl dX13_isBetter_0 ?_
  refine aw_gI (pc := 1) hX hy fl_X13_430 (fun _ _ => rfl) dX13_isBetter_1 (fun x1 hy => ?_)
  refine aw_aloadn (pc := 4) hX 0 rfl dX13_isBetter_4 ?_
  refine aw_gI (pc := 5) hX hy fl_X13_436 (fun _ _ => rfl) dX13_isBetter_5 (fun x2 hy => ?_)
  refine aw_ic_eq (pc := 8) hX 28 (by decide) dX13_isBetter_8 (fun hc9 => ?_) (fun hc9 => ?_)
  · have hy := hy.t hc9
    refine aw_iconst (pc := 28) hX 0 (by decide) dX13_isBetter_28 ?_
    refine aw_istoren (pc := 29) hX [(1, vI 0), (0, vR v0)] rfl (lt_n hN (by decide)) dX13_isBetter_29 ?_
    refine AW.sub [1, 0] rfl ?_
    refine wl_X13_isBetter_30 hX hN _ hr v0 ?_ ?_ FU 0 hy.bd
    · intro e9 hy
      refine aw_aloadn (pc := 53) hX 0 rfl dX13_isBetter_53 ?_
      refine aw_gR (pc := 54) hX hy fl_X13_33 (fun _ _ => rfl) dX13_isBetter_54 (fun r10 hy => ?_)
      refine aw_iloadn (pc := 57) hX 1 rfl dX13_isBetter_57 ?_
      refine aw_aI (pc := 58) hX hy dX13_isBetter_58 (fun x11 hy => ?_)
      refine aw_aloadn (pc := 59) hX 0 rfl dX13_isBetter_59 ?_
      refine aw_gR (pc := 60) hX hy fl_X13_36 (fun _ _ => rfl) dX13_isBetter_60 (fun r12 hy => ?_)
      refine aw_iloadn (pc := 63) hX 1 rfl dX13_isBetter_63 ?_
      refine aw_aI (pc := 64) hX hy dX13_isBetter_64 (fun x13 hy => ?_)
      refine aw_ic_ge (pc := 65) hX 72 (by decide) dX13_isBetter_65 (fun hc9 => ?_) (fun hc9 => ?_)
      · have hy := hy.t hc9
        refine aw_iconst (pc := 72) hX 0 (by decide) dX13_isBetter_72 ?_
        exact aw_zret (pc := 73) hX hr (by decide) (by decide) dX13_isBetter_73 (Or.inl rfl) ⟨rfl, _, rfl, hy.s⟩
      · have hy := hy.f hc9
        refine aw_iconst (pc := 68) hX 1 (by decide) dX13_isBetter_68 ?_
        refine aw_goto (pc := 69) hX 73 (by decide) dX13_isBetter_69 ?_
        exact aw_zret (pc := 73) hX hr (by decide) (by decide) dX13_isBetter_73 (Or.inr rfl) ⟨rfl, _, rfl, hy.s⟩
    · intro e14 hy
      refine aw_iconst (pc := 80) hX 0 (by decide) dX13_isBetter_80 ?_
      exact aw_zret (pc := 81) hX hr (by decide) (by decide) dX13_isBetter_81 (Or.inl rfl) ⟨rfl, _, rfl, hy.s⟩
  · have hy := hy.f hc9
    refine aw_aloadn (pc := 11) hX 0 rfl dX13_isBetter_11 ?_
    refine aw_gI (pc := 12) hX hy fl_X13_430 (fun _ _ => rfl) dX13_isBetter_12 (fun x15 hy => ?_)
    refine aw_aloadn (pc := 15) hX 0 rfl dX13_isBetter_15 ?_
    refine aw_gI (pc := 16) hX hy fl_X13_436 (fun _ _ => rfl) dX13_isBetter_16 (fun x16 hy => ?_)
    refine aw_ic_ge (pc := 19) hX 26 (by decide) dX13_isBetter_19 (fun hc9 => ?_) (fun hc9 => ?_)
    · have hy := hy.t hc9
      refine aw_iconst (pc := 26) hX 0 (by decide) dX13_isBetter_26 ?_
      exact aw_zret (pc := 27) hX hr (by decide) (by decide) dX13_isBetter_27 (Or.inl rfl) ⟨rfl, _, rfl, hy.s⟩
    · have hy := hy.f hc9
      refine aw_iconst (pc := 22) hX 1 (by decide) dX13_isBetter_22 ?_
      refine aw_goto (pc := 23) hX 27 (by decide) dX13_isBetter_23 ?_
      exact aw_zret (pc := 27) hX hr (by decide) (by decide) dX13_isBetter_27 (Or.inr rfl) ⟨rfl, _, rfl, hy.s⟩
theorem con_X13_isBetter (l : Launch) (G : GE) (h : Mem) (v0 : Nat) {P : Int32 → Prop} (hy : OK (f_X13_isBetter h v0) P) : Con l G yX13_isBetter cX13_isBetter 2 (some .boolean) rm_X13_isBetter [vR v0] h (ppI h P) := Con.of (by decide) (Nat.le_of_ble_eq_true rfl) (fun X hX hr hN => w_X13_isBetter hX hN h hr v0 hy)
/-! X13_swaps -/
theorem dX13_swaps_0 : decode cX13_swaps 0 = .ok (.aload_n 0, 1) := by decide +kernel
theorem dX13_swaps_1 : decode cX13_swaps 1 = .ok (.getfield 30, 3) := by decide +kernel
theorem dX13_swaps_4 : decode cX13_swaps 4 = .ok (.iload_n 1, 1) := by decide +kernel
theorem dX13_swaps_5 : decode cX13_swaps 5 = .ok (.iaload, 1) := by decide +kernel
theorem dX13_swaps_6 : decode cX13_swaps 6 = .ok (.istore_n 3, 1) := by decide +kernel
theorem dX13_swaps_7 : decode cX13_swaps 7 = .ok (.aload_n 0, 1) := by decide +kernel
theorem dX13_swaps_8 : decode cX13_swaps 8 = .ok (.getfield 30, 3) := by decide +kernel
theorem dX13_swaps_11 : decode cX13_swaps 11 = .ok (.iload_n 1, 1) := by decide +kernel
theorem dX13_swaps_12 : decode cX13_swaps 12 = .ok (.aload_n 0, 1) := by decide +kernel
theorem dX13_swaps_13 : decode cX13_swaps 13 = .ok (.getfield 30, 3) := by decide +kernel
theorem dX13_swaps_16 : decode cX13_swaps 16 = .ok (.iload_n 2, 1) := by decide +kernel
theorem dX13_swaps_17 : decode cX13_swaps 17 = .ok (.iaload, 1) := by decide +kernel
theorem dX13_swaps_18 : decode cX13_swaps 18 = .ok (.iastore, 1) := by decide +kernel
theorem dX13_swaps_19 : decode cX13_swaps 19 = .ok (.aload_n 0, 1) := by decide +kernel
theorem dX13_swaps_20 : decode cX13_swaps 20 = .ok (.getfield 30, 3) := by decide +kernel
theorem dX13_swaps_23 : decode cX13_swaps 23 = .ok (.iload_n 2, 1) := by decide +kernel
theorem dX13_swaps_24 : decode cX13_swaps 24 = .ok (.iload_n 3, 1) := by decide +kernel
theorem dX13_swaps_25 : decode cX13_swaps 25 = .ok (.iastore, 1) := by decide +kernel
theorem dX13_swaps_26 : decode cX13_swaps 26 = .ok (.return_, 1) := by decide +kernel
abbrev rm_X13_swaps : Room := { frames := 0, cells := 0, slots := 0, locals := 0 }
def f_X13_swaps (h : Mem) (v0 : Nat) (v1 : Int32) (v2 : Int32) : Option Mem :=
  (ck h v0 11).bind fun _ => (gR h v0 25 11).bind fun r1 => (aI h r1 v1).bind fun x2 => (gR h v0 25 11).bind fun r3 => (gR h v0 25 11).bind fun r4 => (aI h r4 v2).bind fun x5 => (sI h r3 v1 x5).bind fun h6 => (gR h6 v0 25 11).bind fun r7 => (sI h6 r7 v2 x2).bind fun h8 => some h8
set_option maxRecDepth 100000 in
set_option maxHeartbeats 4000000 in
theorem w_X13_swaps {G : GE} {X : CX} {l : Launch} (hX : Ok G X cX13_swaps RX13) (hN : xn X = 4) {P : Mem → Prop} (hr : Rt G X l yX13_swaps none rm_X13_swaps (pmV P)) (h : Mem) (v0 : Nat) (v1 : Int32) (v2 : Int32) (hy : OK (f_X13_swaps h v0 v1 v2) P) : AW G X 0 [(0, vR v0), (1, vI v1), (2, vI v2)] [] h 0 0 := by
  unfold f_X13_swaps at hy
  have hkd := hy.kd
  have hy := hy.kb
  refine aw_aloadn (pc := 0) hX 0 rfl dX13_swaps_0 ?_
  refine aw_gR (pc := 1) hX hy fl_X13_30 (fun _ _ => rfl) dX13_swaps_1 (fun r1 hy => ?_)
  refine aw_iloadn (pc := 4) hX 1 rfl dX13_swaps_4 ?_
  refine aw_aI (pc := 5) hX hy dX13_swaps_5 (fun x2 hy => ?_)
  refine aw_istoren (pc := 6) hX [(3, vI x2), (0, vR v0), (1, vI v1), (2, vI v2)] rfl (lt_n hN (by decide)) dX13_swaps_6 ?_
  refine aw_aloadn (pc := 7) hX 1 rfl dX13_swaps_7 ?_
  refine aw_gR (pc := 8) hX hy fl_X13_30 (fun _ _ => rfl) dX13_swaps_8 (fun r3 hy => ?_)
  refine aw_iloadn (pc := 11) hX 2 rfl dX13_swaps_11 ?_
  refine aw_aloadn (pc := 12) hX 1 rfl dX13_swaps_12 ?_
  refine aw_gR (pc := 13) hX hy fl_X13_30 (fun _ _ => rfl) dX13_swaps_13 (fun r4 hy => ?_)
  refine aw_iloadn (pc := 16) hX 3 rfl dX13_swaps_16 ?_
  refine aw_aI (pc := 17) hX hy dX13_swaps_17 (fun x5 hy => ?_)
  refine aw_sI (pc := 18) hX hy dX13_swaps_18 (fun h6 hy => ?_)
  refine aw_aloadn (pc := 19) hX 1 rfl dX13_swaps_19 ?_
  refine aw_gR (pc := 20) hX hy fl_X13_30 (fun _ _ => rfl) dX13_swaps_20 (fun r7 hy => ?_)
  refine aw_iloadn (pc := 23) hX 3 rfl dX13_swaps_23 ?_
  refine aw_iloadn (pc := 24) hX 0 rfl dX13_swaps_24 ?_
  refine aw_sI (pc := 25) hX hy dX13_swaps_25 (fun h8 hy => ?_)
  exact aw_vret (pc := 26) hX hr (by decide) (by decide) dX13_swaps_26 ⟨rfl, hy.s⟩
theorem con_X13_swaps (l : Launch) (G : GE) (h : Mem) (v0 : Nat) (v1 : Int32) (v2 : Int32) {P : Mem → Prop} (hy : OK (f_X13_swaps h v0 v1 v2) P) : Con l G yX13_swaps cX13_swaps 4 none rm_X13_swaps [vR v0, vI v1, vI v2] h (pmV P) := Con.of (by decide) (Nat.le_of_ble_eq_true rfl) (fun X hX hr hN => w_X13_swaps hX hN hr h v0 v1 v2 hy)
/-! X13_nextOrder -/
theorem dX13_nextOrder_0 : decode cX13_nextOrder 0 = .ok (.aload_n 0, 1) := by decide +kernel
theorem dX13_nextOrder_1 : decode cX13_nextOrder 1 = .ok (.getfield 424, 3) := by decide +kernel
theorem dX13_nextOrder_4 : decode cX13_nextOrder 4 = .ok (.iconst 2, 1) := by decide +kernel
theorem dX13_nextOrder_5 : decode cX13_nextOrder 5 = .ok (.isub, 1) := by decide +kernel
theorem dX13_nextOrder_6 : decode cX13_nextOrder 6 = .ok (.istore_n 1, 1) := by decide +kernel
theorem dX13_nextOrder_7 : decode cX13_nextOrder 7 = .ok (.iload_n 1, 1) := by decide +kernel
theorem dX13_nextOrder_8 : decode cX13_nextOrder 8 = .ok (.ifCond .lt 26, 3) := by decide +kernel
theorem dX13_nextOrder_11 : decode cX13_nextOrder 11 = .ok (.aload_n 0, 1) := by decide +kernel
theorem dX13_nextOrder_12 : decode cX13_nextOrder 12 = .ok (.getfield 30, 3) := by decide +kernel
theorem dX13_nextOrder_15 : decode cX13_nextOrder 15 = .ok (.iload_n 1, 1) := by decide +kernel
theorem dX13_nextOrder_16 : decode cX13_nextOrder 16 = .ok (.iaload, 1) := by decide +kernel
theorem dX13_nextOrder_17 : decode cX13_nextOrder 17 = .ok (.aload_n 0, 1) := by decide +kernel
theorem dX13_nextOrder_18 : decode cX13_nextOrder 18 = .ok (.getfield 30, 3) := by decide +kernel
theorem dX13_nextOrder_21 : decode cX13_nextOrder 21 = .ok (.iload_n 1, 1) := by decide +kernel
theorem dX13_nextOrder_22 : decode cX13_nextOrder 22 = .ok (.iconst 1, 1) := by decide +kernel
theorem dX13_nextOrder_23 : decode cX13_nextOrder 23 = .ok (.iadd, 1) := by decide +kernel
theorem dX13_nextOrder_24 : decode cX13_nextOrder 24 = .ok (.iaload, 1) := by decide +kernel
theorem dX13_nextOrder_25 : decode cX13_nextOrder 25 = .ok (.if_icmp .le 9, 3) := by decide +kernel
theorem dX13_nextOrder_28 : decode cX13_nextOrder 28 = .ok (.iinc 1 (-1), 3) := by decide +kernel
theorem dX13_nextOrder_31 : decode cX13_nextOrder 31 = .ok (.goto (-24), 3) := by decide +kernel
theorem dX13_nextOrder_34 : decode cX13_nextOrder 34 = .ok (.iload_n 1, 1) := by decide +kernel
theorem dX13_nextOrder_35 : decode cX13_nextOrder 35 = .ok (.ifCond .ge 5, 3) := by decide +kernel
theorem dX13_nextOrder_38 : decode cX13_nextOrder 38 = .ok (.iconst 0, 1) := by decide +kernel
theorem dX13_nextOrder_39 : decode cX13_nextOrder 39 = .ok (.ireturn, 1) := by decide +kernel
theorem dX13_nextOrder_40 : decode cX13_nextOrder 40 = .ok (.aload_n 0, 1) := by decide +kernel
theorem dX13_nextOrder_41 : decode cX13_nextOrder 41 = .ok (.getfield 424, 3) := by decide +kernel
theorem dX13_nextOrder_44 : decode cX13_nextOrder 44 = .ok (.iconst 1, 1) := by decide +kernel
theorem dX13_nextOrder_45 : decode cX13_nextOrder 45 = .ok (.isub, 1) := by decide +kernel
theorem dX13_nextOrder_46 : decode cX13_nextOrder 46 = .ok (.istore_n 2, 1) := by decide +kernel
theorem dX13_nextOrder_47 : decode cX13_nextOrder 47 = .ok (.aload_n 0, 1) := by decide +kernel
theorem dX13_nextOrder_48 : decode cX13_nextOrder 48 = .ok (.getfield 30, 3) := by decide +kernel
theorem dX13_nextOrder_51 : decode cX13_nextOrder 51 = .ok (.iload_n 2, 1) := by decide +kernel
theorem dX13_nextOrder_52 : decode cX13_nextOrder 52 = .ok (.iaload, 1) := by decide +kernel
theorem dX13_nextOrder_53 : decode cX13_nextOrder 53 = .ok (.aload_n 0, 1) := by decide +kernel
theorem dX13_nextOrder_54 : decode cX13_nextOrder 54 = .ok (.getfield 30, 3) := by decide +kernel
theorem dX13_nextOrder_57 : decode cX13_nextOrder 57 = .ok (.iload_n 1, 1) := by decide +kernel
theorem dX13_nextOrder_58 : decode cX13_nextOrder 58 = .ok (.iaload, 1) := by decide +kernel
theorem dX13_nextOrder_59 : decode cX13_nextOrder 59 = .ok (.if_icmp .ge 9, 3) := by decide +kernel
theorem dX13_nextOrder_62 : decode cX13_nextOrder 62 = .ok (.iinc 2 (-1), 3) := by decide +kernel
theorem dX13_nextOrder_65 : decode cX13_nextOrder 65 = .ok (.goto (-18), 3) := by decide +kernel
theorem dX13_nextOrder_68 : decode cX13_nextOrder 68 = .ok (.aload_n 0, 1) := by decide +kernel
theorem dX13_nextOrder_69 : decode cX13_nextOrder 69 = .ok (.iload_n 1, 1) := by decide +kernel
theorem dX13_nextOrder_70 : decode cX13_nextOrder 70 = .ok (.iload_n 2, 1) := by decide +kernel
theorem dX13_nextOrder_71 : decode cX13_nextOrder 71 = .ok (.invokevirtual 439, 3) := by decide +kernel
theorem dX13_nextOrder_74 : decode cX13_nextOrder 74 = .ok (.iload_n 1, 1) := by decide +kernel
theorem dX13_nextOrder_75 : decode cX13_nextOrder 75 = .ok (.iconst 1, 1) := by decide +kernel
theorem dX13_nextOrder_76 : decode cX13_nextOrder 76 = .ok (.iadd, 1) := by decide +kernel
theorem dX13_nextOrder_77 : decode cX13_nextOrder 77 = .ok (.istore_n 3, 1) := by decide +kernel
theorem dX13_nextOrder_78 : decode cX13_nextOrder 78 = .ok (.aload_n 0, 1) := by decide +kernel
theorem dX13_nextOrder_79 : decode cX13_nextOrder 79 = .ok (.getfield 424, 3) := by decide +kernel
theorem dX13_nextOrder_82 : decode cX13_nextOrder 82 = .ok (.iconst 1, 1) := by decide +kernel
theorem dX13_nextOrder_83 : decode cX13_nextOrder 83 = .ok (.isub, 1) := by decide +kernel
theorem dX13_nextOrder_84 : decode cX13_nextOrder 84 = .ok (.istore 4, 2) := by decide +kernel
theorem dX13_nextOrder_86 : decode cX13_nextOrder 86 = .ok (.iload_n 3, 1) := by decide +kernel
theorem dX13_nextOrder_87 : decode cX13_nextOrder 87 = .ok (.iload 4, 2) := by decide +kernel
theorem dX13_nextOrder_89 : decode cX13_nextOrder 89 = .ok (.if_icmp .ge 19, 3) := by decide +kernel
theorem dX13_nextOrder_92 : decode cX13_nextOrder 92 = .ok (.aload_n 0, 1) := by decide +kernel
theorem dX13_nextOrder_93 : decode cX13_nextOrder 93 = .ok (.iload_n 3, 1) := by decide +kernel
theorem dX13_nextOrder_94 : decode cX13_nextOrder 94 = .ok (.iload 4, 2) := by decide +kernel
theorem dX13_nextOrder_96 : decode cX13_nextOrder 96 = .ok (.invokevirtual 439, 3) := by decide +kernel
theorem dX13_nextOrder_99 : decode cX13_nextOrder 99 = .ok (.iinc 3 1, 3) := by decide +kernel
theorem dX13_nextOrder_102 : decode cX13_nextOrder 102 = .ok (.iinc 4 (-1), 3) := by decide +kernel
theorem dX13_nextOrder_105 : decode cX13_nextOrder 105 = .ok (.goto (-19), 3) := by decide +kernel
theorem dX13_nextOrder_108 : decode cX13_nextOrder 108 = .ok (.iconst 1, 1) := by decide +kernel
theorem dX13_nextOrder_109 : decode cX13_nextOrder 109 = .ok (.ireturn, 1) := by decide +kernel
abbrev rm_X13_nextOrder : Room := { frames := 1, cells := 0, slots := 0, locals := 23 }
def b_X13_nextOrder_7 (h : Mem) (v0 : Nat) (v1 : Int32) : Option (Int32 ⊕ Int32) :=
  (if v1 < 0 then some (.inr v1) else (gR h v0 25 11).bind fun r2 => (aI h r2 v1).bind fun x3 => (gR h v0 25 11).bind fun r4 => (aI h r4 (v1 + 1)).bind fun x5 => (if x3 ≤ x5 then some (.inr v1) else some (.inl (v1 + (-1)))))
set_option maxRecDepth 100000 in
set_option maxHeartbeats 4000000 in
theorem wb_X13_nextOrder_7 {G : GE} {X : CX} {l : Launch} (hX : Ok G X cX13_nextOrder RX13) (hN : xn X = 5) {P0 : (Int32 × Mem) → Prop} (hr : Rt G X l yX13_nextOrder (some .boolean) rm_X13_nextOrder (pmI P0)) (h : Mem)  (v0 : Nat) {P : (Int32 ⊕ Int32) → Prop} (hc : ∀ s, P (.inl s) → AW G X 7 [(0, vR v0), (1, vI s)] [] h 0 0) (he0 : ∀ e, P (.inr e) → AW G X 34 [(0, vR v0), (1, vI e)] [] h 0 0) (v1 : Int32) (hy : OK (b_X13_nextOrder_7 h v0 v1) P) : AW G X 7 [(0, vR v0), (1, vI v1)] [] h 0 0 := by
  unfold b_X13_nextOrder_7 at hy
  refine aw_iloadn (pc := 7) hX 1 rfl dX13_nextOrder_7 ?_
  refine aw_if_lt (pc := 8) hX 34 (by decide) dX13_nextOrder_8 (fun hc9 => ?_) (fun hc9 => ?_)
  · have hy := hy.t hc9
    exact he0 v1 hy.s
  · have hy := hy.f hc9
    refine aw_aloadn (pc := 11) hX 0 rfl dX13_nextOrder_11 ?_
    refine aw_gR (pc := 12) hX hy fl_X13_30 (fun _ _ => rfl) dX13_nextOrder_12 (fun r2 hy => ?_)
    refine aw_iloadn (pc := 15) hX 1 rfl dX13_nextOrder_15 ?_
    refine aw_aI (pc := 16) hX hy dX13_nextOrder_16 (fun x3 hy => ?_)
    refine aw_aloadn (pc := 17) hX 0 rfl dX13_nextOrder_17 ?_
    refine aw_gR (pc := 18) hX hy fl_X13_30 (fun _ _ => rfl) dX13_nextOrder_18 (fun r4 hy => ?_)
    refine aw_iloadn (pc := 21) hX 1 rfl dX13_nextOrder_21 ?_
    refine aw_iconst (pc := 22) hX 1 (by decide) dX13_nextOrder_22 ?_
    refine aw_iadd (pc := 23) hX dX13_nextOrder_23 ?_
    refine aw_aI (pc := 24) hX hy dX13_nextOrder_24 (fun x5 hy => ?_)
    refine aw_ic_le (pc := 25) hX 34 (by decide) dX13_nextOrder_25 (fun hc9 => ?_) (fun hc9 => ?_)
    · have hy := hy.t hc9
      exact he0 v1 hy.s
    · have hy := hy.f hc9
      refine aw_iinc (pc := 28) hX (-1) (by decide) 1 rfl [(1, vI (v1 + (-1))), (0, vR v0)] rfl (lt_n hN (by decide)) dX13_nextOrder_28 ?_
      refine aw_goto (pc := 31) hX 7 (by decide) dX13_nextOrder_31 ?_
      refine AW.sub [1, 0] rfl ?_
      exact hc (v1 + (-1)) hy.s
theorem wl_X13_nextOrder_7 {G : GE} {X : CX} {l : Launch} (hX : Ok G X cX13_nextOrder RX13) (hN : xn X = 5) {P0 : (Int32 × Mem) → Prop} (hr : Rt G X l yX13_nextOrder (some .boolean) rm_X13_nextOrder (pmI P0)) (h : Mem) (v0 : Nat) {P : (Int32) → Prop} (he0 : ∀ e, P e → AW G X 34 [(0, vR v0), (1, vI e)] [] h 0 0) : ∀ (n : Nat) (s : Int32), OK (iter (fun (s : Int32) => b_X13_nextOrder_7 h v0 s) n s) P → AW G X 7 [(0, vR v0), (1, vI s)] [] h 0 0 := by
  intro n
  induction n with
  | zero => exact fun s hy => hy.it0.elim
  | succ n ih =>
    intro s hy
    exact wb_X13_nextOrder_7 hX hN hr h v0 (fun s hs => ih s hs) (fun e hs => he0 e hs) s hy.it
def b_X13_nextOrder_47 (h : Mem) (v0 : Nat) (v1 : Int32) (v2 : Int32) : Option (Int32 ⊕ Int32) :=
  (gR h v0 25 11).bind fun r8 => (aI h r8 v2).bind fun x9 => (gR h v0 25 11).bind fun r10 => (aI h r10 v1).bind fun x11 => (if x11 ≤ x9 then some (.inr v2) else some (.inl (v2 + (-1))))
set_option maxRecDepth 100000 in
set_option maxHeartbeats 4000000 in
theorem wb_X13_nextOrder_47 {G : GE} {X : CX} {l : Launch} (hX : Ok G X cX13_nextOrder RX13) (hN : xn X = 5) {P0 : (Int32 × Mem) → Prop} (hr : Rt G X l yX13_nextOrder (some .boolean) rm_X13_nextOrder (pmI P0)) (h : Mem)  (v0 : Nat) (v1 : Int32) {P : (Int32 ⊕ Int32) → Prop} (hc : ∀ s, P (.inl s) → AW G X 47 [(0, vR v0), (1, vI v1), (2, vI s)] [] h 0 0) (he0 : ∀ e, P (.inr e) → AW G X 68 [(0, vR v0), (1, vI v1), (2, vI e)] [] h 0 0) (v2 : Int32) (hy : OK (b_X13_nextOrder_47 h v0 v1 v2) P) : AW G X 47 [(0, vR v0), (1, vI v1), (2, vI v2)] [] h 0 0 := by
  unfold b_X13_nextOrder_47 at hy
  refine aw_aloadn (pc := 47) hX 0 rfl dX13_nextOrder_47 ?_
  refine aw_gR (pc := 48) hX hy fl_X13_30 (fun _ _ => rfl) dX13_nextOrder_48 (fun r8 hy => ?_)
  refine aw_iloadn (pc := 51) hX 2 rfl dX13_nextOrder_51 ?_
  refine aw_aI (pc := 52) hX hy dX13_nextOrder_52 (fun x9 hy => ?_)
  refine aw_aloadn (pc := 53) hX 0 rfl dX13_nextOrder_53 ?_
  refine aw_gR (pc := 54) hX hy fl_X13_30 (fun _ _ => rfl) dX13_nextOrder_54 (fun r10 hy => ?_)
  refine aw_iloadn (pc := 57) hX 1 rfl dX13_nextOrder_57 ?_
  refine aw_aI (pc := 58) hX hy dX13_nextOrder_58 (fun x11 hy => ?_)
  refine aw_ic_ge (pc := 59) hX 68 (by decide) dX13_nextOrder_59 (fun hc9 => ?_) (fun hc9 => ?_)
  · have hy := hy.t hc9
    exact he0 v2 hy.s
  · have hy := hy.f hc9
    refine aw_iinc (pc := 62) hX (-1) (by decide) 2 rfl [(2, vI (v2 + (-1))), (0, vR v0), (1, vI v1)] rfl (lt_n hN (by decide)) dX13_nextOrder_62 ?_
    refine aw_goto (pc := 65) hX 47 (by decide) dX13_nextOrder_65 ?_
    refine AW.sub [1, 2, 0] rfl ?_
    exact hc (v2 + (-1)) hy.s
theorem wl_X13_nextOrder_47 {G : GE} {X : CX} {l : Launch} (hX : Ok G X cX13_nextOrder RX13) (hN : xn X = 5) {P0 : (Int32 × Mem) → Prop} (hr : Rt G X l yX13_nextOrder (some .boolean) rm_X13_nextOrder (pmI P0)) (h : Mem) (v0 : Nat) (v1 : Int32) {P : (Int32) → Prop} (he0 : ∀ e, P e → AW G X 68 [(0, vR v0), (1, vI v1), (2, vI e)] [] h 0 0) : ∀ (n : Nat) (s : Int32), OK (iter (fun (s : Int32) => b_X13_nextOrder_47 h v0 v1 s) n s) P → AW G X 47 [(0, vR v0), (1, vI v1), (2, vI s)] [] h 0 0 := by
  intro n
  induction n with
  | zero => exact fun s hy => hy.it0.elim
  | succ n ih =>
    intro s hy
    exact wb_X13_nextOrder_47 hX hN hr h v0 v1 (fun s hs => ih s hs) (fun e hs => he0 e hs) s hy.it
def b_X13_nextOrder_86 (h : Mem) (v0 : Nat) (v3 : Int32) (v4 : Int32) : Option ((Int32 × Int32 × Mem) ⊕ Mem) :=
  (if v4 ≤ v3 then some (.inr h) else (f_X13_swaps h v0 v3 v4).bind fun h15 => some (.inl ((v3 + 1), (v4 + (-1)), h15)))
set_option maxRecDepth 100000 in
set_option maxHeartbeats 4000000 in
theorem wb_X13_nextOrder_86 {G : GE} {X : CX} {l : Launch} (hX : Ok G X cX13_nextOrder RX13) (hN : xn X = 5) {P0 : (Int32 × Mem) → Prop} (hr : Rt G X l yX13_nextOrder (some .boolean) rm_X13_nextOrder (pmI P0))  (v0 : Nat) {P : ((Int32 × Int32 × Mem) ⊕ Mem) → Prop} (hc : ∀ s, P (.inl s) → AW G X 86 [(0, vR v0), (3, vI s.1), (4, vI s.2.1)] [] s.2.2 0 0) (he0 : ∀ e, P (.inr e) → AW G X 108 [] [] e 0 0) (h : Mem) (v3 : Int32) (v4 : Int32) (hy : OK (b_X13_nextOrder_86 h v0 v3 v4) P) : AW G X 86 [(0, vR v0), (3, vI v3), (4, vI v4)] [] h 0 0 := by
  unfold b_X13_nextOrder_86 at hy
  refine aw_iloadn (pc := 86) hX 1 rfl dX13_nextOrder_86 ?_
  refine aw_iload (pc := 87) hX 2 rfl dX13_nextOrder_87 ?_
  refine aw_ic_ge (pc := 89) hX 108 (by decide) dX13_nextOrder_89 (fun hc9 => ?_) (fun hc9 => ?_)
  · have hy := hy.t hc9
    refine AW.sub [] rfl ?_
    exact he0 h hy.s
  · have hy := hy.f hc9
    refine aw_aloadn (pc := 92) hX 0 rfl dX13_nextOrder_92 ?_
    refine aw_iloadn (pc := 93) hX 1 rfl dX13_nextOrder_93 ?_
    refine aw_iload (pc := 94) hX 2 rfl dX13_nextOrder_94 ?_
    refine aw_callV (pc := 96) (st := []) (a := v0) hX [vI v3, vI v4] (con_X13_swaps _ G _ v0 v3 v4 hy.bd) mc_X13_swaps ml_X13_439 im_X13_swaps se_X13_swaps (by decide) hy.bd.kd rfl (rm_of hr (by decide)) (Nat.le_of_ble_eq_true rfl) rfl dX13_nextOrder_96 (kmV rfl rfl (fun h15 hy => ?_))
    refine aw_iinc (pc := 99) hX 1 (by decide) 1 rfl [(3, vI (v3 + 1)), (0, vR v0), (4, vI v4)] rfl (lt_n hN (by decide)) dX13_nextOrder_99 ?_
    refine aw_iinc (pc := 102) hX (-1) (by decide) 2 rfl [(4, vI (v4 + (-1))), (3, vI (v3 + 1)), (0, vR v0)] rfl (lt_n hN (by decide)) dX13_nextOrder_102 ?_
    refine aw_goto (pc := 105) hX 86 (by decide) dX13_nextOrder_105 ?_
    refine AW.sub [2, 1, 0] rfl ?_
    exact hc ((v3 + 1), (v4 + (-1)), h15) hy.s
theorem wl_X13_nextOrder_86 {G : GE} {X : CX} {l : Launch} (hX : Ok G X cX13_nextOrder RX13) (hN : xn X = 5) {P0 : (Int32 × Mem) → Prop} (hr : Rt G X l yX13_nextOrder (some .boolean) rm_X13_nextOrder (pmI P0)) (v0 : Nat) {P : (Mem) → Prop} (he0 : ∀ e, P e → AW G X 108 [] [] e 0 0) : ∀ (n : Nat) (s : Int32 × Int32 × Mem), OK (iter (fun (s : Int32 × Int32 × Mem) => b_X13_nextOrder_86 s.2.2 v0 s.1 s.2.1) n s) P → AW G X 86 [(0, vR v0), (3, vI s.1), (4, vI s.2.1)] [] s.2.2 0 0 := by
  intro n
  induction n with
  | zero => exact fun s hy => hy.it0.elim
  | succ n ih =>
    intro s hy
    exact wb_X13_nextOrder_86 hX hN hr v0 (fun s hs => ih s hs) (fun e hs => he0 e hs) s.2.2 s.1 s.2.1 hy.it
def f_X13_nextOrder (h : Mem) (v0 : Nat) : Option (Int32 × Mem) :=
  (ck h v0 11).bind fun _ => (gI h v0 31 11).bind fun x1 => (iter (fun (s : Int32) => b_X13_nextOrder_7 h v0 s) FU (x1 - 2)).bind (fun q6 => (if 0 ≤ q6 then (gI h v0 31 11).bind fun x7 => (iter (fun (s : Int32) => b_X13_nextOrder_47 h v0 q6 s) FU (x7 - 1)).bind (fun q12 => (f_X13_swaps h v0 q6 q12).bind fun h13 => (gI h13 v0 31 11).bind fun x14 => (iter (fun (s : Int32 × Int32 × Mem) => b_X13_nextOrder_86 s.2.2 v0 s.1 s.2.1) FU ((q6 + 1), (x14 - 1), h13)).bind (fun q16 => some (1, q16))) else some (0, h)))
set_option maxRecDepth 100000 in
set_option maxHeartbeats 4000000 in
theorem w_X13_nextOrder {G : GE} {X : CX} {l : Launch} (hX : Ok G X cX13_nextOrder RX13) (hN : xn X = 5) {P : (Int32 × Mem) → Prop} (hr : Rt G X l yX13_nextOrder (some .boolean) rm_X13_nextOrder (pmI P)) (h : Mem) (v0 : Nat) (hy : OK (f_X13_nextOrder h v0) P) : AW G X 0 [(0, vR v0)] [] h 0 0 := by
  unfold f_X13_nextOrder at hy
  have hkd := hy.kd
  have hy := hy.kb
  refine aw_aloadn (pc := 0) hX 0 rfl dX13_nextOrder_0 ?_
  refine aw_gI (pc := 1) hX hy fl_X13_424 (fun _ _ => rfl) dX13_nextOrder_1 (fun x1 hy => ?_)
  refine aw_iconst (pc := 4) hX 2 (by decide) dX13_nextOrder_4 ?_
  refine aw_isub (pc := 5) hX dX13_nextOrder_5 ?_
  refine aw_istoren (pc := 6) hX [(1, vI (x1 - 2)), (0, vR v0)] rfl (lt_n hN (by decide)) dX13_nextOrder_6 ?_
  refine AW.sub [1, 0] rfl ?_
  refine wl_X13_nextOrder_7 hX hN hr _ v0 ?_ FU (x1 - 2) hy.bd
  · intro q6 hy
    refine aw_iloadn (pc := 34) hX 1 rfl dX13_nextOrder_34 ?_
    refine aw_if_ge (pc := 35) hX 40 (by decide) dX13_nextOrder_35 (fun hc9 => ?_) (fun hc9 => ?_)
    · have hy := hy.t hc9
      refine aw_aloadn (pc := 40) hX 0 rfl dX13_nextOrder_40 ?_
      refine aw_gI (pc := 41) hX hy fl_X13_424 (fun _ _ => rfl) dX13_nextOrder_41 (fun x7 hy => ?_)
      refine aw_iconst (pc := 44) hX 1 (by decide) dX13_nextOrder_44 ?_
      refine aw_isub (pc := 45) hX dX13_nextOrder_45 ?_
      refine aw_istoren (pc := 46) hX [(2, vI (x7 - 1)), (0, vR v0), (1, vI q6)] rfl (lt_n hN (by decide)) dX13_nextOrder_46 ?_
      refine AW.sub [1, 2, 0] rfl ?_
      refine wl_X13_nextOrder_47 hX hN hr _ v0 q6 ?_ FU (x7 - 1) hy.bd
      · intro q12 hy
        refine aw_aloadn (pc := 68) hX 0 rfl dX13_nextOrder_68 ?_
        refine aw_iloadn (pc := 69) hX 1 rfl dX13_nextOrder_69 ?_
        refine aw_iloadn (pc := 70) hX 2 rfl dX13_nextOrder_70 ?_
        refine aw_callV (pc := 71) (st := []) (a := v0) hX [vI q6, vI q12] (con_X13_swaps _ G _ v0 q6 q12 hy.bd) mc_X13_swaps ml_X13_439 im_X13_swaps se_X13_swaps (by decide) hy.bd.kd rfl (rm_of hr (by decide)) (Nat.le_of_ble_eq_true rfl) rfl dX13_nextOrder_71 (kmV rfl rfl (fun h13 hy => ?_))
        refine aw_iloadn (pc := 74) hX 1 rfl dX13_nextOrder_74 ?_
        refine aw_iconst (pc := 75) hX 1 (by decide) dX13_nextOrder_75 ?_
        refine aw_iadd (pc := 76) hX dX13_nextOrder_76 ?_
        refine aw_istoren (pc := 77) hX [(3, vI (q6 + 1)), (0, vR v0), (1, vI q6), (2, vI q12)] rfl (lt_n hN (by decide)) dX13_nextOrder_77 ?_
        refine aw_aloadn (pc := 78) hX 1 rfl dX13_nextOrder_78 ?_
        refine aw_gI (pc := 79) hX hy fl_X13_424 (fun _ _ => rfl) dX13_nextOrder_79 (fun x14 hy => ?_)
        refine aw_iconst (pc := 82) hX 1 (by decide) dX13_nextOrder_82 ?_
        refine aw_isub (pc := 83) hX dX13_nextOrder_83 ?_
        refine aw_istore (pc := 84) hX [(4, vI (x14 - 1)), (3, vI (q6 + 1)), (0, vR v0), (1, vI q6), (2, vI q12)] rfl (lt_n hN (by decide)) dX13_nextOrder_84 ?_
        refine AW.sub [2, 1, 0] rfl ?_
        refine wl_X13_nextOrder_86 hX hN hr v0 ?_ FU ((q6 + 1), (x14 - 1), h13) hy.bd
        · intro q16 hy
          refine aw_iconst (pc := 108) hX 1 (by decide) dX13_nextOrder_108 ?_
          exact aw_zret (pc := 109) hX hr (by decide) (by decide) dX13_nextOrder_109 (Or.inr rfl) ⟨_, rfl, hy.s⟩
    · have hy := hy.f hc9
      refine aw_iconst (pc := 38) hX 0 (by decide) dX13_nextOrder_38 ?_
      exact aw_zret (pc := 39) hX hr (by decide) (by decide) dX13_nextOrder_39 (Or.inl rfl) ⟨_, rfl, hy.s⟩
theorem con_X13_nextOrder (l : Launch) (G : GE) (h : Mem) (v0 : Nat) {P : (Int32 × Mem) → Prop} (hy : OK (f_X13_nextOrder h v0) P) : Con l G yX13_nextOrder cX13_nextOrder 5 (some .boolean) rm_X13_nextOrder [vR v0] h (pmI P) := Con.of (by decide) (Nat.le_of_ble_eq_true rfl) (fun X hX hr hN => w_X13_nextOrder hX hN hr h v0 hy)
/-! X13_songs -/
theorem dX13_songs_0 : decode cX13_songs 0 = .ok (.aload_n 0, 1) := by decide +kernel
theorem dX13_songs_1 : decode cX13_songs 1 = .ok (.iload_n 1, 1) := by decide +kernel
theorem dX13_songs_2 : decode cX13_songs 2 = .ok (.invokevirtual 442, 3) := by decide +kernel
theorem dX13_songs_5 : decode cX13_songs 5 = .ok (.aload_n 0, 1) := by decide +kernel
theorem dX13_songs_6 : decode cX13_songs 6 = .ok (.bipush 49, 2) := by decide +kernel
theorem dX13_songs_8 : decode cX13_songs 8 = .ok (.putfield 436, 3) := by decide +kernel
theorem dX13_songs_11 : decode cX13_songs 11 = .ok (.iconst 0, 1) := by decide +kernel
theorem dX13_songs_12 : decode cX13_songs 12 = .ok (.istore_n 2, 1) := by decide +kernel
theorem dX13_songs_13 : decode cX13_songs 13 = .ok (.iload_n 2, 1) := by decide +kernel
theorem dX13_songs_14 : decode cX13_songs 14 = .ok (.aload_n 0, 1) := by decide +kernel
theorem dX13_songs_15 : decode cX13_songs 15 = .ok (.getfield 424, 3) := by decide +kernel
theorem dX13_songs_18 : decode cX13_songs 18 = .ok (.if_icmp .ge 16, 3) := by decide +kernel
theorem dX13_songs_21 : decode cX13_songs 21 = .ok (.aload_n 0, 1) := by decide +kernel
theorem dX13_songs_22 : decode cX13_songs 22 = .ok (.getfield 30, 3) := by decide +kernel
theorem dX13_songs_25 : decode cX13_songs 25 = .ok (.iload_n 2, 1) := by decide +kernel
theorem dX13_songs_26 : decode cX13_songs 26 = .ok (.iload_n 2, 1) := by decide +kernel
theorem dX13_songs_27 : decode cX13_songs 27 = .ok (.iastore, 1) := by decide +kernel
theorem dX13_songs_28 : decode cX13_songs 28 = .ok (.iinc 2 1, 3) := by decide +kernel
theorem dX13_songs_31 : decode cX13_songs 31 = .ok (.goto (-18), 3) := by decide +kernel
theorem dX13_songs_34 : decode cX13_songs 34 = .ok (.iconst 1, 1) := by decide +kernel
theorem dX13_songs_35 : decode cX13_songs 35 = .ok (.istore_n 2, 1) := by decide +kernel
theorem dX13_songs_36 : decode cX13_songs 36 = .ok (.iload_n 2, 1) := by decide +kernel
theorem dX13_songs_37 : decode cX13_songs 37 = .ok (.ifCond .eq 58, 3) := by decide +kernel
theorem dX13_songs_40 : decode cX13_songs 40 = .ok (.aload_n 0, 1) := by decide +kernel
theorem dX13_songs_41 : decode cX13_songs 41 = .ok (.invokevirtual 445, 3) := by decide +kernel
theorem dX13_songs_44 : decode cX13_songs 44 = .ok (.aload_n 0, 1) := by decide +kernel
theorem dX13_songs_45 : decode cX13_songs 45 = .ok (.invokevirtual 448, 3) := by decide +kernel
theorem dX13_songs_48 : decode cX13_songs 48 = .ok (.ifCond .eq 39, 3) := by decide +kernel
theorem dX13_songs_51 : decode cX13_songs 51 = .ok (.aload_n 0, 1) := by decide +kernel
theorem dX13_songs_52 : decode cX13_songs 52 = .ok (.aload_n 0, 1) := by decide +kernel
theorem dX13_songs_53 : decode cX13_songs 53 = .ok (.getfield 430, 3) := by decide +kernel
theorem dX13_songs_56 : decode cX13_songs 56 = .ok (.putfield 436, 3) := by decide +kernel
theorem dX13_songs_59 : decode cX13_songs 59 = .ok (.iconst 0, 1) := by decide +kernel
theorem dX13_songs_60 : decode cX13_songs 60 = .ok (.istore_n 3, 1) := by decide +kernel
theorem dX13_songs_61 : decode cX13_songs 61 = .ok (.iload_n 3, 1) := by decide +kernel
theorem dX13_songs_62 : decode cX13_songs 62 = .ok (.aload_n 0, 1) := by decide +kernel
theorem dX13_songs_63 : decode cX13_songs 63 = .ok (.getfield 430, 3) := by decide +kernel
theorem dX13_songs_66 : decode cX13_songs 66 = .ok (.if_icmp .ge 21, 3) := by decide +kernel
theorem dX13_songs_69 : decode cX13_songs 69 = .ok (.aload_n 0, 1) := by decide +kernel
theorem dX13_songs_70 : decode cX13_songs 70 = .ok (.getfield 36, 3) := by decide +kernel
theorem dX13_songs_73 : decode cX13_songs 73 = .ok (.iload_n 3, 1) := by decide +kernel
theorem dX13_songs_74 : decode cX13_songs 74 = .ok (.aload_n 0, 1) := by decide +kernel
theorem dX13_songs_75 : decode cX13_songs 75 = .ok (.getfield 33, 3) := by decide +kernel
theorem dX13_songs_78 : decode cX13_songs 78 = .ok (.iload_n 3, 1) := by decide +kernel
theorem dX13_songs_79 : decode cX13_songs 79 = .ok (.iaload, 1) := by decide +kernel
theorem dX13_songs_80 : decode cX13_songs 80 = .ok (.iastore, 1) := by decide +kernel
theorem dX13_songs_81 : decode cX13_songs 81 = .ok (.iinc 3 1, 3) := by decide +kernel
theorem dX13_songs_84 : decode cX13_songs 84 = .ok (.goto (-23), 3) := by decide +kernel
theorem dX13_songs_87 : decode cX13_songs 87 = .ok (.aload_n 0, 1) := by decide +kernel
theorem dX13_songs_88 : decode cX13_songs 88 = .ok (.invokevirtual 451, 3) := by decide +kernel
theorem dX13_songs_91 : decode cX13_songs 91 = .ok (.istore_n 2, 1) := by decide +kernel
theorem dX13_songs_92 : decode cX13_songs 92 = .ok (.goto (-56), 3) := by decide +kernel
theorem dX13_songs_95 : decode cX13_songs 95 = .ok (.return_, 1) := by decide +kernel
abbrev rm_X13_songs : Room := { frames := 4, cells := 0, slots := 0, locals := 93 }
def b_X13_songs_13 (h : Mem) (v0 : Nat) (v2 : Int32) : Option ((Int32 × Mem) ⊕ Mem) :=
  (gI h v0 31 11).bind fun x3 => (if x3 ≤ v2 then some (.inr h) else (gR h v0 25 11).bind fun r4 => (sI h r4 v2 v2).bind fun h5 => some (.inl ((v2 + 1), h5)))
set_option maxRecDepth 100000 in
set_option maxHeartbeats 4000000 in
theorem wb_X13_songs_13 {G : GE} {X : CX} {l : Launch} (hX : Ok G X cX13_songs RX13) (hN : xn X = 4) {P0 : Mem → Prop} (hr : Rt G X l yX13_songs none rm_X13_songs (pmV P0))  (v0 : Nat) {P : ((Int32 × Mem) ⊕ Mem) → Prop} (hc : ∀ s, P (.inl s) → AW G X 13 [(0, vR v0), (2, vI s.1)] [] s.2 0 0) (he0 : ∀ e, P (.inr e) → AW G X 34 [(0, vR v0)] [] e 0 0) (h : Mem) (v2 : Int32) (hy : OK (b_X13_songs_13 h v0 v2) P) : AW G X 13 [(0, vR v0), (2, vI v2)] [] h 0 0 := by
  unfold b_X13_songs_13 at hy
  refine aw_iloadn (pc := 13) hX 1 rfl dX13_songs_13 ?_
  refine aw_aloadn (pc := 14) hX 0 rfl dX13_songs_14 ?_
  refine aw_gI (pc := 15) hX hy fl_X13_424 (fun _ _ => rfl) dX13_songs_15 (fun x3 hy => ?_)
  refine aw_ic_ge (pc := 18) hX 34 (by decide) dX13_songs_18 (fun hc9 => ?_) (fun hc9 => ?_)
  · have hy := hy.t hc9
    refine AW.sub [0] rfl ?_
    exact he0 h hy.s
  · have hy := hy.f hc9
    refine aw_aloadn (pc := 21) hX 0 rfl dX13_songs_21 ?_
    refine aw_gR (pc := 22) hX hy fl_X13_30 (fun _ _ => rfl) dX13_songs_22 (fun r4 hy => ?_)
    refine aw_iloadn (pc := 25) hX 1 rfl dX13_songs_25 ?_
    refine aw_iloadn (pc := 26) hX 1 rfl dX13_songs_26 ?_
    refine aw_sI (pc := 27) hX hy dX13_songs_27 (fun h5 hy => ?_)
    refine aw_iinc (pc := 28) hX 1 (by decide) 1 rfl [(2, vI (v2 + 1)), (0, vR v0)] rfl (lt_n hN (by decide)) dX13_songs_28 ?_
    refine aw_goto (pc := 31) hX 13 (by decide) dX13_songs_31 ?_
    refine AW.sub [1, 0] rfl ?_
    exact hc ((v2 + 1), h5) hy.s
theorem wl_X13_songs_13 {G : GE} {X : CX} {l : Launch} (hX : Ok G X cX13_songs RX13) (hN : xn X = 4) {P0 : Mem → Prop} (hr : Rt G X l yX13_songs none rm_X13_songs (pmV P0)) (v0 : Nat) {P : (Mem) → Prop} (he0 : ∀ e, P e → AW G X 34 [(0, vR v0)] [] e 0 0) : ∀ (n : Nat) (s : Int32 × Mem), OK (iter (fun (s : Int32 × Mem) => b_X13_songs_13 s.2 v0 s.1) n s) P → AW G X 13 [(0, vR v0), (2, vI s.1)] [] s.2 0 0 := by
  intro n
  induction n with
  | zero => exact fun s hy => hy.it0.elim
  | succ n ih =>
    intro s hy
    exact wb_X13_songs_13 hX hN hr v0 (fun s hs => ih s hs) (fun e hs => he0 e hs) s.2 s.1 hy.it
def f_X13_songs_87 (h : Mem) (v0 : Nat) : Option ((Int32 × Mem) ⊕ Mem) :=
  (f_X13_nextOrder h v0).bind fun q11 => some (.inl (q11.1, q11.2))
set_option maxRecDepth 100000 in
set_option maxHeartbeats 4000000 in
theorem w_X13_songs_87 {G : GE} {X : CX} {l : Launch} (hX : Ok G X cX13_songs RX13) (hN : xn X = 4) {P0 : Mem → Prop} (hr : Rt G X l yX13_songs none rm_X13_songs (pmV P0))  (v0 : Nat) {P : ((Int32 × Mem) ⊕ Mem) → Prop} (hc : ∀ s, P (.inl s) → AW G X 36 [(0, vR v0), (2, vI s.1)] [] s.2 0 0) (he0 : ∀ e, P (.inr e) → AW G X 95 [] [] e 0 0) (h : Mem) (hy : OK (f_X13_songs_87 h v0) P) : AW G X 87 [(0, vR v0)] [] h 0 0 := by
  unfold f_X13_songs_87 at hy
  refine aw_aloadn (pc := 87) hX 0 rfl dX13_songs_87 ?_
  refine aw_callV (pc := 88) (st := []) (a := v0) hX [] (con_X13_nextOrder _ G _ v0 hy.bd) mc_X13_nextOrder ml_X13_451 im_X13_nextOrder se_X13_nextOrder (by decide) hy.bd.kd rfl (rm_of hr (by decide)) (Nat.le_of_ble_eq_true rfl) rfl dX13_songs_88 (kmI rfl rfl (fun q11 hy => ?_))
  refine aw_istoren (pc := 91) hX [(2, vI q11.1), (0, vR v0)] rfl (lt_n hN (by decide)) dX13_songs_91 ?_
  refine aw_goto (pc := 92) hX 36 (by decide) dX13_songs_92 ?_
  refine AW.sub [1, 0] rfl ?_
  exact hc (q11.1, q11.2) hy.s
def b_X13_songs_61 (h : Mem) (v0 : Nat) (v3 : Int32) : Option ((Int32 × Mem) ⊕ Mem) :=
  (gI h v0 29 11).bind fun x14 => (if x14 ≤ v3 then some (.inr h) else (gR h v0 27 11).bind fun r15 => (gR h v0 26 11).bind fun r16 => (aI h r16 v3).bind fun x17 => (sI h r15 v3 x17).bind fun h18 => some (.inl ((v3 + 1), h18)))
set_option maxRecDepth 100000 in
set_option maxHeartbeats 4000000 in
theorem wb_X13_songs_61 {G : GE} {X : CX} {l : Launch} (hX : Ok G X cX13_songs RX13) (hN : xn X = 4) {P0 : Mem → Prop} (hr : Rt G X l yX13_songs none rm_X13_songs (pmV P0))  (v0 : Nat) {P : ((Int32 × Mem) ⊕ Mem) → Prop} (hc : ∀ s, P (.inl s) → AW G X 61 [(0, vR v0), (3, vI s.1)] [] s.2 0 0) (he0 : ∀ e, P (.inr e) → AW G X 87 [(0, vR v0)] [] e 0 0) (h : Mem) (v3 : Int32) (hy : OK (b_X13_songs_61 h v0 v3) P) : AW G X 61 [(0, vR v0), (3, vI v3)] [] h 0 0 := by
  unfold b_X13_songs_61 at hy
  refine aw_iloadn (pc := 61) hX 1 rfl dX13_songs_61 ?_
  refine aw_aloadn (pc := 62) hX 0 rfl dX13_songs_62 ?_
  refine aw_gI (pc := 63) hX hy fl_X13_430 (fun _ _ => rfl) dX13_songs_63 (fun x14 hy => ?_)
  refine aw_ic_ge (pc := 66) hX 87 (by decide) dX13_songs_66 (fun hc9 => ?_) (fun hc9 => ?_)
  · have hy := hy.t hc9
    refine AW.sub [0] rfl ?_
    exact he0 h hy.s
  · have hy := hy.f hc9
    refine aw_aloadn (pc := 69) hX 0 rfl dX13_songs_69 ?_
    refine aw_gR (pc := 70) hX hy fl_X13_36 (fun _ _ => rfl) dX13_songs_70 (fun r15 hy => ?_)
    refine aw_iloadn (pc := 73) hX 1 rfl dX13_songs_73 ?_
    refine aw_aloadn (pc := 74) hX 0 rfl dX13_songs_74 ?_
    refine aw_gR (pc := 75) hX hy fl_X13_33 (fun _ _ => rfl) dX13_songs_75 (fun r16 hy => ?_)
    refine aw_iloadn (pc := 78) hX 1 rfl dX13_songs_78 ?_
    refine aw_aI (pc := 79) hX hy dX13_songs_79 (fun x17 hy => ?_)
    refine aw_sI (pc := 80) hX hy dX13_songs_80 (fun h18 hy => ?_)
    refine aw_iinc (pc := 81) hX 1 (by decide) 1 rfl [(3, vI (v3 + 1)), (0, vR v0)] rfl (lt_n hN (by decide)) dX13_songs_81 ?_
    refine aw_goto (pc := 84) hX 61 (by decide) dX13_songs_84 ?_
    refine AW.sub [1, 0] rfl ?_
    exact hc ((v3 + 1), h18) hy.s
theorem wl_X13_songs_61 {G : GE} {X : CX} {l : Launch} (hX : Ok G X cX13_songs RX13) (hN : xn X = 4) {P0 : Mem → Prop} (hr : Rt G X l yX13_songs none rm_X13_songs (pmV P0)) (v0 : Nat) {P : (Mem) → Prop} (he0 : ∀ e, P e → AW G X 87 [(0, vR v0)] [] e 0 0) : ∀ (n : Nat) (s : Int32 × Mem), OK (iter (fun (s : Int32 × Mem) => b_X13_songs_61 s.2 v0 s.1) n s) P → AW G X 61 [(0, vR v0), (3, vI s.1)] [] s.2 0 0 := by
  intro n
  induction n with
  | zero => exact fun s hy => hy.it0.elim
  | succ n ih =>
    intro s hy
    exact wb_X13_songs_61 hX hN hr v0 (fun s hs => ih s hs) (fun e hs => he0 e hs) s.2 s.1 hy.it
def b_X13_songs_36 (h : Mem) (v0 : Nat) (v2 : Int32) : Option ((Int32 × Mem) ⊕ Mem) :=
  (if v2 = 0 then some (.inr h) else (f_X13_laysSong h v0).bind fun h7 => (f_X13_isBetter h7 v0).bind fun x8 => (if x8 = 0 then f_X13_songs_87 h7 v0 else (gI h7 v0 29 11).bind fun x12 => (pI h7 v0 30 11 x12).bind fun h13 => (iter (fun (s : Int32 × Mem) => b_X13_songs_61 s.2 v0 s.1) FU (0, h13)).bind (fun q19 => f_X13_songs_87 q19 v0)))
set_option maxRecDepth 100000 in
set_option maxHeartbeats 4000000 in
theorem wb_X13_songs_36 {G : GE} {X : CX} {l : Launch} (hX : Ok G X cX13_songs RX13) (hN : xn X = 4) {P0 : Mem → Prop} (hr : Rt G X l yX13_songs none rm_X13_songs (pmV P0))  (v0 : Nat) {P : ((Int32 × Mem) ⊕ Mem) → Prop} (hc : ∀ s, P (.inl s) → AW G X 36 [(0, vR v0), (2, vI s.1)] [] s.2 0 0) (he0 : ∀ e, P (.inr e) → AW G X 95 [] [] e 0 0) (h : Mem) (v2 : Int32) (hy : OK (b_X13_songs_36 h v0 v2) P) : AW G X 36 [(0, vR v0), (2, vI v2)] [] h 0 0 := by
  unfold b_X13_songs_36 at hy
  refine aw_iloadn (pc := 36) hX 1 rfl dX13_songs_36 ?_
  refine aw_if_eq (pc := 37) hX 95 (by decide) dX13_songs_37 (fun hc9 => ?_) (fun hc9 => ?_)
  · have hy := hy.t hc9
    refine AW.sub [] rfl ?_
    exact he0 h hy.s
  · have hy := hy.f hc9
    refine aw_aloadn (pc := 40) hX 0 rfl dX13_songs_40 ?_
    refine aw_callV (pc := 41) (st := []) (a := v0) hX [] (con_X13_laysSong _ G _ v0 hy.bd) mc_X13_laysSong ml_X13_445 im_X13_laysSong se_X13_laysSong (by decide) hy.bd.kd rfl (rm_of hr (by decide)) (Nat.le_of_ble_eq_true rfl) rfl dX13_songs_41 (kmV rfl rfl (fun h7 hy => ?_))
    refine aw_aloadn (pc := 44) hX 0 rfl dX13_songs_44 ?_
    refine aw_callV (pc := 45) (st := []) (a := v0) hX [] (con_X13_isBetter _ G _ v0 hy.bd) mc_X13_isBetter ml_X13_448 im_X13_isBetter se_X13_isBetter (by decide) hy.bd.kd rfl (rm_of hr (by decide)) (Nat.le_of_ble_eq_true rfl) rfl dX13_songs_45 (kpI rfl rfl (fun x8 hy => ?_))
    refine aw_if_eq (pc := 48) hX 87 (by decide) dX13_songs_48 (fun hc9 => ?_) (fun hc9 => ?_)
    · have hy := hy.t hc9
      refine AW.sub [0] rfl ?_
      exact w_X13_songs_87 hX hN hr _ hc he0 h7 hy
    · have hy := hy.f hc9
      refine aw_aloadn (pc := 51) hX 0 rfl dX13_songs_51 ?_
      refine aw_aloadn (pc := 52) hX 0 rfl dX13_songs_52 ?_
      refine aw_gI (pc := 53) hX hy fl_X13_430 (fun _ _ => rfl) dX13_songs_53 (fun x12 hy => ?_)
      refine aw_pI (pc := 56) hX hy fl_X13_436 rfl (Or.inl rfl) dX13_songs_56 (fun h13 hy => ?_)
      refine aw_iconst (pc := 59) hX 0 (by decide) dX13_songs_59 ?_
      refine aw_istoren (pc := 60) hX [(3, vI 0), (0, vR v0), (2, vI v2)] rfl (lt_n hN (by decide)) dX13_songs_60 ?_
      refine AW.sub [1, 0] rfl ?_
      refine wl_X13_songs_61 hX hN hr v0 ?_ FU (0, h13) hy.bd
      · intro q19 hy
        exact w_X13_songs_87 hX hN hr _ hc he0 q19 hy
theorem wl_X13_songs_36 {G : GE} {X : CX} {l : Launch} (hX : Ok G X cX13_songs RX13) (hN : xn X = 4) {P0 : Mem → Prop} (hr : Rt G X l yX13_songs none rm_X13_songs (pmV P0)) (v0 : Nat) {P : (Mem) → Prop} (he0 : ∀ e, P e → AW G X 95 [] [] e 0 0) : ∀ (n : Nat) (s : Int32 × Mem), OK (iter (fun (s : Int32 × Mem) => b_X13_songs_36 s.2 v0 s.1) n s) P → AW G X 36 [(0, vR v0), (2, vI s.1)] [] s.2 0 0 := by
  intro n
  induction n with
  | zero => exact fun s hy => hy.it0.elim
  | succ n ih =>
    intro s hy
    exact wb_X13_songs_36 hX hN hr v0 (fun s hs => ih s hs) (fun e hs => he0 e hs) s.2 s.1 hy.it
def f_X13_songs (h : Mem) (v0 : Nat) (v1 : Int32) : Option Mem :=
  (ck h v0 11).bind fun _ => (f_X13_leaves h v0 v1).bind fun h1 => (pI h1 v0 30 11 49).bind fun h2 => (iter (fun (s : Int32 × Mem) => b_X13_songs_13 s.2 v0 s.1) FU (0, h2)).bind (fun q6 => (iter (fun (s : Int32 × Mem) => b_X13_songs_36 s.2 v0 s.1) FU (1, q6)).bind (fun q20 => some q20))
set_option maxRecDepth 100000 in
set_option maxHeartbeats 4000000 in
theorem w_X13_songs {G : GE} {X : CX} {l : Launch} (hX : Ok G X cX13_songs RX13) (hN : xn X = 4) {P : Mem → Prop} (hr : Rt G X l yX13_songs none rm_X13_songs (pmV P)) (h : Mem) (v0 : Nat) (v1 : Int32) (hy : OK (f_X13_songs h v0 v1) P) : AW G X 0 [(0, vR v0), (1, vI v1)] [] h 0 0 := by
  unfold f_X13_songs at hy
  have hkd := hy.kd
  have hy := hy.kb
  refine aw_aloadn (pc := 0) hX 0 rfl dX13_songs_0 ?_
  refine aw_iloadn (pc := 1) hX 1 rfl dX13_songs_1 ?_
  refine aw_callV (pc := 2) (st := []) (a := v0) hX [vI v1] (con_X13_leaves _ G _ v0 v1 hy.bd) mc_X13_leaves ml_X13_442 im_X13_leaves se_X13_leaves (by decide) hy.bd.kd rfl (rm_of hr (by decide)) (Nat.le_of_ble_eq_true rfl) rfl dX13_songs_2 (kmV rfl rfl (fun h1 hy => ?_))
  refine aw_aloadn (pc := 5) hX 0 rfl dX13_songs_5 ?_
  refine aw_bipush (pc := 6) hX 49 (by decide) dX13_songs_6 ?_
  refine aw_pI (pc := 8) hX hy fl_X13_436 rfl (Or.inl rfl) dX13_songs_8 (fun h2 hy => ?_)
  refine aw_iconst (pc := 11) hX 0 (by decide) dX13_songs_11 ?_
  refine aw_istoren (pc := 12) hX [(2, vI 0), (0, vR v0), (1, vI v1)] rfl (lt_n hN (by decide)) dX13_songs_12 ?_
  refine AW.sub [1, 0] rfl ?_
  refine wl_X13_songs_13 hX hN hr v0 ?_ FU (0, h2) hy.bd
  · intro q6 hy
    refine aw_iconst (pc := 34) hX 1 (by decide) dX13_songs_34 ?_
    refine aw_istoren (pc := 35) hX [(2, vI 1), (0, vR v0)] rfl (lt_n hN (by decide)) dX13_songs_35 ?_
    refine AW.sub [1, 0] rfl ?_
    refine wl_X13_songs_36 hX hN hr v0 ?_ FU (1, q6) hy.bd
    · intro q20 hy
      exact aw_vret (pc := 95) hX hr (by decide) (by decide) dX13_songs_95 ⟨rfl, hy.s⟩
theorem con_X13_songs (l : Launch) (G : GE) (h : Mem) (v0 : Nat) (v1 : Int32) {P : Mem → Prop} (hy : OK (f_X13_songs h v0 v1) P) : Con l G yX13_songs cX13_songs 4 none rm_X13_songs [vR v0, vI v1] h (pmV P) := Con.of (by decide) (Nat.le_of_ble_eq_true rfl) (fun X hX hr hN => w_X13_songs hX hN hr h v0 v1 hy)
/-! X13_areTunes -/
theorem dX13_areTunes_0 : decode cX13_areTunes 0 = .ok (.aload_n 0, 1) := by decide +kernel
theorem dX13_areTunes_1 : decode cX13_areTunes 1 = .ok (.getfield 338, 3) := by decide +kernel
theorem dX13_areTunes_4 : decode cX13_areTunes 4 = .ok (.ifnull 25, 3) := by decide +kernel
theorem dX13_areTunes_7 : decode cX13_areTunes 7 = .ok (.iload_n 1, 1) := by decide +kernel
theorem dX13_areTunes_8 : decode cX13_areTunes 8 = .ok (.iconst 1, 1) := by decide +kernel
theorem dX13_areTunes_9 : decode cX13_areTunes 9 = .ok (.if_icmp .lt 20, 3) := by decide +kernel
theorem dX13_areTunes_12 : decode cX13_areTunes 12 = .ok (.iload_n 1, 1) := by decide +kernel
theorem dX13_areTunes_13 : decode cX13_areTunes 13 = .ok (.iconst 1, 1) := by decide +kernel
theorem dX13_areTunes_14 : decode cX13_areTunes 14 = .ok (.aload_n 0, 1) := by decide +kernel
theorem dX13_areTunes_15 : decode cX13_areTunes 15 = .ok (.getfield 338, 3) := by decide +kernel
theorem dX13_areTunes_18 : decode cX13_areTunes 18 = .ok (.getfield 239, 3) := by decide +kernel
theorem dX13_areTunes_21 : decode cX13_areTunes 21 = .ok (.ishl, 1) := by decide +kernel
theorem dX13_areTunes_22 : decode cX13_areTunes 22 = .ok (.if_icmp .ge 7, 3) := by decide +kernel
theorem dX13_areTunes_25 : decode cX13_areTunes 25 = .ok (.iconst 1, 1) := by decide +kernel
theorem dX13_areTunes_26 : decode cX13_areTunes 26 = .ok (.goto 4, 3) := by decide +kernel
theorem dX13_areTunes_29 : decode cX13_areTunes 29 = .ok (.iconst 0, 1) := by decide +kernel
theorem dX13_areTunes_30 : decode cX13_areTunes 30 = .ok (.ireturn, 1) := by decide +kernel
abbrev rm_X13_areTunes : Room := { frames := 0, cells := 0, slots := 0, locals := 0 }
def f_X13_areTunes_29 (h : Mem) : Option Int32 :=
  some 0
set_option maxRecDepth 100000 in
set_option maxHeartbeats 4000000 in
theorem w_X13_areTunes_29 {G : GE} {X : CX} {l : Launch} (hX : Ok G X cX13_areTunes RX13) (hN : xn X = 2) (h : Mem) {P : Int32 → Prop} (hr : Rt G X l yX13_areTunes (some .boolean) rm_X13_areTunes (ppI h P)) (hy : OK (f_X13_areTunes_29 h) P) : AW G X 29 [] [] h 0 0 := by
  unfold f_X13_areTunes_29 at hy
  refine aw_iconst (pc := 29) hX 0 (by decide) dX13_areTunes_29 ?_
  exact aw_zret (pc := 30) hX hr (by decide) (by decide) dX13_areTunes_30 (Or.inl rfl) ⟨rfl, _, rfl, hy.s⟩
def f_X13_areTunes (h : Mem) (v0 : Nat) (v1 : Int32) : Option Int32 :=
  (ck h v0 11).bind fun _ => (gR h v0 3 11).bind fun r1 => (if r1 = 0 then f_X13_areTunes_29 h else (if v1 < 1 then f_X13_areTunes_29 h else (gR h v0 3 11).bind fun r2 => (gI h r2 1 10).bind fun x3 => (if ((1 : Int32) <<< (x3 &&& 31)) ≤ v1 then f_X13_areTunes_29 h else some 1)))
set_option maxRecDepth 100000 in
set_option maxHeartbeats 4000000 in
theorem w_X13_areTunes {G : GE} {X : CX} {l : Launch} (hX : Ok G X cX13_areTunes RX13) (hN : xn X = 2) (h : Mem) {P : Int32 → Prop} (hr : Rt G X l yX13_areTunes (some .boolean) rm_X13_areTunes (ppI h P)) (v0 : Nat) (v1 : Int32) (hy : OK (f_X13_areTunes h v0 v1) P) : AW G X 0 [(0, vR v0), (1, vI v1)] [] h 0 0 := by
  unfold f_X13_areTunes at hy
  have hkd := hy.kd
  have hy := hy.kb
  refine aw_aloadn (pc := 0) hX 0 rfl dX13_areTunes_0 ?_
  refine aw_gR (pc := 1) hX hy fl_X13_338 (fun _ _ => rfl) dX13_areTunes_1 (fun r1 hy => ?_)
  refine aw_ifnull (pc := 4) hX 29 (by decide) dX13_areTunes_4 (fun hc9 => ?_) (fun hc9 => ?_)
  · have hy := hy.t hc9
    refine AW.sub [] rfl ?_
    exact w_X13_areTunes_29 hX hN _ hr hy
  · have hy := hy.f hc9
    refine aw_iloadn (pc := 7) hX 1 rfl dX13_areTunes_7 ?_
    refine aw_iconst (pc := 8) hX 1 (by decide) dX13_areTunes_8 ?_
    refine aw_ic_lt (pc := 9) hX 29 (by decide) dX13_areTunes_9 (fun hc9 => ?_) (fun hc9 => ?_)
    · have hy := hy.t hc9
      refine AW.sub [] rfl ?_
      exact w_X13_areTunes_29 hX hN _ hr hy
    · have hy := hy.f hc9
      refine aw_iloadn (pc := 12) hX 1 rfl dX13_areTunes_12 ?_
      refine aw_iconst (pc := 13) hX 1 (by decide) dX13_areTunes_13 ?_
      refine aw_aloadn (pc := 14) hX 0 rfl dX13_areTunes_14 ?_
      refine aw_gR (pc := 15) hX hy fl_X13_338 (fun _ _ => rfl) dX13_areTunes_15 (fun r2 hy => ?_)
      refine aw_gI (pc := 18) hX hy fl_X13_239 (fun _ _ => rfl) dX13_areTunes_18 (fun x3 hy => ?_)
      refine aw_ishl (pc := 21) hX dX13_areTunes_21 ?_
      refine aw_ic_ge (pc := 22) hX 29 (by decide) dX13_areTunes_22 (fun hc9 => ?_) (fun hc9 => ?_)
      · have hy := hy.t hc9
        refine AW.sub [] rfl ?_
        exact w_X13_areTunes_29 hX hN _ hr hy
      · have hy := hy.f hc9
        refine aw_iconst (pc := 25) hX 1 (by decide) dX13_areTunes_25 ?_
        refine aw_goto (pc := 26) hX 30 (by decide) dX13_areTunes_26 ?_
        exact aw_zret (pc := 30) hX hr (by decide) (by decide) dX13_areTunes_30 (Or.inr rfl) ⟨rfl, _, rfl, hy.s⟩
theorem con_X13_areTunes (l : Launch) (G : GE) (h : Mem) (v0 : Nat) (v1 : Int32) {P : Int32 → Prop} (hy : OK (f_X13_areTunes h v0 v1) P) : Con l G yX13_areTunes cX13_areTunes 2 (some .boolean) rm_X13_areTunes [vR v0, vI v1] h (ppI h P) := Con.of (by decide) (Nat.le_of_ble_eq_true rfl) (fun X hX hr hN => w_X13_areTunes hX hN h hr v0 v1 hy)
/-! X13_song -/
theorem dX13_song_0 : decode cX13_song 0 = .ok (.aload_n 0, 1) := by decide +kernel
theorem dX13_song_1 : decode cX13_song 1 = .ok (.iconst 0, 1) := by decide +kernel
theorem dX13_song_2 : decode cX13_song 2 = .ok (.putfield 51, 3) := by decide +kernel
theorem dX13_song_5 : decode cX13_song 5 = .ok (.aload_n 0, 1) := by decide +kernel
theorem dX13_song_6 : decode cX13_song 6 = .ok (.iload_n 1, 1) := by decide +kernel
theorem dX13_song_7 : decode cX13_song 7 = .ok (.invokevirtual 454, 3) := by decide +kernel
theorem dX13_song_10 : decode cX13_song 10 = .ok (.ifCond .ne 9, 3) := by decide +kernel
theorem dX13_song_13 : decode cX13_song 13 = .ok (.aload_n 0, 1) := by decide +kernel
theorem dX13_song_14 : decode cX13_song 14 = .ok (.iconst 1, 1) := by decide +kernel
theorem dX13_song_15 : decode cX13_song 15 = .ok (.invokevirtual 57, 3) := by decide +kernel
theorem dX13_song_18 : decode cX13_song 18 = .ok (.ireturn, 1) := by decide +kernel
theorem dX13_song_19 : decode cX13_song 19 = .ok (.aload_n 0, 1) := by decide +kernel
theorem dX13_song_20 : decode cX13_song 20 = .ok (.iload_n 1, 1) := by decide +kernel
theorem dX13_song_21 : decode cX13_song 21 = .ok (.invokevirtual 457, 3) := by decide +kernel
theorem dX13_song_24 : decode cX13_song 24 = .ok (.aload_n 0, 1) := by decide +kernel
theorem dX13_song_25 : decode cX13_song 25 = .ok (.aload_n 0, 1) := by decide +kernel
theorem dX13_song_26 : decode cX13_song 26 = .ok (.getfield 436, 3) := by decide +kernel
theorem dX13_song_29 : decode cX13_song 29 = .ok (.invokevirtual 61, 3) := by decide +kernel
theorem dX13_song_32 : decode cX13_song 32 = .ok (.ireturn, 1) := by decide +kernel
abbrev rm_X13_song : Room := { frames := 5, cells := 0, slots := 0, locals := 116 }
def f_X13_song (h : Mem) (v0 : Nat) (v1 : Int32) : Option (Int32 × Mem) :=
  (ck h v0 11).bind fun _ => (pI h v0 0 11 0).bind fun h1 => (f_X13_areTunes h1 v0 v1).bind fun x2 => (if x2 = 0 then (f_X13_refused h1 v0 1).bind fun q10 => some (q10.1, q10.2) else (f_X13_songs h1 v0 v1).bind fun h3 => (gI h3 v0 30 11).bind fun x4 => (f_X13_good h3 v0 x4).bind fun q7 => some (q7.1, q7.2))
set_option maxRecDepth 100000 in
set_option maxHeartbeats 4000000 in
theorem w_X13_song {G : GE} {X : CX} {l : Launch} (hX : Ok G X cX13_song RX13) (hN : xn X = 2) {P : (Int32 × Mem) → Prop} (hr : Rt G X l yX13_song (some .int) rm_X13_song (pmI P)) (h : Mem) (v0 : Nat) (v1 : Int32) (hy : OK (f_X13_song h v0 v1) P) : AW G X 0 [(0, vR v0), (1, vI v1)] [] h 0 0 := by
  unfold f_X13_song at hy
  have hkd := hy.kd
  have hy := hy.kb
  refine aw_aloadn (pc := 0) hX 0 rfl dX13_song_0 ?_
  refine aw_iconst (pc := 1) hX 0 (by decide) dX13_song_1 ?_
  refine aw_pI (pc := 2) hX hy fl_X13_51 rfl (Or.inl rfl) dX13_song_2 (fun h1 hy => ?_)
  refine aw_aloadn (pc := 5) hX 0 rfl dX13_song_5 ?_
  refine aw_iloadn (pc := 6) hX 1 rfl dX13_song_6 ?_
  refine aw_callV (pc := 7) (st := []) (a := v0) hX [vI v1] (con_X13_areTunes _ G _ v0 v1 hy.bd) mc_X13_areTunes ml_X13_454 im_X13_areTunes se_X13_areTunes (by decide) hy.bd.kd rfl (rm_of hr (by decide)) (Nat.le_of_ble_eq_true rfl) rfl dX13_song_7 (kpI rfl rfl (fun x2 hy => ?_))
  refine aw_if_ne (pc := 10) hX 19 (by decide) dX13_song_10 (fun hc9 => ?_) (fun hc9 => ?_)
  · have hy := hy.f hc9
    refine aw_aloadn (pc := 19) hX 0 rfl dX13_song_19 ?_
    refine aw_iloadn (pc := 20) hX 1 rfl dX13_song_20 ?_
    refine aw_callV (pc := 21) (st := []) (a := v0) hX [vI v1] (con_X13_songs _ G _ v0 v1 hy.bd) mc_X13_songs ml_X13_457 im_X13_songs se_X13_songs (by decide) hy.bd.kd rfl (rm_of hr (by decide)) (Nat.le_of_ble_eq_true rfl) rfl dX13_song_21 (kmV rfl rfl (fun h3 hy => ?_))
    refine aw_aloadn (pc := 24) hX 0 rfl dX13_song_24 ?_
    refine aw_aloadn (pc := 25) hX 0 rfl dX13_song_25 ?_
    refine aw_gI (pc := 26) hX hy fl_X13_436 (fun _ _ => rfl) dX13_song_26 (fun x4 hy => ?_)
    refine aw_callV (pc := 29) (st := []) (a := v0) hX [vI x4] (con_X13_good _ G _ v0 x4 hy.bd) mc_X13_good ml_X13_61 im_X13_good se_X13_good (by decide) hy.bd.kd rfl (rm_of hr (by decide)) (Nat.le_of_ble_eq_true rfl) rfl dX13_song_29 (kmI rfl rfl (fun q7 hy => ?_))
    exact aw_iret (pc := 32) hX hr (by decide) (by decide) dX13_song_32 ⟨_, rfl, hy.s⟩
  · have hy := hy.t hc9
    refine aw_aloadn (pc := 13) hX 0 rfl dX13_song_13 ?_
    refine aw_iconst (pc := 14) hX 1 (by decide) dX13_song_14 ?_
    refine aw_callV (pc := 15) (st := []) (a := v0) hX [vI 1] (con_X13_refused _ G _ v0 1 hy.bd) mc_X13_refused ml_X13_57 im_X13_refused se_X13_refused (by decide) hy.bd.kd rfl (rm_of hr (by decide)) (Nat.le_of_ble_eq_true rfl) rfl dX13_song_15 (kmI rfl rfl (fun q10 hy => ?_))
    exact aw_iret (pc := 18) hX hr (by decide) (by decide) dX13_song_18 ⟨_, rfl, hy.s⟩
theorem con_X13_song (l : Launch) (G : GE) (h : Mem) (v0 : Nat) (v1 : Int32) {P : (Int32 × Mem) → Prop} (hy : OK (f_X13_song h v0 v1) P) : Con l G yX13_song cX13_song 2 (some .int) rm_X13_song [vR v0, vI v1] h (pmI P) := Con.of (by decide) (Nat.le_of_ble_eq_true rfl) (fun X hX hr hN => w_X13_song hX hN hr h v0 v1 hy)
/-! X13_songAt -/
theorem dX13_songAt_0 : decode cX13_songAt 0 = .ok (.aload_n 0, 1) := by decide +kernel
theorem dX13_songAt_1 : decode cX13_songAt 1 = .ok (.iconst 0, 1) := by decide +kernel
theorem dX13_songAt_2 : decode cX13_songAt 2 = .ok (.putfield 51, 3) := by decide +kernel
theorem dX13_songAt_5 : decode cX13_songAt 5 = .ok (.aload_n 0, 1) := by decide +kernel
theorem dX13_songAt_6 : decode cX13_songAt 6 = .ok (.iload_n 1, 1) := by decide +kernel
theorem dX13_songAt_7 : decode cX13_songAt 7 = .ok (.invokevirtual 454, 3) := by decide +kernel
theorem dX13_songAt_10 : decode cX13_songAt 10 = .ok (.ifCond .ne 9, 3) := by decide +kernel
theorem dX13_songAt_13 : decode cX13_songAt 13 = .ok (.aload_n 0, 1) := by decide +kernel
theorem dX13_songAt_14 : decode cX13_songAt 14 = .ok (.iconst 1, 1) := by decide +kernel
theorem dX13_songAt_15 : decode cX13_songAt 15 = .ok (.invokevirtual 57, 3) := by decide +kernel
theorem dX13_songAt_18 : decode cX13_songAt 18 = .ok (.ireturn, 1) := by decide +kernel
theorem dX13_songAt_19 : decode cX13_songAt 19 = .ok (.aload_n 0, 1) := by decide +kernel
theorem dX13_songAt_20 : decode cX13_songAt 20 = .ok (.iload_n 1, 1) := by decide +kernel
theorem dX13_songAt_21 : decode cX13_songAt 21 = .ok (.invokevirtual 457, 3) := by decide +kernel
theorem dX13_songAt_24 : decode cX13_songAt 24 = .ok (.iload_n 2, 1) := by decide +kernel
theorem dX13_songAt_25 : decode cX13_songAt 25 = .ok (.ifCond .lt 24, 3) := by decide +kernel
theorem dX13_songAt_28 : decode cX13_songAt 28 = .ok (.iload_n 2, 1) := by decide +kernel
theorem dX13_songAt_29 : decode cX13_songAt 29 = .ok (.aload_n 0, 1) := by decide +kernel
theorem dX13_songAt_30 : decode cX13_songAt 30 = .ok (.getfield 436, 3) := by decide +kernel
theorem dX13_songAt_33 : decode cX13_songAt 33 = .ok (.if_icmp .ge 16, 3) := by decide +kernel
theorem dX13_songAt_36 : decode cX13_songAt 36 = .ok (.aload_n 0, 1) := by decide +kernel
theorem dX13_songAt_37 : decode cX13_songAt 37 = .ok (.aload_n 0, 1) := by decide +kernel
theorem dX13_songAt_38 : decode cX13_songAt 38 = .ok (.getfield 36, 3) := by decide +kernel
theorem dX13_songAt_41 : decode cX13_songAt 41 = .ok (.iload_n 2, 1) := by decide +kernel
theorem dX13_songAt_42 : decode cX13_songAt 42 = .ok (.iaload, 1) := by decide +kernel
theorem dX13_songAt_43 : decode cX13_songAt 43 = .ok (.invokevirtual 61, 3) := by decide +kernel
theorem dX13_songAt_46 : decode cX13_songAt 46 = .ok (.goto 8, 3) := by decide +kernel
theorem dX13_songAt_49 : decode cX13_songAt 49 = .ok (.aload_n 0, 1) := by decide +kernel
theorem dX13_songAt_50 : decode cX13_songAt 50 = .ok (.iconst 1, 1) := by decide +kernel
theorem dX13_songAt_51 : decode cX13_songAt 51 = .ok (.invokevirtual 57, 3) := by decide +kernel
theorem dX13_songAt_54 : decode cX13_songAt 54 = .ok (.ireturn, 1) := by decide +kernel
abbrev rm_X13_songAt : Room := { frames := 5, cells := 0, slots := 0, locals := 116 }
def f_X13_songAt_49 (h : Mem) (v0 : Nat) : Option (Int32 × Mem) :=
  (f_X13_refused h v0 1).bind fun q6 => some (q6.1, q6.2)
set_option maxRecDepth 100000 in
set_option maxHeartbeats 4000000 in
theorem w_X13_songAt_49 {G : GE} {X : CX} {l : Launch} (hX : Ok G X cX13_songAt RX13) (hN : xn X = 3) {P : (Int32 × Mem) → Prop} (hr : Rt G X l yX13_songAt (some .int) rm_X13_songAt (pmI P)) (h : Mem) (v0 : Nat) (hy : OK (f_X13_songAt_49 h v0) P) : AW G X 49 [(0, vR v0)] [] h 0 0 := by
  unfold f_X13_songAt_49 at hy
  refine aw_aloadn (pc := 49) hX 0 rfl dX13_songAt_49 ?_
  refine aw_iconst (pc := 50) hX 1 (by decide) dX13_songAt_50 ?_
  refine aw_callV (pc := 51) (st := []) (a := v0) hX [vI 1] (con_X13_refused _ G _ v0 1 hy.bd) mc_X13_refused ml_X13_57 im_X13_refused se_X13_refused (by decide) hy.bd.kd rfl (rm_of hr (by decide)) (Nat.le_of_ble_eq_true rfl) rfl dX13_songAt_51 (kmI rfl rfl (fun q6 hy => ?_))
  exact aw_iret (pc := 54) hX hr (by decide) (by decide) dX13_songAt_54 ⟨_, rfl, hy.s⟩
def f_X13_songAt (h : Mem) (v0 : Nat) (v1 : Int32) (v2 : Int32) : Option (Int32 × Mem) :=
  (ck h v0 11).bind fun _ => (pI h v0 0 11 0).bind fun h1 => (f_X13_areTunes h1 v0 v1).bind fun x2 => (if x2 = 0 then (f_X13_refused h1 v0 1).bind fun q15 => some (q15.1, q15.2) else (f_X13_songs h1 v0 v1).bind fun h3 => (if v2 < 0 then f_X13_songAt_49 h3 v0 else (gI h3 v0 30 11).bind fun x7 => (if x7 ≤ v2 then f_X13_songAt_49 h3 v0 else (gR h3 v0 27 11).bind fun r8 => (aI h3 r8 v2).bind fun x9 => (f_X13_good h3 v0 x9).bind fun q12 => some (q12.1, q12.2))))
set_option maxRecDepth 100000 in
set_option maxHeartbeats 4000000 in
theorem w_X13_songAt {G : GE} {X : CX} {l : Launch} (hX : Ok G X cX13_songAt RX13) (hN : xn X = 3) {P : (Int32 × Mem) → Prop} (hr : Rt G X l yX13_songAt (some .int) rm_X13_songAt (pmI P)) (h : Mem) (v0 : Nat) (v1 : Int32) (v2 : Int32) (hy : OK (f_X13_songAt h v0 v1 v2) P) : AW G X 0 [(0, vR v0), (1, vI v1), (2, vI v2)] [] h 0 0 := by
  unfold f_X13_songAt at hy
  have hkd := hy.kd
  have hy := hy.kb
  refine aw_aloadn (pc := 0) hX 0 rfl dX13_songAt_0 ?_
  refine aw_iconst (pc := 1) hX 0 (by decide) dX13_songAt_1 ?_
  refine aw_pI (pc := 2) hX hy fl_X13_51 rfl (Or.inl rfl) dX13_songAt_2 (fun h1 hy => ?_)
  refine aw_aloadn (pc := 5) hX 0 rfl dX13_songAt_5 ?_
  refine aw_iloadn (pc := 6) hX 1 rfl dX13_songAt_6 ?_
  refine aw_callV (pc := 7) (st := []) (a := v0) hX [vI v1] (con_X13_areTunes _ G _ v0 v1 hy.bd) mc_X13_areTunes ml_X13_454 im_X13_areTunes se_X13_areTunes (by decide) hy.bd.kd rfl (rm_of hr (by decide)) (Nat.le_of_ble_eq_true rfl) rfl dX13_songAt_7 (kpI rfl rfl (fun x2 hy => ?_))
  refine aw_if_ne (pc := 10) hX 19 (by decide) dX13_songAt_10 (fun hc9 => ?_) (fun hc9 => ?_)
  · have hy := hy.f hc9
    refine aw_aloadn (pc := 19) hX 0 rfl dX13_songAt_19 ?_
    refine aw_iloadn (pc := 20) hX 1 rfl dX13_songAt_20 ?_
    refine aw_callV (pc := 21) (st := []) (a := v0) hX [vI v1] (con_X13_songs _ G _ v0 v1 hy.bd) mc_X13_songs ml_X13_457 im_X13_songs se_X13_songs (by decide) hy.bd.kd rfl (rm_of hr (by decide)) (Nat.le_of_ble_eq_true rfl) rfl dX13_songAt_21 (kmV rfl rfl (fun h3 hy => ?_))
    refine aw_iloadn (pc := 24) hX 2 rfl dX13_songAt_24 ?_
    refine aw_if_lt (pc := 25) hX 49 (by decide) dX13_songAt_25 (fun hc9 => ?_) (fun hc9 => ?_)
    · have hy := hy.t hc9
      refine AW.sub [0] rfl ?_
      exact w_X13_songAt_49 hX hN hr h3 v0 hy
    · have hy := hy.f hc9
      refine aw_iloadn (pc := 28) hX 2 rfl dX13_songAt_28 ?_
      refine aw_aloadn (pc := 29) hX 0 rfl dX13_songAt_29 ?_
      refine aw_gI (pc := 30) hX hy fl_X13_436 (fun _ _ => rfl) dX13_songAt_30 (fun x7 hy => ?_)
      refine aw_ic_ge (pc := 33) hX 49 (by decide) dX13_songAt_33 (fun hc9 => ?_) (fun hc9 => ?_)
      · have hy := hy.t hc9
        refine AW.sub [0] rfl ?_
        exact w_X13_songAt_49 hX hN hr h3 v0 hy
      · have hy := hy.f hc9
        refine aw_aloadn (pc := 36) hX 0 rfl dX13_songAt_36 ?_
        refine aw_aloadn (pc := 37) hX 0 rfl dX13_songAt_37 ?_
        refine aw_gR (pc := 38) hX hy fl_X13_36 (fun _ _ => rfl) dX13_songAt_38 (fun r8 hy => ?_)
        refine aw_iloadn (pc := 41) hX 2 rfl dX13_songAt_41 ?_
        refine aw_aI (pc := 42) hX hy dX13_songAt_42 (fun x9 hy => ?_)
        refine aw_callV (pc := 43) (st := []) (a := v0) hX [vI x9] (con_X13_good _ G _ v0 x9 hy.bd) mc_X13_good ml_X13_61 im_X13_good se_X13_good (by decide) hy.bd.kd rfl (rm_of hr (by decide)) (Nat.le_of_ble_eq_true rfl) rfl dX13_songAt_43 (kmI rfl rfl (fun q12 hy => ?_))
        refine aw_goto (pc := 46) hX 54 (by decide) dX13_songAt_46 ?_
        exact aw_iret (pc := 54) hX hr (by decide) (by decide) dX13_songAt_54 ⟨_, rfl, hy.s⟩
  · have hy := hy.t hc9
    refine aw_aloadn (pc := 13) hX 0 rfl dX13_songAt_13 ?_
    refine aw_iconst (pc := 14) hX 1 (by decide) dX13_songAt_14 ?_
    refine aw_callV (pc := 15) (st := []) (a := v0) hX [vI 1] (con_X13_refused _ G _ v0 1 hy.bd) mc_X13_refused ml_X13_57 im_X13_refused se_X13_refused (by decide) hy.bd.kd rfl (rm_of hr (by decide)) (Nat.le_of_ble_eq_true rfl) rfl dX13_songAt_15 (kmI rfl rfl (fun q15 hy => ?_))
    exact aw_iret (pc := 18) hX hr (by decide) (by decide) dX13_songAt_18 ⟨_, rfl, hy.s⟩
theorem con_X13_songAt (l : Launch) (G : GE) (h : Mem) (v0 : Nat) (v1 : Int32) (v2 : Int32) {P : (Int32 × Mem) → Prop} (hy : OK (f_X13_songAt h v0 v1 v2) P) : Con l G yX13_songAt cX13_songAt 3 (some .int) rm_X13_songAt [vR v0, vI v1, vI v2] h (pmI P) := Con.of (by decide) (Nat.le_of_ble_eq_true rfl) (fun X hX hr hN => w_X13_songAt hX hN hr h v0 v1 v2 hy)
/-! X13_areTwoTunes -/
theorem dX13_areTwoTunes_0 : decode cX13_areTwoTunes 0 = .ok (.aload_n 0, 1) := by decide +kernel
theorem dX13_areTwoTunes_1 : decode cX13_areTwoTunes 1 = .ok (.iload_n 1, 1) := by decide +kernel
theorem dX13_areTwoTunes_2 : decode cX13_areTwoTunes 2 = .ok (.invokevirtual 364, 3) := by decide +kernel
theorem dX13_areTwoTunes_5 : decode cX13_areTwoTunes 5 = .ok (.ifCond .eq 20, 3) := by decide +kernel
theorem dX13_areTwoTunes_8 : decode cX13_areTwoTunes 8 = .ok (.aload_n 0, 1) := by decide +kernel
theorem dX13_areTwoTunes_9 : decode cX13_areTwoTunes 9 = .ok (.iload_n 2, 1) := by decide +kernel
theorem dX13_areTwoTunes_10 : decode cX13_areTwoTunes 10 = .ok (.invokevirtual 364, 3) := by decide +kernel
theorem dX13_areTwoTunes_13 : decode cX13_areTwoTunes 13 = .ok (.ifCond .eq 12, 3) := by decide +kernel
theorem dX13_areTwoTunes_16 : decode cX13_areTwoTunes 16 = .ok (.iload_n 1, 1) := by decide +kernel
theorem dX13_areTwoTunes_17 : decode cX13_areTwoTunes 17 = .ok (.iload_n 2, 1) := by decide +kernel
theorem dX13_areTwoTunes_18 : decode cX13_areTwoTunes 18 = .ok (.if_icmp .eq 7, 3) := by decide +kernel
theorem dX13_areTwoTunes_21 : decode cX13_areTwoTunes 21 = .ok (.iconst 1, 1) := by decide +kernel
theorem dX13_areTwoTunes_22 : decode cX13_areTwoTunes 22 = .ok (.goto 4, 3) := by decide +kernel
theorem dX13_areTwoTunes_25 : decode cX13_areTwoTunes 25 = .ok (.iconst 0, 1) := by decide +kernel
theorem dX13_areTwoTunes_26 : decode cX13_areTwoTunes 26 = .ok (.ireturn, 1) := by decide +kernel
abbrev rm_X13_areTwoTunes : Room := { frames := 1, cells := 0, slots := 0, locals := 21 }
def f_X13_areTwoTunes_25 (h : Mem) : Option Int32 :=
  some 0
set_option maxRecDepth 100000 in
set_option maxHeartbeats 4000000 in
theorem w_X13_areTwoTunes_25 {G : GE} {X : CX} {l : Launch} (hX : Ok G X cX13_areTwoTunes RX13) (hN : xn X = 3) (h : Mem) {P : Int32 → Prop} (hr : Rt G X l yX13_areTwoTunes (some .boolean) rm_X13_areTwoTunes (ppI h P)) (hy : OK (f_X13_areTwoTunes_25 h) P) : AW G X 25 [] [] h 0 0 := by
  unfold f_X13_areTwoTunes_25 at hy
  refine aw_iconst (pc := 25) hX 0 (by decide) dX13_areTwoTunes_25 ?_
  exact aw_zret (pc := 26) hX hr (by decide) (by decide) dX13_areTwoTunes_26 (Or.inl rfl) ⟨rfl, _, rfl, hy.s⟩
def f_X13_areTwoTunes (h : Mem) (v0 : Nat) (v1 : Int32) (v2 : Int32) : Option Int32 :=
  (ck h v0 11).bind fun _ => (f_X13_isTune h v0 v1).bind fun x1 => (if x1 = 0 then f_X13_areTwoTunes_25 h else (f_X13_isTune h v0 v2).bind fun x2 => (if x2 = 0 then f_X13_areTwoTunes_25 h else (if v1 = v2 then f_X13_areTwoTunes_25 h else some 1)))
set_option maxRecDepth 100000 in
set_option maxHeartbeats 4000000 in
theorem w_X13_areTwoTunes {G : GE} {X : CX} {l : Launch} (hX : Ok G X cX13_areTwoTunes RX13) (hN : xn X = 3) (h : Mem) {P : Int32 → Prop} (hr : Rt G X l yX13_areTwoTunes (some .boolean) rm_X13_areTwoTunes (ppI h P)) (v0 : Nat) (v1 : Int32) (v2 : Int32) (hy : OK (f_X13_areTwoTunes h v0 v1 v2) P) : AW G X 0 [(0, vR v0), (1, vI v1), (2, vI v2)] [] h 0 0 := by
  unfold f_X13_areTwoTunes at hy
  have hkd := hy.kd
  have hy := hy.kb
  refine aw_aloadn (pc := 0) hX 0 rfl dX13_areTwoTunes_0 ?_
  refine aw_iloadn (pc := 1) hX 1 rfl dX13_areTwoTunes_1 ?_
  refine aw_callV (pc := 2) (st := []) (a := v0) hX [vI v1] (con_X13_isTune _ G _ v0 v1 hy.bd) mc_X13_isTune ml_X13_364 im_X13_isTune se_X13_isTune (by decide) hy.bd.kd rfl (rm_of hr (by decide)) (Nat.le_of_ble_eq_true rfl) rfl dX13_areTwoTunes_2 (kpI rfl rfl (fun x1 hy => ?_))
  refine aw_if_eq (pc := 5) hX 25 (by decide) dX13_areTwoTunes_5 (fun hc9 => ?_) (fun hc9 => ?_)
  · have hy := hy.t hc9
    refine AW.sub [] rfl ?_
    exact w_X13_areTwoTunes_25 hX hN _ hr hy
  · have hy := hy.f hc9
    refine aw_aloadn (pc := 8) hX 0 rfl dX13_areTwoTunes_8 ?_
    refine aw_iloadn (pc := 9) hX 2 rfl dX13_areTwoTunes_9 ?_
    refine aw_callV (pc := 10) (st := []) (a := v0) hX [vI v2] (con_X13_isTune _ G _ v0 v2 hy.bd) mc_X13_isTune ml_X13_364 im_X13_isTune se_X13_isTune (by decide) hy.bd.kd rfl (rm_of hr (by decide)) (Nat.le_of_ble_eq_true rfl) rfl dX13_areTwoTunes_10 (kpI rfl rfl (fun x2 hy => ?_))
    refine aw_if_eq (pc := 13) hX 25 (by decide) dX13_areTwoTunes_13 (fun hc9 => ?_) (fun hc9 => ?_)
    · have hy := hy.t hc9
      refine AW.sub [] rfl ?_
      exact w_X13_areTwoTunes_25 hX hN _ hr hy
    · have hy := hy.f hc9
      refine aw_iloadn (pc := 16) hX 1 rfl dX13_areTwoTunes_16 ?_
      refine aw_iloadn (pc := 17) hX 2 rfl dX13_areTwoTunes_17 ?_
      refine aw_ic_eq (pc := 18) hX 25 (by decide) dX13_areTwoTunes_18 (fun hc9 => ?_) (fun hc9 => ?_)
      · have hy := hy.t hc9
        refine AW.sub [] rfl ?_
        exact w_X13_areTwoTunes_25 hX hN _ hr hy
      · have hy := hy.f hc9
        refine aw_iconst (pc := 21) hX 1 (by decide) dX13_areTwoTunes_21 ?_
        refine aw_goto (pc := 22) hX 26 (by decide) dX13_areTwoTunes_22 ?_
        exact aw_zret (pc := 26) hX hr (by decide) (by decide) dX13_areTwoTunes_26 (Or.inr rfl) ⟨rfl, _, rfl, hy.s⟩
theorem con_X13_areTwoTunes (l : Launch) (G : GE) (h : Mem) (v0 : Nat) (v1 : Int32) (v2 : Int32) {P : Int32 → Prop} (hy : OK (f_X13_areTwoTunes h v0 v1 v2) P) : Con l G yX13_areTwoTunes cX13_areTwoTunes 3 (some .boolean) rm_X13_areTwoTunes [vR v0, vI v1, vI v2] h (ppI h P) := Con.of (by decide) (Nat.le_of_ble_eq_true rfl) (fun X hX hr hN => w_X13_areTwoTunes hX hN h hr v0 v1 v2 hy)
/-! X13_overlap -/
theorem dX13_overlap_0 : decode cX13_overlap 0 = .ok (.aload_n 0, 1) := by decide +kernel
theorem dX13_overlap_1 : decode cX13_overlap 1 = .ok (.iconst 0, 1) := by decide +kernel
theorem dX13_overlap_2 : decode cX13_overlap 2 = .ok (.putfield 51, 3) := by decide +kernel
theorem dX13_overlap_5 : decode cX13_overlap 5 = .ok (.aload_n 0, 1) := by decide +kernel
theorem dX13_overlap_6 : decode cX13_overlap 6 = .ok (.iload_n 1, 1) := by decide +kernel
theorem dX13_overlap_7 : decode cX13_overlap 7 = .ok (.iload_n 2, 1) := by decide +kernel
theorem dX13_overlap_8 : decode cX13_overlap 8 = .ok (.invokevirtual 460, 3) := by decide +kernel
theorem dX13_overlap_11 : decode cX13_overlap 11 = .ok (.ifCond .eq 16, 3) := by decide +kernel
theorem dX13_overlap_14 : decode cX13_overlap 14 = .ok (.aload_n 0, 1) := by decide +kernel
theorem dX13_overlap_15 : decode cX13_overlap 15 = .ok (.aload_n 0, 1) := by decide +kernel
theorem dX13_overlap_16 : decode cX13_overlap 16 = .ok (.iload_n 1, 1) := by decide +kernel
theorem dX13_overlap_17 : decode cX13_overlap 17 = .ok (.iload_n 2, 1) := by decide +kernel
theorem dX13_overlap_18 : decode cX13_overlap 18 = .ok (.invokevirtual 433, 3) := by decide +kernel
theorem dX13_overlap_21 : decode cX13_overlap 21 = .ok (.invokevirtual 61, 3) := by decide +kernel
theorem dX13_overlap_24 : decode cX13_overlap 24 = .ok (.goto 8, 3) := by decide +kernel
theorem dX13_overlap_27 : decode cX13_overlap 27 = .ok (.aload_n 0, 1) := by decide +kernel
theorem dX13_overlap_28 : decode cX13_overlap 28 = .ok (.iconst 1, 1) := by decide +kernel
theorem dX13_overlap_29 : decode cX13_overlap 29 = .ok (.invokevirtual 57, 3) := by decide +kernel
theorem dX13_overlap_32 : decode cX13_overlap 32 = .ok (.ireturn, 1) := by decide +kernel
abbrev rm_X13_overlap : Room := { frames := 3, cells := 0, slots := 0, locals := 69 }
def f_X13_overlap (h : Mem) (v0 : Nat) (v1 : Int32) (v2 : Int32) : Option (Int32 × Mem) :=
  (ck h v0 11).bind fun _ => (pI h v0 0 11 0).bind fun h1 => (f_X13_areTwoTunes h1 v0 v1 v2).bind fun x2 => (if x2 = 0 then (f_X13_refused h1 v0 1).bind fun q5 => some (q5.1, q5.2) else (f_X13_overlapOf h1 v0 v1 v2).bind fun x6 => (f_X13_good h1 v0 x6).bind fun q9 => some (q9.1, q9.2))
set_option maxRecDepth 100000 in
set_option maxHeartbeats 4000000 in
theorem w_X13_overlap {G : GE} {X : CX} {l : Launch} (hX : Ok G X cX13_overlap RX13) (hN : xn X = 3) {P : (Int32 × Mem) → Prop} (hr : Rt G X l yX13_overlap (some .int) rm_X13_overlap (pmI P)) (h : Mem) (v0 : Nat) (v1 : Int32) (v2 : Int32) (hy : OK (f_X13_overlap h v0 v1 v2) P) : AW G X 0 [(0, vR v0), (1, vI v1), (2, vI v2)] [] h 0 0 := by
  unfold f_X13_overlap at hy
  have hkd := hy.kd
  have hy := hy.kb
  refine aw_aloadn (pc := 0) hX 0 rfl dX13_overlap_0 ?_
  refine aw_iconst (pc := 1) hX 0 (by decide) dX13_overlap_1 ?_
  refine aw_pI (pc := 2) hX hy fl_X13_51 rfl (Or.inl rfl) dX13_overlap_2 (fun h1 hy => ?_)
  refine aw_aloadn (pc := 5) hX 0 rfl dX13_overlap_5 ?_
  refine aw_iloadn (pc := 6) hX 1 rfl dX13_overlap_6 ?_
  refine aw_iloadn (pc := 7) hX 2 rfl dX13_overlap_7 ?_
  refine aw_callV (pc := 8) (st := []) (a := v0) hX [vI v1, vI v2] (con_X13_areTwoTunes _ G _ v0 v1 v2 hy.bd) mc_X13_areTwoTunes ml_X13_460 im_X13_areTwoTunes se_X13_areTwoTunes (by decide) hy.bd.kd rfl (rm_of hr (by decide)) (Nat.le_of_ble_eq_true rfl) rfl dX13_overlap_8 (kpI rfl rfl (fun x2 hy => ?_))
  refine aw_if_eq (pc := 11) hX 27 (by decide) dX13_overlap_11 (fun hc9 => ?_) (fun hc9 => ?_)
  · have hy := hy.t hc9
    refine aw_aloadn (pc := 27) hX 0 rfl dX13_overlap_27 ?_
    refine aw_iconst (pc := 28) hX 1 (by decide) dX13_overlap_28 ?_
    refine aw_callV (pc := 29) (st := []) (a := v0) hX [vI 1] (con_X13_refused _ G _ v0 1 hy.bd) mc_X13_refused ml_X13_57 im_X13_refused se_X13_refused (by decide) hy.bd.kd rfl (rm_of hr (by decide)) (Nat.le_of_ble_eq_true rfl) rfl dX13_overlap_29 (kmI rfl rfl (fun q5 hy => ?_))
    exact aw_iret (pc := 32) hX hr (by decide) (by decide) dX13_overlap_32 ⟨_, rfl, hy.s⟩
  · have hy := hy.f hc9
    refine aw_aloadn (pc := 14) hX 0 rfl dX13_overlap_14 ?_
    refine aw_aloadn (pc := 15) hX 0 rfl dX13_overlap_15 ?_
    refine aw_iloadn (pc := 16) hX 1 rfl dX13_overlap_16 ?_
    refine aw_iloadn (pc := 17) hX 2 rfl dX13_overlap_17 ?_
    refine aw_callV (pc := 18) (st := [vR v0]) (a := v0) hX [vI v1, vI v2] (con_X13_overlapOf _ G _ v0 v1 v2 hy.bd) mc_X13_overlapOf ml_X13_433 im_X13_overlapOf se_X13_overlapOf (by decide) hy.bd.kd rfl (rm_of hr (by decide)) (Nat.le_of_ble_eq_true rfl) rfl dX13_overlap_18 (kpI rfl rfl (fun x6 hy => ?_))
    refine aw_callV (pc := 21) (st := []) (a := v0) hX [vI x6] (con_X13_good _ G _ v0 x6 hy.bd) mc_X13_good ml_X13_61 im_X13_good se_X13_good (by decide) hy.bd.kd rfl (rm_of hr (by decide)) (Nat.le_of_ble_eq_true rfl) rfl dX13_overlap_21 (kmI rfl rfl (fun q9 hy => ?_))
    refine aw_goto (pc := 24) hX 32 (by decide) dX13_overlap_24 ?_
    exact aw_iret (pc := 32) hX hr (by decide) (by decide) dX13_overlap_32 ⟨_, rfl, hy.s⟩
theorem con_X13_overlap (l : Launch) (G : GE) (h : Mem) (v0 : Nat) (v1 : Int32) (v2 : Int32) {P : (Int32 × Mem) → Prop} (hy : OK (f_X13_overlap h v0 v1 v2) P) : Con l G yX13_overlap cX13_overlap 3 (some .int) rm_X13_overlap [vR v0, vI v1, vI v2] h (pmI P) := Con.of (by decide) (Nat.le_of_ble_eq_true rfl) (fun X hX hr hN => w_X13_overlap hX hN hr h v0 v1 v2 hy)
/-! X13_goTogether -/
theorem dX13_goTogether_0 : decode cX13_goTogether 0 = .ok (.iload_n 1, 1) := by decide +kernel
theorem dX13_goTogether_1 : decode cX13_goTogether 1 = .ok (.iload_n 2, 1) := by decide +kernel
theorem dX13_goTogether_2 : decode cX13_goTogether 2 = .ok (.if_icmp .eq 37, 3) := by decide +kernel
theorem dX13_goTogether_5 : decode cX13_goTogether 5 = .ok (.aload_n 0, 1) := by decide +kernel
theorem dX13_goTogether_6 : decode cX13_goTogether 6 = .ok (.getfield 338, 3) := by decide +kernel
theorem dX13_goTogether_9 : decode cX13_goTogether 9 = .ok (.getfield 237, 3) := by decide +kernel
theorem dX13_goTogether_12 : decode cX13_goTogether 12 = .ok (.iload_n 1, 1) := by decide +kernel
theorem dX13_goTogether_13 : decode cX13_goTogether 13 = .ok (.iaload, 1) := by decide +kernel
theorem dX13_goTogether_14 : decode cX13_goTogether 14 = .ok (.aload_n 0, 1) := by decide +kernel
theorem dX13_goTogether_15 : decode cX13_goTogether 15 = .ok (.getfield 338, 3) := by decide +kernel
theorem dX13_goTogether_18 : decode cX13_goTogether 18 = .ok (.getfield 237, 3) := by decide +kernel
theorem dX13_goTogether_21 : decode cX13_goTogether 21 = .ok (.iload_n 2, 1) := by decide +kernel
theorem dX13_goTogether_22 : decode cX13_goTogether 22 = .ok (.iaload, 1) := by decide +kernel
theorem dX13_goTogether_23 : decode cX13_goTogether 23 = .ok (.if_icmp .ne 16, 3) := by decide +kernel
theorem dX13_goTogether_26 : decode cX13_goTogether 26 = .ok (.aload_n 0, 1) := by decide +kernel
theorem dX13_goTogether_27 : decode cX13_goTogether 27 = .ok (.iload_n 1, 1) := by decide +kernel
theorem dX13_goTogether_28 : decode cX13_goTogether 28 = .ok (.iload_n 2, 1) := by decide +kernel
theorem dX13_goTogether_29 : decode cX13_goTogether 29 = .ok (.invokevirtual 383, 3) := by decide +kernel
theorem dX13_goTogether_32 : decode cX13_goTogether 32 = .ok (.ifCond .ne 7, 3) := by decide +kernel
theorem dX13_goTogether_35 : decode cX13_goTogether 35 = .ok (.iconst 1, 1) := by decide +kernel
theorem dX13_goTogether_36 : decode cX13_goTogether 36 = .ok (.goto 4, 3) := by decide +kernel
theorem dX13_goTogether_39 : decode cX13_goTogether 39 = .ok (.iconst 0, 1) := by decide +kernel
theorem dX13_goTogether_40 : decode cX13_goTogether 40 = .ok (.ireturn, 1) := by decide +kernel
abbrev rm_X13_goTogether : Room := { frames := 2, cells := 0, slots := 0, locals := 46 }
def f_X13_goTogether_39 (h : Mem) : Option Int32 :=
  some 0
set_option maxRecDepth 100000 in
set_option maxHeartbeats 4000000 in
theorem w_X13_goTogether_39 {G : GE} {X : CX} {l : Launch} (hX : Ok G X cX13_goTogether RX13) (hN : xn X = 3) (h : Mem) {P : Int32 → Prop} (hr : Rt G X l yX13_goTogether (some .boolean) rm_X13_goTogether (ppI h P)) (hy : OK (f_X13_goTogether_39 h) P) : AW G X 39 [] [] h 0 0 := by
  unfold f_X13_goTogether_39 at hy
  refine aw_iconst (pc := 39) hX 0 (by decide) dX13_goTogether_39 ?_
  exact aw_zret (pc := 40) hX hr (by decide) (by decide) dX13_goTogether_40 (Or.inl rfl) ⟨rfl, _, rfl, hy.s⟩
def f_X13_goTogether (h : Mem) (v0 : Nat) (v1 : Int32) (v2 : Int32) : Option Int32 :=
  (ck h v0 11).bind fun _ => (if v1 = v2 then f_X13_goTogether_39 h else (gR h v0 3 11).bind fun r1 => (gR h r1 10 10).bind fun r2 => (aI h r2 v1).bind fun x3 => (gR h v0 3 11).bind fun r4 => (gR h r4 10 10).bind fun r5 => (aI h r5 v2).bind fun x6 => (if x3 = x6 then (f_X13_alikeIn h v0 v1 v2).bind fun x7 => (if x7 = 0 then some 1 else f_X13_goTogether_39 h) else f_X13_goTogether_39 h))
set_option maxRecDepth 100000 in
set_option maxHeartbeats 4000000 in
theorem w_X13_goTogether {G : GE} {X : CX} {l : Launch} (hX : Ok G X cX13_goTogether RX13) (hN : xn X = 3) (h : Mem) {P : Int32 → Prop} (hr : Rt G X l yX13_goTogether (some .boolean) rm_X13_goTogether (ppI h P)) (v0 : Nat) (v1 : Int32) (v2 : Int32) (hy : OK (f_X13_goTogether h v0 v1 v2) P) : AW G X 0 [(0, vR v0), (1, vI v1), (2, vI v2)] [] h 0 0 := by
  unfold f_X13_goTogether at hy
  have hkd := hy.kd
  have hy := hy.kb
  refine aw_iloadn (pc := 0) hX 1 rfl dX13_goTogether_0 ?_
  refine aw_iloadn (pc := 1) hX 2 rfl dX13_goTogether_1 ?_
  refine aw_ic_eq (pc := 2) hX 39 (by decide) dX13_goTogether_2 (fun hc9 => ?_) (fun hc9 => ?_)
  · have hy := hy.t hc9
    refine AW.sub [] rfl ?_
    exact w_X13_goTogether_39 hX hN _ hr hy
  · have hy := hy.f hc9
    refine aw_aloadn (pc := 5) hX 0 rfl dX13_goTogether_5 ?_
    refine aw_gR (pc := 6) hX hy fl_X13_338 (fun _ _ => rfl) dX13_goTogether_6 (fun r1 hy => ?_)
    refine aw_gR (pc := 9) hX hy fl_X13_237 (fun _ _ => rfl) dX13_goTogether_9 (fun r2 hy => ?_)
    refine aw_iloadn (pc := 12) hX 1 rfl dX13_goTogether_12 ?_
    refine aw_aI (pc := 13) hX hy dX13_goTogether_13 (fun x3 hy => ?_)
    refine aw_aloadn (pc := 14) hX 0 rfl dX13_goTogether_14 ?_
    refine aw_gR (pc := 15) hX hy fl_X13_338 (fun _ _ => rfl) dX13_goTogether_15 (fun r4 hy => ?_)
    refine aw_gR (pc := 18) hX hy fl_X13_237 (fun _ _ => rfl) dX13_goTogether_18 (fun r5 hy => ?_)
    refine aw_iloadn (pc := 21) hX 2 rfl dX13_goTogether_21 ?_
    refine aw_aI (pc := 22) hX hy dX13_goTogether_22 (fun x6 hy => ?_)
    refine aw_ic_ne (pc := 23) hX 39 (by decide) dX13_goTogether_23 (fun hc9 => ?_) (fun hc9 => ?_)
    · have hy := hy.f hc9
      refine AW.sub [] rfl ?_
      exact w_X13_goTogether_39 hX hN _ hr hy
    · have hy := hy.t hc9
      refine aw_aloadn (pc := 26) hX 0 rfl dX13_goTogether_26 ?_
      refine aw_iloadn (pc := 27) hX 1 rfl dX13_goTogether_27 ?_
      refine aw_iloadn (pc := 28) hX 2 rfl dX13_goTogether_28 ?_
      refine aw_callV (pc := 29) (st := []) (a := v0) hX [vI v1, vI v2] (con_X13_alikeIn _ G _ v0 v1 v2 hy.bd) mc_X13_alikeIn ml_X13_383 im_X13_alikeIn se_X13_alikeIn (by decide) hy.bd.kd rfl (rm_of hr (by decide)) (Nat.le_of_ble_eq_true rfl) rfl dX13_goTogether_29 (kpI rfl rfl (fun x7 hy => ?_))
      refine aw_if_ne (pc := 32) hX 39 (by decide) dX13_goTogether_32 (fun hc9 => ?_) (fun hc9 => ?_)
      · have hy := hy.f hc9
        refine AW.sub [] rfl ?_
        exact w_X13_goTogether_39 hX hN _ hr hy
      · have hy := hy.t hc9
        refine aw_iconst (pc := 35) hX 1 (by decide) dX13_goTogether_35 ?_
        refine aw_goto (pc := 36) hX 40 (by decide) dX13_goTogether_36 ?_
        exact aw_zret (pc := 40) hX hr (by decide) (by decide) dX13_goTogether_40 (Or.inr rfl) ⟨rfl, _, rfl, hy.s⟩
theorem con_X13_goTogether (l : Launch) (G : GE) (h : Mem) (v0 : Nat) (v1 : Int32) (v2 : Int32) {P : Int32 → Prop} (hy : OK (f_X13_goTogether h v0 v1 v2) P) : Con l G yX13_goTogether cX13_goTogether 3 (some .boolean) rm_X13_goTogether [vR v0, vI v1, vI v2] h (ppI h P) := Con.of (by decide) (Nat.le_of_ble_eq_true rfl) (fun X hX hr hN => w_X13_goTogether hX hN h hr v0 v1 v2 hy)
/-! X13_together -/
theorem dX13_together_0 : decode cX13_together 0 = .ok (.aload_n 0, 1) := by decide +kernel
theorem dX13_together_1 : decode cX13_together 1 = .ok (.iconst 0, 1) := by decide +kernel
theorem dX13_together_2 : decode cX13_together 2 = .ok (.putfield 51, 3) := by decide +kernel
theorem dX13_together_5 : decode cX13_together 5 = .ok (.aload_n 0, 1) := by decide +kernel
theorem dX13_together_6 : decode cX13_together 6 = .ok (.iload_n 1, 1) := by decide +kernel
theorem dX13_together_7 : decode cX13_together 7 = .ok (.iload_n 2, 1) := by decide +kernel
theorem dX13_together_8 : decode cX13_together 8 = .ok (.invokevirtual 460, 3) := by decide +kernel
theorem dX13_together_11 : decode cX13_together 11 = .ok (.ifCond .eq 24, 3) := by decide +kernel
theorem dX13_together_14 : decode cX13_together 14 = .ok (.aload_n 0, 1) := by decide +kernel
theorem dX13_together_15 : decode cX13_together 15 = .ok (.aload_n 0, 1) := by decide +kernel
theorem dX13_together_16 : decode cX13_together 16 = .ok (.iload_n 1, 1) := by decide +kernel
theorem dX13_together_17 : decode cX13_together 17 = .ok (.iload_n 2, 1) := by decide +kernel
theorem dX13_together_18 : decode cX13_together 18 = .ok (.invokevirtual 463, 3) := by decide +kernel
theorem dX13_together_21 : decode cX13_together 21 = .ok (.ifCond .eq 7, 3) := by decide +kernel
theorem dX13_together_24 : decode cX13_together 24 = .ok (.iconst 1, 1) := by decide +kernel
theorem dX13_together_25 : decode cX13_together 25 = .ok (.goto 4, 3) := by decide +kernel
theorem dX13_together_28 : decode cX13_together 28 = .ok (.iconst 0, 1) := by decide +kernel
theorem dX13_together_29 : decode cX13_together 29 = .ok (.invokevirtual 61, 3) := by decide +kernel
theorem dX13_together_32 : decode cX13_together 32 = .ok (.goto 8, 3) := by decide +kernel
theorem dX13_together_35 : decode cX13_together 35 = .ok (.aload_n 0, 1) := by decide +kernel
theorem dX13_together_36 : decode cX13_together 36 = .ok (.iconst 1, 1) := by decide +kernel
theorem dX13_together_37 : decode cX13_together 37 = .ok (.invokevirtual 57, 3) := by decide +kernel
theorem dX13_together_40 : decode cX13_together 40 = .ok (.ireturn, 1) := by decide +kernel
abbrev rm_X13_together : Room := { frames := 3, cells := 0, slots := 0, locals := 68 }
def f_X13_together_29 (h : Mem) (s0 : Nat) (s1 : Int32) : Option (Int32 × Mem) :=
  (f_X13_good h s0 s1).bind fun q9 => some (q9.1, q9.2)
set_option maxRecDepth 100000 in
set_option maxHeartbeats 4000000 in
theorem w_X13_together_29 {G : GE} {X : CX} {l : Launch} (hX : Ok G X cX13_together RX13) (hN : xn X = 3) {P : (Int32 × Mem) → Prop} (hr : Rt G X l yX13_together (some .int) rm_X13_together (pmI P)) (h : Mem) (s0 : Nat) (s1 : Int32) (hy : OK (f_X13_together_29 h s0 s1) P) : AW G X 29 [] [vI s1, vR s0] h 0 0 := by
  unfold f_X13_together_29 at hy
  refine aw_callV (pc := 29) (st := []) (a := s0) hX [vI s1] (con_X13_good _ G _ s0 s1 hy.bd) mc_X13_good ml_X13_61 im_X13_good se_X13_good (by decide) hy.bd.kd rfl (rm_of hr (by decide)) (Nat.le_of_ble_eq_true rfl) rfl dX13_together_29 (kmI rfl rfl (fun q9 hy => ?_))
  refine aw_goto (pc := 32) hX 40 (by decide) dX13_together_32 ?_
  exact aw_iret (pc := 40) hX hr (by decide) (by decide) dX13_together_40 ⟨_, rfl, hy.s⟩
def f_X13_together (h : Mem) (v0 : Nat) (v1 : Int32) (v2 : Int32) : Option (Int32 × Mem) :=
  (ck h v0 11).bind fun _ => (pI h v0 0 11 0).bind fun h1 => (f_X13_areTwoTunes h1 v0 v1 v2).bind fun x2 => (if x2 = 0 then (f_X13_refused h1 v0 1).bind fun q5 => some (q5.1, q5.2) else (f_X13_goTogether h1 v0 v1 v2).bind fun x6 => (if x6 = 0 then f_X13_together_29 h1 v0 0 else f_X13_together_29 h1 v0 1))
set_option maxRecDepth 100000 in
set_option maxHeartbeats 4000000 in
theorem w_X13_together {G : GE} {X : CX} {l : Launch} (hX : Ok G X cX13_together RX13) (hN : xn X = 3) {P : (Int32 × Mem) → Prop} (hr : Rt G X l yX13_together (some .int) rm_X13_together (pmI P)) (h : Mem) (v0 : Nat) (v1 : Int32) (v2 : Int32) (hy : OK (f_X13_together h v0 v1 v2) P) : AW G X 0 [(0, vR v0), (1, vI v1), (2, vI v2)] [] h 0 0 := by
  unfold f_X13_together at hy
  have hkd := hy.kd
  have hy := hy.kb
  refine aw_aloadn (pc := 0) hX 0 rfl dX13_together_0 ?_
  refine aw_iconst (pc := 1) hX 0 (by decide) dX13_together_1 ?_
  refine aw_pI (pc := 2) hX hy fl_X13_51 rfl (Or.inl rfl) dX13_together_2 (fun h1 hy => ?_)
  refine aw_aloadn (pc := 5) hX 0 rfl dX13_together_5 ?_
  refine aw_iloadn (pc := 6) hX 1 rfl dX13_together_6 ?_
  refine aw_iloadn (pc := 7) hX 2 rfl dX13_together_7 ?_
  refine aw_callV (pc := 8) (st := []) (a := v0) hX [vI v1, vI v2] (con_X13_areTwoTunes _ G _ v0 v1 v2 hy.bd) mc_X13_areTwoTunes ml_X13_460 im_X13_areTwoTunes se_X13_areTwoTunes (by decide) hy.bd.kd rfl (rm_of hr (by decide)) (Nat.le_of_ble_eq_true rfl) rfl dX13_together_8 (kpI rfl rfl (fun x2 hy => ?_))
  refine aw_if_eq (pc := 11) hX 35 (by decide) dX13_together_11 (fun hc9 => ?_) (fun hc9 => ?_)
  · have hy := hy.t hc9
    refine aw_aloadn (pc := 35) hX 0 rfl dX13_together_35 ?_
    refine aw_iconst (pc := 36) hX 1 (by decide) dX13_together_36 ?_
    refine aw_callV (pc := 37) (st := []) (a := v0) hX [vI 1] (con_X13_refused _ G _ v0 1 hy.bd) mc_X13_refused ml_X13_57 im_X13_refused se_X13_refused (by decide) hy.bd.kd rfl (rm_of hr (by decide)) (Nat.le_of_ble_eq_true rfl) rfl dX13_together_37 (kmI rfl rfl (fun q5 hy => ?_))
    exact aw_iret (pc := 40) hX hr (by decide) (by decide) dX13_together_40 ⟨_, rfl, hy.s⟩
  · have hy := hy.f hc9
    refine aw_aloadn (pc := 14) hX 0 rfl dX13_together_14 ?_
    refine aw_aloadn (pc := 15) hX 0 rfl dX13_together_15 ?_
    refine aw_iloadn (pc := 16) hX 1 rfl dX13_together_16 ?_
    refine aw_iloadn (pc := 17) hX 2 rfl dX13_together_17 ?_
    refine aw_callV (pc := 18) (st := [vR v0]) (a := v0) hX [vI v1, vI v2] (con_X13_goTogether _ G _ v0 v1 v2 hy.bd) mc_X13_goTogether ml_X13_463 im_X13_goTogether se_X13_goTogether (by decide) hy.bd.kd rfl (rm_of hr (by decide)) (Nat.le_of_ble_eq_true rfl) rfl dX13_together_18 (kpI rfl rfl (fun x6 hy => ?_))
    refine aw_if_eq (pc := 21) hX 28 (by decide) dX13_together_21 (fun hc9 => ?_) (fun hc9 => ?_)
    · have hy := hy.t hc9
      refine aw_iconst (pc := 28) hX 0 (by decide) dX13_together_28 ?_
      refine AW.sub [] rfl ?_
      exact w_X13_together_29 hX hN hr h1 v0 0 hy
    · have hy := hy.f hc9
      refine aw_iconst (pc := 24) hX 1 (by decide) dX13_together_24 ?_
      refine aw_goto (pc := 25) hX 29 (by decide) dX13_together_25 ?_
      refine AW.sub [] rfl ?_
      exact w_X13_together_29 hX hN hr h1 v0 1 hy
theorem con_X13_together (l : Launch) (G : GE) (h : Mem) (v0 : Nat) (v1 : Int32) (v2 : Int32) {P : (Int32 × Mem) → Prop} (hy : OK (f_X13_together h v0 v1 v2) P) : Con l G yX13_together cX13_together 3 (some .int) rm_X13_together [vR v0, vI v1, vI v2] h (pmI P) := Con.of (by decide) (Nat.le_of_ble_eq_true rfl) (fun X hX hr hN => w_X13_together hX hN hr h v0 v1 v2 hy)
/-! X13_lowest -/
theorem dX13_lowest_0 : decode cX13_lowest 0 = .ok (.iconst 0, 1) := by decide +kernel
theorem dX13_lowest_1 : decode cX13_lowest 1 = .ok (.istore_n 1, 1) := by decide +kernel
theorem dX13_lowest_2 : decode cX13_lowest 2 = .ok (.iload_n 0, 1) := by decide +kernel
theorem dX13_lowest_3 : decode cX13_lowest 3 = .ok (.iload_n 1, 1) := by decide +kernel
theorem dX13_lowest_4 : decode cX13_lowest 4 = .ok (.invokestatic 322, 3) := by decide +kernel
theorem dX13_lowest_7 : decode cX13_lowest 7 = .ok (.ifCond .ne 9, 3) := by decide +kernel
theorem dX13_lowest_10 : decode cX13_lowest 10 = .ok (.iinc 1 1, 3) := by decide +kernel
theorem dX13_lowest_13 : decode cX13_lowest 13 = .ok (.goto (-11), 3) := by decide +kernel
theorem dX13_lowest_16 : decode cX13_lowest 16 = .ok (.iload_n 1, 1) := by decide +kernel
theorem dX13_lowest_17 : decode cX13_lowest 17 = .ok (.ireturn, 1) := by decide +kernel
abbrev rm_X13_lowest : Room := { frames := 1, cells := 0, slots := 0, locals := 21 }
def b_X13_lowest_2 (h : Mem) (v0 : Int32) (v1 : Int32) : Option (Int32 ⊕ Int32) :=
  (f_X13_bit h v0 v1).bind fun x1 => (if x1 = 0 then some (.inl (v1 + 1)) else some (.inr v1))
set_option maxRecDepth 100000 in
set_option maxHeartbeats 4000000 in
theorem wb_X13_lowest_2 {G : GE} {X : CX} {l : Launch} (hX : Ok G X cX13_lowest RX13) (hN : xn X = 2) (h : Mem) {P0 : Int32 → Prop} (hr : Rt G X l yX13_lowest (some .int) rm_X13_lowest (ppI h P0))  (v0 : Int32) {P : (Int32 ⊕ Int32) → Prop} (hc : ∀ s, P (.inl s) → AW G X 2 [(0, vI v0), (1, vI s)] [] h 0 0) (he0 : ∀ e, P (.inr e) → AW G X 16 [(1, vI e)] [] h 0 0) (v1 : Int32) (hy : OK (b_X13_lowest_2 h v0 v1) P) : AW G X 2 [(0, vI v0), (1, vI v1)] [] h 0 0 := by
  unfold b_X13_lowest_2 at hy
  refine aw_iloadn (pc := 2) hX 0 rfl dX13_lowest_2 ?_
  refine aw_iloadn (pc := 3) hX 1 rfl dX13_lowest_3 ?_
  refine aw_callS (pc := 4) (st := []) hX [vI v0, vI v1] (con_X13_bit _ G _ v0 v1 hy.bd) mc_X13_bit ml_X13_322 st_X13_bit rfl (rm_of hr (by decide)) (Nat.le_of_ble_eq_true rfl) rfl dX13_lowest_4 (kpI rfl rfl (fun x1 hy => ?_))
  refine aw_if_ne (pc := 7) hX 16 (by decide) dX13_lowest_7 (fun hc9 => ?_) (fun hc9 => ?_)
  · have hy := hy.f hc9
    refine AW.sub [1] rfl ?_
    exact he0 v1 hy.s
  · have hy := hy.t hc9
    refine aw_iinc (pc := 10) hX 1 (by decide) 1 rfl [(1, vI (v1 + 1)), (0, vI v0)] rfl (lt_n hN (by decide)) dX13_lowest_10 ?_
    refine aw_goto (pc := 13) hX 2 (by decide) dX13_lowest_13 ?_
    refine AW.sub [1, 0] rfl ?_
    exact hc (v1 + 1) hy.s
theorem wl_X13_lowest_2 {G : GE} {X : CX} {l : Launch} (hX : Ok G X cX13_lowest RX13) (hN : xn X = 2) (h : Mem) {P0 : Int32 → Prop} (hr : Rt G X l yX13_lowest (some .int) rm_X13_lowest (ppI h P0)) (v0 : Int32) {P : (Int32) → Prop} (he0 : ∀ e, P e → AW G X 16 [(1, vI e)] [] h 0 0) : ∀ (n : Nat) (s : Int32), OK (iter (fun (s : Int32) => b_X13_lowest_2 h v0 s) n s) P → AW G X 2 [(0, vI v0), (1, vI s)] [] h 0 0 := by
  intro n
  induction n with
  | zero => exact fun s hy => hy.it0.elim
  | succ n ih =>
    intro s hy
    exact wb_X13_lowest_2 hX hN h hr v0 (fun s hs => ih s hs) (fun e hs => he0 e hs) s hy.it
def f_X13_lowest (h : Mem) (v0 : Int32) : Option Int32 :=
  (iter (fun (s : Int32) => b_X13_lowest_2 h v0 s) FU 0).bind (fun q2 => some q2)
set_option maxRecDepth 100000 in
set_option maxHeartbeats 4000000 in
theorem w_X13_lowest {G : GE} {X : CX} {l : Launch} (hX : Ok G X cX13_lowest RX13) (hN : xn X = 2) (h : Mem) {P : Int32 → Prop} (hr : Rt G X l yX13_lowest (some .int) rm_X13_lowest (ppI h P)) (v0 : Int32) (hy : OK (f_X13_lowest h v0) P) : AW G X 0 [(0, vI v0)] [] h 0 0 := by
  unfold f_X13_lowest at hy
  refine aw_iconst (pc := 0) hX 0 (by decide) dX13_lowest_0 ?_
  refine aw_istoren (pc := 1) hX [(1, vI 0), (0, vI v0)] rfl (lt_n hN (by decide)) dX13_lowest_1 ?_
  refine AW.sub [1, 0] rfl ?_
  refine wl_X13_lowest_2 hX hN _ hr v0 ?_ FU 0 hy.bd
  · intro q2 hy
    refine aw_iloadn (pc := 16) hX 0 rfl dX13_lowest_16 ?_
    exact aw_iret (pc := 17) hX hr (by decide) (by decide) dX13_lowest_17 ⟨rfl, _, rfl, hy.s⟩
theorem con_X13_lowest (l : Launch) (G : GE) (h : Mem) (v0 : Int32) {P : Int32 → Prop} (hy : OK (f_X13_lowest h v0) P) : Con l G yX13_lowest cX13_lowest 2 (some .int) rm_X13_lowest [vI v0] h (ppI h P) := Con.of (by decide) (Nat.le_of_ble_eq_true rfl) (fun X hX hr hN => w_X13_lowest hX hN h hr v0 hy)
/-! X13_pairsAll -/
theorem dX13_pairsAll_0 : decode cX13_pairsAll 0 = .ok (.iconst 1, 1) := by decide +kernel
theorem dX13_pairsAll_1 : decode cX13_pairsAll 1 = .ok (.istore_n 1, 1) := by decide +kernel
theorem dX13_pairsAll_2 : decode cX13_pairsAll 2 = .ok (.iload_n 1, 1) := by decide +kernel
theorem dX13_pairsAll_3 : decode cX13_pairsAll 3 = .ok (.iconst 1, 1) := by decide +kernel
theorem dX13_pairsAll_4 : decode cX13_pairsAll 4 = .ok (.aload_n 0, 1) := by decide +kernel
theorem dX13_pairsAll_5 : decode cX13_pairsAll 5 = .ok (.getfield 338, 3) := by decide +kernel
theorem dX13_pairsAll_8 : decode cX13_pairsAll 8 = .ok (.getfield 239, 3) := by decide +kernel
theorem dX13_pairsAll_11 : decode cX13_pairsAll 11 = .ok (.ishl, 1) := by decide +kernel
theorem dX13_pairsAll_12 : decode cX13_pairsAll 12 = .ok (.if_icmp .ge 115, 3) := by decide +kernel
theorem dX13_pairsAll_15 : decode cX13_pairsAll 15 = .ok (.iload_n 1, 1) := by decide +kernel
theorem dX13_pairsAll_16 : decode cX13_pairsAll 16 = .ok (.invokestatic 466, 3) := by decide +kernel
theorem dX13_pairsAll_19 : decode cX13_pairsAll 19 = .ok (.istore_n 2, 1) := by decide +kernel
theorem dX13_pairsAll_20 : decode cX13_pairsAll 20 = .ok (.iload_n 1, 1) := by decide +kernel
theorem dX13_pairsAll_21 : decode cX13_pairsAll 21 = .ok (.iconst 1, 1) := by decide +kernel
theorem dX13_pairsAll_22 : decode cX13_pairsAll 22 = .ok (.iload_n 2, 1) := by decide +kernel
theorem dX13_pairsAll_23 : decode cX13_pairsAll 23 = .ok (.ishl, 1) := by decide +kernel
theorem dX13_pairsAll_24 : decode cX13_pairsAll 24 = .ok (.iconst (-1), 1) := by decide +kernel
theorem dX13_pairsAll_25 : decode cX13_pairsAll 25 = .ok (.ixor, 1) := by decide +kernel
theorem dX13_pairsAll_26 : decode cX13_pairsAll 26 = .ok (.iand, 1) := by decide +kernel
theorem dX13_pairsAll_27 : decode cX13_pairsAll 27 = .ok (.istore_n 3, 1) := by decide +kernel
theorem dX13_pairsAll_28 : decode cX13_pairsAll 28 = .ok (.aload_n 0, 1) := by decide +kernel
theorem dX13_pairsAll_29 : decode cX13_pairsAll 29 = .ok (.getfield 42, 3) := by decide +kernel
theorem dX13_pairsAll_32 : decode cX13_pairsAll 32 = .ok (.iload_n 1, 1) := by decide +kernel
theorem dX13_pairsAll_33 : decode cX13_pairsAll 33 = .ok (.aload_n 0, 1) := by decide +kernel
theorem dX13_pairsAll_34 : decode cX13_pairsAll 34 = .ok (.getfield 42, 3) := by decide +kernel
theorem dX13_pairsAll_37 : decode cX13_pairsAll 37 = .ok (.iload_n 3, 1) := by decide +kernel
theorem dX13_pairsAll_38 : decode cX13_pairsAll 38 = .ok (.iaload, 1) := by decide +kernel
theorem dX13_pairsAll_39 : decode cX13_pairsAll 39 = .ok (.iastore, 1) := by decide +kernel
theorem dX13_pairsAll_40 : decode cX13_pairsAll 40 = .ok (.iload_n 2, 1) := by decide +kernel
theorem dX13_pairsAll_41 : decode cX13_pairsAll 41 = .ok (.iconst 1, 1) := by decide +kernel
theorem dX13_pairsAll_42 : decode cX13_pairsAll 42 = .ok (.iadd, 1) := by decide +kernel
theorem dX13_pairsAll_43 : decode cX13_pairsAll 43 = .ok (.istore 4, 2) := by decide +kernel
theorem dX13_pairsAll_45 : decode cX13_pairsAll 45 = .ok (.iload 4, 2) := by decide +kernel
theorem dX13_pairsAll_47 : decode cX13_pairsAll 47 = .ok (.aload_n 0, 1) := by decide +kernel
theorem dX13_pairsAll_48 : decode cX13_pairsAll 48 = .ok (.getfield 338, 3) := by decide +kernel
theorem dX13_pairsAll_51 : decode cX13_pairsAll 51 = .ok (.getfield 239, 3) := by decide +kernel
theorem dX13_pairsAll_54 : decode cX13_pairsAll 54 = .ok (.if_icmp .ge 67, 3) := by decide +kernel
theorem dX13_pairsAll_57 : decode cX13_pairsAll 57 = .ok (.iload_n 3, 1) := by decide +kernel
theorem dX13_pairsAll_58 : decode cX13_pairsAll 58 = .ok (.iload 4, 2) := by decide +kernel
theorem dX13_pairsAll_60 : decode cX13_pairsAll 60 = .ok (.invokestatic 322, 3) := by decide +kernel
theorem dX13_pairsAll_63 : decode cX13_pairsAll 63 = .ok (.ifCond .eq 52, 3) := by decide +kernel
theorem dX13_pairsAll_66 : decode cX13_pairsAll 66 = .ok (.aload_n 0, 1) := by decide +kernel
theorem dX13_pairsAll_67 : decode cX13_pairsAll 67 = .ok (.iload_n 2, 1) := by decide +kernel
theorem dX13_pairsAll_68 : decode cX13_pairsAll 68 = .ok (.iload 4, 2) := by decide +kernel
theorem dX13_pairsAll_70 : decode cX13_pairsAll 70 = .ok (.invokevirtual 463, 3) := by decide +kernel
theorem dX13_pairsAll_73 : decode cX13_pairsAll 73 = .ok (.ifCond .ne 6, 3) := by decide +kernel
theorem dX13_pairsAll_76 : decode cX13_pairsAll 76 = .ok (.goto 39, 3) := by decide +kernel
theorem dX13_pairsAll_79 : decode cX13_pairsAll 79 = .ok (.iconst 1, 1) := by decide +kernel
theorem dX13_pairsAll_80 : decode cX13_pairsAll 80 = .ok (.aload_n 0, 1) := by decide +kernel
theorem dX13_pairsAll_81 : decode cX13_pairsAll 81 = .ok (.getfield 42, 3) := by decide +kernel
theorem dX13_pairsAll_84 : decode cX13_pairsAll 84 = .ok (.iload_n 3, 1) := by decide +kernel
theorem dX13_pairsAll_85 : decode cX13_pairsAll 85 = .ok (.iconst 1, 1) := by decide +kernel
theorem dX13_pairsAll_86 : decode cX13_pairsAll 86 = .ok (.iload 4, 2) := by decide +kernel
theorem dX13_pairsAll_88 : decode cX13_pairsAll 88 = .ok (.ishl, 1) := by decide +kernel
theorem dX13_pairsAll_89 : decode cX13_pairsAll 89 = .ok (.iconst (-1), 1) := by decide +kernel
theorem dX13_pairsAll_90 : decode cX13_pairsAll 90 = .ok (.ixor, 1) := by decide +kernel
theorem dX13_pairsAll_91 : decode cX13_pairsAll 91 = .ok (.iand, 1) := by decide +kernel
theorem dX13_pairsAll_92 : decode cX13_pairsAll 92 = .ok (.iaload, 1) := by decide +kernel
theorem dX13_pairsAll_93 : decode cX13_pairsAll 93 = .ok (.iadd, 1) := by decide +kernel
theorem dX13_pairsAll_94 : decode cX13_pairsAll 94 = .ok (.istore 5, 2) := by decide +kernel
theorem dX13_pairsAll_96 : decode cX13_pairsAll 96 = .ok (.iload 5, 2) := by decide +kernel
theorem dX13_pairsAll_98 : decode cX13_pairsAll 98 = .ok (.aload_n 0, 1) := by decide +kernel
theorem dX13_pairsAll_99 : decode cX13_pairsAll 99 = .ok (.getfield 42, 3) := by decide +kernel
theorem dX13_pairsAll_102 : decode cX13_pairsAll 102 = .ok (.iload_n 1, 1) := by decide +kernel
theorem dX13_pairsAll_103 : decode cX13_pairsAll 103 = .ok (.iaload, 1) := by decide +kernel
theorem dX13_pairsAll_104 : decode cX13_pairsAll 104 = .ok (.if_icmp .le 11, 3) := by decide +kernel
theorem dX13_pairsAll_107 : decode cX13_pairsAll 107 = .ok (.aload_n 0, 1) := by decide +kernel
theorem dX13_pairsAll_108 : decode cX13_pairsAll 108 = .ok (.getfield 42, 3) := by decide +kernel
theorem dX13_pairsAll_111 : decode cX13_pairsAll 111 = .ok (.iload_n 1, 1) := by decide +kernel
theorem dX13_pairsAll_112 : decode cX13_pairsAll 112 = .ok (.iload 5, 2) := by decide +kernel
theorem dX13_pairsAll_114 : decode cX13_pairsAll 114 = .ok (.iastore, 1) := by decide +kernel
theorem dX13_pairsAll_115 : decode cX13_pairsAll 115 = .ok (.iinc 4 1, 3) := by decide +kernel
theorem dX13_pairsAll_118 : decode cX13_pairsAll 118 = .ok (.goto (-73), 3) := by decide +kernel
theorem dX13_pairsAll_121 : decode cX13_pairsAll 121 = .ok (.iinc 1 1, 3) := by decide +kernel
theorem dX13_pairsAll_124 : decode cX13_pairsAll 124 = .ok (.goto (-122), 3) := by decide +kernel
theorem dX13_pairsAll_127 : decode cX13_pairsAll 127 = .ok (.return_, 1) := by decide +kernel
abbrev rm_X13_pairsAll : Room := { frames := 3, cells := 0, slots := 0, locals := 68 }
def f_X13_pairsAll_115 (h : Mem) (v0 : Nat) (v1 : Int32) (v2 : Int32) (v3 : Int32) (v4 : Int32) : Option ((Int32 × Mem) ⊕ Mem) :=
  some (.inl ((v4 + 1), h))
set_option maxRecDepth 100000 in
set_option maxHeartbeats 4000000 in
theorem w_X13_pairsAll_115 {G : GE} {X : CX} {l : Launch} (hX : Ok G X cX13_pairsAll RX13) (hN : xn X = 6) {P0 : Mem → Prop} (hr : Rt G X l yX13_pairsAll none rm_X13_pairsAll (pmV P0))  (v0 : Nat) (v1 : Int32) (v2 : Int32) (v3 : Int32) {P : ((Int32 × Mem) ⊕ Mem) → Prop} (hc : ∀ s, P (.inl s) → AW G X 45 [(0, vR v0), (1, vI v1), (2, vI v2), (3, vI v3), (4, vI s.1)] [] s.2 0 0) (he0 : ∀ e, P (.inr e) → AW G X 121 [(0, vR v0), (1, vI v1)] [] e 0 0) (h : Mem) (v4 : Int32) (hy : OK (f_X13_pairsAll_115 h v0 v1 v2 v3 v4) P) : AW G X 115 [(0, vR v0), (1, vI v1), (2, vI v2), (3, vI v3), (4, vI v4)] [] h 0 0 := by
  unfold f_X13_pairsAll_115 at hy
  refine aw_iinc (pc := 115) hX 1 (by decide) 4 rfl [(4, vI (v4 + 1)), (0, vR v0), (1, vI v1), (2, vI v2), (3, vI v3)] rfl (lt_n hN (by decide)) dX13_pairsAll_115 ?_
  refine aw_goto (pc := 118) hX 45 (by decide) dX13_pairsAll_118 ?_
  refine AW.sub [1, 2, 3, 4, 0] rfl ?_
  exact hc ((v4 + 1), h) hy.s
def b_X13_pairsAll_45 (h : Mem) (v0 : Nat) (v1 : Int32) (v2 : Int32) (v3 : Int32) (v4 : Int32) : Option ((Int32 × Mem) ⊕ Mem) :=
  (gR h v0 3 11).bind fun r8 => (gI h r8 1 10).bind fun x9 => (if x9 ≤ v4 then some (.inr h) else (f_X13_bit h v3 v4).bind fun x10 => (if x10 = 0 then f_X13_pairsAll_115 h v0 v1 v2 v3 v4 else (f_X13_goTogether h v0 v2 v4).bind fun x11 => (if x11 = 0 then f_X13_pairsAll_115 h v0 v1 v2 v3 v4 else (gR h v0 32 11).bind fun r12 => (aI h r12 (v3 &&& (((1 : Int32) <<< (v4 &&& 31)) ^^^ (-1)))).bind fun x13 => (gR h v0 32 11).bind fun r14 => (aI h r14 v1).bind fun x15 => (if (1 + x13) ≤ x15 then f_X13_pairsAll_115 h v0 v1 v2 v3 v4 else (gR h v0 32 11).bind fun r16 => (sI h r16 v1 (1 + x13)).bind fun h17 => f_X13_pairsAll_115 h17 v0 v1 v2 v3 v4))))
set_option maxRecDepth 100000 in
set_option maxHeartbeats 4000000 in
theorem wb_X13_pairsAll_45 {G : GE} {X : CX} {l : Launch} (hX : Ok G X cX13_pairsAll RX13) (hN : xn X = 6) {P0 : Mem → Prop} (hr : Rt G X l yX13_pairsAll none rm_X13_pairsAll (pmV P0))  (v0 : Nat) (v1 : Int32) (v2 : Int32) (v3 : Int32) {P : ((Int32 × Mem) ⊕ Mem) → Prop} (hc : ∀ s, P (.inl s) → AW G X 45 [(0, vR v0), (1, vI v1), (2, vI v2), (3, vI v3), (4, vI s.1)] [] s.2 0 0) (he0 : ∀ e, P (.inr e) → AW G X 121 [(0, vR v0), (1, vI v1)] [] e 0 0) (h : Mem) (v4 : Int32) (hy : OK (b_X13_pairsAll_45 h v0 v1 v2 v3 v4) P) : AW G X 45 [(0, vR v0), (1, vI v1), (2, vI v2), (3, vI v3), (4, vI v4)] [] h 0 0 := by
  unfold b_X13_pairsAll_45 at hy
  refine aw_iload (pc := 45) hX 4 rfl dX13_pairsAll_45 ?_
  refine aw_aloadn (pc := 47) hX 0 rfl dX13_pairsAll_47 ?_
  refine aw_gR (pc := 48) hX hy fl_X13_338 (fun _ _ => rfl) dX13_pairsAll_48 (fun r8 hy => ?_)
  refine aw_gI (pc := 51) hX hy fl_X13_239 (fun _ _ => rfl) dX13_pairsAll_51 (fun x9 hy => ?_)
  refine aw_ic_ge (pc := 54) hX 121 (by decide) dX13_pairsAll_54 (fun hc9 => ?_) (fun hc9 => ?_)
  · have hy := hy.t hc9
    refine AW.sub [0, 1] rfl ?_
    exact he0 h hy.s
  · have hy := hy.f hc9
    refine aw_iloadn (pc := 57) hX 3 rfl dX13_pairsAll_57 ?_
    refine aw_iload (pc := 58) hX 4 rfl dX13_pairsAll_58 ?_
    refine aw_callS (pc := 60) (st := []) hX [vI v3, vI v4] (con_X13_bit _ G _ v3 v4 hy.bd) mc_X13_bit ml_X13_322 st_X13_bit rfl (rm_of hr (by decide)) (Nat.le_of_ble_eq_true rfl) rfl dX13_pairsAll_60 (kpI rfl rfl (fun x10 hy => ?_))
    refine aw_if_eq (pc := 63) hX 115 (by decide) dX13_pairsAll_63 (fun hc9 => ?_) (fun hc9 => ?_)
    · have hy := hy.t hc9
      exact w_X13_pairsAll_115 hX hN hr _ _ _ _ hc he0 h v4 hy
    · have hy := hy.f hc9
      refine aw_aloadn (pc := 66) hX 0 rfl dX13_pairsAll_66 ?_
      refine aw_iloadn (pc := 67) hX 2 rfl dX13_pairsAll_67 ?_
      refine aw_iload (pc := 68) hX 4 rfl dX13_pairsAll_68 ?_
      refine aw_callV (pc := 70) (st := []) (a := v0) hX [vI v2, vI v4] (con_X13_goTogether _ G _ v0 v2 v4 hy.bd) mc_X13_goTogether ml_X13_463 im_X13_goTogether se_X13_goTogether (by decide) hy.bd.kd rfl (rm_of hr (by decide)) (Nat.le_of_ble_eq_true rfl) rfl dX13_pairsAll_70 (kpI rfl rfl (fun x11 hy => ?_))
      refine aw_if_ne (pc := 73) hX 79 (by decide) dX13_pairsAll_73 (fun hc9 => ?_) (fun hc9 => ?_)
      · have hy := hy.f hc9
        refine aw_iconst (pc := 79) hX 1 (by decide) dX13_pairsAll_79 ?_
        refine aw_aloadn (pc := 80) hX 0 rfl dX13_pairsAll_80 ?_
        refine aw_gR (pc := 81) hX hy fl_X13_42 (fun _ _ => rfl) dX13_pairsAll_81 (fun r12 hy => ?_)
        refine aw_iloadn (pc := 84) hX 3 rfl dX13_pairsAll_84 ?_
        refine aw_iconst (pc := 85) hX 1 (by decide) dX13_pairsAll_85 ?_
        refine aw_iload (pc := 86) hX 4 rfl dX13_pairsAll_86 ?_
        refine aw_ishl (pc := 88) hX dX13_pairsAll_88 ?_
        refine aw_iconst (pc := 89) hX (-1) (by decide) dX13_pairsAll_89 ?_
        refine aw_ixor (pc := 90) hX dX13_pairsAll_90 ?_
        refine aw_iand (pc := 91) hX dX13_pairsAll_91 ?_
        refine aw_aI (pc := 92) hX hy dX13_pairsAll_92 (fun x13 hy => ?_)
        refine aw_iadd (pc := 93) hX dX13_pairsAll_93 ?_
        refine aw_istore (pc := 94) hX [(5, vI (1 + x13)), (0, vR v0), (1, vI v1), (2, vI v2), (3, vI v3), (4, vI v4)] rfl (lt_n hN (by decide)) dX13_pairsAll_94 ?_
        refine aw_iload (pc := 96) hX 0 rfl dX13_pairsAll_96 ?_
        refine aw_aloadn (pc := 98) hX 1 rfl dX13_pairsAll_98 ?_
        refine aw_gR (pc := 99) hX hy fl_X13_42 (fun _ _ => rfl) dX13_pairsAll_99 (fun r14 hy => ?_)
        refine aw_iloadn (pc := 102) hX 2 rfl dX13_pairsAll_102 ?_
        refine aw_aI (pc := 103) hX hy dX13_pairsAll_103 (fun x15 hy => ?_)
        refine aw_ic_le (pc := 104) hX 115 (by decide) dX13_pairsAll_104 (fun hc9 => ?_) (fun hc9 => ?_)
        · have hy := hy.t hc9
          refine AW.sub [1, 2, 3, 4, 5] rfl ?_
          exact w_X13_pairsAll_115 hX hN hr _ _ _ _ hc he0 h v4 hy
        · have hy := hy.f hc9
          refine aw_aloadn (pc := 107) hX 1 rfl dX13_pairsAll_107 ?_
          refine aw_gR (pc := 108) hX hy fl_X13_42 (fun _ _ => rfl) dX13_pairsAll_108 (fun r16 hy => ?_)
          refine aw_iloadn (pc := 111) hX 2 rfl dX13_pairsAll_111 ?_
          refine aw_iload (pc := 112) hX 0 rfl dX13_pairsAll_112 ?_
          refine aw_sI (pc := 114) hX hy dX13_pairsAll_114 (fun h17 hy => ?_)
          refine AW.sub [1, 2, 3, 4, 5] rfl ?_
          exact w_X13_pairsAll_115 hX hN hr _ _ _ _ hc he0 h17 v4 hy
      · have hy := hy.t hc9
        refine aw_goto (pc := 76) hX 115 (by decide) dX13_pairsAll_76 ?_
        exact w_X13_pairsAll_115 hX hN hr _ _ _ _ hc he0 h v4 hy
theorem wl_X13_pairsAll_45 {G : GE} {X : CX} {l : Launch} (hX : Ok G X cX13_pairsAll RX13) (hN : xn X = 6) {P0 : Mem → Prop} (hr : Rt G X l yX13_pairsAll none rm_X13_pairsAll (pmV P0)) (v0 : Nat) (v1 : Int32) (v2 : Int32) (v3 : Int32) {P : (Mem) → Prop} (he0 : ∀ e, P e → AW G X 121 [(0, vR v0), (1, vI v1)] [] e 0 0) : ∀ (n : Nat) (s : Int32 × Mem), OK (iter (fun (s : Int32 × Mem) => b_X13_pairsAll_45 s.2 v0 v1 v2 v3 s.1) n s) P → AW G X 45 [(0, vR v0), (1, vI v1), (2, vI v2), (3, vI v3), (4, vI s.1)] [] s.2 0 0 := by
  intro n
  induction n with
  | zero => exact fun s hy => hy.it0.elim
  | succ n ih =>
    intro s hy
    exact wb_X13_pairsAll_45 hX hN hr v0 v1 v2 v3 (fun s hs => ih s hs) (fun e hs => he0 e hs) s.2 s.1 hy.it
def b_X13_pairsAll_2 (h : Mem) (v0 : Nat) (v1 : Int32) : Option ((Int32 × Mem) ⊕ Mem) :=
  (gR h v0 3 11).bind fun r1 => (gI h r1 1 10).bind fun x2 => (if ((1 : Int32) <<< (x2 &&& 31)) ≤ v1 then some (.inr h) else (f_X13_lowest h v1).bind fun x3 => (gR h v0 32 11).bind fun r4 => (gR h v0 32 11).bind fun r5 => (aI h r5 (v1 &&& (((1 : Int32) <<< (x3 &&& 31)) ^^^ (-1)))).bind fun x6 => (sI h r4 v1 x6).bind fun h7 => (iter (fun (s : Int32 × Mem) => b_X13_pairsAll_45 s.2 v0 v1 x3 (v1 &&& (((1 : Int32) <<< (x3 &&& 31)) ^^^ (-1))) s.1) FU ((x3 + 1), h7)).bind (fun q18 => some (.inl ((v1 + 1), q18))))
set_option maxRecDepth 100000 in
set_option maxHeartbeats 4000000 in
theorem wb_X13_pairsAll_2 {G : GE} {X : CX} {l : Launch} (hX : Ok G X cX13_pairsAll RX13) (hN : xn X = 6) {P0 : Mem → Prop} (hr : Rt G X l yX13_pairsAll none rm_X13_pairsAll (pmV P0))  (v0 : Nat) {P : ((Int32 × Mem) ⊕ Mem) → Prop} (hc : ∀ s, P (.inl s) → AW G X 2 [(0, vR v0), (1, vI s.1)] [] s.2 0 0) (he0 : ∀ e, P (.inr e) → AW G X 127 [] [] e 0 0) (h : Mem) (v1 : Int32) (hy : OK (b_X13_pairsAll_2 h v0 v1) P) : AW G X 2 [(0, vR v0), (1, vI v1)] [] h 0 0 := by
  unfold b_X13_pairsAll_2 at hy
  refine aw_iloadn (pc := 2) hX 1 rfl dX13_pairsAll_2 ?_
  refine aw_iconst (pc := 3) hX 1 (by decide) dX13_pairsAll_3 ?_
  refine aw_aloadn (pc := 4) hX 0 rfl dX13_pairsAll_4 ?_
  refine aw_gR (pc := 5) hX hy fl_X13_338 (fun _ _ => rfl) dX13_pairsAll_5 (fun r1 hy => ?_)
  refine aw_gI (pc := 8) hX hy fl_X13_239 (fun _ _ => rfl) dX13_pairsAll_8 (fun x2 hy => ?_)
  refine aw_ishl (pc := 11) hX dX13_pairsAll_11 ?_
  refine aw_ic_ge (pc := 12) hX 127 (by decide) dX13_pairsAll_12 (fun hc9 => ?_) (fun hc9 => ?_)
  · have hy := hy.t hc9
    refine AW.sub [] rfl ?_
    exact he0 h hy.s
  · have hy := hy.f hc9
    refine aw_iloadn (pc := 15) hX 1 rfl dX13_pairsAll_15 ?_
    refine aw_callS (pc := 16) (st := []) hX [vI v1] (con_X13_lowest _ G _ v1 hy.bd) mc_X13_lowest ml_X13_466 st_X13_lowest rfl (rm_of hr (by decide)) (Nat.le_of_ble_eq_true rfl) rfl dX13_pairsAll_16 (kpI rfl rfl (fun x3 hy => ?_))
    refine aw_istoren (pc := 19) hX [(2, vI x3), (0, vR v0), (1, vI v1)] rfl (lt_n hN (by decide)) dX13_pairsAll_19 ?_
    refine aw_iloadn (pc := 20) hX 2 rfl dX13_pairsAll_20 ?_
    refine aw_iconst (pc := 21) hX 1 (by decide) dX13_pairsAll_21 ?_
    refine aw_iloadn (pc := 22) hX 0 rfl dX13_pairsAll_22 ?_
    refine aw_ishl (pc := 23) hX dX13_pairsAll_23 ?_
    refine aw_iconst (pc := 24) hX (-1) (by decide) dX13_pairsAll_24 ?_
    refine aw_ixor (pc := 25) hX dX13_pairsAll_25 ?_
    refine aw_iand (pc := 26) hX dX13_pairsAll_26 ?_
    refine aw_istoren (pc := 27) hX [(3, vI (v1 &&& (((1 : Int32) <<< (x3 &&& 31)) ^^^ (-1)))), (2, vI x3), (0, vR v0), (1, vI v1)] rfl (lt_n hN (by decide)) dX13_pairsAll_27 ?_
    refine aw_aloadn (pc := 28) hX 2 rfl dX13_pairsAll_28 ?_
    refine aw_gR (pc := 29) hX hy fl_X13_42 (fun _ _ => rfl) dX13_pairsAll_29 (fun r4 hy => ?_)
    refine aw_iloadn (pc := 32) hX 3 rfl dX13_pairsAll_32 ?_
    refine aw_aloadn (pc := 33) hX 2 rfl dX13_pairsAll_33 ?_
    refine aw_gR (pc := 34) hX hy fl_X13_42 (fun _ _ => rfl) dX13_pairsAll_34 (fun r5 hy => ?_)
    refine aw_iloadn (pc := 37) hX 0 rfl dX13_pairsAll_37 ?_
    refine aw_aI (pc := 38) hX hy dX13_pairsAll_38 (fun x6 hy => ?_)
    refine aw_sI (pc := 39) hX hy dX13_pairsAll_39 (fun h7 hy => ?_)
    refine aw_iloadn (pc := 40) hX 1 rfl dX13_pairsAll_40 ?_
    refine aw_iconst (pc := 41) hX 1 (by decide) dX13_pairsAll_41 ?_
    refine aw_iadd (pc := 42) hX dX13_pairsAll_42 ?_
    refine aw_istore (pc := 43) hX [(4, vI (x3 + 1)), (3, vI (v1 &&& (((1 : Int32) <<< (x3 &&& 31)) ^^^ (-1)))), (2, vI x3), (0, vR v0), (1, vI v1)] rfl (lt_n hN (by decide)) dX13_pairsAll_43 ?_
    refine AW.sub [3, 4, 2, 1, 0] rfl ?_
    refine wl_X13_pairsAll_45 hX hN hr v0 v1 x3 (v1 &&& (((1 : Int32) <<< (x3 &&& 31)) ^^^ (-1))) ?_ FU ((x3 + 1), h7) hy.bd
    · intro q18 hy
      refine aw_iinc (pc := 121) hX 1 (by decide) 1 rfl [(1, vI (v1 + 1)), (0, vR v0)] rfl (lt_n hN (by decide)) dX13_pairsAll_121 ?_
      refine aw_goto (pc := 124) hX 2 (by decide) dX13_pairsAll_124 ?_
      refine AW.sub [1, 0] rfl ?_
      exact hc ((v1 + 1), q18) hy.s
theorem wl_X13_pairsAll_2 {G : GE} {X : CX} {l : Launch} (hX : Ok G X cX13_pairsAll RX13) (hN : xn X = 6) {P0 : Mem → Prop} (hr : Rt G X l yX13_pairsAll none rm_X13_pairsAll (pmV P0)) (v0 : Nat) {P : (Mem) → Prop} (he0 : ∀ e, P e → AW G X 127 [] [] e 0 0) : ∀ (n : Nat) (s : Int32 × Mem), OK (iter (fun (s : Int32 × Mem) => b_X13_pairsAll_2 s.2 v0 s.1) n s) P → AW G X 2 [(0, vR v0), (1, vI s.1)] [] s.2 0 0 := by
  intro n
  induction n with
  | zero => exact fun s hy => hy.it0.elim
  | succ n ih =>
    intro s hy
    exact wb_X13_pairsAll_2 hX hN hr v0 (fun s hs => ih s hs) (fun e hs => he0 e hs) s.2 s.1 hy.it
def f_X13_pairsAll (h : Mem) (v0 : Nat) : Option Mem :=
  (ck h v0 11).bind fun _ => (iter (fun (s : Int32 × Mem) => b_X13_pairsAll_2 s.2 v0 s.1) FU (1, h)).bind (fun q19 => some q19)
set_option maxRecDepth 100000 in
set_option maxHeartbeats 4000000 in
theorem w_X13_pairsAll {G : GE} {X : CX} {l : Launch} (hX : Ok G X cX13_pairsAll RX13) (hN : xn X = 6) {P : Mem → Prop} (hr : Rt G X l yX13_pairsAll none rm_X13_pairsAll (pmV P)) (h : Mem) (v0 : Nat) (hy : OK (f_X13_pairsAll h v0) P) : AW G X 0 [(0, vR v0)] [] h 0 0 := by
  unfold f_X13_pairsAll at hy
  have hkd := hy.kd
  have hy := hy.kb
  refine aw_iconst (pc := 0) hX 1 (by decide) dX13_pairsAll_0 ?_
  refine aw_istoren (pc := 1) hX [(1, vI 1), (0, vR v0)] rfl (lt_n hN (by decide)) dX13_pairsAll_1 ?_
  refine AW.sub [1, 0] rfl ?_
  refine wl_X13_pairsAll_2 hX hN hr v0 ?_ FU (1, h) hy.bd
  · intro q19 hy
    exact aw_vret (pc := 127) hX hr (by decide) (by decide) dX13_pairsAll_127 ⟨rfl, hy.s⟩
theorem con_X13_pairsAll (l : Launch) (G : GE) (h : Mem) (v0 : Nat) {P : Mem → Prop} (hy : OK (f_X13_pairsAll h v0) P) : Con l G yX13_pairsAll cX13_pairsAll 6 none rm_X13_pairsAll [vR v0] h (pmV P) := Con.of (by decide) (Nat.le_of_ble_eq_true rfl) (fun X hX hr hN => w_X13_pairsAll hX hN hr h v0 hy)
/-! X13_pairs -/
theorem dX13_pairs_0 : decode cX13_pairs 0 = .ok (.aload_n 0, 1) := by decide +kernel
theorem dX13_pairs_1 : decode cX13_pairs 1 = .ok (.iconst 0, 1) := by decide +kernel
theorem dX13_pairs_2 : decode cX13_pairs 2 = .ok (.putfield 51, 3) := by decide +kernel
theorem dX13_pairs_5 : decode cX13_pairs 5 = .ok (.aload_n 0, 1) := by decide +kernel
theorem dX13_pairs_6 : decode cX13_pairs 6 = .ok (.getfield 338, 3) := by decide +kernel
theorem dX13_pairs_9 : decode cX13_pairs 9 = .ok (.ifnonnull 9, 3) := by decide +kernel
theorem dX13_pairs_12 : decode cX13_pairs 12 = .ok (.aload_n 0, 1) := by decide +kernel
theorem dX13_pairs_13 : decode cX13_pairs 13 = .ok (.iconst 1, 1) := by decide +kernel
theorem dX13_pairs_14 : decode cX13_pairs 14 = .ok (.invokevirtual 57, 3) := by decide +kernel
theorem dX13_pairs_17 : decode cX13_pairs 17 = .ok (.ireturn, 1) := by decide +kernel
theorem dX13_pairs_18 : decode cX13_pairs 18 = .ok (.aload_n 0, 1) := by decide +kernel
theorem dX13_pairs_19 : decode cX13_pairs 19 = .ok (.invokevirtual 469, 3) := by decide +kernel
theorem dX13_pairs_22 : decode cX13_pairs 22 = .ok (.aload_n 0, 1) := by decide +kernel
theorem dX13_pairs_23 : decode cX13_pairs 23 = .ok (.aload_n 0, 1) := by decide +kernel
theorem dX13_pairs_24 : decode cX13_pairs 24 = .ok (.getfield 42, 3) := by decide +kernel
theorem dX13_pairs_27 : decode cX13_pairs 27 = .ok (.iconst 1, 1) := by decide +kernel
theorem dX13_pairs_28 : decode cX13_pairs 28 = .ok (.aload_n 0, 1) := by decide +kernel
theorem dX13_pairs_29 : decode cX13_pairs 29 = .ok (.getfield 338, 3) := by decide +kernel
theorem dX13_pairs_32 : decode cX13_pairs 32 = .ok (.getfield 239, 3) := by decide +kernel
theorem dX13_pairs_35 : decode cX13_pairs 35 = .ok (.ishl, 1) := by decide +kernel
theorem dX13_pairs_36 : decode cX13_pairs 36 = .ok (.iconst 1, 1) := by decide +kernel
theorem dX13_pairs_37 : decode cX13_pairs 37 = .ok (.isub, 1) := by decide +kernel
theorem dX13_pairs_38 : decode cX13_pairs 38 = .ok (.iaload, 1) := by decide +kernel
theorem dX13_pairs_39 : decode cX13_pairs 39 = .ok (.invokevirtual 61, 3) := by decide +kernel
theorem dX13_pairs_42 : decode cX13_pairs 42 = .ok (.ireturn, 1) := by decide +kernel
abbrev rm_X13_pairs : Room := { frames := 4, cells := 0, slots := 0, locals := 93 }
def f_X13_pairs (h : Mem) (v0 : Nat) : Option (Int32 × Mem) :=
  (ck h v0 11).bind fun _ => (pI h v0 0 11 0).bind fun h1 => (gR h1 v0 3 11).bind fun r2 => (if r2 = 0 then (f_X13_refused h1 v0 1).bind fun q13 => some (q13.1, q13.2) else (f_X13_pairsAll h1 v0).bind fun h3 => (gR h3 v0 32 11).bind fun r4 => (gR h3 v0 3 11).bind fun r5 => (gI h3 r5 1 10).bind fun x6 => (aI h3 r4 (((1 : Int32) <<< (x6 &&& 31)) - 1)).bind fun x7 => (f_X13_good h3 v0 x7).bind fun q10 => some (q10.1, q10.2))
set_option maxRecDepth 100000 in
set_option maxHeartbeats 4000000 in
theorem w_X13_pairs {G : GE} {X : CX} {l : Launch} (hX : Ok G X cX13_pairs RX13) (hN : xn X = 1) {P : (Int32 × Mem) → Prop} (hr : Rt G X l yX13_pairs (some .int) rm_X13_pairs (pmI P)) (h : Mem) (v0 : Nat) (hy : OK (f_X13_pairs h v0) P) : AW G X 0 [(0, vR v0)] [] h 0 0 := by
  unfold f_X13_pairs at hy
  have hkd := hy.kd
  have hy := hy.kb
  refine aw_aloadn (pc := 0) hX 0 rfl dX13_pairs_0 ?_
  refine aw_iconst (pc := 1) hX 0 (by decide) dX13_pairs_1 ?_
  refine aw_pI (pc := 2) hX hy fl_X13_51 rfl (Or.inl rfl) dX13_pairs_2 (fun h1 hy => ?_)
  refine aw_aloadn (pc := 5) hX 0 rfl dX13_pairs_5 ?_
  refine aw_gR (pc := 6) hX hy fl_X13_338 (fun _ _ => rfl) dX13_pairs_6 (fun r2 hy => ?_)
  refine aw_ifnonnull (pc := 9) hX 18 (by decide) dX13_pairs_9 (fun hc9 => ?_) (fun hc9 => ?_)
  · have hy := hy.f hc9
    refine aw_aloadn (pc := 18) hX 0 rfl dX13_pairs_18 ?_
    refine aw_callV (pc := 19) (st := []) (a := v0) hX [] (con_X13_pairsAll _ G _ v0 hy.bd) mc_X13_pairsAll ml_X13_469 im_X13_pairsAll se_X13_pairsAll (by decide) hy.bd.kd rfl (rm_of hr (by decide)) (Nat.le_of_ble_eq_true rfl) rfl dX13_pairs_19 (kmV rfl rfl (fun h3 hy => ?_))
    refine aw_aloadn (pc := 22) hX 0 rfl dX13_pairs_22 ?_
    refine aw_aloadn (pc := 23) hX 0 rfl dX13_pairs_23 ?_
    refine aw_gR (pc := 24) hX hy fl_X13_42 (fun _ _ => rfl) dX13_pairs_24 (fun r4 hy => ?_)
    refine aw_iconst (pc := 27) hX 1 (by decide) dX13_pairs_27 ?_
    refine aw_aloadn (pc := 28) hX 0 rfl dX13_pairs_28 ?_
    refine aw_gR (pc := 29) hX hy fl_X13_338 (fun _ _ => rfl) dX13_pairs_29 (fun r5 hy => ?_)
    refine aw_gI (pc := 32) hX hy fl_X13_239 (fun _ _ => rfl) dX13_pairs_32 (fun x6 hy => ?_)
    refine aw_ishl (pc := 35) hX dX13_pairs_35 ?_
    refine aw_iconst (pc := 36) hX 1 (by decide) dX13_pairs_36 ?_
    refine aw_isub (pc := 37) hX dX13_pairs_37 ?_
    refine aw_aI (pc := 38) hX hy dX13_pairs_38 (fun x7 hy => ?_)
    refine aw_callV (pc := 39) (st := []) (a := v0) hX [vI x7] (con_X13_good _ G _ v0 x7 hy.bd) mc_X13_good ml_X13_61 im_X13_good se_X13_good (by decide) hy.bd.kd rfl (rm_of hr (by decide)) (Nat.le_of_ble_eq_true rfl) rfl dX13_pairs_39 (kmI rfl rfl (fun q10 hy => ?_))
    exact aw_iret (pc := 42) hX hr (by decide) (by decide) dX13_pairs_42 ⟨_, rfl, hy.s⟩
  · have hy := hy.t hc9
    refine aw_aloadn (pc := 12) hX 0 rfl dX13_pairs_12 ?_
    refine aw_iconst (pc := 13) hX 1 (by decide) dX13_pairs_13 ?_
    refine aw_callV (pc := 14) (st := []) (a := v0) hX [vI 1] (con_X13_refused _ G _ v0 1 hy.bd) mc_X13_refused ml_X13_57 im_X13_refused se_X13_refused (by decide) hy.bd.kd rfl (rm_of hr (by decide)) (Nat.le_of_ble_eq_true rfl) rfl dX13_pairs_14 (kmI rfl rfl (fun q13 hy => ?_))
    exact aw_iret (pc := 17) hX hr (by decide) (by decide) dX13_pairs_17 ⟨_, rfl, hy.s⟩
theorem con_X13_pairs (l : Launch) (G : GE) (h : Mem) (v0 : Nat) {P : (Int32 × Mem) → Prop} (hy : OK (f_X13_pairs h v0) P) : Con l G yX13_pairs cX13_pairs 1 (some .int) rm_X13_pairs [vR v0] h (pmI P) := Con.of (by decide) (Nat.le_of_ble_eq_true rfl) (fun X hX hr hN => w_X13_pairs hX hN hr h v0 hy)
/-! X13_partner -/
theorem dX13_partner_0 : decode cX13_partner 0 = .ok (.aload_n 0, 1) := by decide +kernel
theorem dX13_partner_1 : decode cX13_partner 1 = .ok (.iconst 0, 1) := by decide +kernel
theorem dX13_partner_2 : decode cX13_partner 2 = .ok (.putfield 51, 3) := by decide +kernel
theorem dX13_partner_5 : decode cX13_partner 5 = .ok (.aload_n 0, 1) := by decide +kernel
theorem dX13_partner_6 : decode cX13_partner 6 = .ok (.iload_n 1, 1) := by decide +kernel
theorem dX13_partner_7 : decode cX13_partner 7 = .ok (.invokevirtual 364, 3) := by decide +kernel
theorem dX13_partner_10 : decode cX13_partner 10 = .ok (.ifCond .ne 9, 3) := by decide +kernel
theorem dX13_partner_13 : decode cX13_partner 13 = .ok (.aload_n 0, 1) := by decide +kernel
theorem dX13_partner_14 : decode cX13_partner 14 = .ok (.iconst 1, 1) := by decide +kernel
theorem dX13_partner_15 : decode cX13_partner 15 = .ok (.invokevirtual 57, 3) := by decide +kernel
theorem dX13_partner_18 : decode cX13_partner 18 = .ok (.ireturn, 1) := by decide +kernel
theorem dX13_partner_19 : decode cX13_partner 19 = .ok (.aload_n 0, 1) := by decide +kernel
theorem dX13_partner_20 : decode cX13_partner 20 = .ok (.invokevirtual 469, 3) := by decide +kernel
theorem dX13_partner_23 : decode cX13_partner 23 = .ok (.iconst 1, 1) := by decide +kernel
theorem dX13_partner_24 : decode cX13_partner 24 = .ok (.aload_n 0, 1) := by decide +kernel
theorem dX13_partner_25 : decode cX13_partner 25 = .ok (.getfield 338, 3) := by decide +kernel
theorem dX13_partner_28 : decode cX13_partner 28 = .ok (.getfield 239, 3) := by decide +kernel
theorem dX13_partner_31 : decode cX13_partner 31 = .ok (.ishl, 1) := by decide +kernel
theorem dX13_partner_32 : decode cX13_partner 32 = .ok (.iconst 1, 1) := by decide +kernel
theorem dX13_partner_33 : decode cX13_partner 33 = .ok (.isub, 1) := by decide +kernel
theorem dX13_partner_34 : decode cX13_partner 34 = .ok (.istore_n 2, 1) := by decide +kernel
theorem dX13_partner_35 : decode cX13_partner 35 = .ok (.iload_n 2, 1) := by decide +kernel
theorem dX13_partner_36 : decode cX13_partner 36 = .ok (.ifCond .eq 166, 3) := by decide +kernel
theorem dX13_partner_39 : decode cX13_partner 39 = .ok (.iload_n 2, 1) := by decide +kernel
theorem dX13_partner_40 : decode cX13_partner 40 = .ok (.invokestatic 466, 3) := by decide +kernel
theorem dX13_partner_43 : decode cX13_partner 43 = .ok (.istore_n 3, 1) := by decide +kernel
theorem dX13_partner_44 : decode cX13_partner 44 = .ok (.iload_n 2, 1) := by decide +kernel
theorem dX13_partner_45 : decode cX13_partner 45 = .ok (.iconst 1, 1) := by decide +kernel
theorem dX13_partner_46 : decode cX13_partner 46 = .ok (.iload_n 3, 1) := by decide +kernel
theorem dX13_partner_47 : decode cX13_partner 47 = .ok (.ishl, 1) := by decide +kernel
theorem dX13_partner_48 : decode cX13_partner 48 = .ok (.iconst (-1), 1) := by decide +kernel
theorem dX13_partner_49 : decode cX13_partner 49 = .ok (.ixor, 1) := by decide +kernel
theorem dX13_partner_50 : decode cX13_partner 50 = .ok (.iand, 1) := by decide +kernel
theorem dX13_partner_51 : decode cX13_partner 51 = .ok (.istore 4, 2) := by decide +kernel
theorem dX13_partner_53 : decode cX13_partner 53 = .ok (.iload_n 3, 1) := by decide +kernel
theorem dX13_partner_54 : decode cX13_partner 54 = .ok (.iconst 1, 1) := by decide +kernel
theorem dX13_partner_55 : decode cX13_partner 55 = .ok (.iadd, 1) := by decide +kernel
theorem dX13_partner_56 : decode cX13_partner 56 = .ok (.istore 5, 2) := by decide +kernel
theorem dX13_partner_58 : decode cX13_partner 58 = .ok (.iload 5, 2) := by decide +kernel
theorem dX13_partner_60 : decode cX13_partner 60 = .ok (.aload_n 0, 1) := by decide +kernel
theorem dX13_partner_61 : decode cX13_partner 61 = .ok (.getfield 338, 3) := by decide +kernel
theorem dX13_partner_64 : decode cX13_partner 64 = .ok (.getfield 239, 3) := by decide +kernel
theorem dX13_partner_67 : decode cX13_partner 67 = .ok (.if_icmp .ge 54, 3) := by decide +kernel
theorem dX13_partner_70 : decode cX13_partner 70 = .ok (.iload 4, 2) := by decide +kernel
theorem dX13_partner_72 : decode cX13_partner 72 = .ok (.iload 5, 2) := by decide +kernel
theorem dX13_partner_74 : decode cX13_partner 74 = .ok (.invokestatic 322, 3) := by decide +kernel
theorem dX13_partner_77 : decode cX13_partner 77 = .ok (.ifCond .eq 38, 3) := by decide +kernel
theorem dX13_partner_80 : decode cX13_partner 80 = .ok (.aload_n 0, 1) := by decide +kernel
theorem dX13_partner_81 : decode cX13_partner 81 = .ok (.iload_n 3, 1) := by decide +kernel
theorem dX13_partner_82 : decode cX13_partner 82 = .ok (.iload 5, 2) := by decide +kernel
theorem dX13_partner_84 : decode cX13_partner 84 = .ok (.invokevirtual 463, 3) := by decide +kernel
theorem dX13_partner_87 : decode cX13_partner 87 = .ok (.ifCond .eq 28, 3) := by decide +kernel
theorem dX13_partner_90 : decode cX13_partner 90 = .ok (.iconst 1, 1) := by decide +kernel
theorem dX13_partner_91 : decode cX13_partner 91 = .ok (.aload_n 0, 1) := by decide +kernel
theorem dX13_partner_92 : decode cX13_partner 92 = .ok (.getfield 42, 3) := by decide +kernel
theorem dX13_partner_95 : decode cX13_partner 95 = .ok (.iload 4, 2) := by decide +kernel
theorem dX13_partner_97 : decode cX13_partner 97 = .ok (.iconst 1, 1) := by decide +kernel
theorem dX13_partner_98 : decode cX13_partner 98 = .ok (.iload 5, 2) := by decide +kernel
theorem dX13_partner_100 : decode cX13_partner 100 = .ok (.ishl, 1) := by decide +kernel
theorem dX13_partner_101 : decode cX13_partner 101 = .ok (.iconst (-1), 1) := by decide +kernel
theorem dX13_partner_102 : decode cX13_partner 102 = .ok (.ixor, 1) := by decide +kernel
theorem dX13_partner_103 : decode cX13_partner 103 = .ok (.iand, 1) := by decide +kernel
theorem dX13_partner_104 : decode cX13_partner 104 = .ok (.iaload, 1) := by decide +kernel
theorem dX13_partner_105 : decode cX13_partner 105 = .ok (.iadd, 1) := by decide +kernel
theorem dX13_partner_106 : decode cX13_partner 106 = .ok (.aload_n 0, 1) := by decide +kernel
theorem dX13_partner_107 : decode cX13_partner 107 = .ok (.getfield 42, 3) := by decide +kernel
theorem dX13_partner_110 : decode cX13_partner 110 = .ok (.iload_n 2, 1) := by decide +kernel
theorem dX13_partner_111 : decode cX13_partner 111 = .ok (.iaload, 1) := by decide +kernel
theorem dX13_partner_112 : decode cX13_partner 112 = .ok (.if_icmp .eq 9, 3) := by decide +kernel
theorem dX13_partner_115 : decode cX13_partner 115 = .ok (.iinc 5 1, 3) := by decide +kernel
theorem dX13_partner_118 : decode cX13_partner 118 = .ok (.goto (-60), 3) := by decide +kernel
theorem dX13_partner_121 : decode cX13_partner 121 = .ok (.iload 5, 2) := by decide +kernel
theorem dX13_partner_123 : decode cX13_partner 123 = .ok (.aload_n 0, 1) := by decide +kernel
theorem dX13_partner_124 : decode cX13_partner 124 = .ok (.getfield 338, 3) := by decide +kernel
theorem dX13_partner_127 : decode cX13_partner 127 = .ok (.getfield 239, 3) := by decide +kernel
theorem dX13_partner_130 : decode cX13_partner 130 = .ok (.if_icmp .ge 7, 3) := by decide +kernel
theorem dX13_partner_133 : decode cX13_partner 133 = .ok (.iconst 1, 1) := by decide +kernel
theorem dX13_partner_134 : decode cX13_partner 134 = .ok (.goto 4, 3) := by decide +kernel
theorem dX13_partner_137 : decode cX13_partner 137 = .ok (.iconst 0, 1) := by decide +kernel
theorem dX13_partner_138 : decode cX13_partner 138 = .ok (.istore 6, 2) := by decide +kernel
theorem dX13_partner_140 : decode cX13_partner 140 = .ok (.iload_n 3, 1) := by decide +kernel
theorem dX13_partner_141 : decode cX13_partner 141 = .ok (.iload_n 1, 1) := by decide +kernel
theorem dX13_partner_142 : decode cX13_partner 142 = .ok (.if_icmp .ne 20, 3) := by decide +kernel
theorem dX13_partner_145 : decode cX13_partner 145 = .ok (.aload_n 0, 1) := by decide +kernel
theorem dX13_partner_146 : decode cX13_partner 146 = .ok (.iload 6, 2) := by decide +kernel
theorem dX13_partner_148 : decode cX13_partner 148 = .ok (.ifCond .eq 8, 3) := by decide +kernel
theorem dX13_partner_151 : decode cX13_partner 151 = .ok (.iload 5, 2) := by decide +kernel
theorem dX13_partner_153 : decode cX13_partner 153 = .ok (.goto 5, 3) := by decide +kernel
theorem dX13_partner_156 : decode cX13_partner 156 = .ok (.bipush (-2), 2) := by decide +kernel
theorem dX13_partner_158 : decode cX13_partner 158 = .ok (.invokevirtual 61, 3) := by decide +kernel
theorem dX13_partner_161 : decode cX13_partner 161 = .ok (.ireturn, 1) := by decide +kernel
theorem dX13_partner_162 : decode cX13_partner 162 = .ok (.iload 6, 2) := by decide +kernel
theorem dX13_partner_164 : decode cX13_partner 164 = .ok (.ifCond .eq 15, 3) := by decide +kernel
theorem dX13_partner_167 : decode cX13_partner 167 = .ok (.iload 5, 2) := by decide +kernel
theorem dX13_partner_169 : decode cX13_partner 169 = .ok (.iload_n 1, 1) := by decide +kernel
theorem dX13_partner_170 : decode cX13_partner 170 = .ok (.if_icmp .ne 9, 3) := by decide +kernel
theorem dX13_partner_173 : decode cX13_partner 173 = .ok (.aload_n 0, 1) := by decide +kernel
theorem dX13_partner_174 : decode cX13_partner 174 = .ok (.iload_n 3, 1) := by decide +kernel
theorem dX13_partner_175 : decode cX13_partner 175 = .ok (.invokevirtual 61, 3) := by decide +kernel
theorem dX13_partner_178 : decode cX13_partner 178 = .ok (.ireturn, 1) := by decide +kernel
theorem dX13_partner_179 : decode cX13_partner 179 = .ok (.iload 6, 2) := by decide +kernel
theorem dX13_partner_181 : decode cX13_partner 181 = .ok (.ifCond .eq 15, 3) := by decide +kernel
theorem dX13_partner_184 : decode cX13_partner 184 = .ok (.iload 4, 2) := by decide +kernel
theorem dX13_partner_186 : decode cX13_partner 186 = .ok (.iconst 1, 1) := by decide +kernel
theorem dX13_partner_187 : decode cX13_partner 187 = .ok (.iload 5, 2) := by decide +kernel
theorem dX13_partner_189 : decode cX13_partner 189 = .ok (.ishl, 1) := by decide +kernel
theorem dX13_partner_190 : decode cX13_partner 190 = .ok (.iconst (-1), 1) := by decide +kernel
theorem dX13_partner_191 : decode cX13_partner 191 = .ok (.ixor, 1) := by decide +kernel
theorem dX13_partner_192 : decode cX13_partner 192 = .ok (.iand, 1) := by decide +kernel
theorem dX13_partner_193 : decode cX13_partner 193 = .ok (.goto 5, 3) := by decide +kernel
theorem dX13_partner_196 : decode cX13_partner 196 = .ok (.iload 4, 2) := by decide +kernel
theorem dX13_partner_198 : decode cX13_partner 198 = .ok (.istore_n 2, 1) := by decide +kernel
theorem dX13_partner_199 : decode cX13_partner 199 = .ok (.goto (-164), 3) := by decide +kernel
theorem dX13_partner_202 : decode cX13_partner 202 = .ok (.aload_n 0, 1) := by decide +kernel
theorem dX13_partner_203 : decode cX13_partner 203 = .ok (.bipush (-2), 2) := by decide +kernel
theorem dX13_partner_205 : decode cX13_partner 205 = .ok (.invokevirtual 61, 3) := by decide +kernel
theorem dX13_partner_208 : decode cX13_partner 208 = .ok (.ireturn, 1) := by decide +kernel
abbrev rm_X13_partner : Room := { frames := 4, cells := 0, slots := 0, locals := 93 }
def f_X13_partner_115 (h : Mem) (v0 : Nat) (v1 : Int32) (v2 : Int32) (v3 : Int32) (v4 : Int32) (v5 : Int32) : Option (Int32 ⊕ Int32) :=
  some (.inl (v5 + 1))
set_option maxRecDepth 100000 in
set_option maxHeartbeats 4000000 in
theorem w_X13_partner_115 {G : GE} {X : CX} {l : Launch} (hX : Ok G X cX13_partner RX13) (hN : xn X = 7) {P0 : (Int32 × Mem) → Prop} (hr : Rt G X l yX13_partner (some .int) rm_X13_partner (pmI P0)) (h : Mem)  (v0 : Nat) (v1 : Int32) (v2 : Int32) (v3 : Int32) (v4 : Int32) {P : (Int32 ⊕ Int32) → Prop} (hc : ∀ s, P (.inl s) → AW G X 58 [(0, vR v0), (1, vI v1), (2, vI v2), (3, vI v3), (4, vI v4), (5, vI s)] [] h 0 0) (he0 : ∀ e, P (.inr e) → AW G X 121 [(0, vR v0), (1, vI v1), (3, vI v3), (4, vI v4), (5, vI e)] [] h 0 0) (v5 : Int32) (hy : OK (f_X13_partner_115 h v0 v1 v2 v3 v4 v5) P) : AW G X 115 [(0, vR v0), (1, vI v1), (2, vI v2), (3, vI v3), (4, vI v4), (5, vI v5)] [] h 0 0 := by
  unfold f_X13_partner_115 at hy
  refine aw_iinc (pc := 115) hX 1 (by decide) 5 rfl [(5, vI (v5 + 1)), (0, vR v0), (1, vI v1), (2, vI v2), (3, vI v3), (4, vI v4)] rfl (lt_n hN (by decide)) dX13_partner_115 ?_
  refine aw_goto (pc := 118) hX 58 (by decide) dX13_partner_118 ?_
  refine AW.sub [1, 2, 3, 4, 5, 0] rfl ?_
  exact hc (v5 + 1) hy.s
def b_X13_partner_58 (h : Mem) (v0 : Nat) (v1 : Int32) (v2 : Int32) (v3 : Int32) (v4 : Int32) (v5 : Int32) : Option (Int32 ⊕ Int32) :=
  (gR h v0 3 11).bind fun r7 => (gI h r7 1 10).bind fun x8 => (if x8 ≤ v5 then some (.inr v5) else (f_X13_bit h v4 v5).bind fun x9 => (if x9 = 0 then f_X13_partner_115 h v0 v1 v2 v3 v4 v5 else (f_X13_goTogether h v0 v3 v5).bind fun x10 => (if x10 = 0 then f_X13_partner_115 h v0 v1 v2 v3 v4 v5 else (gR h v0 32 11).bind fun r11 => (aI h r11 (v4 &&& (((1 : Int32) <<< (v5 &&& 31)) ^^^ (-1)))).bind fun x12 => (gR h v0 32 11).bind fun r13 => (aI h r13 v2).bind fun x14 => (if (1 + x12) = x14 then some (.inr v5) else f_X13_partner_115 h v0 v1 v2 v3 v4 v5))))
set_option maxRecDepth 100000 in
set_option maxHeartbeats 4000000 in
theorem wb_X13_partner_58 {G : GE} {X : CX} {l : Launch} (hX : Ok G X cX13_partner RX13) (hN : xn X = 7) {P0 : (Int32 × Mem) → Prop} (hr : Rt G X l yX13_partner (some .int) rm_X13_partner (pmI P0)) (h : Mem)  (v0 : Nat) (v1 : Int32) (v2 : Int32) (v3 : Int32) (v4 : Int32) {P : (Int32 ⊕ Int32) → Prop} (hc : ∀ s, P (.inl s) → AW G X 58 [(0, vR v0), (1, vI v1), (2, vI v2), (3, vI v3), (4, vI v4), (5, vI s)] [] h 0 0) (he0 : ∀ e, P (.inr e) → AW G X 121 [(0, vR v0), (1, vI v1), (3, vI v3), (4, vI v4), (5, vI e)] [] h 0 0) (v5 : Int32) (hy : OK (b_X13_partner_58 h v0 v1 v2 v3 v4 v5) P) : AW G X 58 [(0, vR v0), (1, vI v1), (2, vI v2), (3, vI v3), (4, vI v4), (5, vI v5)] [] h 0 0 := by
  unfold b_X13_partner_58 at hy
  refine aw_iload (pc := 58) hX 5 rfl dX13_partner_58 ?_
  refine aw_aloadn (pc := 60) hX 0 rfl dX13_partner_60 ?_
  refine aw_gR (pc := 61) hX hy fl_X13_338 (fun _ _ => rfl) dX13_partner_61 (fun r7 hy => ?_)
  refine aw_gI (pc := 64) hX hy fl_X13_239 (fun _ _ => rfl) dX13_partner_64 (fun x8 hy => ?_)
  refine aw_ic_ge (pc := 67) hX 121 (by decide) dX13_partner_67 (fun hc9 => ?_) (fun hc9 => ?_)
  · have hy := hy.t hc9
    refine AW.sub [0, 1, 3, 4, 5] rfl ?_
    exact he0 v5 hy.s
  · have hy := hy.f hc9
    refine aw_iload (pc := 70) hX 4 rfl dX13_partner_70 ?_
    refine aw_iload (pc := 72) hX 5 rfl dX13_partner_72 ?_
    refine aw_callS (pc := 74) (st := []) hX [vI v4, vI v5] (con_X13_bit _ G _ v4 v5 hy.bd) mc_X13_bit ml_X13_322 st_X13_bit rfl (rm_of hr (by decide)) (Nat.le_of_ble_eq_true rfl) rfl dX13_partner_74 (kpI rfl rfl (fun x9 hy => ?_))
    refine aw_if_eq (pc := 77) hX 115 (by decide) dX13_partner_77 (fun hc9 => ?_) (fun hc9 => ?_)
    · have hy := hy.t hc9
      exact w_X13_partner_115 hX hN hr _ _ _ _ _ _ hc he0 v5 hy
    · have hy := hy.f hc9
      refine aw_aloadn (pc := 80) hX 0 rfl dX13_partner_80 ?_
      refine aw_iloadn (pc := 81) hX 3 rfl dX13_partner_81 ?_
      refine aw_iload (pc := 82) hX 5 rfl dX13_partner_82 ?_
      refine aw_callV (pc := 84) (st := []) (a := v0) hX [vI v3, vI v5] (con_X13_goTogether _ G _ v0 v3 v5 hy.bd) mc_X13_goTogether ml_X13_463 im_X13_goTogether se_X13_goTogether (by decide) hy.bd.kd rfl (rm_of hr (by decide)) (Nat.le_of_ble_eq_true rfl) rfl dX13_partner_84 (kpI rfl rfl (fun x10 hy => ?_))
      refine aw_if_eq (pc := 87) hX 115 (by decide) dX13_partner_87 (fun hc9 => ?_) (fun hc9 => ?_)
      · have hy := hy.t hc9
        exact w_X13_partner_115 hX hN hr _ _ _ _ _ _ hc he0 v5 hy
      · have hy := hy.f hc9
        refine aw_iconst (pc := 90) hX 1 (by decide) dX13_partner_90 ?_
        refine aw_aloadn (pc := 91) hX 0 rfl dX13_partner_91 ?_
        refine aw_gR (pc := 92) hX hy fl_X13_42 (fun _ _ => rfl) dX13_partner_92 (fun r11 hy => ?_)
        refine aw_iload (pc := 95) hX 4 rfl dX13_partner_95 ?_
        refine aw_iconst (pc := 97) hX 1 (by decide) dX13_partner_97 ?_
        refine aw_iload (pc := 98) hX 5 rfl dX13_partner_98 ?_
        refine aw_ishl (pc := 100) hX dX13_partner_100 ?_
        refine aw_iconst (pc := 101) hX (-1) (by decide) dX13_partner_101 ?_
        refine aw_ixor (pc := 102) hX dX13_partner_102 ?_
        refine aw_iand (pc := 103) hX dX13_partner_103 ?_
        refine aw_aI (pc := 104) hX hy dX13_partner_104 (fun x12 hy => ?_)
        refine aw_iadd (pc := 105) hX dX13_partner_105 ?_
        refine aw_aloadn (pc := 106) hX 0 rfl dX13_partner_106 ?_
        refine aw_gR (pc := 107) hX hy fl_X13_42 (fun _ _ => rfl) dX13_partner_107 (fun r13 hy => ?_)
        refine aw_iloadn (pc := 110) hX 2 rfl dX13_partner_110 ?_
        refine aw_aI (pc := 111) hX hy dX13_partner_111 (fun x14 hy => ?_)
        refine aw_ic_eq (pc := 112) hX 121 (by decide) dX13_partner_112 (fun hc9 => ?_) (fun hc9 => ?_)
        · have hy := hy.t hc9
          refine AW.sub [0, 1, 3, 4, 5] rfl ?_
          exact he0 v5 hy.s
        · have hy := hy.f hc9
          exact w_X13_partner_115 hX hN hr _ _ _ _ _ _ hc he0 v5 hy
theorem wl_X13_partner_58 {G : GE} {X : CX} {l : Launch} (hX : Ok G X cX13_partner RX13) (hN : xn X = 7) {P0 : (Int32 × Mem) → Prop} (hr : Rt G X l yX13_partner (some .int) rm_X13_partner (pmI P0)) (h : Mem) (v0 : Nat) (v1 : Int32) (v2 : Int32) (v3 : Int32) (v4 : Int32) {P : (Int32) → Prop} (he0 : ∀ e, P e → AW G X 121 [(0, vR v0), (1, vI v1), (3, vI v3), (4, vI v4), (5, vI e)] [] h 0 0) : ∀ (n : Nat) (s : Int32), OK (iter (fun (s : Int32) => b_X13_partner_58 h v0 v1 v2 v3 v4 s) n s) P → AW G X 58 [(0, vR v0), (1, vI v1), (2, vI v2), (3, vI v3), (4, vI v4), (5, vI s)] [] h 0 0 := by
  intro n
  induction n with
  | zero => exact fun s hy => hy.it0.elim
  | succ n ih =>
    intro s hy
    exact wb_X13_partner_58 hX hN hr h v0 v1 v2 v3 v4 (fun s hs => ih s hs) (fun e hs => he0 e hs) s hy.it
def f_X13_partner_198 (h : Mem) (v0 : Nat) (v1 : Int32) (s0 : Int32) : Option (Int32 ⊕ ((Int32 × Int32) ⊕ Int32 ⊕ Unit)) :=
  some (.inl s0)
set_option maxRecDepth 100000 in
set_option maxHeartbeats 4000000 in
theorem w_X13_partner_198 {G : GE} {X : CX} {l : Launch} (hX : Ok G X cX13_partner RX13) (hN : xn X = 7) {P0 : (Int32 × Mem) → Prop} (hr : Rt G X l yX13_partner (some .int) rm_X13_partner (pmI P0)) (h : Mem)  (v0 : Nat) (v1 : Int32) {P : (Int32 ⊕ ((Int32 × Int32) ⊕ Int32 ⊕ Unit)) → Prop} (hc : ∀ s, P (.inl s) → AW G X 35 [(0, vR v0), (1, vI v1), (2, vI s)] [] h 0 0) (he0 : ∀ e, P (.inr (.inl e)) → AW G X 145 [(0, vR v0), (5, vI e.1), (6, vI e.2)] [] h 0 0) (he1 : ∀ e, P (.inr (.inr (.inl e))) → AW G X 173 [(0, vR v0), (3, vI e)] [] h 0 0) (he2 : ∀ e, P (.inr (.inr (.inr e))) → AW G X 202 [(0, vR v0)] [] h 0 0) (s0 : Int32) (hy : OK (f_X13_partner_198 h v0 v1 s0) P) : AW G X 198 [(0, vR v0), (1, vI v1)] [vI s0] h 0 0 := by
  unfold f_X13_partner_198 at hy
  refine aw_istoren (pc := 198) hX [(2, vI s0), (0, vR v0), (1, vI v1)] rfl (lt_n hN (by decide)) dX13_partner_198 ?_
  refine aw_goto (pc := 199) hX 35 (by decide) dX13_partner_199 ?_
  refine AW.sub [1, 2, 0] rfl ?_
  exact hc s0 hy.s
def f_X13_partner_179 (h : Mem) (v0 : Nat) (v1 : Int32) (v4 : Int32) (v5 : Int32) (v6 : Int32) : Option (Int32 ⊕ ((Int32 × Int32) ⊕ Int32 ⊕ Unit)) :=
  (if v6 = 0 then f_X13_partner_198 h v0 v1 v4 else f_X13_partner_198 h v0 v1 (v4 &&& (((1 : Int32) <<< (v5 &&& 31)) ^^^ (-1))))
set_option maxRecDepth 100000 in
set_option maxHeartbeats 4000000 in
theorem w_X13_partner_179 {G : GE} {X : CX} {l : Launch} (hX : Ok G X cX13_partner RX13) (hN : xn X = 7) {P0 : (Int32 × Mem) → Prop} (hr : Rt G X l yX13_partner (some .int) rm_X13_partner (pmI P0)) (h : Mem)  (v0 : Nat) (v1 : Int32) {P : (Int32 ⊕ ((Int32 × Int32) ⊕ Int32 ⊕ Unit)) → Prop} (hc : ∀ s, P (.inl s) → AW G X 35 [(0, vR v0), (1, vI v1), (2, vI s)] [] h 0 0) (he0 : ∀ e, P (.inr (.inl e)) → AW G X 145 [(0, vR v0), (5, vI e.1), (6, vI e.2)] [] h 0 0) (he1 : ∀ e, P (.inr (.inr (.inl e))) → AW G X 173 [(0, vR v0), (3, vI e)] [] h 0 0) (he2 : ∀ e, P (.inr (.inr (.inr e))) → AW G X 202 [(0, vR v0)] [] h 0 0) (v4 : Int32) (v5 : Int32) (v6 : Int32) (hy : OK (f_X13_partner_179 h v0 v1 v4 v5 v6) P) : AW G X 179 [(0, vR v0), (1, vI v1), (4, vI v4), (5, vI v5), (6, vI v6)] [] h 0 0 := by
  unfold f_X13_partner_179 at hy
  refine aw_iload (pc := 179) hX 4 rfl dX13_partner_179 ?_
  refine aw_if_eq (pc := 181) hX 196 (by decide) dX13_partner_181 (fun hc9 => ?_) (fun hc9 => ?_)
  · have hy := hy.t hc9
    refine aw_iload (pc := 196) hX 2 rfl dX13_partner_196 ?_
    refine AW.sub [0, 1] rfl ?_
    exact w_X13_partner_198 hX hN hr _ _ _ hc he0 he1 he2 v4 hy
  · have hy := hy.f hc9
    refine aw_iload (pc := 184) hX 2 rfl dX13_partner_184 ?_
    refine aw_iconst (pc := 186) hX 1 (by decide) dX13_partner_186 ?_
    refine aw_iload (pc := 187) hX 3 rfl dX13_partner_187 ?_
    refine aw_ishl (pc := 189) hX dX13_partner_189 ?_
    refine aw_iconst (pc := 190) hX (-1) (by decide) dX13_partner_190 ?_
    refine aw_ixor (pc := 191) hX dX13_partner_191 ?_
    refine aw_iand (pc := 192) hX dX13_partner_192 ?_
    refine aw_goto (pc := 193) hX 198 (by decide) dX13_partner_193 ?_
    refine AW.sub [0, 1] rfl ?_
    exact w_X13_partner_198 hX hN hr _ _ _ hc he0 he1 he2 (v4 &&& (((1 : Int32) <<< (v5 &&& 31)) ^^^ (-1))) hy
def f_X13_partner_138 (h : Mem) (v0 : Nat) (v1 : Int32) (v3 : Int32) (v4 : Int32) (v5 : Int32) (s0 : Int32) : Option (Int32 ⊕ ((Int32 × Int32) ⊕ Int32 ⊕ Unit)) :=
  (if v3 = v1 then some (.inr (.inl (v5, s0))) else (if s0 = 0 then f_X13_partner_179 h v0 v1 v4 v5 s0 else (if v5 = v1 then some (.inr (.inr (.inl v3))) else f_X13_partner_179 h v0 v1 v4 v5 s0)))
set_option maxRecDepth 100000 in
set_option maxHeartbeats 4000000 in
theorem w_X13_partner_138 {G : GE} {X : CX} {l : Launch} (hX : Ok G X cX13_partner RX13) (hN : xn X = 7) {P0 : (Int32 × Mem) → Prop} (hr : Rt G X l yX13_partner (some .int) rm_X13_partner (pmI P0)) (h : Mem)  (v0 : Nat) (v1 : Int32) {P : (Int32 ⊕ ((Int32 × Int32) ⊕ Int32 ⊕ Unit)) → Prop} (hc : ∀ s, P (.inl s) → AW G X 35 [(0, vR v0), (1, vI v1), (2, vI s)] [] h 0 0) (he0 : ∀ e, P (.inr (.inl e)) → AW G X 145 [(0, vR v0), (5, vI e.1), (6, vI e.2)] [] h 0 0) (he1 : ∀ e, P (.inr (.inr (.inl e))) → AW G X 173 [(0, vR v0), (3, vI e)] [] h 0 0) (he2 : ∀ e, P (.inr (.inr (.inr e))) → AW G X 202 [(0, vR v0)] [] h 0 0) (v3 : Int32) (v4 : Int32) (v5 : Int32) (s0 : Int32) (hy : OK (f_X13_partner_138 h v0 v1 v3 v4 v5 s0) P) : AW G X 138 [(0, vR v0), (1, vI v1), (3, vI v3), (4, vI v4), (5, vI v5)] [vI s0] h 0 0 := by
  unfold f_X13_partner_138 at hy
  refine aw_istore (pc := 138) hX [(6, vI s0), (0, vR v0), (1, vI v1), (3, vI v3), (4, vI v4), (5, vI v5)] rfl (lt_n hN (by decide)) dX13_partner_138 ?_
  refine aw_iloadn (pc := 140) hX 3 rfl dX13_partner_140 ?_
  refine aw_iloadn (pc := 141) hX 2 rfl dX13_partner_141 ?_
  refine aw_ic_ne (pc := 142) hX 162 (by decide) dX13_partner_142 (fun hc9 => ?_) (fun hc9 => ?_)
  · have hy := hy.f hc9
    refine aw_iload (pc := 162) hX 0 rfl dX13_partner_162 ?_
    refine aw_if_eq (pc := 164) hX 179 (by decide) dX13_partner_164 (fun hc9 => ?_) (fun hc9 => ?_)
    · have hy := hy.t hc9
      refine AW.sub [1, 2, 4, 5, 0] rfl ?_
      exact w_X13_partner_179 hX hN hr _ _ _ hc he0 he1 he2 v4 v5 s0 hy
    · have hy := hy.f hc9
      refine aw_iload (pc := 167) hX 5 rfl dX13_partner_167 ?_
      refine aw_iloadn (pc := 169) hX 2 rfl dX13_partner_169 ?_
      refine aw_ic_ne (pc := 170) hX 179 (by decide) dX13_partner_170 (fun hc9 => ?_) (fun hc9 => ?_)
      · have hy := hy.f hc9
        refine AW.sub [1, 2, 4, 5, 0] rfl ?_
        exact w_X13_partner_179 hX hN hr _ _ _ hc he0 he1 he2 v4 v5 s0 hy
      · have hy := hy.t hc9
        refine AW.sub [1, 3] rfl ?_
        exact he1 v3 hy.s
  · have hy := hy.t hc9
    refine AW.sub [1, 5, 0] rfl ?_
    exact he0 (v5, s0) hy.s
def b_X13_partner_35 (h : Mem) (v0 : Nat) (v1 : Int32) (v2 : Int32) : Option (Int32 ⊕ ((Int32 × Int32) ⊕ Int32 ⊕ Unit)) :=
  (if v2 = 0 then some (.inr (.inr (.inr ()))) else (f_X13_lowest h v2).bind fun x6 => (iter (fun (s : Int32) => b_X13_partner_58 h v0 v1 v2 x6 (v2 &&& (((1 : Int32) <<< (x6 &&& 31)) ^^^ (-1))) s) FU (x6 + 1)).bind (fun q15 => (gR h v0 3 11).bind fun r16 => (gI h r16 1 10).bind fun x17 => (if x17 ≤ q15 then f_X13_partner_138 h v0 v1 x6 (v2 &&& (((1 : Int32) <<< (x6 &&& 31)) ^^^ (-1))) q15 0 else f_X13_partner_138 h v0 v1 x6 (v2 &&& (((1 : Int32) <<< (x6 &&& 31)) ^^^ (-1))) q15 1)))
set_option maxRecDepth 100000 in
set_option maxHeartbeats 4000000 in
theorem wb_X13_partner_35 {G : GE} {X : CX} {l : Launch} (hX : Ok G X cX13_partner RX13) (hN : xn X = 7) {P0 : (Int32 × Mem) → Prop} (hr : Rt G X l yX13_partner (some .int) rm_X13_partner (pmI P0)) (h : Mem)  (v0 : Nat) (v1 : Int32) {P : (Int32 ⊕ ((Int32 × Int32) ⊕ Int32 ⊕ Unit)) → Prop} (hc : ∀ s, P (.inl s) → AW G X 35 [(0, vR v0), (1, vI v1), (2, vI s)] [] h 0 0) (he0 : ∀ e, P (.inr (.inl e)) → AW G X 145 [(0, vR v0), (5, vI e.1), (6, vI e.2)] [] h 0 0) (he1 : ∀ e, P (.inr (.inr (.inl e))) → AW G X 173 [(0, vR v0), (3, vI e)] [] h 0 0) (he2 : ∀ e, P (.inr (.inr (.inr e))) → AW G X 202 [(0, vR v0)] [] h 0 0) (v2 : Int32) (hy : OK (b_X13_partner_35 h v0 v1 v2) P) : AW G X 35 [(0, vR v0), (1, vI v1), (2, vI v2)] [] h 0 0 := by
  unfold b_X13_partner_35 at hy
  refine aw_iloadn (pc := 35) hX 2 rfl dX13_partner_35 ?_
  refine aw_if_eq (pc := 36) hX 202 (by decide) dX13_partner_36 (fun hc9 => ?_) (fun hc9 => ?_)
  · have hy := hy.t hc9
    refine AW.sub [0] rfl ?_
    exact he2 () hy.s
  · have hy := hy.f hc9
    refine aw_iloadn (pc := 39) hX 2 rfl dX13_partner_39 ?_
    refine aw_callS (pc := 40) (st := []) hX [vI v2] (con_X13_lowest _ G _ v2 hy.bd) mc_X13_lowest ml_X13_466 st_X13_lowest rfl (rm_of hr (by decide)) (Nat.le_of_ble_eq_true rfl) rfl dX13_partner_40 (kpI rfl rfl (fun x6 hy => ?_))
    refine aw_istoren (pc := 43) hX [(3, vI x6), (0, vR v0), (1, vI v1), (2, vI v2)] rfl (lt_n hN (by decide)) dX13_partner_43 ?_
    refine aw_iloadn (pc := 44) hX 3 rfl dX13_partner_44 ?_
    refine aw_iconst (pc := 45) hX 1 (by decide) dX13_partner_45 ?_
    refine aw_iloadn (pc := 46) hX 0 rfl dX13_partner_46 ?_
    refine aw_ishl (pc := 47) hX dX13_partner_47 ?_
    refine aw_iconst (pc := 48) hX (-1) (by decide) dX13_partner_48 ?_
    refine aw_ixor (pc := 49) hX dX13_partner_49 ?_
    refine aw_iand (pc := 50) hX dX13_partner_50 ?_
    refine aw_istore (pc := 51) hX [(4, vI (v2 &&& (((1 : Int32) <<< (x6 &&& 31)) ^^^ (-1)))), (3, vI x6), (0, vR v0), (1, vI v1), (2, vI v2)] rfl (lt_n hN (by decide)) dX13_partner_51 ?_
    refine aw_iloadn (pc := 53) hX 1 rfl dX13_partner_53 ?_
    refine aw_iconst (pc := 54) hX 1 (by decide) dX13_partner_54 ?_
    refine aw_iadd (pc := 55) hX dX13_partner_55 ?_
    refine aw_istore (pc := 56) hX [(5, vI (x6 + 1)), (4, vI (v2 &&& (((1 : Int32) <<< (x6 &&& 31)) ^^^ (-1)))), (3, vI x6), (0, vR v0), (1, vI v1), (2, vI v2)] rfl (lt_n hN (by decide)) dX13_partner_56 ?_
    refine AW.sub [3, 4, 5, 2, 1, 0] rfl ?_
    refine wl_X13_partner_58 hX hN hr _ v0 v1 v2 x6 (v2 &&& (((1 : Int32) <<< (x6 &&& 31)) ^^^ (-1))) ?_ FU (x6 + 1) hy.bd
    · intro q15 hy
      refine aw_iload (pc := 121) hX 4 rfl dX13_partner_121 ?_
      refine aw_aloadn (pc := 123) hX 0 rfl dX13_partner_123 ?_
      refine aw_gR (pc := 124) hX hy fl_X13_338 (fun _ _ => rfl) dX13_partner_124 (fun r16 hy => ?_)
      refine aw_gI (pc := 127) hX hy fl_X13_239 (fun _ _ => rfl) dX13_partner_127 (fun x17 hy => ?_)
      refine aw_ic_ge (pc := 130) hX 137 (by decide) dX13_partner_130 (fun hc9 => ?_) (fun hc9 => ?_)
      · have hy := hy.t hc9
        refine aw_iconst (pc := 137) hX 0 (by decide) dX13_partner_137 ?_
        exact w_X13_partner_138 hX hN hr _ _ _ hc he0 he1 he2 x6 (v2 &&& (((1 : Int32) <<< (x6 &&& 31)) ^^^ (-1))) q15 0 hy
      · have hy := hy.f hc9
        refine aw_iconst (pc := 133) hX 1 (by decide) dX13_partner_133 ?_
        refine aw_goto (pc := 134) hX 138 (by decide) dX13_partner_134 ?_
        exact w_X13_partner_138 hX hN hr _ _ _ hc he0 he1 he2 x6 (v2 &&& (((1 : Int32) <<< (x6 &&& 31)) ^^^ (-1))) q15 1 hy
theorem wl_X13_partner_35 {G : GE} {X : CX} {l : Launch} (hX : Ok G X cX13_partner RX13) (hN : xn X = 7) {P0 : (Int32 × Mem) → Prop} (hr : Rt G X l yX13_partner (some .int) rm_X13_partner (pmI P0)) (h : Mem) (v0 : Nat) (v1 : Int32) {P : ((Int32 × Int32) ⊕ Int32 ⊕ Unit) → Prop} (he0 : ∀ e, P (.inl e) → AW G X 145 [(0, vR v0), (5, vI e.1), (6, vI e.2)] [] h 0 0) (he1 : ∀ e, P (.inr (.inl e)) → AW G X 173 [(0, vR v0), (3, vI e)] [] h 0 0) (he2 : ∀ e, P (.inr (.inr e)) → AW G X 202 [(0, vR v0)] [] h 0 0) : ∀ (n : Nat) (s : Int32), OK (iter (fun (s : Int32) => b_X13_partner_35 h v0 v1 s) n s) P → AW G X 35 [(0, vR v0), (1, vI v1), (2, vI s)] [] h 0 0 := by
  intro n
  induction n with
  | zero => exact fun s hy => hy.it0.elim
  | succ n ih =>
    intro s hy
    exact wb_X13_partner_35 hX hN hr h v0 v1 (fun s hs => ih s hs) (fun e hs => he0 e hs) (fun e hs => he1 e hs) (fun e hs => he2 e hs) s hy.it
def f_X13_partner_158 (h : Mem) (s0 : Nat) (s1 : Int32) : Option (Int32 × Mem) :=
  (f_X13_good h s0 s1).bind fun q22 => some (q22.1, q22.2)
set_option maxRecDepth 100000 in
set_option maxHeartbeats 4000000 in
theorem w_X13_partner_158 {G : GE} {X : CX} {l : Launch} (hX : Ok G X cX13_partner RX13) (hN : xn X = 7) {P : (Int32 × Mem) → Prop} (hr : Rt G X l yX13_partner (some .int) rm_X13_partner (pmI P)) (h : Mem) (s0 : Nat) (s1 : Int32) (hy : OK (f_X13_partner_158 h s0 s1) P) : AW G X 158 [] [vI s1, vR s0] h 0 0 := by
  unfold f_X13_partner_158 at hy
  refine aw_callV (pc := 158) (st := []) (a := s0) hX [vI s1] (con_X13_good _ G _ s0 s1 hy.bd) mc_X13_good ml_X13_61 im_X13_good se_X13_good (by decide) hy.bd.kd rfl (rm_of hr (by decide)) (Nat.le_of_ble_eq_true rfl) rfl dX13_partner_158 (kmI rfl rfl (fun q22 hy => ?_))
  exact aw_iret (pc := 161) hX hr (by decide) (by decide) dX13_partner_161 ⟨_, rfl, hy.s⟩
def f_X13_partner (h : Mem) (v0 : Nat) (v1 : Int32) : Option (Int32 × Mem) :=
  (ck h v0 11).bind fun _ => (pI h v0 0 11 0).bind fun h1 => (f_X13_isTune h1 v0 v1).bind fun x2 => (if x2 = 0 then (f_X13_refused h1 v0 1).bind fun q33 => some (q33.1, q33.2) else (f_X13_pairsAll h1 v0).bind fun h3 => (gR h3 v0 3 11).bind fun r4 => (gI h3 r4 1 10).bind fun x5 => (iter (fun (s : Int32) => b_X13_partner_35 h3 v0 v1 s) FU (((1 : Int32) <<< (x5 &&& 31)) - 1)).bind (Sum.elim (fun e19 => (if e19.2 = 0 then f_X13_partner_158 h3 v0 (-2) else f_X13_partner_158 h3 v0 e19.1)) (Sum.elim (fun e23 => (f_X13_good h3 v0 e23).bind fun q26 => some (q26.1, q26.2)) (fun e27 => (f_X13_good h3 v0 (-2)).bind fun q30 => some (q30.1, q30.2)))))
set_option maxRecDepth 100000 in
set_option maxHeartbeats 4000000 in
theorem w_X13_partner {G : GE} {X : CX} {l : Launch} (hX : Ok G X cX13_partner RX13) (hN : xn X = 7) {P : (Int32 × Mem) → Prop} (hr : Rt G X l yX13_partner (some .int) rm_X13_partner (pmI P)) (h : Mem) (v0 : Nat) (v1 : Int32) (hy : OK (f_X13_partner h v0 v1) P) : AW G X 0 [(0, vR v0), (1, vI v1)] [] h 0 0 := by
  unfold f_X13_partner at hy
  have hkd := hy.kd
  have hy := hy.kb
  refine aw_aloadn (pc := 0) hX 0 rfl dX13_partner_0 ?_
  refine aw_iconst (pc := 1) hX 0 (by decide) dX13_partner_1 ?_
  refine aw_pI (pc := 2) hX hy fl_X13_51 rfl (Or.inl rfl) dX13_partner_2 (fun h1 hy => ?_)
  refine aw_aloadn (pc := 5) hX 0 rfl dX13_partner_5 ?_
  refine aw_iloadn (pc := 6) hX 1 rfl dX13_partner_6 ?_
  refine aw_callV (pc := 7) (st := []) (a := v0) hX [vI v1] (con_X13_isTune _ G _ v0 v1 hy.bd) mc_X13_isTune ml_X13_364 im_X13_isTune se_X13_isTune (by decide) hy.bd.kd rfl (rm_of hr (by decide)) (Nat.le_of_ble_eq_true rfl) rfl dX13_partner_7 (kpI rfl rfl (fun x2 hy => ?_))
  refine aw_if_ne (pc := 10) hX 19 (by decide) dX13_partner_10 (fun hc9 => ?_) (fun hc9 => ?_)
  · have hy := hy.f hc9
    refine aw_aloadn (pc := 19) hX 0 rfl dX13_partner_19 ?_
    refine aw_callV (pc := 20) (st := []) (a := v0) hX [] (con_X13_pairsAll _ G _ v0 hy.bd) mc_X13_pairsAll ml_X13_469 im_X13_pairsAll se_X13_pairsAll (by decide) hy.bd.kd rfl (rm_of hr (by decide)) (Nat.le_of_ble_eq_true rfl) rfl dX13_partner_20 (kmV rfl rfl (fun h3 hy => ?_))
    refine aw_iconst (pc := 23) hX 1 (by decide) dX13_partner_23 ?_
    refine aw_aloadn (pc := 24) hX 0 rfl dX13_partner_24 ?_
    refine aw_gR (pc := 25) hX hy fl_X13_338 (fun _ _ => rfl) dX13_partner_25 (fun r4 hy => ?_)
    refine aw_gI (pc := 28) hX hy fl_X13_239 (fun _ _ => rfl) dX13_partner_28 (fun x5 hy => ?_)
    refine aw_ishl (pc := 31) hX dX13_partner_31 ?_
    refine aw_iconst (pc := 32) hX 1 (by decide) dX13_partner_32 ?_
    refine aw_isub (pc := 33) hX dX13_partner_33 ?_
    refine aw_istoren (pc := 34) hX [(2, vI (((1 : Int32) <<< (x5 &&& 31)) - 1)), (0, vR v0), (1, vI v1)] rfl (lt_n hN (by decide)) dX13_partner_34 ?_
    refine AW.sub [1, 2, 0] rfl ?_
    refine wl_X13_partner_35 hX hN hr _ v0 v1 ?_ ?_ ?_ FU (((1 : Int32) <<< (x5 &&& 31)) - 1) hy.bd
    · intro e19 hy
      refine aw_aloadn (pc := 145) hX 0 rfl dX13_partner_145 ?_
      refine aw_iload (pc := 146) hX 2 rfl dX13_partner_146 ?_
      refine aw_if_eq (pc := 148) hX 156 (by decide) dX13_partner_148 (fun hc9 => ?_) (fun hc9 => ?_)
      · have hy := hy.t hc9
        refine aw_bipush (pc := 156) hX (-2) (by decide) dX13_partner_156 ?_
        refine AW.sub [] rfl ?_
        exact w_X13_partner_158 hX hN hr h3 v0 (-2) hy
      · have hy := hy.f hc9
        refine aw_iload (pc := 151) hX 1 rfl dX13_partner_151 ?_
        refine aw_goto (pc := 153) hX 158 (by decide) dX13_partner_153 ?_
        refine AW.sub [] rfl ?_
        exact w_X13_partner_158 hX hN hr h3 v0 e19.1 hy
    · intro e23 hy
      refine aw_aloadn (pc := 173) hX 0 rfl dX13_partner_173 ?_
      refine aw_iloadn (pc := 174) hX 1 rfl dX13_partner_174 ?_
      refine aw_callV (pc := 175) (st := []) (a := v0) hX [vI e23] (con_X13_good _ G _ v0 e23 hy.bd) mc_X13_good ml_X13_61 im_X13_good se_X13_good (by decide) hy.bd.kd rfl (rm_of hr (by decide)) (Nat.le_of_ble_eq_true rfl) rfl dX13_partner_175 (kmI rfl rfl (fun q26 hy => ?_))
      exact aw_iret (pc := 178) hX hr (by decide) (by decide) dX13_partner_178 ⟨_, rfl, hy.s⟩
    · intro e27 hy
      refine aw_aloadn (pc := 202) hX 0 rfl dX13_partner_202 ?_
      refine aw_bipush (pc := 203) hX (-2) (by decide) dX13_partner_203 ?_
      refine aw_callV (pc := 205) (st := []) (a := v0) hX [vI (-2)] (con_X13_good _ G _ v0 (-2) hy.bd) mc_X13_good ml_X13_61 im_X13_good se_X13_good (by decide) hy.bd.kd rfl (rm_of hr (by decide)) (Nat.le_of_ble_eq_true rfl) rfl dX13_partner_205 (kmI rfl rfl (fun q30 hy => ?_))
      exact aw_iret (pc := 208) hX hr (by decide) (by decide) dX13_partner_208 ⟨_, rfl, hy.s⟩
  · have hy := hy.t hc9
    refine aw_aloadn (pc := 13) hX 0 rfl dX13_partner_13 ?_
    refine aw_iconst (pc := 14) hX 1 (by decide) dX13_partner_14 ?_
    refine aw_callV (pc := 15) (st := []) (a := v0) hX [vI 1] (con_X13_refused _ G _ v0 1 hy.bd) mc_X13_refused ml_X13_57 im_X13_refused se_X13_refused (by decide) hy.bd.kd rfl (rm_of hr (by decide)) (Nat.le_of_ble_eq_true rfl) rfl dX13_partner_15 (kmI rfl rfl (fun q33 hy => ?_))
    exact aw_iret (pc := 18) hX hr (by decide) (by decide) dX13_partner_18 ⟨_, rfl, hy.s⟩
theorem con_X13_partner (l : Launch) (G : GE) (h : Mem) (v0 : Nat) (v1 : Int32) {P : (Int32 × Mem) → Prop} (hy : OK (f_X13_partner h v0 v1) P) : Con l G yX13_partner cX13_partner 7 (some .int) rm_X13_partner [vR v0, vI v1] h (pmI P) := Con.of (by decide) (Nat.le_of_ble_eq_true rfl) (fun X hX hr hN => w_X13_partner hX hN hr h v0 v1 hy)
/-! X13_isHeard -/
theorem dX13_isHeard_0 : decode cX13_isHeard 0 = .ok (.iload_n 1, 1) := by decide +kernel
theorem dX13_isHeard_1 : decode cX13_isHeard 1 = .ok (.iload_n 2, 1) := by decide +kernel
theorem dX13_isHeard_2 : decode cX13_isHeard 2 = .ok (.if_icmp .eq 48, 3) := by decide +kernel
theorem dX13_isHeard_5 : decode cX13_isHeard 5 = .ok (.iload_n 1, 1) := by decide +kernel
theorem dX13_isHeard_6 : decode cX13_isHeard 6 = .ok (.iload_n 2, 1) := by decide +kernel
theorem dX13_isHeard_7 : decode cX13_isHeard 7 = .ok (.aload_n 0, 1) := by decide +kernel
theorem dX13_isHeard_8 : decode cX13_isHeard 8 = .ok (.getfield 338, 3) := by decide +kernel
theorem dX13_isHeard_11 : decode cX13_isHeard 11 = .ok (.getfield 272, 3) := by decide +kernel
theorem dX13_isHeard_14 : decode cX13_isHeard 14 = .ok (.invokestatic 352, 3) := by decide +kernel
theorem dX13_isHeard_17 : decode cX13_isHeard 17 = .ok (.bipush (-2), 2) := by decide +kernel
theorem dX13_isHeard_19 : decode cX13_isHeard 19 = .ok (.if_icmp .eq 31, 3) := by decide +kernel
theorem dX13_isHeard_22 : decode cX13_isHeard 22 = .ok (.iload_n 1, 1) := by decide +kernel
theorem dX13_isHeard_23 : decode cX13_isHeard 23 = .ok (.iload_n 2, 1) := by decide +kernel
theorem dX13_isHeard_24 : decode cX13_isHeard 24 = .ok (.aload_n 0, 1) := by decide +kernel
theorem dX13_isHeard_25 : decode cX13_isHeard 25 = .ok (.getfield 338, 3) := by decide +kernel
theorem dX13_isHeard_28 : decode cX13_isHeard 28 = .ok (.getfield 282, 3) := by decide +kernel
theorem dX13_isHeard_31 : decode cX13_isHeard 31 = .ok (.invokestatic 352, 3) := by decide +kernel
theorem dX13_isHeard_34 : decode cX13_isHeard 34 = .ok (.aload_n 0, 1) := by decide +kernel
theorem dX13_isHeard_35 : decode cX13_isHeard 35 = .ok (.getfield 338, 3) := by decide +kernel
theorem dX13_isHeard_38 : decode cX13_isHeard 38 = .ok (.getfield 328, 3) := by decide +kernel
theorem dX13_isHeard_41 : decode cX13_isHeard 41 = .ok (.iload_n 3, 1) := by decide +kernel
theorem dX13_isHeard_42 : decode cX13_isHeard 42 = .ok (.iaload, 1) := by decide +kernel
theorem dX13_isHeard_43 : decode cX13_isHeard 43 = .ok (.if_icmp .ne 7, 3) := by decide +kernel
theorem dX13_isHeard_46 : decode cX13_isHeard 46 = .ok (.iconst 1, 1) := by decide +kernel
theorem dX13_isHeard_47 : decode cX13_isHeard 47 = .ok (.goto 4, 3) := by decide +kernel
theorem dX13_isHeard_50 : decode cX13_isHeard 50 = .ok (.iconst 0, 1) := by decide +kernel
theorem dX13_isHeard_51 : decode cX13_isHeard 51 = .ok (.ireturn, 1) := by decide +kernel
abbrev rm_X13_isHeard : Room := { frames := 1, cells := 0, slots := 0, locals := 22 }
def f_X13_isHeard_50 (h : Mem) : Option Int32 :=
  some 0
set_option maxRecDepth 100000 in
set_option maxHeartbeats 4000000 in
theorem w_X13_isHeard_50 {G : GE} {X : CX} {l : Launch} (hX : Ok G X cX13_isHeard RX13) (hN : xn X = 4) (h : Mem) {P : Int32 → Prop} (hr : Rt G X l yX13_isHeard (some .boolean) rm_X13_isHeard (ppI h P)) (hy : OK (f_X13_isHeard_50 h) P) : AW G X 50 [] [] h 0 0 := by
  unfold f_X13_isHeard_50 at hy
  refine aw_iconst (pc := 50) hX 0 (by decide) dX13_isHeard_50 ?_
  exact aw_zret (pc := 51) hX hr (by decide) (by decide) dX13_isHeard_51 (Or.inl rfl) ⟨rfl, _, rfl, hy.s⟩
def f_X13_isHeard (h : Mem) (v0 : Nat) (v1 : Int32) (v2 : Int32) (v3 : Int32) : Option Int32 :=
  (ck h v0 11).bind fun _ => (if v1 = v2 then f_X13_isHeard_50 h else (gR h v0 3 11).bind fun r1 => (gR h r1 13 10).bind fun r2 => (f_X13_of h v1 v2 r2).bind fun x3 => (if x3 = (-2) then f_X13_isHeard_50 h else (gR h v0 3 11).bind fun r4 => (gR h r4 14 10).bind fun r5 => (f_X13_of h v1 v2 r5).bind fun x6 => (gR h v0 3 11).bind fun r7 => (gR h r7 24 10).bind fun r8 => (aI h r8 v3).bind fun x9 => (if x6 = x9 then some 1 else f_X13_isHeard_50 h)))
set_option maxRecDepth 100000 in
set_option maxHeartbeats 4000000 in
theorem w_X13_isHeard {G : GE} {X : CX} {l : Launch} (hX : Ok G X cX13_isHeard RX13) (hN : xn X = 4) (h : Mem) {P : Int32 → Prop} (hr : Rt G X l yX13_isHeard (some .boolean) rm_X13_isHeard (ppI h P)) (v0 : Nat) (v1 : Int32) (v2 : Int32) (v3 : Int32) (hy : OK (f_X13_isHeard h v0 v1 v2 v3) P) : AW G X 0 [(0, vR v0), (1, vI v1), (2, vI v2), (3, vI v3)] [] h 0 0 := by
  unfold f_X13_isHeard at hy
  have hkd := hy.kd
  have hy := hy.kb
  refine aw_iloadn (pc := 0) hX 1 rfl dX13_isHeard_0 ?_
  refine aw_iloadn (pc := 1) hX 2 rfl dX13_isHeard_1 ?_
  refine aw_ic_eq (pc := 2) hX 50 (by decide) dX13_isHeard_2 (fun hc9 => ?_) (fun hc9 => ?_)
  · have hy := hy.t hc9
    refine AW.sub [] rfl ?_
    exact w_X13_isHeard_50 hX hN _ hr hy
  · have hy := hy.f hc9
    refine aw_iloadn (pc := 5) hX 1 rfl dX13_isHeard_5 ?_
    refine aw_iloadn (pc := 6) hX 2 rfl dX13_isHeard_6 ?_
    refine aw_aloadn (pc := 7) hX 0 rfl dX13_isHeard_7 ?_
    refine aw_gR (pc := 8) hX hy fl_X13_338 (fun _ _ => rfl) dX13_isHeard_8 (fun r1 hy => ?_)
    refine aw_gR (pc := 11) hX hy fl_X13_272 (fun _ _ => rfl) dX13_isHeard_11 (fun r2 hy => ?_)
    refine aw_callS (pc := 14) (st := []) hX [vI v1, vI v2, vR r2] (con_X13_of _ G _ v1 v2 r2 hy.bd) mc_X13_of ml_X13_352 st_X13_of rfl (rm_of hr (by decide)) (Nat.le_of_ble_eq_true rfl) rfl dX13_isHeard_14 (kpI rfl rfl (fun x3 hy => ?_))
    refine aw_bipush (pc := 17) hX (-2) (by decide) dX13_isHeard_17 ?_
    refine aw_ic_eq (pc := 19) hX 50 (by decide) dX13_isHeard_19 (fun hc9 => ?_) (fun hc9 => ?_)
    · have hy := hy.t hc9
      refine AW.sub [] rfl ?_
      exact w_X13_isHeard_50 hX hN _ hr hy
    · have hy := hy.f hc9
      refine aw_iloadn (pc := 22) hX 1 rfl dX13_isHeard_22 ?_
      refine aw_iloadn (pc := 23) hX 2 rfl dX13_isHeard_23 ?_
      refine aw_aloadn (pc := 24) hX 0 rfl dX13_isHeard_24 ?_
      refine aw_gR (pc := 25) hX hy fl_X13_338 (fun _ _ => rfl) dX13_isHeard_25 (fun r4 hy => ?_)
      refine aw_gR (pc := 28) hX hy fl_X13_282 (fun _ _ => rfl) dX13_isHeard_28 (fun r5 hy => ?_)
      refine aw_callS (pc := 31) (st := []) hX [vI v1, vI v2, vR r5] (con_X13_of _ G _ v1 v2 r5 hy.bd) mc_X13_of ml_X13_352 st_X13_of rfl (rm_of hr (by decide)) (Nat.le_of_ble_eq_true rfl) rfl dX13_isHeard_31 (kpI rfl rfl (fun x6 hy => ?_))
      refine aw_aloadn (pc := 34) hX 0 rfl dX13_isHeard_34 ?_
      refine aw_gR (pc := 35) hX hy fl_X13_338 (fun _ _ => rfl) dX13_isHeard_35 (fun r7 hy => ?_)
      refine aw_gR (pc := 38) hX hy fl_X13_328 (fun _ _ => rfl) dX13_isHeard_38 (fun r8 hy => ?_)
      refine aw_iloadn (pc := 41) hX 3 rfl dX13_isHeard_41 ?_
      refine aw_aI (pc := 42) hX hy dX13_isHeard_42 (fun x9 hy => ?_)
      refine aw_ic_ne (pc := 43) hX 50 (by decide) dX13_isHeard_43 (fun hc9 => ?_) (fun hc9 => ?_)
      · have hy := hy.f hc9
        refine AW.sub [] rfl ?_
        exact w_X13_isHeard_50 hX hN _ hr hy
      · have hy := hy.t hc9
        refine aw_iconst (pc := 46) hX 1 (by decide) dX13_isHeard_46 ?_
        refine aw_goto (pc := 47) hX 51 (by decide) dX13_isHeard_47 ?_
        exact aw_zret (pc := 51) hX hr (by decide) (by decide) dX13_isHeard_51 (Or.inr rfl) ⟨rfl, _, rfl, hy.s⟩
theorem con_X13_isHeard (l : Launch) (G : GE) (h : Mem) (v0 : Nat) (v1 : Int32) (v2 : Int32) (v3 : Int32) {P : Int32 → Prop} (hy : OK (f_X13_isHeard h v0 v1 v2 v3) P) : Con l G yX13_isHeard cX13_isHeard 4 (some .boolean) rm_X13_isHeard [vR v0, vI v1, vI v2, vI v3] h (ppI h P) := Con.of (by decide) (Nat.le_of_ble_eq_true rfl) (fun X hX hr hN => w_X13_isHeard hX hN h hr v0 v1 v2 v3 hy)
/-! X13_strangers -/
theorem dX13_strangers_0 : decode cX13_strangers 0 = .ok (.aload_n 0, 1) := by decide +kernel
theorem dX13_strangers_1 : decode cX13_strangers 1 = .ok (.getfield 338, 3) := by decide +kernel
theorem dX13_strangers_4 : decode cX13_strangers 4 = .ok (.getfield 326, 3) := by decide +kernel
theorem dX13_strangers_7 : decode cX13_strangers 7 = .ok (.istore_n 1, 1) := by decide +kernel
theorem dX13_strangers_8 : decode cX13_strangers 8 = .ok (.iconst 0, 1) := by decide +kernel
theorem dX13_strangers_9 : decode cX13_strangers 9 = .ok (.istore_n 2, 1) := by decide +kernel
theorem dX13_strangers_10 : decode cX13_strangers 10 = .ok (.iload_n 2, 1) := by decide +kernel
theorem dX13_strangers_11 : decode cX13_strangers 11 = .ok (.bipush 42, 2) := by decide +kernel
theorem dX13_strangers_13 : decode cX13_strangers 13 = .ok (.if_icmp .ge 66, 3) := by decide +kernel
theorem dX13_strangers_16 : decode cX13_strangers 16 = .ok (.aload_n 0, 1) := by decide +kernel
theorem dX13_strangers_17 : decode cX13_strangers 17 = .ok (.getfield 45, 3) := by decide +kernel
theorem dX13_strangers_20 : decode cX13_strangers 20 = .ok (.iload_n 2, 1) := by decide +kernel
theorem dX13_strangers_21 : decode cX13_strangers 21 = .ok (.iload_n 2, 1) := by decide +kernel
theorem dX13_strangers_22 : decode cX13_strangers 22 = .ok (.aload_n 0, 1) := by decide +kernel
theorem dX13_strangers_23 : decode cX13_strangers 23 = .ok (.getfield 338, 3) := by decide +kernel
theorem dX13_strangers_26 : decode cX13_strangers 26 = .ok (.getfield 197, 3) := by decide +kernel
theorem dX13_strangers_29 : decode cX13_strangers 29 = .ok (.if_icmp .ge 7, 3) := by decide +kernel
theorem dX13_strangers_32 : decode cX13_strangers 32 = .ok (.iconst 1, 1) := by decide +kernel
theorem dX13_strangers_33 : decode cX13_strangers 33 = .ok (.goto 4, 3) := by decide +kernel
theorem dX13_strangers_36 : decode cX13_strangers 36 = .ok (.iconst 0, 1) := by decide +kernel
theorem dX13_strangers_37 : decode cX13_strangers 37 = .ok (.iastore, 1) := by decide +kernel
theorem dX13_strangers_38 : decode cX13_strangers 38 = .ok (.aload_n 0, 1) := by decide +kernel
theorem dX13_strangers_39 : decode cX13_strangers 39 = .ok (.getfield 48, 3) := by decide +kernel
theorem dX13_strangers_42 : decode cX13_strangers 42 = .ok (.iload_n 2, 1) := by decide +kernel
theorem dX13_strangers_43 : decode cX13_strangers 43 = .ok (.iload_n 2, 1) := by decide +kernel
theorem dX13_strangers_44 : decode cX13_strangers 44 = .ok (.bipush 7, 2) := by decide +kernel
theorem dX13_strangers_46 : decode cX13_strangers 46 = .ok (.iload_n 1, 1) := by decide +kernel
theorem dX13_strangers_47 : decode cX13_strangers 47 = .ok (.imul, 1) := by decide +kernel
theorem dX13_strangers_48 : decode cX13_strangers 48 = .ok (.if_icmp .lt 23, 3) := by decide +kernel
theorem dX13_strangers_51 : decode cX13_strangers 51 = .ok (.iload_n 2, 1) := by decide +kernel
theorem dX13_strangers_52 : decode cX13_strangers 52 = .ok (.bipush 7, 2) := by decide +kernel
theorem dX13_strangers_54 : decode cX13_strangers 54 = .ok (.iload_n 1, 1) := by decide +kernel
theorem dX13_strangers_55 : decode cX13_strangers 55 = .ok (.imul, 1) := by decide +kernel
theorem dX13_strangers_56 : decode cX13_strangers 56 = .ok (.aload_n 0, 1) := by decide +kernel
theorem dX13_strangers_57 : decode cX13_strangers 57 = .ok (.getfield 338, 3) := by decide +kernel
theorem dX13_strangers_60 : decode cX13_strangers 60 = .ok (.getfield 197, 3) := by decide +kernel
theorem dX13_strangers_63 : decode cX13_strangers 63 = .ok (.iadd, 1) := by decide +kernel
theorem dX13_strangers_64 : decode cX13_strangers 64 = .ok (.if_icmp .ge 7, 3) := by decide +kernel
theorem dX13_strangers_67 : decode cX13_strangers 67 = .ok (.iconst 1, 1) := by decide +kernel
theorem dX13_strangers_68 : decode cX13_strangers 68 = .ok (.goto 4, 3) := by decide +kernel
theorem dX13_strangers_71 : decode cX13_strangers 71 = .ok (.iconst 0, 1) := by decide +kernel
theorem dX13_strangers_72 : decode cX13_strangers 72 = .ok (.iastore, 1) := by decide +kernel
theorem dX13_strangers_73 : decode cX13_strangers 73 = .ok (.iinc 2 1, 3) := by decide +kernel
theorem dX13_strangers_76 : decode cX13_strangers 76 = .ok (.goto (-66), 3) := by decide +kernel
theorem dX13_strangers_79 : decode cX13_strangers 79 = .ok (.iconst 0, 1) := by decide +kernel
theorem dX13_strangers_80 : decode cX13_strangers 80 = .ok (.istore_n 2, 1) := by decide +kernel
theorem dX13_strangers_81 : decode cX13_strangers 81 = .ok (.iload_n 2, 1) := by decide +kernel
theorem dX13_strangers_82 : decode cX13_strangers 82 = .ok (.iload_n 1, 1) := by decide +kernel
theorem dX13_strangers_83 : decode cX13_strangers 83 = .ok (.if_icmp .ge 135, 3) := by decide +kernel
theorem dX13_strangers_86 : decode cX13_strangers 86 = .ok (.iconst 0, 1) := by decide +kernel
theorem dX13_strangers_87 : decode cX13_strangers 87 = .ok (.istore_n 3, 1) := by decide +kernel
theorem dX13_strangers_88 : decode cX13_strangers 88 = .ok (.iload_n 3, 1) := by decide +kernel
theorem dX13_strangers_89 : decode cX13_strangers 89 = .ok (.aload_n 0, 1) := by decide +kernel
theorem dX13_strangers_90 : decode cX13_strangers 90 = .ok (.getfield 338, 3) := by decide +kernel
theorem dX13_strangers_93 : decode cX13_strangers 93 = .ok (.getfield 197, 3) := by decide +kernel
theorem dX13_strangers_96 : decode cX13_strangers 96 = .ok (.if_icmp .ge 116, 3) := by decide +kernel
theorem dX13_strangers_99 : decode cX13_strangers 99 = .ok (.iconst 0, 1) := by decide +kernel
theorem dX13_strangers_100 : decode cX13_strangers 100 = .ok (.istore 4, 2) := by decide +kernel
theorem dX13_strangers_102 : decode cX13_strangers 102 = .ok (.iload 4, 2) := by decide +kernel
theorem dX13_strangers_104 : decode cX13_strangers 104 = .ok (.aload_n 0, 1) := by decide +kernel
theorem dX13_strangers_105 : decode cX13_strangers 105 = .ok (.getfield 338, 3) := by decide +kernel
theorem dX13_strangers_108 : decode cX13_strangers 108 = .ok (.getfield 197, 3) := by decide +kernel
theorem dX13_strangers_111 : decode cX13_strangers 111 = .ok (.if_icmp .ge 95, 3) := by decide +kernel
theorem dX13_strangers_114 : decode cX13_strangers 114 = .ok (.aload_n 0, 1) := by decide +kernel
theorem dX13_strangers_115 : decode cX13_strangers 115 = .ok (.iload_n 3, 1) := by decide +kernel
theorem dX13_strangers_116 : decode cX13_strangers 116 = .ok (.iload 4, 2) := by decide +kernel
theorem dX13_strangers_118 : decode cX13_strangers 118 = .ok (.iload_n 2, 1) := by decide +kernel
theorem dX13_strangers_119 : decode cX13_strangers 119 = .ok (.invokevirtual 472, 3) := by decide +kernel
theorem dX13_strangers_122 : decode cX13_strangers 122 = .ok (.ifCond .eq 31, 3) := by decide +kernel
theorem dX13_strangers_125 : decode cX13_strangers 125 = .ok (.aload_n 0, 1) := by decide +kernel
theorem dX13_strangers_126 : decode cX13_strangers 126 = .ok (.getfield 45, 3) := by decide +kernel
theorem dX13_strangers_129 : decode cX13_strangers 129 = .ok (.bipush 7, 2) := by decide +kernel
theorem dX13_strangers_131 : decode cX13_strangers 131 = .ok (.iload_n 2, 1) := by decide +kernel
theorem dX13_strangers_132 : decode cX13_strangers 132 = .ok (.iconst 1, 1) := by decide +kernel
theorem dX13_strangers_133 : decode cX13_strangers 133 = .ok (.iadd, 1) := by decide +kernel
theorem dX13_strangers_134 : decode cX13_strangers 134 = .ok (.imul, 1) := by decide +kernel
theorem dX13_strangers_135 : decode cX13_strangers 135 = .ok (.iload 4, 2) := by decide +kernel
theorem dX13_strangers_137 : decode cX13_strangers 137 = .ok (.iadd, 1) := by decide +kernel
theorem dX13_strangers_138 : decode cX13_strangers 138 = .ok (.dup2, 1) := by decide +kernel
theorem dX13_strangers_139 : decode cX13_strangers 139 = .ok (.iaload, 1) := by decide +kernel
theorem dX13_strangers_140 : decode cX13_strangers 140 = .ok (.aload_n 0, 1) := by decide +kernel
theorem dX13_strangers_141 : decode cX13_strangers 141 = .ok (.getfield 45, 3) := by decide +kernel
theorem dX13_strangers_144 : decode cX13_strangers 144 = .ok (.bipush 7, 2) := by decide +kernel
theorem dX13_strangers_146 : decode cX13_strangers 146 = .ok (.iload_n 2, 1) := by decide +kernel
theorem dX13_strangers_147 : decode cX13_strangers 147 = .ok (.imul, 1) := by decide +kernel
theorem dX13_strangers_148 : decode cX13_strangers 148 = .ok (.iload_n 3, 1) := by decide +kernel
theorem dX13_strangers_149 : decode cX13_strangers 149 = .ok (.iadd, 1) := by decide +kernel
theorem dX13_strangers_150 : decode cX13_strangers 150 = .ok (.iaload, 1) := by decide +kernel
theorem dX13_strangers_151 : decode cX13_strangers 151 = .ok (.iadd, 1) := by decide +kernel
theorem dX13_strangers_152 : decode cX13_strangers 152 = .ok (.iastore, 1) := by decide +kernel
theorem dX13_strangers_153 : decode cX13_strangers 153 = .ok (.aload_n 0, 1) := by decide +kernel
theorem dX13_strangers_154 : decode cX13_strangers 154 = .ok (.iload_n 3, 1) := by decide +kernel
theorem dX13_strangers_155 : decode cX13_strangers 155 = .ok (.iload 4, 2) := by decide +kernel
theorem dX13_strangers_157 : decode cX13_strangers 157 = .ok (.iload_n 1, 1) := by decide +kernel
theorem dX13_strangers_158 : decode cX13_strangers 158 = .ok (.iconst 1, 1) := by decide +kernel
theorem dX13_strangers_159 : decode cX13_strangers 159 = .ok (.isub, 1) := by decide +kernel
theorem dX13_strangers_160 : decode cX13_strangers 160 = .ok (.iload_n 2, 1) := by decide +kernel
theorem dX13_strangers_161 : decode cX13_strangers 161 = .ok (.isub, 1) := by decide +kernel
theorem dX13_strangers_162 : decode cX13_strangers 162 = .ok (.invokevirtual 472, 3) := by decide +kernel
theorem dX13_strangers_165 : decode cX13_strangers 165 = .ok (.ifCond .eq 35, 3) := by decide +kernel
theorem dX13_strangers_168 : decode cX13_strangers 168 = .ok (.aload_n 0, 1) := by decide +kernel
theorem dX13_strangers_169 : decode cX13_strangers 169 = .ok (.getfield 48, 3) := by decide +kernel
theorem dX13_strangers_172 : decode cX13_strangers 172 = .ok (.bipush 7, 2) := by decide +kernel
theorem dX13_strangers_174 : decode cX13_strangers 174 = .ok (.iload_n 1, 1) := by decide +kernel
theorem dX13_strangers_175 : decode cX13_strangers 175 = .ok (.iconst 1, 1) := by decide +kernel
theorem dX13_strangers_176 : decode cX13_strangers 176 = .ok (.isub, 1) := by decide +kernel
theorem dX13_strangers_177 : decode cX13_strangers 177 = .ok (.iload_n 2, 1) := by decide +kernel
theorem dX13_strangers_178 : decode cX13_strangers 178 = .ok (.isub, 1) := by decide +kernel
theorem dX13_strangers_179 : decode cX13_strangers 179 = .ok (.imul, 1) := by decide +kernel
theorem dX13_strangers_180 : decode cX13_strangers 180 = .ok (.iload_n 3, 1) := by decide +kernel
theorem dX13_strangers_181 : decode cX13_strangers 181 = .ok (.iadd, 1) := by decide +kernel
theorem dX13_strangers_182 : decode cX13_strangers 182 = .ok (.dup2, 1) := by decide +kernel
theorem dX13_strangers_183 : decode cX13_strangers 183 = .ok (.iaload, 1) := by decide +kernel
theorem dX13_strangers_184 : decode cX13_strangers 184 = .ok (.aload_n 0, 1) := by decide +kernel
theorem dX13_strangers_185 : decode cX13_strangers 185 = .ok (.getfield 48, 3) := by decide +kernel
theorem dX13_strangers_188 : decode cX13_strangers 188 = .ok (.bipush 7, 2) := by decide +kernel
theorem dX13_strangers_190 : decode cX13_strangers 190 = .ok (.iload_n 1, 1) := by decide +kernel
theorem dX13_strangers_191 : decode cX13_strangers 191 = .ok (.iload_n 2, 1) := by decide +kernel
theorem dX13_strangers_192 : decode cX13_strangers 192 = .ok (.isub, 1) := by decide +kernel
theorem dX13_strangers_193 : decode cX13_strangers 193 = .ok (.imul, 1) := by decide +kernel
theorem dX13_strangers_194 : decode cX13_strangers 194 = .ok (.iload 4, 2) := by decide +kernel
theorem dX13_strangers_196 : decode cX13_strangers 196 = .ok (.iadd, 1) := by decide +kernel
theorem dX13_strangers_197 : decode cX13_strangers 197 = .ok (.iaload, 1) := by decide +kernel
theorem dX13_strangers_198 : decode cX13_strangers 198 = .ok (.iadd, 1) := by decide +kernel
theorem dX13_strangers_199 : decode cX13_strangers 199 = .ok (.iastore, 1) := by decide +kernel
theorem dX13_strangers_200 : decode cX13_strangers 200 = .ok (.iinc 4 1, 3) := by decide +kernel
theorem dX13_strangers_203 : decode cX13_strangers 203 = .ok (.goto (-101), 3) := by decide +kernel
theorem dX13_strangers_206 : decode cX13_strangers 206 = .ok (.iinc 3 1, 3) := by decide +kernel
theorem dX13_strangers_209 : decode cX13_strangers 209 = .ok (.goto (-121), 3) := by decide +kernel
theorem dX13_strangers_212 : decode cX13_strangers 212 = .ok (.iinc 2 1, 3) := by decide +kernel
theorem dX13_strangers_215 : decode cX13_strangers 215 = .ok (.goto (-134), 3) := by decide +kernel
theorem dX13_strangers_218 : decode cX13_strangers 218 = .ok (.aload_n 0, 1) := by decide +kernel
theorem dX13_strangers_219 : decode cX13_strangers 219 = .ok (.iconst 0, 1) := by decide +kernel
theorem dX13_strangers_220 : decode cX13_strangers 220 = .ok (.putfield 475, 3) := by decide +kernel
theorem dX13_strangers_223 : decode cX13_strangers 223 = .ok (.iconst 0, 1) := by decide +kernel
theorem dX13_strangers_224 : decode cX13_strangers 224 = .ok (.istore_n 2, 1) := by decide +kernel
theorem dX13_strangers_225 : decode cX13_strangers 225 = .ok (.iload_n 2, 1) := by decide +kernel
theorem dX13_strangers_226 : decode cX13_strangers 226 = .ok (.aload_n 0, 1) := by decide +kernel
theorem dX13_strangers_227 : decode cX13_strangers 227 = .ok (.getfield 338, 3) := by decide +kernel
theorem dX13_strangers_230 : decode cX13_strangers 230 = .ok (.getfield 197, 3) := by decide +kernel
theorem dX13_strangers_233 : decode cX13_strangers 233 = .ok (.if_icmp .ge 24, 3) := by decide +kernel
theorem dX13_strangers_236 : decode cX13_strangers 236 = .ok (.aload_n 0, 1) := by decide +kernel
theorem dX13_strangers_237 : decode cX13_strangers 237 = .ok (.dup, 1) := by decide +kernel
theorem dX13_strangers_238 : decode cX13_strangers 238 = .ok (.getfield 475, 3) := by decide +kernel
theorem dX13_strangers_241 : decode cX13_strangers 241 = .ok (.aload_n 0, 1) := by decide +kernel
theorem dX13_strangers_242 : decode cX13_strangers 242 = .ok (.getfield 48, 3) := by decide +kernel
theorem dX13_strangers_245 : decode cX13_strangers 245 = .ok (.iload_n 2, 1) := by decide +kernel
theorem dX13_strangers_246 : decode cX13_strangers 246 = .ok (.iaload, 1) := by decide +kernel
theorem dX13_strangers_247 : decode cX13_strangers 247 = .ok (.iadd, 1) := by decide +kernel
theorem dX13_strangers_248 : decode cX13_strangers 248 = .ok (.putfield 475, 3) := by decide +kernel
theorem dX13_strangers_251 : decode cX13_strangers 251 = .ok (.iinc 2 1, 3) := by decide +kernel
theorem dX13_strangers_254 : decode cX13_strangers 254 = .ok (.goto (-29), 3) := by decide +kernel
theorem dX13_strangers_257 : decode cX13_strangers 257 = .ok (.return_, 1) := by decide +kernel
abbrev rm_X13_strangers : Room := { frames := 2, cells := 0, slots := 0, locals := 45 }
def f_X13_strangers_72 (h : Mem) (v0 : Nat) (v1 : Int32) (v2 : Int32) (s0 : Nat) (s1 : Int32) (s2 : Int32) : Option ((Int32 × Mem) ⊕ Mem) :=
  (sI h s0 s1 s2).bind fun h8 => some (.inl ((v2 + 1), h8))
set_option maxRecDepth 100000 in
set_option maxHeartbeats 4000000 in
theorem w_X13_strangers_72 {G : GE} {X : CX} {l : Launch} (hX : Ok G X cX13_strangers RX13) (hN : xn X = 5) {P0 : Mem → Prop} (hr : Rt G X l yX13_strangers none rm_X13_strangers (pmV P0))  (v0 : Nat) (v1 : Int32) {P : ((Int32 × Mem) ⊕ Mem) → Prop} (hc : ∀ s, P (.inl s) → AW G X 10 [(0, vR v0), (1, vI v1), (2, vI s.1)] [] s.2 0 0) (he0 : ∀ e, P (.inr e) → AW G X 79 [(0, vR v0), (1, vI v1)] [] e 0 0) (h : Mem) (v2 : Int32) (s0 : Nat) (s1 : Int32) (s2 : Int32) (hy : OK (f_X13_strangers_72 h v0 v1 v2 s0 s1 s2) P) : AW G X 72 [(0, vR v0), (1, vI v1), (2, vI v2)] [vI s2, vI s1, vR s0] h 0 0 := by
  unfold f_X13_strangers_72 at hy
  refine aw_sI (pc := 72) hX hy dX13_strangers_72 (fun h8 hy => ?_)
  refine aw_iinc (pc := 73) hX 1 (by decide) 2 rfl [(2, vI (v2 + 1)), (0, vR v0), (1, vI v1)] rfl (lt_n hN (by decide)) dX13_strangers_73 ?_
  refine aw_goto (pc := 76) hX 10 (by decide) dX13_strangers_76 ?_
  refine AW.sub [1, 2, 0] rfl ?_
  exact hc ((v2 + 1), h8) hy.s
def f_X13_strangers_71 (h : Mem) (v0 : Nat) (v1 : Int32) (v2 : Int32) (s0 : Nat) (s1 : Int32) : Option ((Int32 × Mem) ⊕ Mem) :=
  f_X13_strangers_72 h v0 v1 v2 s0 s1 0
set_option maxRecDepth 100000 in
set_option maxHeartbeats 4000000 in
theorem w_X13_strangers_71 {G : GE} {X : CX} {l : Launch} (hX : Ok G X cX13_strangers RX13) (hN : xn X = 5) {P0 : Mem → Prop} (hr : Rt G X l yX13_strangers none rm_X13_strangers (pmV P0))  (v0 : Nat) (v1 : Int32) {P : ((Int32 × Mem) ⊕ Mem) → Prop} (hc : ∀ s, P (.inl s) → AW G X 10 [(0, vR v0), (1, vI v1), (2, vI s.1)] [] s.2 0 0) (he0 : ∀ e, P (.inr e) → AW G X 79 [(0, vR v0), (1, vI v1)] [] e 0 0) (h : Mem) (v2 : Int32) (s0 : Nat) (s1 : Int32) (hy : OK (f_X13_strangers_71 h v0 v1 v2 s0 s1) P) : AW G X 71 [(0, vR v0), (1, vI v1), (2, vI v2)] [vI s1, vR s0] h 0 0 := by
  unfold f_X13_strangers_71 at hy
  refine aw_iconst (pc := 71) hX 0 (by decide) dX13_strangers_71 ?_
  exact w_X13_strangers_72 hX hN hr _ _ hc he0 h v2 s0 s1 0 hy
def f_X13_strangers_37 (h : Mem) (v0 : Nat) (v1 : Int32) (v2 : Int32) (s0 : Nat) (s1 : Int32) (s2 : Int32) : Option ((Int32 × Mem) ⊕ Mem) :=
  (sI h s0 s1 s2).bind fun h6 => (gR h6 v0 34 11).bind fun r7 => (if v2 < (7 * v1) then f_X13_strangers_71 h6 v0 v1 v2 r7 v2 else (gR h6 v0 3 11).bind fun r9 => (gI h6 r9 2 10).bind fun x10 => (if ((7 * v1) + x10) ≤ v2 then f_X13_strangers_71 h6 v0 v1 v2 r7 v2 else f_X13_strangers_72 h6 v0 v1 v2 r7 v2 1))
set_option maxRecDepth 100000 in
set_option maxHeartbeats 4000000 in
theorem w_X13_strangers_37 {G : GE} {X : CX} {l : Launch} (hX : Ok G X cX13_strangers RX13) (hN : xn X = 5) {P0 : Mem → Prop} (hr : Rt G X l yX13_strangers none rm_X13_strangers (pmV P0))  (v0 : Nat) (v1 : Int32) {P : ((Int32 × Mem) ⊕ Mem) → Prop} (hc : ∀ s, P (.inl s) → AW G X 10 [(0, vR v0), (1, vI v1), (2, vI s.1)] [] s.2 0 0) (he0 : ∀ e, P (.inr e) → AW G X 79 [(0, vR v0), (1, vI v1)] [] e 0 0) (h : Mem) (v2 : Int32) (s0 : Nat) (s1 : Int32) (s2 : Int32) (hy : OK (f_X13_strangers_37 h v0 v1 v2 s0 s1 s2) P) : AW G X 37 [(0, vR v0), (1, vI v1), (2, vI v2)] [vI s2, vI s1, vR s0] h 0 0 := by
  unfold f_X13_strangers_37 at hy
  refine aw_sI (pc := 37) hX hy dX13_strangers_37 (fun h6 hy => ?_)
  refine aw_aloadn (pc := 38) hX 0 rfl dX13_strangers_38 ?_
  refine aw_gR (pc := 39) hX hy fl_X13_48 (fun _ _ => rfl) dX13_strangers_39 (fun r7 hy => ?_)
  refine aw_iloadn (pc := 42) hX 2 rfl dX13_strangers_42 ?_
  refine aw_iloadn (pc := 43) hX 2 rfl dX13_strangers_43 ?_
  refine aw_bipush (pc := 44) hX 7 (by decide) dX13_strangers_44 ?_
  refine aw_iloadn (pc := 46) hX 1 rfl dX13_strangers_46 ?_
  refine aw_imul (pc := 47) hX dX13_strangers_47 ?_
  refine aw_ic_lt (pc := 48) hX 71 (by decide) dX13_strangers_48 (fun hc9 => ?_) (fun hc9 => ?_)
  · have hy := hy.t hc9
    exact w_X13_strangers_71 hX hN hr _ _ hc he0 h6 v2 r7 v2 hy
  · have hy := hy.f hc9
    refine aw_iloadn (pc := 51) hX 2 rfl dX13_strangers_51 ?_
    refine aw_bipush (pc := 52) hX 7 (by decide) dX13_strangers_52 ?_
    refine aw_iloadn (pc := 54) hX 1 rfl dX13_strangers_54 ?_
    refine aw_imul (pc := 55) hX dX13_strangers_55 ?_
    refine aw_aloadn (pc := 56) hX 0 rfl dX13_strangers_56 ?_
    refine aw_gR (pc := 57) hX hy fl_X13_338 (fun _ _ => rfl) dX13_strangers_57 (fun r9 hy => ?_)
    refine aw_gI (pc := 60) hX hy fl_X13_197 (fun _ _ => rfl) dX13_strangers_60 (fun x10 hy => ?_)
    refine aw_iadd (pc := 63) hX dX13_strangers_63 ?_
    refine aw_ic_ge (pc := 64) hX 71 (by decide) dX13_strangers_64 (fun hc9 => ?_) (fun hc9 => ?_)
    · have hy := hy.t hc9
      exact w_X13_strangers_71 hX hN hr _ _ hc he0 h6 v2 r7 v2 hy
    · have hy := hy.f hc9
      refine aw_iconst (pc := 67) hX 1 (by decide) dX13_strangers_67 ?_
      refine aw_goto (pc := 68) hX 72 (by decide) dX13_strangers_68 ?_
      exact w_X13_strangers_72 hX hN hr _ _ hc he0 h6 v2 r7 v2 1 hy
def b_X13_strangers_10 (h : Mem) (v0 : Nat) (v1 : Int32) (v2 : Int32) : Option ((Int32 × Mem) ⊕ Mem) :=
  (if 42 ≤ v2 then some (.inr h) else (gR h v0 33 11).bind fun r3 => (gR h v0 3 11).bind fun r4 => (gI h r4 2 10).bind fun x5 => (if x5 ≤ v2 then f_X13_strangers_37 h v0 v1 v2 r3 v2 0 else f_X13_strangers_37 h v0 v1 v2 r3 v2 1))
set_option maxRecDepth 100000 in
set_option maxHeartbeats 4000000 in
theorem wb_X13_strangers_10 {G : GE} {X : CX} {l : Launch} (hX : Ok G X cX13_strangers RX13) (hN : xn X = 5) {P0 : Mem → Prop} (hr : Rt G X l yX13_strangers none rm_X13_strangers (pmV P0))  (v0 : Nat) (v1 : Int32) {P : ((Int32 × Mem) ⊕ Mem) → Prop} (hc : ∀ s, P (.inl s) → AW G X 10 [(0, vR v0), (1, vI v1), (2, vI s.1)] [] s.2 0 0) (he0 : ∀ e, P (.inr e) → AW G X 79 [(0, vR v0), (1, vI v1)] [] e 0 0) (h : Mem) (v2 : Int32) (hy : OK (b_X13_strangers_10 h v0 v1 v2) P) : AW G X 10 [(0, vR v0), (1, vI v1), (2, vI v2)] [] h 0 0 := by
  unfold b_X13_strangers_10 at hy
  refine aw_iloadn (pc := 10) hX 2 rfl dX13_strangers_10 ?_
  refine aw_bipush (pc := 11) hX 42 (by decide) dX13_strangers_11 ?_
  refine aw_ic_ge (pc := 13) hX 79 (by decide) dX13_strangers_13 (fun hc9 => ?_) (fun hc9 => ?_)
  · have hy := hy.t hc9
    refine AW.sub [0, 1] rfl ?_
    exact he0 h hy.s
  · have hy := hy.f hc9
    refine aw_aloadn (pc := 16) hX 0 rfl dX13_strangers_16 ?_
    refine aw_gR (pc := 17) hX hy fl_X13_45 (fun _ _ => rfl) dX13_strangers_17 (fun r3 hy => ?_)
    refine aw_iloadn (pc := 20) hX 2 rfl dX13_strangers_20 ?_
    refine aw_iloadn (pc := 21) hX 2 rfl dX13_strangers_21 ?_
    refine aw_aloadn (pc := 22) hX 0 rfl dX13_strangers_22 ?_
    refine aw_gR (pc := 23) hX hy fl_X13_338 (fun _ _ => rfl) dX13_strangers_23 (fun r4 hy => ?_)
    refine aw_gI (pc := 26) hX hy fl_X13_197 (fun _ _ => rfl) dX13_strangers_26 (fun x5 hy => ?_)
    refine aw_ic_ge (pc := 29) hX 36 (by decide) dX13_strangers_29 (fun hc9 => ?_) (fun hc9 => ?_)
    · have hy := hy.t hc9
      refine aw_iconst (pc := 36) hX 0 (by decide) dX13_strangers_36 ?_
      exact w_X13_strangers_37 hX hN hr _ _ hc he0 h v2 r3 v2 0 hy
    · have hy := hy.f hc9
      refine aw_iconst (pc := 32) hX 1 (by decide) dX13_strangers_32 ?_
      refine aw_goto (pc := 33) hX 37 (by decide) dX13_strangers_33 ?_
      exact w_X13_strangers_37 hX hN hr _ _ hc he0 h v2 r3 v2 1 hy
theorem wl_X13_strangers_10 {G : GE} {X : CX} {l : Launch} (hX : Ok G X cX13_strangers RX13) (hN : xn X = 5) {P0 : Mem → Prop} (hr : Rt G X l yX13_strangers none rm_X13_strangers (pmV P0)) (v0 : Nat) (v1 : Int32) {P : (Mem) → Prop} (he0 : ∀ e, P e → AW G X 79 [(0, vR v0), (1, vI v1)] [] e 0 0) : ∀ (n : Nat) (s : Int32 × Mem), OK (iter (fun (s : Int32 × Mem) => b_X13_strangers_10 s.2 v0 v1 s.1) n s) P → AW G X 10 [(0, vR v0), (1, vI v1), (2, vI s.1)] [] s.2 0 0 := by
  intro n
  induction n with
  | zero => exact fun s hy => hy.it0.elim
  | succ n ih =>
    intro s hy
    exact wb_X13_strangers_10 hX hN hr v0 v1 (fun s hs => ih s hs) (fun e hs => he0 e hs) s.2 s.1 hy.it
def f_X13_strangers_200 (h : Mem) (v0 : Nat) (v1 : Int32) (v2 : Int32) (v3 : Int32) (v4 : Int32) : Option ((Int32 × Mem) ⊕ Mem) :=
  some (.inl ((v4 + 1), h))
set_option maxRecDepth 100000 in
set_option maxHeartbeats 4000000 in
theorem w_X13_strangers_200 {G : GE} {X : CX} {l : Launch} (hX : Ok G X cX13_strangers RX13) (hN : xn X = 5) {P0 : Mem → Prop} (hr : Rt G X l yX13_strangers none rm_X13_strangers (pmV P0))  (v0 : Nat) (v1 : Int32) (v2 : Int32) (v3 : Int32) {P : ((Int32 × Mem) ⊕ Mem) → Prop} (hc : ∀ s, P (.inl s) → AW G X 102 [(0, vR v0), (1, vI v1), (2, vI v2), (3, vI v3), (4, vI s.1)] [] s.2 0 0) (he0 : ∀ e, P (.inr e) → AW G X 206 [(0, vR v0), (1, vI v1), (2, vI v2), (3, vI v3)] [] e 0 0) (h : Mem) (v4 : Int32) (hy : OK (f_X13_strangers_200 h v0 v1 v2 v3 v4) P) : AW G X 200 [(0, vR v0), (1, vI v1), (2, vI v2), (3, vI v3), (4, vI v4)] [] h 0 0 := by
  unfold f_X13_strangers_200 at hy
  refine aw_iinc (pc := 200) hX 1 (by decide) 4 rfl [(4, vI (v4 + 1)), (0, vR v0), (1, vI v1), (2, vI v2), (3, vI v3)] rfl (lt_n hN (by decide)) dX13_strangers_200 ?_
  refine aw_goto (pc := 203) hX 102 (by decide) dX13_strangers_203 ?_
  refine AW.sub [1, 2, 3, 4, 0] rfl ?_
  exact hc ((v4 + 1), h) hy.s
def f_X13_strangers_153 (h : Mem) (v0 : Nat) (v1 : Int32) (v2 : Int32) (v3 : Int32) (v4 : Int32) : Option ((Int32 × Mem) ⊕ Mem) :=
  (f_X13_isHeard h v0 v3 v4 ((v1 - 1) - v2)).bind fun x17 => (if x17 = 0 then f_X13_strangers_200 h v0 v1 v2 v3 v4 else (gR h v0 34 11).bind fun r18 => (aI h r18 ((7 * ((v1 - 1) - v2)) + v3)).bind fun x19 => (gR h v0 34 11).bind fun r20 => (aI h r20 ((7 * (v1 - v2)) + v4)).bind fun x21 => (sI h r18 ((7 * ((v1 - 1) - v2)) + v3) (x19 + x21)).bind fun h22 => f_X13_strangers_200 h22 v0 v1 v2 v3 v4)
set_option maxRecDepth 100000 in
set_option maxHeartbeats 4000000 in
theorem w_X13_strangers_153 {G : GE} {X : CX} {l : Launch} (hX : Ok G X cX13_strangers RX13) (hN : xn X = 5) {P0 : Mem → Prop} (hr : Rt G X l yX13_strangers none rm_X13_strangers (pmV P0))  (v0 : Nat) (v1 : Int32) (v2 : Int32) (v3 : Int32) {P : ((Int32 × Mem) ⊕ Mem) → Prop} (hc : ∀ s, P (.inl s) → AW G X 102 [(0, vR v0), (1, vI v1), (2, vI v2), (3, vI v3), (4, vI s.1)] [] s.2 0 0) (he0 : ∀ e, P (.inr e) → AW G X 206 [(0, vR v0), (1, vI v1), (2, vI v2), (3, vI v3)] [] e 0 0) (h : Mem) (v4 : Int32) (hy : OK (f_X13_strangers_153 h v0 v1 v2 v3 v4) P) : AW G X 153 [(0, vR v0), (1, vI v1), (2, vI v2), (3, vI v3), (4, vI v4)] [] h 0 0 := by
  unfold f_X13_strangers_153 at hy
  refine aw_aloadn (pc := 153) hX 0 rfl dX13_strangers_153 ?_
  refine aw_iloadn (pc := 154) hX 3 rfl dX13_strangers_154 ?_
  refine aw_iload (pc := 155) hX 4 rfl dX13_strangers_155 ?_
  refine aw_iloadn (pc := 157) hX 1 rfl dX13_strangers_157 ?_
  refine aw_iconst (pc := 158) hX 1 (by decide) dX13_strangers_158 ?_
  refine aw_isub (pc := 159) hX dX13_strangers_159 ?_
  refine aw_iloadn (pc := 160) hX 2 rfl dX13_strangers_160 ?_
  refine aw_isub (pc := 161) hX dX13_strangers_161 ?_
  refine aw_callV (pc := 162) (st := []) (a := v0) hX [vI v3, vI v4, vI ((v1 - 1) - v2)] (con_X13_isHeard _ G _ v0 v3 v4 ((v1 - 1) - v2) hy.bd) mc_X13_isHeard ml_X13_472 im_X13_isHeard se_X13_isHeard (by decide) hy.bd.kd rfl (rm_of hr (by decide)) (Nat.le_of_ble_eq_true rfl) rfl dX13_strangers_162 (kpI rfl rfl (fun x17 hy => ?_))
  refine aw_if_eq (pc := 165) hX 200 (by decide) dX13_strangers_165 (fun hc9 => ?_) (fun hc9 => ?_)
  · have hy := hy.t hc9
    exact w_X13_strangers_200 hX hN hr _ _ _ _ hc he0 h v4 hy
  · have hy := hy.f hc9
    refine aw_aloadn (pc := 168) hX 0 rfl dX13_strangers_168 ?_
    refine aw_gR (pc := 169) hX hy fl_X13_48 (fun _ _ => rfl) dX13_strangers_169 (fun r18 hy => ?_)
    refine aw_bipush (pc := 172) hX 7 (by decide) dX13_strangers_172 ?_
    refine aw_iloadn (pc := 174) hX 1 rfl dX13_strangers_174 ?_
    refine aw_iconst (pc := 175) hX 1 (by decide) dX13_strangers_175 ?_
    refine aw_isub (pc := 176) hX dX13_strangers_176 ?_
    refine aw_iloadn (pc := 177) hX 2 rfl dX13_strangers_177 ?_
    refine aw_isub (pc := 178) hX dX13_strangers_178 ?_
    refine aw_imul (pc := 179) hX dX13_strangers_179 ?_
    refine aw_iloadn (pc := 180) hX 3 rfl dX13_strangers_180 ?_
    refine aw_iadd (pc := 181) hX dX13_strangers_181 ?_
    refine aw_dup2 (pc := 182) hX rfl rfl dX13_strangers_182 ?_
    refine aw_aI (pc := 183) hX hy dX13_strangers_183 (fun x19 hy => ?_)
    refine aw_aloadn (pc := 184) hX 0 rfl dX13_strangers_184 ?_
    refine aw_gR (pc := 185) hX hy fl_X13_48 (fun _ _ => rfl) dX13_strangers_185 (fun r20 hy => ?_)
    refine aw_bipush (pc := 188) hX 7 (by decide) dX13_strangers_188 ?_
    refine aw_iloadn (pc := 190) hX 1 rfl dX13_strangers_190 ?_
    refine aw_iloadn (pc := 191) hX 2 rfl dX13_strangers_191 ?_
    refine aw_isub (pc := 192) hX dX13_strangers_192 ?_
    refine aw_imul (pc := 193) hX dX13_strangers_193 ?_
    refine aw_iload (pc := 194) hX 4 rfl dX13_strangers_194 ?_
    refine aw_iadd (pc := 196) hX dX13_strangers_196 ?_
    refine aw_aI (pc := 197) hX hy dX13_strangers_197 (fun x21 hy => ?_)
    refine aw_iadd (pc := 198) hX dX13_strangers_198 ?_
    refine aw_sI (pc := 199) hX hy dX13_strangers_199 (fun h22 hy => ?_)
    exact w_X13_strangers_200 hX hN hr _ _ _ _ hc he0 h22 v4 hy
def b_X13_strangers_102 (h : Mem) (v0 : Nat) (v1 : Int32) (v2 : Int32) (v3 : Int32) (v4 : Int32) : Option ((Int32 × Mem) ⊕ Mem) :=
  (gR h v0 3 11).bind fun r14 => (gI h r14 2 10).bind fun x15 => (if x15 ≤ v4 then some (.inr h) else (f_X13_isHeard h v0 v3 v4 v2).bind fun x16 => (if x16 = 0 then f_X13_strangers_153 h v0 v1 v2 v3 v4 else (gR h v0 33 11).bind fun r23 => (aI h r23 ((7 * (v2 + 1)) + v4)).bind fun x24 => (gR h v0 33 11).bind fun r25 => (aI h r25 ((7 * v2) + v3)).bind fun x26 => (sI h r23 ((7 * (v2 + 1)) + v4) (x24 + x26)).bind fun h27 => f_X13_strangers_153 h27 v0 v1 v2 v3 v4))
set_option maxRecDepth 100000 in
set_option maxHeartbeats 4000000 in
theorem wb_X13_strangers_102 {G : GE} {X : CX} {l : Launch} (hX : Ok G X cX13_strangers RX13) (hN : xn X = 5) {P0 : Mem → Prop} (hr : Rt G X l yX13_strangers none rm_X13_strangers (pmV P0))  (v0 : Nat) (v1 : Int32) (v2 : Int32) (v3 : Int32) {P : ((Int32 × Mem) ⊕ Mem) → Prop} (hc : ∀ s, P (.inl s) → AW G X 102 [(0, vR v0), (1, vI v1), (2, vI v2), (3, vI v3), (4, vI s.1)] [] s.2 0 0) (he0 : ∀ e, P (.inr e) → AW G X 206 [(0, vR v0), (1, vI v1), (2, vI v2), (3, vI v3)] [] e 0 0) (h : Mem) (v4 : Int32) (hy : OK (b_X13_strangers_102 h v0 v1 v2 v3 v4) P) : AW G X 102 [(0, vR v0), (1, vI v1), (2, vI v2), (3, vI v3), (4, vI v4)] [] h 0 0 := by
  unfold b_X13_strangers_102 at hy
  refine aw_iload (pc := 102) hX 4 rfl dX13_strangers_102 ?_
  refine aw_aloadn (pc := 104) hX 0 rfl dX13_strangers_104 ?_
  refine aw_gR (pc := 105) hX hy fl_X13_338 (fun _ _ => rfl) dX13_strangers_105 (fun r14 hy => ?_)
  refine aw_gI (pc := 108) hX hy fl_X13_197 (fun _ _ => rfl) dX13_strangers_108 (fun x15 hy => ?_)
  refine aw_ic_ge (pc := 111) hX 206 (by decide) dX13_strangers_111 (fun hc9 => ?_) (fun hc9 => ?_)
  · have hy := hy.t hc9
    refine AW.sub [0, 1, 2, 3] rfl ?_
    exact he0 h hy.s
  · have hy := hy.f hc9
    refine aw_aloadn (pc := 114) hX 0 rfl dX13_strangers_114 ?_
    refine aw_iloadn (pc := 115) hX 3 rfl dX13_strangers_115 ?_
    refine aw_iload (pc := 116) hX 4 rfl dX13_strangers_116 ?_
    refine aw_iloadn (pc := 118) hX 2 rfl dX13_strangers_118 ?_
    refine aw_callV (pc := 119) (st := []) (a := v0) hX [vI v3, vI v4, vI v2] (con_X13_isHeard _ G _ v0 v3 v4 v2 hy.bd) mc_X13_isHeard ml_X13_472 im_X13_isHeard se_X13_isHeard (by decide) hy.bd.kd rfl (rm_of hr (by decide)) (Nat.le_of_ble_eq_true rfl) rfl dX13_strangers_119 (kpI rfl rfl (fun x16 hy => ?_))
    refine aw_if_eq (pc := 122) hX 153 (by decide) dX13_strangers_122 (fun hc9 => ?_) (fun hc9 => ?_)
    · have hy := hy.t hc9
      exact w_X13_strangers_153 hX hN hr _ _ _ _ hc he0 h v4 hy
    · have hy := hy.f hc9
      refine aw_aloadn (pc := 125) hX 0 rfl dX13_strangers_125 ?_
      refine aw_gR (pc := 126) hX hy fl_X13_45 (fun _ _ => rfl) dX13_strangers_126 (fun r23 hy => ?_)
      refine aw_bipush (pc := 129) hX 7 (by decide) dX13_strangers_129 ?_
      refine aw_iloadn (pc := 131) hX 2 rfl dX13_strangers_131 ?_
      refine aw_iconst (pc := 132) hX 1 (by decide) dX13_strangers_132 ?_
      refine aw_iadd (pc := 133) hX dX13_strangers_133 ?_
      refine aw_imul (pc := 134) hX dX13_strangers_134 ?_
      refine aw_iload (pc := 135) hX 4 rfl dX13_strangers_135 ?_
      refine aw_iadd (pc := 137) hX dX13_strangers_137 ?_
      refine aw_dup2 (pc := 138) hX rfl rfl dX13_strangers_138 ?_
      refine aw_aI (pc := 139) hX hy dX13_strangers_139 (fun x24 hy => ?_)
      refine aw_aloadn (pc := 140) hX 0 rfl dX13_strangers_140 ?_
      refine aw_gR (pc := 141) hX hy fl_X13_45 (fun _ _ => rfl) dX13_strangers_141 (fun r25 hy => ?_)
      refine aw_bipush (pc := 144) hX 7 (by decide) dX13_strangers_144 ?_
      refine aw_iloadn (pc := 146) hX 2 rfl dX13_strangers_146 ?_
      refine aw_imul (pc := 147) hX dX13_strangers_147 ?_
      refine aw_iloadn (pc := 148) hX 3 rfl dX13_strangers_148 ?_
      refine aw_iadd (pc := 149) hX dX13_strangers_149 ?_
      refine aw_aI (pc := 150) hX hy dX13_strangers_150 (fun x26 hy => ?_)
      refine aw_iadd (pc := 151) hX dX13_strangers_151 ?_
      refine aw_sI (pc := 152) hX hy dX13_strangers_152 (fun h27 hy => ?_)
      exact w_X13_strangers_153 hX hN hr _ _ _ _ hc he0 h27 v4 hy
theorem wl_X13_strangers_102 {G : GE} {X : CX} {l : Launch} (hX : Ok G X cX13_strangers RX13) (hN : xn X = 5) {P0 : Mem → Prop} (hr : Rt G X l yX13_strangers none rm_X13_strangers (pmV P0)) (v0 : Nat) (v1 : Int32) (v2 : Int32) (v3 : Int32) {P : (Mem) → Prop} (he0 : ∀ e, P e → AW G X 206 [(0, vR v0), (1, vI v1), (2, vI v2), (3, vI v3)] [] e 0 0) : ∀ (n : Nat) (s : Int32 × Mem), OK (iter (fun (s : Int32 × Mem) => b_X13_strangers_102 s.2 v0 v1 v2 v3 s.1) n s) P → AW G X 102 [(0, vR v0), (1, vI v1), (2, vI v2), (3, vI v3), (4, vI s.1)] [] s.2 0 0 := by
  intro n
  induction n with
  | zero => exact fun s hy => hy.it0.elim
  | succ n ih =>
    intro s hy
    exact wb_X13_strangers_102 hX hN hr v0 v1 v2 v3 (fun s hs => ih s hs) (fun e hs => he0 e hs) s.2 s.1 hy.it
def b_X13_strangers_88 (h : Mem) (v0 : Nat) (v1 : Int32) (v2 : Int32) (v3 : Int32) : Option ((Int32 × Mem) ⊕ Mem) :=
  (gR h v0 3 11).bind fun r12 => (gI h r12 2 10).bind fun x13 => (if x13 ≤ v3 then some (.inr h) else (iter (fun (s : Int32 × Mem) => b_X13_strangers_102 s.2 v0 v1 v2 v3 s.1) FU (0, h)).bind (fun q28 => some (.inl ((v3 + 1), q28))))
set_option maxRecDepth 100000 in
set_option maxHeartbeats 4000000 in
theorem wb_X13_strangers_88 {G : GE} {X : CX} {l : Launch} (hX : Ok G X cX13_strangers RX13) (hN : xn X = 5) {P0 : Mem → Prop} (hr : Rt G X l yX13_strangers none rm_X13_strangers (pmV P0))  (v0 : Nat) (v1 : Int32) (v2 : Int32) {P : ((Int32 × Mem) ⊕ Mem) → Prop} (hc : ∀ s, P (.inl s) → AW G X 88 [(0, vR v0), (1, vI v1), (2, vI v2), (3, vI s.1)] [] s.2 0 0) (he0 : ∀ e, P (.inr e) → AW G X 212 [(0, vR v0), (1, vI v1), (2, vI v2)] [] e 0 0) (h : Mem) (v3 : Int32) (hy : OK (b_X13_strangers_88 h v0 v1 v2 v3) P) : AW G X 88 [(0, vR v0), (1, vI v1), (2, vI v2), (3, vI v3)] [] h 0 0 := by
  unfold b_X13_strangers_88 at hy
  refine aw_iloadn (pc := 88) hX 3 rfl dX13_strangers_88 ?_
  refine aw_aloadn (pc := 89) hX 0 rfl dX13_strangers_89 ?_
  refine aw_gR (pc := 90) hX hy fl_X13_338 (fun _ _ => rfl) dX13_strangers_90 (fun r12 hy => ?_)
  refine aw_gI (pc := 93) hX hy fl_X13_197 (fun _ _ => rfl) dX13_strangers_93 (fun x13 hy => ?_)
  refine aw_ic_ge (pc := 96) hX 212 (by decide) dX13_strangers_96 (fun hc9 => ?_) (fun hc9 => ?_)
  · have hy := hy.t hc9
    refine AW.sub [0, 1, 2] rfl ?_
    exact he0 h hy.s
  · have hy := hy.f hc9
    refine aw_iconst (pc := 99) hX 0 (by decide) dX13_strangers_99 ?_
    refine aw_istore (pc := 100) hX [(4, vI 0), (0, vR v0), (1, vI v1), (2, vI v2), (3, vI v3)] rfl (lt_n hN (by decide)) dX13_strangers_100 ?_
    refine AW.sub [1, 2, 3, 4, 0] rfl ?_
    refine wl_X13_strangers_102 hX hN hr v0 v1 v2 v3 ?_ FU (0, h) hy.bd
    · intro q28 hy
      refine aw_iinc (pc := 206) hX 1 (by decide) 3 rfl [(3, vI (v3 + 1)), (0, vR v0), (1, vI v1), (2, vI v2)] rfl (lt_n hN (by decide)) dX13_strangers_206 ?_
      refine aw_goto (pc := 209) hX 88 (by decide) dX13_strangers_209 ?_
      refine AW.sub [1, 2, 3, 0] rfl ?_
      exact hc ((v3 + 1), q28) hy.s
theorem wl_X13_strangers_88 {G : GE} {X : CX} {l : Launch} (hX : Ok G X cX13_strangers RX13) (hN : xn X = 5) {P0 : Mem → Prop} (hr : Rt G X l yX13_strangers none rm_X13_strangers (pmV P0)) (v0 : Nat) (v1 : Int32) (v2 : Int32) {P : (Mem) → Prop} (he0 : ∀ e, P e → AW G X 212 [(0, vR v0), (1, vI v1), (2, vI v2)] [] e 0 0) : ∀ (n : Nat) (s : Int32 × Mem), OK (iter (fun (s : Int32 × Mem) => b_X13_strangers_88 s.2 v0 v1 v2 s.1) n s) P → AW G X 88 [(0, vR v0), (1, vI v1), (2, vI v2), (3, vI s.1)] [] s.2 0 0 := by
  intro n
  induction n with
  | zero => exact fun s hy => hy.it0.elim
  | succ n ih =>
    intro s hy
    exact wb_X13_strangers_88 hX hN hr v0 v1 v2 (fun s hs => ih s hs) (fun e hs => he0 e hs) s.2 s.1 hy.it
def b_X13_strangers_81 (h : Mem) (v0 : Nat) (v1 : Int32) (v2 : Int32) : Option ((Int32 × Mem) ⊕ Mem) :=
  (if v1 ≤ v2 then some (.inr h) else (iter (fun (s : Int32 × Mem) => b_X13_strangers_88 s.2 v0 v1 v2 s.1) FU (0, h)).bind (fun q29 => some (.inl ((v2 + 1), q29))))
set_option maxRecDepth 100000 in
set_option maxHeartbeats 4000000 in
theorem wb_X13_strangers_81 {G : GE} {X : CX} {l : Launch} (hX : Ok G X cX13_strangers RX13) (hN : xn X = 5) {P0 : Mem → Prop} (hr : Rt G X l yX13_strangers none rm_X13_strangers (pmV P0))  (v0 : Nat) (v1 : Int32) {P : ((Int32 × Mem) ⊕ Mem) → Prop} (hc : ∀ s, P (.inl s) → AW G X 81 [(0, vR v0), (1, vI v1), (2, vI s.1)] [] s.2 0 0) (he0 : ∀ e, P (.inr e) → AW G X 218 [(0, vR v0)] [] e 0 0) (h : Mem) (v2 : Int32) (hy : OK (b_X13_strangers_81 h v0 v1 v2) P) : AW G X 81 [(0, vR v0), (1, vI v1), (2, vI v2)] [] h 0 0 := by
  unfold b_X13_strangers_81 at hy
  refine aw_iloadn (pc := 81) hX 2 rfl dX13_strangers_81 ?_
  refine aw_iloadn (pc := 82) hX 1 rfl dX13_strangers_82 ?_
  refine aw_ic_ge (pc := 83) hX 218 (by decide) dX13_strangers_83 (fun hc9 => ?_) (fun hc9 => ?_)
  · have hy := hy.t hc9
    refine AW.sub [0] rfl ?_
    exact he0 h hy.s
  · have hy := hy.f hc9
    refine aw_iconst (pc := 86) hX 0 (by decide) dX13_strangers_86 ?_
    refine aw_istoren (pc := 87) hX [(3, vI 0), (0, vR v0), (1, vI v1), (2, vI v2)] rfl (lt_n hN (by decide)) dX13_strangers_87 ?_
    refine AW.sub [1, 2, 3, 0] rfl ?_
    refine wl_X13_strangers_88 hX hN hr v0 v1 v2 ?_ FU (0, h) hy.bd
    · intro q29 hy
      refine aw_iinc (pc := 212) hX 1 (by decide) 2 rfl [(2, vI (v2 + 1)), (0, vR v0), (1, vI v1)] rfl (lt_n hN (by decide)) dX13_strangers_212 ?_
      refine aw_goto (pc := 215) hX 81 (by decide) dX13_strangers_215 ?_
      refine AW.sub [1, 2, 0] rfl ?_
      exact hc ((v2 + 1), q29) hy.s
theorem wl_X13_strangers_81 {G : GE} {X : CX} {l : Launch} (hX : Ok G X cX13_strangers RX13) (hN : xn X = 5) {P0 : Mem → Prop} (hr : Rt G X l yX13_strangers none rm_X13_strangers (pmV P0)) (v0 : Nat) (v1 : Int32) {P : (Mem) → Prop} (he0 : ∀ e, P e → AW G X 218 [(0, vR v0)] [] e 0 0) : ∀ (n : Nat) (s : Int32 × Mem), OK (iter (fun (s : Int32 × Mem) => b_X13_strangers_81 s.2 v0 v1 s.1) n s) P → AW G X 81 [(0, vR v0), (1, vI v1), (2, vI s.1)] [] s.2 0 0 := by
  intro n
  induction n with
  | zero => exact fun s hy => hy.it0.elim
  | succ n ih =>
    intro s hy
    exact wb_X13_strangers_81 hX hN hr v0 v1 (fun s hs => ih s hs) (fun e hs => he0 e hs) s.2 s.1 hy.it
def b_X13_strangers_225 (h : Mem) (v0 : Nat) (v2 : Int32) : Option ((Int32 × Mem) ⊕ Mem) :=
  (gR h v0 3 11).bind fun r32 => (gI h r32 2 10).bind fun x33 => (if x33 ≤ v2 then some (.inr h) else (gI h v0 35 11).bind fun x34 => (gR h v0 34 11).bind fun r35 => (aI h r35 v2).bind fun x36 => (pI h v0 35 11 (x34 + x36)).bind fun h37 => some (.inl ((v2 + 1), h37)))
set_option maxRecDepth 100000 in
set_option maxHeartbeats 4000000 in
theorem wb_X13_strangers_225 {G : GE} {X : CX} {l : Launch} (hX : Ok G X cX13_strangers RX13) (hN : xn X = 5) {P0 : Mem → Prop} (hr : Rt G X l yX13_strangers none rm_X13_strangers (pmV P0))  (v0 : Nat) {P : ((Int32 × Mem) ⊕ Mem) → Prop} (hc : ∀ s, P (.inl s) → AW G X 225 [(0, vR v0), (2, vI s.1)] [] s.2 0 0) (he0 : ∀ e, P (.inr e) → AW G X 257 [] [] e 0 0) (h : Mem) (v2 : Int32) (hy : OK (b_X13_strangers_225 h v0 v2) P) : AW G X 225 [(0, vR v0), (2, vI v2)] [] h 0 0 := by
  unfold b_X13_strangers_225 at hy
  refine aw_iloadn (pc := 225) hX 1 rfl dX13_strangers_225 ?_
  refine aw_aloadn (pc := 226) hX 0 rfl dX13_strangers_226 ?_
  refine aw_gR (pc := 227) hX hy fl_X13_338 (fun _ _ => rfl) dX13_strangers_227 (fun r32 hy => ?_)
  refine aw_gI (pc := 230) hX hy fl_X13_197 (fun _ _ => rfl) dX13_strangers_230 (fun x33 hy => ?_)
  refine aw_ic_ge (pc := 233) hX 257 (by decide) dX13_strangers_233 (fun hc9 => ?_) (fun hc9 => ?_)
  · have hy := hy.t hc9
    refine AW.sub [] rfl ?_
    exact he0 h hy.s
  · have hy := hy.f hc9
    refine aw_aloadn (pc := 236) hX 0 rfl dX13_strangers_236 ?_
    refine aw_dup (pc := 237) hX rfl dX13_strangers_237 ?_
    refine aw_gI (pc := 238) hX hy fl_X13_475 (fun _ _ => rfl) dX13_strangers_238 (fun x34 hy => ?_)
    refine aw_aloadn (pc := 241) hX 0 rfl dX13_strangers_241 ?_
    refine aw_gR (pc := 242) hX hy fl_X13_48 (fun _ _ => rfl) dX13_strangers_242 (fun r35 hy => ?_)
    refine aw_iloadn (pc := 245) hX 1 rfl dX13_strangers_245 ?_
    refine aw_aI (pc := 246) hX hy dX13_strangers_246 (fun x36 hy => ?_)
    refine aw_iadd (pc := 247) hX dX13_strangers_247 ?_
    refine aw_pI (pc := 248) hX hy fl_X13_475 rfl (Or.inl rfl) dX13_strangers_248 (fun h37 hy => ?_)
    refine aw_iinc (pc := 251) hX 1 (by decide) 1 rfl [(2, vI (v2 + 1)), (0, vR v0)] rfl (lt_n hN (by decide)) dX13_strangers_251 ?_
    refine aw_goto (pc := 254) hX 225 (by decide) dX13_strangers_254 ?_
    refine AW.sub [1, 0] rfl ?_
    exact hc ((v2 + 1), h37) hy.s
theorem wl_X13_strangers_225 {G : GE} {X : CX} {l : Launch} (hX : Ok G X cX13_strangers RX13) (hN : xn X = 5) {P0 : Mem → Prop} (hr : Rt G X l yX13_strangers none rm_X13_strangers (pmV P0)) (v0 : Nat) {P : (Mem) → Prop} (he0 : ∀ e, P e → AW G X 257 [] [] e 0 0) : ∀ (n : Nat) (s : Int32 × Mem), OK (iter (fun (s : Int32 × Mem) => b_X13_strangers_225 s.2 v0 s.1) n s) P → AW G X 225 [(0, vR v0), (2, vI s.1)] [] s.2 0 0 := by
  intro n
  induction n with
  | zero => exact fun s hy => hy.it0.elim
  | succ n ih =>
    intro s hy
    exact wb_X13_strangers_225 hX hN hr v0 (fun s hs => ih s hs) (fun e hs => he0 e hs) s.2 s.1 hy.it
def f_X13_strangers (h : Mem) (v0 : Nat) : Option Mem :=
  (ck h v0 11).bind fun _ => (gR h v0 3 11).bind fun r1 => (gI h r1 8 10).bind fun x2 => (iter (fun (s : Int32 × Mem) => b_X13_strangers_10 s.2 v0 x2 s.1) FU (0, h)).bind (fun q11 => (iter (fun (s : Int32 × Mem) => b_X13_strangers_81 s.2 v0 x2 s.1) FU (0, q11)).bind (fun q30 => (pI q30 v0 35 11 0).bind fun h31 => (iter (fun (s : Int32 × Mem) => b_X13_strangers_225 s.2 v0 s.1) FU (0, h31)).bind (fun q38 => some q38)))
set_option maxRecDepth 100000 in
set_option maxHeartbeats 4000000 in
theorem w_X13_strangers {G : GE} {X : CX} {l : Launch} (hX : Ok G X cX13_strangers RX13) (hN : xn X = 5) {P : Mem → Prop} (hr : Rt G X l yX13_strangers none rm_X13_strangers (pmV P)) (h : Mem) (v0 : Nat) (hy : OK (f_X13_strangers h v0) P) : AW G X 0 [(0, vR v0)] [] h 0 0 := by
  unfold f_X13_strangers at hy
  have hkd := hy.kd
  have hy := hy.kb
  refine aw_aloadn (pc := 0) hX 0 rfl dX13_strangers_0 ?_
  refine aw_gR (pc := 1) hX hy fl_X13_338 (fun _ _ => rfl) dX13_strangers_1 (fun r1 hy => ?_)
  refine aw_gI (pc := 4) hX hy fl_X13_326 (fun _ _ => rfl) dX13_strangers_4 (fun x2 hy => ?_)
  refine aw_istoren (pc := 7) hX [(1, vI x2), (0, vR v0)] rfl (lt_n hN (by decide)) dX13_strangers_7 ?_
  refine aw_iconst (pc := 8) hX 0 (by decide) dX13_strangers_8 ?_
  refine aw_istoren (pc := 9) hX [(2, vI 0), (1, vI x2), (0, vR v0)] rfl (lt_n hN (by decide)) dX13_strangers_9 ?_
  refine AW.sub [2, 1, 0] rfl ?_
  refine wl_X13_strangers_10 hX hN hr v0 x2 ?_ FU (0, h) hy.bd
  · intro q11 hy
    refine aw_iconst (pc := 79) hX 0 (by decide) dX13_strangers_79 ?_
    refine aw_istoren (pc := 80) hX [(2, vI 0), (0, vR v0), (1, vI x2)] rfl (lt_n hN (by decide)) dX13_strangers_80 ?_
    refine AW.sub [1, 2, 0] rfl ?_
    refine wl_X13_strangers_81 hX hN hr v0 x2 ?_ FU (0, q11) hy.bd
    · intro q30 hy
      refine aw_aloadn (pc := 218) hX 0 rfl dX13_strangers_218 ?_
      refine aw_iconst (pc := 219) hX 0 (by decide) dX13_strangers_219 ?_
      refine aw_pI (pc := 220) hX hy fl_X13_475 rfl (Or.inl rfl) dX13_strangers_220 (fun h31 hy => ?_)
      refine aw_iconst (pc := 223) hX 0 (by decide) dX13_strangers_223 ?_
      refine aw_istoren (pc := 224) hX [(2, vI 0), (0, vR v0)] rfl (lt_n hN (by decide)) dX13_strangers_224 ?_
      refine AW.sub [1, 0] rfl ?_
      refine wl_X13_strangers_225 hX hN hr v0 ?_ FU (0, h31) hy.bd
      · intro q38 hy
        exact aw_vret (pc := 257) hX hr (by decide) (by decide) dX13_strangers_257 ⟨rfl, hy.s⟩
theorem con_X13_strangers (l : Launch) (G : GE) (h : Mem) (v0 : Nat) {P : Mem → Prop} (hy : OK (f_X13_strangers h v0) P) : Con l G yX13_strangers cX13_strangers 5 none rm_X13_strangers [vR v0] h (pmV P) := Con.of (by decide) (Nat.le_of_ble_eq_true rfl) (fun X hX hr hN => w_X13_strangers hX hN hr h v0 hy)
/-! X13_rowsBy -/
theorem dX13_rowsBy_0 : decode cX13_rowsBy 0 = .ok (.aload_n 0, 1) := by decide +kernel
theorem dX13_rowsBy_1 : decode cX13_rowsBy 1 = .ok (.getfield 45, 3) := by decide +kernel
theorem dX13_rowsBy_4 : decode cX13_rowsBy 4 = .ok (.bipush 7, 2) := by decide +kernel
theorem dX13_rowsBy_6 : decode cX13_rowsBy 6 = .ok (.iload_n 1, 1) := by decide +kernel
theorem dX13_rowsBy_7 : decode cX13_rowsBy 7 = .ok (.imul, 1) := by decide +kernel
theorem dX13_rowsBy_8 : decode cX13_rowsBy 8 = .ok (.iload_n 2, 1) := by decide +kernel
theorem dX13_rowsBy_9 : decode cX13_rowsBy 9 = .ok (.iadd, 1) := by decide +kernel
theorem dX13_rowsBy_10 : decode cX13_rowsBy 10 = .ok (.iaload, 1) := by decide +kernel
theorem dX13_rowsBy_11 : decode cX13_rowsBy 11 = .ok (.aload_n 0, 1) := by decide +kernel
theorem dX13_rowsBy_12 : decode cX13_rowsBy 12 = .ok (.getfield 48, 3) := by decide +kernel
theorem dX13_rowsBy_15 : decode cX13_rowsBy 15 = .ok (.bipush 7, 2) := by decide +kernel
theorem dX13_rowsBy_17 : decode cX13_rowsBy 17 = .ok (.iload_n 1, 1) := by decide +kernel
theorem dX13_rowsBy_18 : decode cX13_rowsBy 18 = .ok (.imul, 1) := by decide +kernel
theorem dX13_rowsBy_19 : decode cX13_rowsBy 19 = .ok (.iload_n 2, 1) := by decide +kernel
theorem dX13_rowsBy_20 : decode cX13_rowsBy 20 = .ok (.iadd, 1) := by decide +kernel
theorem dX13_rowsBy_21 : decode cX13_rowsBy 21 = .ok (.iaload, 1) := by decide +kernel
theorem dX13_rowsBy_22 : decode cX13_rowsBy 22 = .ok (.imul, 1) := by decide +kernel
theorem dX13_rowsBy_23 : decode cX13_rowsBy 23 = .ok (.ireturn, 1) := by decide +kernel
abbrev rm_X13_rowsBy : Room := { frames := 0, cells := 0, slots := 0, locals := 0 }
def f_X13_rowsBy (h : Mem) (v0 : Nat) (v1 : Int32) (v2 : Int32) : Option Int32 :=
  (ck h v0 11).bind fun _ => (gR h v0 33 11).bind fun r1 => (aI h r1 ((7 * v1) + v2)).bind fun x2 => (gR h v0 34 11).bind fun r3 => (aI h r3 ((7 * v1) + v2)).bind fun x4 => some (x2 * x4)
set_option maxRecDepth 100000 in
set_option maxHeartbeats 4000000 in
theorem w_X13_rowsBy {G : GE} {X : CX} {l : Launch} (hX : Ok G X cX13_rowsBy RX13) (hN : xn X = 3) (h : Mem) {P : Int32 → Prop} (hr : Rt G X l yX13_rowsBy (some .int) rm_X13_rowsBy (ppI h P)) (v0 : Nat) (v1 : Int32) (v2 : Int32) (hy : OK (f_X13_rowsBy h v0 v1 v2) P) : AW G X 0 [(0, vR v0), (1, vI v1), (2, vI v2)] [] h 0 0 := by
  unfold f_X13_rowsBy at hy
  have hkd := hy.kd
  have hy := hy.kb
  refine aw_aloadn (pc := 0) hX 0 rfl dX13_rowsBy_0 ?_
  refine aw_gR (pc := 1) hX hy fl_X13_45 (fun _ _ => rfl) dX13_rowsBy_1 (fun r1 hy => ?_)
  refine aw_bipush (pc := 4) hX 7 (by decide) dX13_rowsBy_4 ?_
  refine aw_iloadn (pc := 6) hX 1 rfl dX13_rowsBy_6 ?_
  refine aw_imul (pc := 7) hX dX13_rowsBy_7 ?_
  refine aw_iloadn (pc := 8) hX 2 rfl dX13_rowsBy_8 ?_
  refine aw_iadd (pc := 9) hX dX13_rowsBy_9 ?_
  refine aw_aI (pc := 10) hX hy dX13_rowsBy_10 (fun x2 hy => ?_)
  refine aw_aloadn (pc := 11) hX 0 rfl dX13_rowsBy_11 ?_
  refine aw_gR (pc := 12) hX hy fl_X13_48 (fun _ _ => rfl) dX13_rowsBy_12 (fun r3 hy => ?_)
  refine aw_bipush (pc := 15) hX 7 (by decide) dX13_rowsBy_15 ?_
  refine aw_iloadn (pc := 17) hX 1 rfl dX13_rowsBy_17 ?_
  refine aw_imul (pc := 18) hX dX13_rowsBy_18 ?_
  refine aw_iloadn (pc := 19) hX 2 rfl dX13_rowsBy_19 ?_
  refine aw_iadd (pc := 20) hX dX13_rowsBy_20 ?_
  refine aw_aI (pc := 21) hX hy dX13_rowsBy_21 (fun x4 hy => ?_)
  refine aw_imul (pc := 22) hX dX13_rowsBy_22 ?_
  exact aw_iret (pc := 23) hX hr (by decide) (by decide) dX13_rowsBy_23 ⟨rfl, _, rfl, hy.s⟩
theorem con_X13_rowsBy (l : Launch) (G : GE) (h : Mem) (v0 : Nat) (v1 : Int32) (v2 : Int32) {P : Int32 → Prop} (hy : OK (f_X13_rowsBy h v0 v1 v2) P) : Con l G yX13_rowsBy cX13_rowsBy 3 (some .int) rm_X13_rowsBy [vR v0, vI v1, vI v2] h (ppI h P) := Con.of (by decide) (Nat.le_of_ble_eq_true rfl) (fun X hX hr hN => w_X13_rowsBy hX hN h hr v0 v1 v2 hy)
/-! X13_rows -/
theorem dX13_rows_0 : decode cX13_rows 0 = .ok (.aload_n 0, 1) := by decide +kernel
theorem dX13_rows_1 : decode cX13_rows 1 = .ok (.iconst 0, 1) := by decide +kernel
theorem dX13_rows_2 : decode cX13_rows 2 = .ok (.putfield 51, 3) := by decide +kernel
theorem dX13_rows_5 : decode cX13_rows 5 = .ok (.aload_n 0, 1) := by decide +kernel
theorem dX13_rows_6 : decode cX13_rows 6 = .ok (.getfield 338, 3) := by decide +kernel
theorem dX13_rows_9 : decode cX13_rows 9 = .ok (.ifnonnull 9, 3) := by decide +kernel
theorem dX13_rows_12 : decode cX13_rows 12 = .ok (.aload_n 0, 1) := by decide +kernel
theorem dX13_rows_13 : decode cX13_rows 13 = .ok (.iconst 1, 1) := by decide +kernel
theorem dX13_rows_14 : decode cX13_rows 14 = .ok (.invokevirtual 57, 3) := by decide +kernel
theorem dX13_rows_17 : decode cX13_rows 17 = .ok (.ireturn, 1) := by decide +kernel
theorem dX13_rows_18 : decode cX13_rows 18 = .ok (.aload_n 0, 1) := by decide +kernel
theorem dX13_rows_19 : decode cX13_rows 19 = .ok (.invokevirtual 478, 3) := by decide +kernel
theorem dX13_rows_22 : decode cX13_rows 22 = .ok (.aload_n 0, 1) := by decide +kernel
theorem dX13_rows_23 : decode cX13_rows 23 = .ok (.aload_n 0, 1) := by decide +kernel
theorem dX13_rows_24 : decode cX13_rows 24 = .ok (.getfield 475, 3) := by decide +kernel
theorem dX13_rows_27 : decode cX13_rows 27 = .ok (.invokevirtual 61, 3) := by decide +kernel
theorem dX13_rows_30 : decode cX13_rows 30 = .ok (.ireturn, 1) := by decide +kernel
abbrev rm_X13_rows : Room := { frames := 3, cells := 0, slots := 0, locals := 69 }
def f_X13_rows (h : Mem) (v0 : Nat) : Option (Int32 × Mem) :=
  (ck h v0 11).bind fun _ => (pI h v0 0 11 0).bind fun h1 => (gR h1 v0 3 11).bind fun r2 => (if r2 = 0 then (f_X13_refused h1 v0 1).bind fun q10 => some (q10.1, q10.2) else (f_X13_strangers h1 v0).bind fun h3 => (gI h3 v0 35 11).bind fun x4 => (f_X13_good h3 v0 x4).bind fun q7 => some (q7.1, q7.2))
set_option maxRecDepth 100000 in
set_option maxHeartbeats 4000000 in
theorem w_X13_rows {G : GE} {X : CX} {l : Launch} (hX : Ok G X cX13_rows RX13) (hN : xn X = 1) {P : (Int32 × Mem) → Prop} (hr : Rt G X l yX13_rows (some .int) rm_X13_rows (pmI P)) (h : Mem) (v0 : Nat) (hy : OK (f_X13_rows h v0) P) : AW G X 0 [(0, vR v0)] [] h 0 0 := by
  unfold f_X13_rows at hy
  have hkd := hy.kd
  have hy := hy.kb
  refine aw_aloadn (pc := 0) hX 0 rfl dX13_rows_0 ?_
  refine aw_iconst (pc := 1) hX 0 (by decide) dX13_rows_1 ?_
  refine aw_pI (pc := 2) hX hy fl_X13_51 rfl (Or.inl rfl) dX13_rows_2 (fun h1 hy => ?_)
  refine aw_aloadn (pc := 5) hX 0 rfl dX13_rows_5 ?_
  refine aw_gR (pc := 6) hX hy fl_X13_338 (fun _ _ => rfl) dX13_rows_6 (fun r2 hy => ?_)
  refine aw_ifnonnull (pc := 9) hX 18 (by decide) dX13_rows_9 (fun hc9 => ?_) (fun hc9 => ?_)
  · have hy := hy.f hc9
    refine aw_aloadn (pc := 18) hX 0 rfl dX13_rows_18 ?_
    refine aw_callV (pc := 19) (st := []) (a := v0) hX [] (con_X13_strangers _ G _ v0 hy.bd) mc_X13_strangers ml_X13_478 im_X13_strangers se_X13_strangers (by decide) hy.bd.kd rfl (rm_of hr (by decide)) (Nat.le_of_ble_eq_true rfl) rfl dX13_rows_19 (kmV rfl rfl (fun h3 hy => ?_))
    refine aw_aloadn (pc := 22) hX 0 rfl dX13_rows_22 ?_
    refine aw_aloadn (pc := 23) hX 0 rfl dX13_rows_23 ?_
    refine aw_gI (pc := 24) hX hy fl_X13_475 (fun _ _ => rfl) dX13_rows_24 (fun x4 hy => ?_)
    refine aw_callV (pc := 27) (st := []) (a := v0) hX [vI x4] (con_X13_good _ G _ v0 x4 hy.bd) mc_X13_good ml_X13_61 im_X13_good se_X13_good (by decide) hy.bd.kd rfl (rm_of hr (by decide)) (Nat.le_of_ble_eq_true rfl) rfl dX13_rows_27 (kmI rfl rfl (fun q7 hy => ?_))
    exact aw_iret (pc := 30) hX hr (by decide) (by decide) dX13_rows_30 ⟨_, rfl, hy.s⟩
  · have hy := hy.t hc9
    refine aw_aloadn (pc := 12) hX 0 rfl dX13_rows_12 ?_
    refine aw_iconst (pc := 13) hX 1 (by decide) dX13_rows_13 ?_
    refine aw_callV (pc := 14) (st := []) (a := v0) hX [vI 1] (con_X13_refused _ G _ v0 1 hy.bd) mc_X13_refused ml_X13_57 im_X13_refused se_X13_refused (by decide) hy.bd.kd rfl (rm_of hr (by decide)) (Nat.le_of_ble_eq_true rfl) rfl dX13_rows_14 (kmI rfl rfl (fun q10 hy => ?_))
    exact aw_iret (pc := 17) hX hr (by decide) (by decide) dX13_rows_17 ⟨_, rfl, hy.s⟩
theorem con_X13_rows (l : Launch) (G : GE) (h : Mem) (v0 : Nat) {P : (Int32 × Mem) → Prop} (hy : OK (f_X13_rows h v0) P) : Con l G yX13_rows cX13_rows 1 (some .int) rm_X13_rows [vR v0] h (pmI P) := Con.of (by decide) (Nat.le_of_ble_eq_true rfl) (fun X hX hr hN => w_X13_rows hX hN hr h v0 hy)
