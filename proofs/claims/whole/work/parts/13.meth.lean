/-! X6_noteBehind -/
theorem dX6_noteBehind_0 : decode cX6_noteBehind 0 = .ok (.iload_n 2, 1) := by decide +kernel
theorem dX6_noteBehind_1 : decode cX6_noteBehind 1 = .ok (.istore 6, 2) := by decide +kernel
theorem dX6_noteBehind_3 : decode cX6_noteBehind 3 = .ok (.iload_n 3, 1) := by decide +kernel
theorem dX6_noteBehind_4 : decode cX6_noteBehind 4 = .ok (.istore 7, 2) := by decide +kernel
theorem dX6_noteBehind_6 : decode cX6_noteBehind 6 = .ok (.iload 4, 2) := by decide +kernel
theorem dX6_noteBehind_8 : decode cX6_noteBehind 8 = .ok (.istore 8, 2) := by decide +kernel
theorem dX6_noteBehind_10 : decode cX6_noteBehind 10 = .ok (.iload 5, 2) := by decide +kernel
theorem dX6_noteBehind_12 : decode cX6_noteBehind 12 = .ok (.istore 9, 2) := by decide +kernel
theorem dX6_noteBehind_14 : decode cX6_noteBehind 14 = .ok (.iconst 0, 1) := by decide +kernel
theorem dX6_noteBehind_15 : decode cX6_noteBehind 15 = .ok (.istore 10, 2) := by decide +kernel
theorem dX6_noteBehind_17 : decode cX6_noteBehind 17 = .ok (.iload 10, 2) := by decide +kernel
theorem dX6_noteBehind_19 : decode cX6_noteBehind 19 = .ok (.bipush 6, 2) := by decide +kernel
theorem dX6_noteBehind_21 : decode cX6_noteBehind 21 = .ok (.if_icmp .ge 87, 3) := by decide +kernel
theorem dX6_noteBehind_24 : decode cX6_noteBehind 24 = .ok (.iload 8, 2) := by decide +kernel
theorem dX6_noteBehind_26 : decode cX6_noteBehind 26 = .ok (.ifCond .lt 82, 3) := by decide +kernel
theorem dX6_noteBehind_29 : decode cX6_noteBehind 29 = .ok (.aload_n 0, 1) := by decide +kernel
theorem dX6_noteBehind_30 : decode cX6_noteBehind 30 = .ok (.aload_n 1, 1) := by decide +kernel
theorem dX6_noteBehind_31 : decode cX6_noteBehind 31 = .ok (.iload 7, 2) := by decide +kernel
theorem dX6_noteBehind_33 : decode cX6_noteBehind 33 = .ok (.iload 8, 2) := by decide +kernel
theorem dX6_noteBehind_35 : decode cX6_noteBehind 35 = .ok (.invokevirtual 73, 3) := by decide +kernel
theorem dX6_noteBehind_38 : decode cX6_noteBehind 38 = .ok (.istore 11, 2) := by decide +kernel
theorem dX6_noteBehind_40 : decode cX6_noteBehind 40 = .ok (.iload 9, 2) := by decide +kernel
theorem dX6_noteBehind_42 : decode cX6_noteBehind 42 = .ok (.iload 11, 2) := by decide +kernel
theorem dX6_noteBehind_44 : decode cX6_noteBehind 44 = .ok (.if_icmp .ge 23, 3) := by decide +kernel
theorem dX6_noteBehind_47 : decode cX6_noteBehind 47 = .ok (.aload_n 1, 1) := by decide +kernel
theorem dX6_noteBehind_48 : decode cX6_noteBehind 48 = .ok (.iload 8, 2) := by decide +kernel
theorem dX6_noteBehind_50 : decode cX6_noteBehind 50 = .ok (.aload_n 1, 1) := by decide +kernel
theorem dX6_noteBehind_51 : decode cX6_noteBehind 51 = .ok (.getfield 23, 3) := by decide +kernel
theorem dX6_noteBehind_54 : decode cX6_noteBehind 54 = .ok (.iload 8, 2) := by decide +kernel
theorem dX6_noteBehind_56 : decode cX6_noteBehind 56 = .ok (.iaload, 1) := by decide +kernel
theorem dX6_noteBehind_57 : decode cX6_noteBehind 57 = .ok (.iload 11, 2) := by decide +kernel
theorem dX6_noteBehind_59 : decode cX6_noteBehind 59 = .ok (.isub, 1) := by decide +kernel
theorem dX6_noteBehind_60 : decode cX6_noteBehind 60 = .ok (.iload 9, 2) := by decide +kernel
theorem dX6_noteBehind_62 : decode cX6_noteBehind 62 = .ok (.iadd, 1) := by decide +kernel
theorem dX6_noteBehind_63 : decode cX6_noteBehind 63 = .ok (.invokevirtual 36, 3) := by decide +kernel
theorem dX6_noteBehind_66 : decode cX6_noteBehind 66 = .ok (.ireturn, 1) := by decide +kernel
theorem dX6_noteBehind_67 : decode cX6_noteBehind 67 = .ok (.iload 9, 2) := by decide +kernel
theorem dX6_noteBehind_69 : decode cX6_noteBehind 69 = .ok (.iload 11, 2) := by decide +kernel
theorem dX6_noteBehind_71 : decode cX6_noteBehind 71 = .ok (.isub, 1) := by decide +kernel
theorem dX6_noteBehind_72 : decode cX6_noteBehind 72 = .ok (.istore 9, 2) := by decide +kernel
theorem dX6_noteBehind_74 : decode cX6_noteBehind 74 = .ok (.iload 6, 2) := by decide +kernel
theorem dX6_noteBehind_76 : decode cX6_noteBehind 76 = .ok (.iconst 1, 1) := by decide +kernel
theorem dX6_noteBehind_77 : decode cX6_noteBehind 77 = .ok (.iload 8, 2) := by decide +kernel
theorem dX6_noteBehind_79 : decode cX6_noteBehind 79 = .ok (.ishl, 1) := by decide +kernel
theorem dX6_noteBehind_80 : decode cX6_noteBehind 80 = .ok (.ior, 1) := by decide +kernel
theorem dX6_noteBehind_81 : decode cX6_noteBehind 81 = .ok (.istore 6, 2) := by decide +kernel
theorem dX6_noteBehind_83 : decode cX6_noteBehind 83 = .ok (.iload 8, 2) := by decide +kernel
theorem dX6_noteBehind_85 : decode cX6_noteBehind 85 = .ok (.istore 7, 2) := by decide +kernel
theorem dX6_noteBehind_87 : decode cX6_noteBehind 87 = .ok (.aload_n 0, 1) := by decide +kernel
theorem dX6_noteBehind_88 : decode cX6_noteBehind 88 = .ok (.getfield 20, 3) := by decide +kernel
theorem dX6_noteBehind_91 : decode cX6_noteBehind 91 = .ok (.iload 6, 2) := by decide +kernel
theorem dX6_noteBehind_93 : decode cX6_noteBehind 93 = .ok (.bipush 7, 2) := by decide +kernel
theorem dX6_noteBehind_95 : decode cX6_noteBehind 95 = .ok (.imul, 1) := by decide +kernel
theorem dX6_noteBehind_96 : decode cX6_noteBehind 96 = .ok (.iload 7, 2) := by decide +kernel
theorem dX6_noteBehind_98 : decode cX6_noteBehind 98 = .ok (.iadd, 1) := by decide +kernel
theorem dX6_noteBehind_99 : decode cX6_noteBehind 99 = .ok (.iaload, 1) := by decide +kernel
theorem dX6_noteBehind_100 : decode cX6_noteBehind 100 = .ok (.istore 8, 2) := by decide +kernel
theorem dX6_noteBehind_102 : decode cX6_noteBehind 102 = .ok (.iinc 10 1, 3) := by decide +kernel
theorem dX6_noteBehind_105 : decode cX6_noteBehind 105 = .ok (.goto (-88), 3) := by decide +kernel
theorem dX6_noteBehind_108 : decode cX6_noteBehind 108 = .ok (.iconst (-1), 1) := by decide +kernel
theorem dX6_noteBehind_109 : decode cX6_noteBehind 109 = .ok (.ireturn, 1) := by decide +kernel
abbrev rm_X6_noteBehind : Room := { frames := 1, cells := 0, slots := 0, locals := 23 }
def b_X6_noteBehind_17 (h : Mem) (v0 : Nat) (v1 : Nat) (v6 : Int32) (v7 : Int32) (v8 : Int32) (v9 : Int32) (v10 : Int32) : Option ((Int32 × Int32 × Int32 × Int32 × Int32) ⊕ ((Int32 × Int32 × Int32) ⊕ Unit)) :=
  (if 6 ≤ v10 then some (.inr (.inr ())) else (if v8 < 0 then some (.inr (.inr ())) else (f_X6_ownNotes h v0 v1 v7 v8).bind fun x1 => (if x1 ≤ v9 then (gR h v0 2 5).bind fun r2 => (aI h r2 (((v6 ||| ((1 : Int32) <<< (v8 &&& 31))) * 7) + v8)).bind fun x3 => some (.inl ((v6 ||| ((1 : Int32) <<< (v8 &&& 31))), v8, x3, (v9 - x1), (v10 + 1))) else some (.inr (.inl (v8, v9, x1))))))
set_option maxRecDepth 100000 in
set_option maxHeartbeats 4000000 in
theorem wb_X6_noteBehind_17 {G : GE} {X : CX} {l : Launch} (hX : Ok G X cX6_noteBehind RX6) (hN : xn X = 12) (h : Mem) {P0 : Int32 → Prop} (hr : Rt G X l yX6_noteBehind (some .int) rm_X6_noteBehind (ppI h P0))  (v0 : Nat) (v1 : Nat) {P : ((Int32 × Int32 × Int32 × Int32 × Int32) ⊕ ((Int32 × Int32 × Int32) ⊕ Unit)) → Prop} (hc : ∀ s, P (.inl s) → AW G X 17 [(0, vR v0), (1, vR v1), (6, vI s.1), (7, vI s.2.1), (8, vI s.2.2.1), (9, vI s.2.2.2.1), (10, vI s.2.2.2.2)] [] h 0 0) (he0 : ∀ e, P (.inr (.inl e)) → AW G X 47 [(1, vR v1), (8, vI e.1), (9, vI e.2.1), (11, vI e.2.2)] [] h 0 0) (he1 : ∀ e, P (.inr (.inr e)) → AW G X 108 [] [] h 0 0) (v6 : Int32) (v7 : Int32) (v8 : Int32) (v9 : Int32) (v10 : Int32) (hy : OK (b_X6_noteBehind_17 h v0 v1 v6 v7 v8 v9 v10) P) : AW G X 17 [(0, vR v0), (1, vR v1), (6, vI v6), (7, vI v7), (8, vI v8), (9, vI v9), (10, vI v10)] [] h 0 0 := by
  unfold b_X6_noteBehind_17 at hy
  refine aw_iload (pc := 17) hX 6 rfl dX6_noteBehind_17 ?_
  refine aw_bipush (pc := 19) hX 6 (by decide) dX6_noteBehind_19 ?_
  refine aw_ic_ge (pc := 21) hX 108 (by decide) dX6_noteBehind_21 (fun hc9 => ?_) (fun hc9 => ?_)
  · have hy := hy.t hc9
    refine AW.sub [] rfl ?_
    exact he1 () hy.s
  · have hy := hy.f hc9
    refine aw_iload (pc := 24) hX 4 rfl dX6_noteBehind_24 ?_
    refine aw_if_lt (pc := 26) hX 108 (by decide) dX6_noteBehind_26 (fun hc9 => ?_) (fun hc9 => ?_)
    · have hy := hy.t hc9
      refine AW.sub [] rfl ?_
      exact he1 () hy.s
    · have hy := hy.f hc9
      refine aw_aloadn (pc := 29) hX 0 rfl dX6_noteBehind_29 ?_
      refine aw_aloadn (pc := 30) hX 1 rfl dX6_noteBehind_30 ?_
      refine aw_iload (pc := 31) hX 3 rfl dX6_noteBehind_31 ?_
      refine aw_iload (pc := 33) hX 4 rfl dX6_noteBehind_33 ?_
      refine aw_callV (pc := 35) (st := []) (a := v0) hX [vR v1, vI v7, vI v8] (con_X6_ownNotes _ G _ v0 v1 v7 v8 hy.bd) mc_X6_ownNotes ml_X6_73 im_X6_ownNotes se_X6_ownNotes (by decide) hy.bd.kd rfl (rm_of hr (by decide)) (Nat.le_of_ble_eq_true rfl) rfl dX6_noteBehind_35 (kpI rfl rfl (fun x1 hy => ?_))
      refine aw_istore (pc := 38) hX [(11, vI x1), (0, vR v0), (1, vR v1), (6, vI v6), (7, vI v7), (8, vI v8), (9, vI v9), (10, vI v10)] rfl (lt_n hN (by decide)) dX6_noteBehind_38 ?_
      refine aw_iload (pc := 40) hX 6 rfl dX6_noteBehind_40 ?_
      refine aw_iload (pc := 42) hX 0 rfl dX6_noteBehind_42 ?_
      refine aw_ic_ge (pc := 44) hX 67 (by decide) dX6_noteBehind_44 (fun hc9 => ?_) (fun hc9 => ?_)
      · have hy := hy.t hc9
        refine aw_iload (pc := 67) hX 6 rfl dX6_noteBehind_67 ?_
        refine aw_iload (pc := 69) hX 0 rfl dX6_noteBehind_69 ?_
        refine aw_isub (pc := 71) hX dX6_noteBehind_71 ?_
        refine aw_istore (pc := 72) hX [(9, vI (v9 - x1)), (11, vI x1), (0, vR v0), (1, vR v1), (6, vI v6), (7, vI v7), (8, vI v8), (10, vI v10)] rfl (lt_n hN (by decide)) dX6_noteBehind_72 ?_
        refine aw_iload (pc := 74) hX 4 rfl dX6_noteBehind_74 ?_
        refine aw_iconst (pc := 76) hX 1 (by decide) dX6_noteBehind_76 ?_
        refine aw_iload (pc := 77) hX 6 rfl dX6_noteBehind_77 ?_
        refine aw_ishl (pc := 79) hX dX6_noteBehind_79 ?_
        refine aw_ior (pc := 80) hX dX6_noteBehind_80 ?_
        refine aw_istore (pc := 81) hX [(6, vI (v6 ||| ((1 : Int32) <<< (v8 &&& 31)))), (9, vI (v9 - x1)), (11, vI x1), (0, vR v0), (1, vR v1), (7, vI v7), (8, vI v8), (10, vI v10)] rfl (lt_n hN (by decide)) dX6_noteBehind_81 ?_
        refine aw_iload (pc := 83) hX 6 rfl dX6_noteBehind_83 ?_
        refine aw_istore (pc := 85) hX [(7, vI v8), (6, vI (v6 ||| ((1 : Int32) <<< (v8 &&& 31)))), (9, vI (v9 - x1)), (11, vI x1), (0, vR v0), (1, vR v1), (8, vI v8), (10, vI v10)] rfl (lt_n hN (by decide)) dX6_noteBehind_85 ?_
        refine aw_aloadn (pc := 87) hX 4 rfl dX6_noteBehind_87 ?_
        refine aw_gR (pc := 88) hX hy fl_X6_20 (fun _ _ => rfl) dX6_noteBehind_88 (fun r2 hy => ?_)
        refine aw_iload (pc := 91) hX 1 rfl dX6_noteBehind_91 ?_
        refine aw_bipush (pc := 93) hX 7 (by decide) dX6_noteBehind_93 ?_
        refine aw_imul (pc := 95) hX dX6_noteBehind_95 ?_
        refine aw_iload (pc := 96) hX 0 rfl dX6_noteBehind_96 ?_
        refine aw_iadd (pc := 98) hX dX6_noteBehind_98 ?_
        refine aw_aI (pc := 99) hX hy dX6_noteBehind_99 (fun x3 hy => ?_)
        refine aw_istore (pc := 100) hX [(8, vI x3), (7, vI v8), (6, vI (v6 ||| ((1 : Int32) <<< (v8 &&& 31)))), (9, vI (v9 - x1)), (11, vI x1), (0, vR v0), (1, vR v1), (10, vI v10)] rfl (lt_n hN (by decide)) dX6_noteBehind_100 ?_
        refine aw_iinc (pc := 102) hX 1 (by decide) 7 rfl [(10, vI (v10 + 1)), (8, vI x3), (7, vI v8), (6, vI (v6 ||| ((1 : Int32) <<< (v8 &&& 31)))), (9, vI (v9 - x1)), (11, vI x1), (0, vR v0), (1, vR v1)] rfl (lt_n hN (by decide)) dX6_noteBehind_102 ?_
        refine aw_goto (pc := 105) hX 17 (by decide) dX6_noteBehind_105 ?_
        refine AW.sub [6, 7, 3, 2, 1, 4, 0] rfl ?_
        exact hc ((v6 ||| ((1 : Int32) <<< (v8 &&& 31))), v8, x3, (v9 - x1), (v10 + 1)) hy.s
      · have hy := hy.f hc9
        refine AW.sub [2, 5, 6, 0] rfl ?_
        exact he0 (v8, v9, x1) hy.s
theorem wl_X6_noteBehind_17 {G : GE} {X : CX} {l : Launch} (hX : Ok G X cX6_noteBehind RX6) (hN : xn X = 12) (h : Mem) {P0 : Int32 → Prop} (hr : Rt G X l yX6_noteBehind (some .int) rm_X6_noteBehind (ppI h P0)) (v0 : Nat) (v1 : Nat) {P : ((Int32 × Int32 × Int32) ⊕ Unit) → Prop} (he0 : ∀ e, P (.inl e) → AW G X 47 [(1, vR v1), (8, vI e.1), (9, vI e.2.1), (11, vI e.2.2)] [] h 0 0) (he1 : ∀ e, P (.inr e) → AW G X 108 [] [] h 0 0) : ∀ (n : Nat) (s : Int32 × Int32 × Int32 × Int32 × Int32), OK (iter (fun (s : Int32 × Int32 × Int32 × Int32 × Int32) => b_X6_noteBehind_17 h v0 v1 s.1 s.2.1 s.2.2.1 s.2.2.2.1 s.2.2.2.2) n s) P → AW G X 17 [(0, vR v0), (1, vR v1), (6, vI s.1), (7, vI s.2.1), (8, vI s.2.2.1), (9, vI s.2.2.2.1), (10, vI s.2.2.2.2)] [] h 0 0 := by
  intro n
  induction n with
  | zero => exact fun s hy => hy.it0.elim
  | succ n ih =>
    intro s hy
    exact wb_X6_noteBehind_17 hX hN h hr v0 v1 (fun s hs => ih s hs) (fun e hs => he0 e hs) (fun e hs => he1 e hs) s.1 s.2.1 s.2.2.1 s.2.2.2.1 s.2.2.2.2 hy.it
def f_X6_noteBehind (h : Mem) (v0 : Nat) (v1 : Nat) (v2 : Int32) (v3 : Int32) (v4 : Int32) (v5 : Int32) : Option Int32 :=
  (ck h v0 5).bind fun _ => (iter (fun (s : Int32 × Int32 × Int32 × Int32 × Int32) => b_X6_noteBehind_17 h v0 v1 s.1 s.2.1 s.2.2.1 s.2.2.2.1 s.2.2.2.2) FU (v2, v3, v4, v5, 0)).bind (Sum.elim (fun e5 => (gR h v1 9 4).bind fun r6 => (aI h r6 e5.1).bind fun x7 => (f_X5_note h v1 e5.1 ((x7 - e5.2.2) + e5.2.1)).bind fun x8 => some x8) (fun e9 => some (-1)))
set_option maxRecDepth 100000 in
set_option maxHeartbeats 4000000 in
theorem w_X6_noteBehind {G : GE} {X : CX} {l : Launch} (hX : Ok G X cX6_noteBehind RX6) (hN : xn X = 12) (h : Mem) {P : Int32 → Prop} (hr : Rt G X l yX6_noteBehind (some .int) rm_X6_noteBehind (ppI h P)) (v0 : Nat) (v1 : Nat) (v2 : Int32) (v3 : Int32) (v4 : Int32) (v5 : Int32) (hy : OK (f_X6_noteBehind h v0 v1 v2 v3 v4 v5) P) : AW G X 0 [(0, vR v0), (1, vR v1), (2, vI v2), (3, vI v3), (4, vI v4), (5, vI v5)] [] h 0 0 := by
  unfold f_X6_noteBehind at hy
  have hkd := hy.kd
  have hy := hy.kb
  refine aw_iloadn (pc := 0) hX 2 rfl dX6_noteBehind_0 ?_
  refine aw_istore (pc := 1) hX [(6, vI v2), (0, vR v0), (1, vR v1), (2, vI v2), (3, vI v3), (4, vI v4), (5, vI v5)] rfl (lt_n hN (by decide)) dX6_noteBehind_1 ?_
  refine aw_iloadn (pc := 3) hX 4 rfl dX6_noteBehind_3 ?_
  refine aw_istore (pc := 4) hX [(7, vI v3), (6, vI v2), (0, vR v0), (1, vR v1), (2, vI v2), (3, vI v3), (4, vI v4), (5, vI v5)] rfl (lt_n hN (by decide)) dX6_noteBehind_4 ?_
  refine aw_iload (pc := 6) hX 6 rfl dX6_noteBehind_6 ?_
  refine aw_istore (pc := 8) hX [(8, vI v4), (7, vI v3), (6, vI v2), (0, vR v0), (1, vR v1), (2, vI v2), (3, vI v3), (4, vI v4), (5, vI v5)] rfl (lt_n hN (by decide)) dX6_noteBehind_8 ?_
  refine aw_iload (pc := 10) hX 8 rfl dX6_noteBehind_10 ?_
  refine aw_istore (pc := 12) hX [(9, vI v5), (8, vI v4), (7, vI v3), (6, vI v2), (0, vR v0), (1, vR v1), (2, vI v2), (3, vI v3), (4, vI v4), (5, vI v5)] rfl (lt_n hN (by decide)) dX6_noteBehind_12 ?_
  refine aw_iconst (pc := 14) hX 0 (by decide) dX6_noteBehind_14 ?_
  refine aw_istore (pc := 15) hX [(10, vI 0), (9, vI v5), (8, vI v4), (7, vI v3), (6, vI v2), (0, vR v0), (1, vR v1), (2, vI v2), (3, vI v3), (4, vI v4), (5, vI v5)] rfl (lt_n hN (by decide)) dX6_noteBehind_15 ?_
  refine AW.sub [5, 6, 4, 3, 2, 1, 0] rfl ?_
  refine wl_X6_noteBehind_17 hX hN _ hr v0 v1 ?_ ?_ FU (v2, v3, v4, v5, 0) hy.bd
  · intro e5 hy
    refine aw_aloadn (pc := 47) hX 0 rfl dX6_noteBehind_47 ?_
    refine aw_iload (pc := 48) hX 1 rfl dX6_noteBehind_48 ?_
    refine aw_aloadn (pc := 50) hX 0 rfl dX6_noteBehind_50 ?_
    refine aw_gR (pc := 51) hX hy fl_X6_23 (fun _ _ => rfl) dX6_noteBehind_51 (fun r6 hy => ?_)
    refine aw_iload (pc := 54) hX 1 rfl dX6_noteBehind_54 ?_
    refine aw_aI (pc := 56) hX hy dX6_noteBehind_56 (fun x7 hy => ?_)
    refine aw_iload (pc := 57) hX 3 rfl dX6_noteBehind_57 ?_
    refine aw_isub (pc := 59) hX dX6_noteBehind_59 ?_
    refine aw_iload (pc := 60) hX 2 rfl dX6_noteBehind_60 ?_
    refine aw_iadd (pc := 62) hX dX6_noteBehind_62 ?_
    refine aw_callV (pc := 63) (st := []) (a := v1) hX [vI e5.1, vI ((x7 - e5.2.2) + e5.2.1)] (con_X5_note _ G _ v1 e5.1 ((x7 - e5.2.2) + e5.2.1) hy.bd) mc_X5_note ml_X6_36 im_X5_note se_X5_note (by decide) hy.bd.kd rfl (rm_of hr (by decide)) (Nat.le_of_ble_eq_true rfl) rfl dX6_noteBehind_63 (kpI rfl rfl (fun x8 hy => ?_))
    exact aw_iret (pc := 66) hX hr (by decide) (by decide) dX6_noteBehind_66 ⟨rfl, _, rfl, hy.s⟩
  · intro e9 hy
    refine aw_iconst (pc := 108) hX (-1) (by decide) dX6_noteBehind_108 ?_
    exact aw_iret (pc := 109) hX hr (by decide) (by decide) dX6_noteBehind_109 ⟨rfl, _, rfl, hy.s⟩
theorem con_X6_noteBehind (l : Launch) (G : GE) (h : Mem) (v0 : Nat) (v1 : Nat) (v2 : Int32) (v3 : Int32) (v4 : Int32) (v5 : Int32) {P : Int32 → Prop} (hy : OK (f_X6_noteBehind h v0 v1 v2 v3 v4 v5) P) : Con l G yX6_noteBehind cX6_noteBehind 12 (some .int) rm_X6_noteBehind [vR v0, vR v1, vI v2, vI v3, vI v4, vI v5] h (ppI h P) := Con.of (by decide) (Nat.le_of_ble_eq_true rfl) (fun X hX hr hN => w_X6_noteBehind hX hN h hr v0 v1 v2 v3 v4 v5 hy)
/-! X6_isAhead -/
theorem dX6_isAhead_0 : decode cX6_isAhead 0 = .ok (.aload_n 0, 1) := by decide +kernel
theorem dX6_isAhead_1 : decode cX6_isAhead 1 = .ok (.getfield 20, 3) := by decide +kernel
theorem dX6_isAhead_4 : decode cX6_isAhead 4 = .ok (.iload_n 2, 1) := by decide +kernel
theorem dX6_isAhead_5 : decode cX6_isAhead 5 = .ok (.bipush 7, 2) := by decide +kernel
theorem dX6_isAhead_7 : decode cX6_isAhead 7 = .ok (.imul, 1) := by decide +kernel
theorem dX6_isAhead_8 : decode cX6_isAhead 8 = .ok (.iload_n 3, 1) := by decide +kernel
theorem dX6_isAhead_9 : decode cX6_isAhead 9 = .ok (.iadd, 1) := by decide +kernel
theorem dX6_isAhead_10 : decode cX6_isAhead 10 = .ok (.iaload, 1) := by decide +kernel
theorem dX6_isAhead_11 : decode cX6_isAhead 11 = .ok (.istore 6, 2) := by decide +kernel
theorem dX6_isAhead_13 : decode cX6_isAhead 13 = .ok (.iconst 0, 1) := by decide +kernel
theorem dX6_isAhead_14 : decode cX6_isAhead 14 = .ok (.istore 7, 2) := by decide +kernel
theorem dX6_isAhead_16 : decode cX6_isAhead 16 = .ok (.iload 7, 2) := by decide +kernel
theorem dX6_isAhead_18 : decode cX6_isAhead 18 = .ok (.iload 5, 2) := by decide +kernel
theorem dX6_isAhead_20 : decode cX6_isAhead 20 = .ok (.if_icmp .ge 55, 3) := by decide +kernel
theorem dX6_isAhead_23 : decode cX6_isAhead 23 = .ok (.aload_n 0, 1) := by decide +kernel
theorem dX6_isAhead_24 : decode cX6_isAhead 24 = .ok (.aload_n 1, 1) := by decide +kernel
theorem dX6_isAhead_25 : decode cX6_isAhead 25 = .ok (.iload_n 2, 1) := by decide +kernel
theorem dX6_isAhead_26 : decode cX6_isAhead 26 = .ok (.iload_n 3, 1) := by decide +kernel
theorem dX6_isAhead_27 : decode cX6_isAhead 27 = .ok (.iload 4, 2) := by decide +kernel
theorem dX6_isAhead_29 : decode cX6_isAhead 29 = .ok (.iload 7, 2) := by decide +kernel
theorem dX6_isAhead_31 : decode cX6_isAhead 31 = .ok (.invokevirtual 61, 3) := by decide +kernel
theorem dX6_isAhead_34 : decode cX6_isAhead 34 = .ok (.istore 8, 2) := by decide +kernel
theorem dX6_isAhead_36 : decode cX6_isAhead 36 = .ok (.aload_n 0, 1) := by decide +kernel
theorem dX6_isAhead_37 : decode cX6_isAhead 37 = .ok (.aload_n 1, 1) := by decide +kernel
theorem dX6_isAhead_38 : decode cX6_isAhead 38 = .ok (.iload_n 2, 1) := by decide +kernel
theorem dX6_isAhead_39 : decode cX6_isAhead 39 = .ok (.iload_n 3, 1) := by decide +kernel
theorem dX6_isAhead_40 : decode cX6_isAhead 40 = .ok (.iload 6, 2) := by decide +kernel
theorem dX6_isAhead_42 : decode cX6_isAhead 42 = .ok (.iload 7, 2) := by decide +kernel
theorem dX6_isAhead_44 : decode cX6_isAhead 44 = .ok (.invokevirtual 61, 3) := by decide +kernel
theorem dX6_isAhead_47 : decode cX6_isAhead 47 = .ok (.istore 9, 2) := by decide +kernel
theorem dX6_isAhead_49 : decode cX6_isAhead 49 = .ok (.iload 8, 2) := by decide +kernel
theorem dX6_isAhead_51 : decode cX6_isAhead 51 = .ok (.iload 9, 2) := by decide +kernel
theorem dX6_isAhead_53 : decode cX6_isAhead 53 = .ok (.if_icmp .eq 16, 3) := by decide +kernel
theorem dX6_isAhead_56 : decode cX6_isAhead 56 = .ok (.iload 8, 2) := by decide +kernel
theorem dX6_isAhead_58 : decode cX6_isAhead 58 = .ok (.iload 9, 2) := by decide +kernel
theorem dX6_isAhead_60 : decode cX6_isAhead 60 = .ok (.if_icmp .ge 7, 3) := by decide +kernel
theorem dX6_isAhead_63 : decode cX6_isAhead 63 = .ok (.iconst 1, 1) := by decide +kernel
theorem dX6_isAhead_64 : decode cX6_isAhead 64 = .ok (.goto 4, 3) := by decide +kernel
theorem dX6_isAhead_67 : decode cX6_isAhead 67 = .ok (.iconst 0, 1) := by decide +kernel
theorem dX6_isAhead_68 : decode cX6_isAhead 68 = .ok (.ireturn, 1) := by decide +kernel
theorem dX6_isAhead_69 : decode cX6_isAhead 69 = .ok (.iinc 7 1, 3) := by decide +kernel
theorem dX6_isAhead_72 : decode cX6_isAhead 72 = .ok (.goto (-56), 3) := by decide +kernel
theorem dX6_isAhead_75 : decode cX6_isAhead 75 = .ok (.iconst 0, 1) := by decide +kernel
theorem dX6_isAhead_76 : decode cX6_isAhead 76 = .ok (.ireturn, 1) := by decide +kernel
abbrev rm_X6_isAhead : Room := { frames := 2, cells := 0, slots := 0, locals := 54 }
def b_X6_isAhead_16 (h : Mem) (v0 : Nat) (v1 : Nat) (v2 : Int32) (v3 : Int32) (v4 : Int32) (v5 : Int32) (v6 : Int32) (v7 : Int32) : Option (Int32 ⊕ ((Int32 × Int32) ⊕ Unit)) :=
  (if v5 ≤ v7 then some (.inr (.inr ())) else (f_X6_noteBehind h v0 v1 v2 v3 v4 v7).bind fun x3 => (f_X6_noteBehind h v0 v1 v2 v3 v6 v7).bind fun x4 => (if x3 = x4 then some (.inl (v7 + 1)) else some (.inr (.inl (x3, x4)))))
set_option maxRecDepth 100000 in
set_option maxHeartbeats 4000000 in
theorem wb_X6_isAhead_16 {G : GE} {X : CX} {l : Launch} (hX : Ok G X cX6_isAhead RX6) (hN : xn X = 10) (h : Mem) {P0 : Int32 → Prop} (hr : Rt G X l yX6_isAhead (some .boolean) rm_X6_isAhead (ppI h P0))  (v0 : Nat) (v1 : Nat) (v2 : Int32) (v3 : Int32) (v4 : Int32) (v5 : Int32) (v6 : Int32) {P : (Int32 ⊕ ((Int32 × Int32) ⊕ Unit)) → Prop} (hc : ∀ s, P (.inl s) → AW G X 16 [(0, vR v0), (1, vR v1), (2, vI v2), (3, vI v3), (4, vI v4), (5, vI v5), (6, vI v6), (7, vI s)] [] h 0 0) (he0 : ∀ e, P (.inr (.inl e)) → AW G X 56 [(8, vI e.1), (9, vI e.2)] [] h 0 0) (he1 : ∀ e, P (.inr (.inr e)) → AW G X 75 [] [] h 0 0) (v7 : Int32) (hy : OK (b_X6_isAhead_16 h v0 v1 v2 v3 v4 v5 v6 v7) P) : AW G X 16 [(0, vR v0), (1, vR v1), (2, vI v2), (3, vI v3), (4, vI v4), (5, vI v5), (6, vI v6), (7, vI v7)] [] h 0 0 := by
  unfold b_X6_isAhead_16 at hy
  refine aw_iload (pc := 16) hX 7 rfl dX6_isAhead_16 ?_
  refine aw_iload (pc := 18) hX 5 rfl dX6_isAhead_18 ?_
  refine aw_ic_ge (pc := 20) hX 75 (by decide) dX6_isAhead_20 (fun hc9 => ?_) (fun hc9 => ?_)
  · have hy := hy.t hc9
    refine AW.sub [] rfl ?_
    exact he1 () hy.s
  · have hy := hy.f hc9
    refine aw_aloadn (pc := 23) hX 0 rfl dX6_isAhead_23 ?_
    refine aw_aloadn (pc := 24) hX 1 rfl dX6_isAhead_24 ?_
    refine aw_iloadn (pc := 25) hX 2 rfl dX6_isAhead_25 ?_
    refine aw_iloadn (pc := 26) hX 3 rfl dX6_isAhead_26 ?_
    refine aw_iload (pc := 27) hX 4 rfl dX6_isAhead_27 ?_
    refine aw_iload (pc := 29) hX 7 rfl dX6_isAhead_29 ?_
    refine aw_callV (pc := 31) (st := []) (a := v0) hX [vR v1, vI v2, vI v3, vI v4, vI v7] (con_X6_noteBehind _ G _ v0 v1 v2 v3 v4 v7 hy.bd) mc_X6_noteBehind ml_X6_61 im_X6_noteBehind se_X6_noteBehind (by decide) hy.bd.kd rfl (rm_of hr (by decide)) (Nat.le_of_ble_eq_true rfl) rfl dX6_isAhead_31 (kpI rfl rfl (fun x3 hy => ?_))
    refine aw_istore (pc := 34) hX [(8, vI x3), (0, vR v0), (1, vR v1), (2, vI v2), (3, vI v3), (4, vI v4), (5, vI v5), (6, vI v6), (7, vI v7)] rfl (lt_n hN (by decide)) dX6_isAhead_34 ?_
    refine aw_aloadn (pc := 36) hX 1 rfl dX6_isAhead_36 ?_
    refine aw_aloadn (pc := 37) hX 2 rfl dX6_isAhead_37 ?_
    refine aw_iloadn (pc := 38) hX 3 rfl dX6_isAhead_38 ?_
    refine aw_iloadn (pc := 39) hX 4 rfl dX6_isAhead_39 ?_
    refine aw_iload (pc := 40) hX 7 rfl dX6_isAhead_40 ?_
    refine aw_iload (pc := 42) hX 8 rfl dX6_isAhead_42 ?_
    refine aw_callV (pc := 44) (st := []) (a := v0) hX [vR v1, vI v2, vI v3, vI v6, vI v7] (con_X6_noteBehind _ G _ v0 v1 v2 v3 v6 v7 hy.bd) mc_X6_noteBehind ml_X6_61 im_X6_noteBehind se_X6_noteBehind (by decide) hy.bd.kd rfl (rm_of hr (by decide)) (Nat.le_of_ble_eq_true rfl) rfl dX6_isAhead_44 (kpI rfl rfl (fun x4 hy => ?_))
    refine aw_istore (pc := 47) hX [(9, vI x4), (8, vI x3), (0, vR v0), (1, vR v1), (2, vI v2), (3, vI v3), (4, vI v4), (5, vI v5), (6, vI v6), (7, vI v7)] rfl (lt_n hN (by decide)) dX6_isAhead_47 ?_
    refine aw_iload (pc := 49) hX 1 rfl dX6_isAhead_49 ?_
    refine aw_iload (pc := 51) hX 0 rfl dX6_isAhead_51 ?_
    refine aw_ic_eq (pc := 53) hX 69 (by decide) dX6_isAhead_53 (fun hc9 => ?_) (fun hc9 => ?_)
    · have hy := hy.t hc9
      refine aw_iinc (pc := 69) hX 1 (by decide) 9 rfl [(7, vI (v7 + 1)), (9, vI x4), (8, vI x3), (0, vR v0), (1, vR v1), (2, vI v2), (3, vI v3), (4, vI v4), (5, vI v5), (6, vI v6)] rfl (lt_n hN (by decide)) dX6_isAhead_69 ?_
      refine aw_goto (pc := 72) hX 16 (by decide) dX6_isAhead_72 ?_
      refine AW.sub [3, 4, 5, 6, 7, 8, 9, 0] rfl ?_
      exact hc (v7 + 1) hy.s
    · have hy := hy.f hc9
      refine AW.sub [1, 0] rfl ?_
      exact he0 (x3, x4) hy.s
theorem wl_X6_isAhead_16 {G : GE} {X : CX} {l : Launch} (hX : Ok G X cX6_isAhead RX6) (hN : xn X = 10) (h : Mem) {P0 : Int32 → Prop} (hr : Rt G X l yX6_isAhead (some .boolean) rm_X6_isAhead (ppI h P0)) (v0 : Nat) (v1 : Nat) (v2 : Int32) (v3 : Int32) (v4 : Int32) (v5 : Int32) (v6 : Int32) {P : ((Int32 × Int32) ⊕ Unit) → Prop} (he0 : ∀ e, P (.inl e) → AW G X 56 [(8, vI e.1), (9, vI e.2)] [] h 0 0) (he1 : ∀ e, P (.inr e) → AW G X 75 [] [] h 0 0) : ∀ (n : Nat) (s : Int32), OK (iter (fun (s : Int32) => b_X6_isAhead_16 h v0 v1 v2 v3 v4 v5 v6 s) n s) P → AW G X 16 [(0, vR v0), (1, vR v1), (2, vI v2), (3, vI v3), (4, vI v4), (5, vI v5), (6, vI v6), (7, vI s)] [] h 0 0 := by
  intro n
  induction n with
  | zero => exact fun s hy => hy.it0.elim
  | succ n ih =>
    intro s hy
    exact wb_X6_isAhead_16 hX hN h hr v0 v1 v2 v3 v4 v5 v6 (fun s hs => ih s hs) (fun e hs => he0 e hs) (fun e hs => he1 e hs) s hy.it
def f_X6_isAhead (h : Mem) (v0 : Nat) (v1 : Nat) (v2 : Int32) (v3 : Int32) (v4 : Int32) (v5 : Int32) : Option Int32 :=
  (ck h v0 5).bind fun _ => (gR h v0 2 5).bind fun r1 => (aI h r1 ((v2 * 7) + v3)).bind fun x2 => (iter (fun (s : Int32) => b_X6_isAhead_16 h v0 v1 v2 v3 v4 v5 x2 s) FU 0).bind (Sum.elim (fun e6 => (if e6.2 ≤ e6.1 then some 0 else some 1)) (fun e7 => some 0))
set_option maxRecDepth 100000 in
set_option maxHeartbeats 4000000 in
theorem w_X6_isAhead {G : GE} {X : CX} {l : Launch} (hX : Ok G X cX6_isAhead RX6) (hN : xn X = 10) (h : Mem) {P : Int32 → Prop} (hr : Rt G X l yX6_isAhead (some .boolean) rm_X6_isAhead (ppI h P)) (v0 : Nat) (v1 : Nat) (v2 : Int32) (v3 : Int32) (v4 : Int32) (v5 : Int32) (hy : OK (f_X6_isAhead h v0 v1 v2 v3 v4 v5) P) : AW G X 0 [(0, vR v0), (1, vR v1), (2, vI v2), (3, vI v3), (4, vI v4), (5, vI v5)] [] h 0 0 := by
  unfold f_X6_isAhead at hy
  have hkd := hy.kd
  have hy := hy.kb
  refine aw_aloadn (pc := 0) hX 0 rfl dX6_isAhead_0 ?_
  refine aw_gR (pc := 1) hX hy fl_X6_20 (fun _ _ => rfl) dX6_isAhead_1 (fun r1 hy => ?_)
  refine aw_iloadn (pc := 4) hX 2 rfl dX6_isAhead_4 ?_
  refine aw_bipush (pc := 5) hX 7 (by decide) dX6_isAhead_5 ?_
  refine aw_imul (pc := 7) hX dX6_isAhead_7 ?_
  refine aw_iloadn (pc := 8) hX 3 rfl dX6_isAhead_8 ?_
  refine aw_iadd (pc := 9) hX dX6_isAhead_9 ?_
  refine aw_aI (pc := 10) hX hy dX6_isAhead_10 (fun x2 hy => ?_)
  refine aw_istore (pc := 11) hX [(6, vI x2), (0, vR v0), (1, vR v1), (2, vI v2), (3, vI v3), (4, vI v4), (5, vI v5)] rfl (lt_n hN (by decide)) dX6_isAhead_11 ?_
  refine aw_iconst (pc := 13) hX 0 (by decide) dX6_isAhead_13 ?_
  refine aw_istore (pc := 14) hX [(7, vI 0), (6, vI x2), (0, vR v0), (1, vR v1), (2, vI v2), (3, vI v3), (4, vI v4), (5, vI v5)] rfl (lt_n hN (by decide)) dX6_isAhead_14 ?_
  refine AW.sub [2, 3, 4, 5, 6, 7, 1, 0] rfl ?_
  refine wl_X6_isAhead_16 hX hN _ hr v0 v1 v2 v3 v4 v5 x2 ?_ ?_ FU 0 hy.bd
  · intro e6 hy
    refine aw_iload (pc := 56) hX 0 rfl dX6_isAhead_56 ?_
    refine aw_iload (pc := 58) hX 1 rfl dX6_isAhead_58 ?_
    refine aw_ic_ge (pc := 60) hX 67 (by decide) dX6_isAhead_60 (fun hc9 => ?_) (fun hc9 => ?_)
    · have hy := hy.t hc9
      refine aw_iconst (pc := 67) hX 0 (by decide) dX6_isAhead_67 ?_
      exact aw_zret (pc := 68) hX hr (by decide) (by decide) dX6_isAhead_68 (Or.inl rfl) ⟨rfl, _, rfl, hy.s⟩
    · have hy := hy.f hc9
      refine aw_iconst (pc := 63) hX 1 (by decide) dX6_isAhead_63 ?_
      refine aw_goto (pc := 64) hX 68 (by decide) dX6_isAhead_64 ?_
      exact aw_zret (pc := 68) hX hr (by decide) (by decide) dX6_isAhead_68 (Or.inr rfl) ⟨rfl, _, rfl, hy.s⟩
  · intro e7 hy
    refine aw_iconst (pc := 75) hX 0 (by decide) dX6_isAhead_75 ?_
    exact aw_zret (pc := 76) hX hr (by decide) (by decide) dX6_isAhead_76 (Or.inl rfl) ⟨rfl, _, rfl, hy.s⟩
theorem con_X6_isAhead (l : Launch) (G : GE) (h : Mem) (v0 : Nat) (v1 : Nat) (v2 : Int32) (v3 : Int32) (v4 : Int32) (v5 : Int32) {P : Int32 → Prop} (hy : OK (f_X6_isAhead h v0 v1 v2 v3 v4 v5) P) : Con l G yX6_isAhead cX6_isAhead 10 (some .boolean) rm_X6_isAhead [vR v0, vR v1, vI v2, vI v3, vI v4, vI v5] h (ppI h P) := Con.of (by decide) (Nat.le_of_ble_eq_true rfl) (fun X hX hr hN => w_X6_isAhead hX hN h hr v0 v1 v2 v3 v4 v5 hy)
/-! X6_chooseNext -/
theorem dX6_chooseNext_0 : decode cX6_chooseNext 0 = .ok (.iload_n 2, 1) := by decide +kernel
theorem dX6_chooseNext_1 : decode cX6_chooseNext 1 = .ok (.bipush 7, 2) := by decide +kernel
theorem dX6_chooseNext_3 : decode cX6_chooseNext 3 = .ok (.imul, 1) := by decide +kernel
theorem dX6_chooseNext_4 : decode cX6_chooseNext 4 = .ok (.iload_n 3, 1) := by decide +kernel
theorem dX6_chooseNext_5 : decode cX6_chooseNext 5 = .ok (.iadd, 1) := by decide +kernel
theorem dX6_chooseNext_6 : decode cX6_chooseNext 6 = .ok (.istore 4, 2) := by decide +kernel
theorem dX6_chooseNext_8 : decode cX6_chooseNext 8 = .ok (.aload_n 0, 1) := by decide +kernel
theorem dX6_chooseNext_9 : decode cX6_chooseNext 9 = .ok (.getfield 17, 3) := by decide +kernel
theorem dX6_chooseNext_12 : decode cX6_chooseNext 12 = .ok (.iload 4, 2) := by decide +kernel
theorem dX6_chooseNext_14 : decode cX6_chooseNext 14 = .ok (.iconst 0, 1) := by decide +kernel
theorem dX6_chooseNext_15 : decode cX6_chooseNext 15 = .ok (.iastore, 1) := by decide +kernel
theorem dX6_chooseNext_16 : decode cX6_chooseNext 16 = .ok (.aload_n 0, 1) := by decide +kernel
theorem dX6_chooseNext_17 : decode cX6_chooseNext 17 = .ok (.getfield 20, 3) := by decide +kernel
theorem dX6_chooseNext_20 : decode cX6_chooseNext 20 = .ok (.iload 4, 2) := by decide +kernel
theorem dX6_chooseNext_22 : decode cX6_chooseNext 22 = .ok (.iconst (-1), 1) := by decide +kernel
theorem dX6_chooseNext_23 : decode cX6_chooseNext 23 = .ok (.iastore, 1) := by decide +kernel
theorem dX6_chooseNext_24 : decode cX6_chooseNext 24 = .ok (.iconst 0, 1) := by decide +kernel
theorem dX6_chooseNext_25 : decode cX6_chooseNext 25 = .ok (.istore 5, 2) := by decide +kernel
theorem dX6_chooseNext_27 : decode cX6_chooseNext 27 = .ok (.iload 5, 2) := by decide +kernel
theorem dX6_chooseNext_29 : decode cX6_chooseNext 29 = .ok (.aload_n 1, 1) := by decide +kernel
theorem dX6_chooseNext_30 : decode cX6_chooseNext 30 = .ok (.getfield 54, 3) := by decide +kernel
theorem dX6_chooseNext_33 : decode cX6_chooseNext 33 = .ok (.if_icmp .ge 134, 3) := by decide +kernel
theorem dX6_chooseNext_36 : decode cX6_chooseNext 36 = .ok (.aload_n 0, 1) := by decide +kernel
theorem dX6_chooseNext_37 : decode cX6_chooseNext 37 = .ok (.getfield 47, 3) := by decide +kernel
theorem dX6_chooseNext_40 : decode cX6_chooseNext 40 = .ok (.iload_n 2, 1) := by decide +kernel
theorem dX6_chooseNext_41 : decode cX6_chooseNext 41 = .ok (.iconst (-1), 1) := by decide +kernel
theorem dX6_chooseNext_42 : decode cX6_chooseNext 42 = .ok (.ixor, 1) := by decide +kernel
theorem dX6_chooseNext_43 : decode cX6_chooseNext 43 = .ok (.iand, 1) := by decide +kernel
theorem dX6_chooseNext_44 : decode cX6_chooseNext 44 = .ok (.iload 5, 2) := by decide +kernel
theorem dX6_chooseNext_46 : decode cX6_chooseNext 46 = .ok (.ishr, 1) := by decide +kernel
theorem dX6_chooseNext_47 : decode cX6_chooseNext 47 = .ok (.iconst 1, 1) := by decide +kernel
theorem dX6_chooseNext_48 : decode cX6_chooseNext 48 = .ok (.iand, 1) := by decide +kernel
theorem dX6_chooseNext_49 : decode cX6_chooseNext 49 = .ok (.ifCond .ne 6, 3) := by decide +kernel
theorem dX6_chooseNext_52 : decode cX6_chooseNext 52 = .ok (.goto 109, 3) := by decide +kernel
theorem dX6_chooseNext_55 : decode cX6_chooseNext 55 = .ok (.aload_n 0, 1) := by decide +kernel
theorem dX6_chooseNext_56 : decode cX6_chooseNext 56 = .ok (.aload_n 1, 1) := by decide +kernel
theorem dX6_chooseNext_57 : decode cX6_chooseNext 57 = .ok (.iload_n 3, 1) := by decide +kernel
theorem dX6_chooseNext_58 : decode cX6_chooseNext 58 = .ok (.iload 5, 2) := by decide +kernel
theorem dX6_chooseNext_60 : decode cX6_chooseNext 60 = .ok (.invokevirtual 73, 3) := by decide +kernel
theorem dX6_chooseNext_63 : decode cX6_chooseNext 63 = .ok (.aload_n 0, 1) := by decide +kernel
theorem dX6_chooseNext_64 : decode cX6_chooseNext 64 = .ok (.getfield 17, 3) := by decide +kernel
theorem dX6_chooseNext_67 : decode cX6_chooseNext 67 = .ok (.iload_n 2, 1) := by decide +kernel
theorem dX6_chooseNext_68 : decode cX6_chooseNext 68 = .ok (.iconst 1, 1) := by decide +kernel
theorem dX6_chooseNext_69 : decode cX6_chooseNext 69 = .ok (.iload 5, 2) := by decide +kernel
theorem dX6_chooseNext_71 : decode cX6_chooseNext 71 = .ok (.ishl, 1) := by decide +kernel
theorem dX6_chooseNext_72 : decode cX6_chooseNext 72 = .ok (.ior, 1) := by decide +kernel
theorem dX6_chooseNext_73 : decode cX6_chooseNext 73 = .ok (.bipush 7, 2) := by decide +kernel
theorem dX6_chooseNext_75 : decode cX6_chooseNext 75 = .ok (.imul, 1) := by decide +kernel
theorem dX6_chooseNext_76 : decode cX6_chooseNext 76 = .ok (.iload 5, 2) := by decide +kernel
theorem dX6_chooseNext_78 : decode cX6_chooseNext 78 = .ok (.iadd, 1) := by decide +kernel
theorem dX6_chooseNext_79 : decode cX6_chooseNext 79 = .ok (.iaload, 1) := by decide +kernel
theorem dX6_chooseNext_80 : decode cX6_chooseNext 80 = .ok (.iadd, 1) := by decide +kernel
theorem dX6_chooseNext_81 : decode cX6_chooseNext 81 = .ok (.istore 6, 2) := by decide +kernel
theorem dX6_chooseNext_83 : decode cX6_chooseNext 83 = .ok (.aload_n 0, 1) := by decide +kernel
theorem dX6_chooseNext_84 : decode cX6_chooseNext 84 = .ok (.getfield 20, 3) := by decide +kernel
theorem dX6_chooseNext_87 : decode cX6_chooseNext 87 = .ok (.iload 4, 2) := by decide +kernel
theorem dX6_chooseNext_89 : decode cX6_chooseNext 89 = .ok (.iaload, 1) := by decide +kernel
theorem dX6_chooseNext_90 : decode cX6_chooseNext 90 = .ok (.ifCond .lt 15, 3) := by decide +kernel
theorem dX6_chooseNext_93 : decode cX6_chooseNext 93 = .ok (.iload 6, 2) := by decide +kernel
theorem dX6_chooseNext_95 : decode cX6_chooseNext 95 = .ok (.aload_n 0, 1) := by decide +kernel
theorem dX6_chooseNext_96 : decode cX6_chooseNext 96 = .ok (.getfield 17, 3) := by decide +kernel
theorem dX6_chooseNext_99 : decode cX6_chooseNext 99 = .ok (.iload 4, 2) := by decide +kernel
theorem dX6_chooseNext_101 : decode cX6_chooseNext 101 = .ok (.iaload, 1) := by decide +kernel
theorem dX6_chooseNext_102 : decode cX6_chooseNext 102 = .ok (.if_icmp .ge 7, 3) := by decide +kernel
theorem dX6_chooseNext_105 : decode cX6_chooseNext 105 = .ok (.iconst 1, 1) := by decide +kernel
theorem dX6_chooseNext_106 : decode cX6_chooseNext 106 = .ok (.goto 4, 3) := by decide +kernel
theorem dX6_chooseNext_109 : decode cX6_chooseNext 109 = .ok (.iconst 0, 1) := by decide +kernel
theorem dX6_chooseNext_110 : decode cX6_chooseNext 110 = .ok (.istore 7, 2) := by decide +kernel
theorem dX6_chooseNext_112 : decode cX6_chooseNext 112 = .ok (.iload 7, 2) := by decide +kernel
theorem dX6_chooseNext_114 : decode cX6_chooseNext 114 = .ok (.ifCond .ne 29, 3) := by decide +kernel
theorem dX6_chooseNext_117 : decode cX6_chooseNext 117 = .ok (.iload 6, 2) := by decide +kernel
theorem dX6_chooseNext_119 : decode cX6_chooseNext 119 = .ok (.aload_n 0, 1) := by decide +kernel
theorem dX6_chooseNext_120 : decode cX6_chooseNext 120 = .ok (.getfield 17, 3) := by decide +kernel
theorem dX6_chooseNext_123 : decode cX6_chooseNext 123 = .ok (.iload 4, 2) := by decide +kernel
theorem dX6_chooseNext_125 : decode cX6_chooseNext 125 = .ok (.iaload, 1) := by decide +kernel
theorem dX6_chooseNext_126 : decode cX6_chooseNext 126 = .ok (.if_icmp .ne 35, 3) := by decide +kernel
theorem dX6_chooseNext_129 : decode cX6_chooseNext 129 = .ok (.aload_n 0, 1) := by decide +kernel
theorem dX6_chooseNext_130 : decode cX6_chooseNext 130 = .ok (.aload_n 1, 1) := by decide +kernel
theorem dX6_chooseNext_131 : decode cX6_chooseNext 131 = .ok (.iload_n 2, 1) := by decide +kernel
theorem dX6_chooseNext_132 : decode cX6_chooseNext 132 = .ok (.iload_n 3, 1) := by decide +kernel
theorem dX6_chooseNext_133 : decode cX6_chooseNext 133 = .ok (.iload 5, 2) := by decide +kernel
theorem dX6_chooseNext_135 : decode cX6_chooseNext 135 = .ok (.iload 6, 2) := by decide +kernel
theorem dX6_chooseNext_137 : decode cX6_chooseNext 137 = .ok (.invokevirtual 76, 3) := by decide +kernel
theorem dX6_chooseNext_140 : decode cX6_chooseNext 140 = .ok (.ifCond .eq 21, 3) := by decide +kernel
theorem dX6_chooseNext_143 : decode cX6_chooseNext 143 = .ok (.aload_n 0, 1) := by decide +kernel
theorem dX6_chooseNext_144 : decode cX6_chooseNext 144 = .ok (.getfield 17, 3) := by decide +kernel
theorem dX6_chooseNext_147 : decode cX6_chooseNext 147 = .ok (.iload 4, 2) := by decide +kernel
theorem dX6_chooseNext_149 : decode cX6_chooseNext 149 = .ok (.iload 6, 2) := by decide +kernel
theorem dX6_chooseNext_151 : decode cX6_chooseNext 151 = .ok (.iastore, 1) := by decide +kernel
theorem dX6_chooseNext_152 : decode cX6_chooseNext 152 = .ok (.aload_n 0, 1) := by decide +kernel
theorem dX6_chooseNext_153 : decode cX6_chooseNext 153 = .ok (.getfield 20, 3) := by decide +kernel
theorem dX6_chooseNext_156 : decode cX6_chooseNext 156 = .ok (.iload 4, 2) := by decide +kernel
theorem dX6_chooseNext_158 : decode cX6_chooseNext 158 = .ok (.iload 5, 2) := by decide +kernel
theorem dX6_chooseNext_160 : decode cX6_chooseNext 160 = .ok (.iastore, 1) := by decide +kernel
theorem dX6_chooseNext_161 : decode cX6_chooseNext 161 = .ok (.iinc 5 1, 3) := by decide +kernel
theorem dX6_chooseNext_164 : decode cX6_chooseNext 164 = .ok (.goto (-137), 3) := by decide +kernel
theorem dX6_chooseNext_167 : decode cX6_chooseNext 167 = .ok (.return_, 1) := by decide +kernel
abbrev rm_X6_chooseNext : Room := { frames := 3, cells := 0, slots := 0, locals := 83 }
def f_X6_chooseNext_161 (h : Mem) (v0 : Nat) (v1 : Nat) (v2 : Int32) (v3 : Int32) (v4 : Int32) (v5 : Int32) : Option ((Int32 × Mem) ⊕ Mem) :=
  some (.inl ((v5 + 1), h))
set_option maxRecDepth 100000 in
set_option maxHeartbeats 4000000 in
theorem w_X6_chooseNext_161 {G : GE} {X : CX} {l : Launch} (hX : Ok G X cX6_chooseNext RX6) (hN : xn X = 8) {P0 : Mem → Prop} (hr : Rt G X l yX6_chooseNext none rm_X6_chooseNext (pmV P0))  (v0 : Nat) (v1 : Nat) (v2 : Int32) (v3 : Int32) (v4 : Int32) {P : ((Int32 × Mem) ⊕ Mem) → Prop} (hc : ∀ s, P (.inl s) → AW G X 27 [(0, vR v0), (1, vR v1), (2, vI v2), (3, vI v3), (4, vI v4), (5, vI s.1)] [] s.2 0 0) (he0 : ∀ e, P (.inr e) → AW G X 167 [] [] e 0 0) (h : Mem) (v5 : Int32) (hy : OK (f_X6_chooseNext_161 h v0 v1 v2 v3 v4 v5) P) : AW G X 161 [(0, vR v0), (1, vR v1), (2, vI v2), (3, vI v3), (4, vI v4), (5, vI v5)] [] h 0 0 := by
  unfold f_X6_chooseNext_161 at hy
  refine aw_iinc (pc := 161) hX 1 (by decide) 5 rfl [(5, vI (v5 + 1)), (0, vR v0), (1, vR v1), (2, vI v2), (3, vI v3), (4, vI v4)] rfl (lt_n hN (by decide)) dX6_chooseNext_161 ?_
  refine aw_goto (pc := 164) hX 27 (by decide) dX6_chooseNext_164 ?_
  refine AW.sub [1, 2, 3, 4, 5, 0] rfl ?_
  exact hc ((v5 + 1), h) hy.s
def f_X6_chooseNext_143 (h : Mem) (v0 : Nat) (v1 : Nat) (v2 : Int32) (v3 : Int32) (v4 : Int32) (v5 : Int32) (v6 : Int32) : Option ((Int32 × Mem) ⊕ Mem) :=
  (gR h v0 1 5).bind fun r12 => (sI h r12 v4 v6).bind fun h13 => (gR h13 v0 2 5).bind fun r14 => (sI h13 r14 v4 v5).bind fun h15 => f_X6_chooseNext_161 h15 v0 v1 v2 v3 v4 v5
set_option maxRecDepth 100000 in
set_option maxHeartbeats 4000000 in
theorem w_X6_chooseNext_143 {G : GE} {X : CX} {l : Launch} (hX : Ok G X cX6_chooseNext RX6) (hN : xn X = 8) {P0 : Mem → Prop} (hr : Rt G X l yX6_chooseNext none rm_X6_chooseNext (pmV P0))  (v0 : Nat) (v1 : Nat) (v2 : Int32) (v3 : Int32) (v4 : Int32) {P : ((Int32 × Mem) ⊕ Mem) → Prop} (hc : ∀ s, P (.inl s) → AW G X 27 [(0, vR v0), (1, vR v1), (2, vI v2), (3, vI v3), (4, vI v4), (5, vI s.1)] [] s.2 0 0) (he0 : ∀ e, P (.inr e) → AW G X 167 [] [] e 0 0) (h : Mem) (v5 : Int32) (v6 : Int32) (hy : OK (f_X6_chooseNext_143 h v0 v1 v2 v3 v4 v5 v6) P) : AW G X 143 [(0, vR v0), (1, vR v1), (2, vI v2), (3, vI v3), (4, vI v4), (5, vI v5), (6, vI v6)] [] h 0 0 := by
  unfold f_X6_chooseNext_143 at hy
  refine aw_aloadn (pc := 143) hX 0 rfl dX6_chooseNext_143 ?_
  refine aw_gR (pc := 144) hX hy fl_X6_17 (fun _ _ => rfl) dX6_chooseNext_144 (fun r12 hy => ?_)
  refine aw_iload (pc := 147) hX 4 rfl dX6_chooseNext_147 ?_
  refine aw_iload (pc := 149) hX 6 rfl dX6_chooseNext_149 ?_
  refine aw_sI (pc := 151) hX hy dX6_chooseNext_151 (fun h13 hy => ?_)
  refine aw_aloadn (pc := 152) hX 0 rfl dX6_chooseNext_152 ?_
  refine aw_gR (pc := 153) hX hy fl_X6_20 (fun _ _ => rfl) dX6_chooseNext_153 (fun r14 hy => ?_)
  refine aw_iload (pc := 156) hX 4 rfl dX6_chooseNext_156 ?_
  refine aw_iload (pc := 158) hX 5 rfl dX6_chooseNext_158 ?_
  refine aw_sI (pc := 160) hX hy dX6_chooseNext_160 (fun h15 hy => ?_)
  refine AW.sub [0, 1, 2, 3, 4, 5] rfl ?_
  exact w_X6_chooseNext_161 hX hN hr _ _ _ _ _ hc he0 h15 v5 hy
def f_X6_chooseNext_110 (h : Mem) (v0 : Nat) (v1 : Nat) (v2 : Int32) (v3 : Int32) (v4 : Int32) (v5 : Int32) (v6 : Int32) (s0 : Int32) : Option ((Int32 × Mem) ⊕ Mem) :=
  (if s0 = 0 then (gR h v0 1 5).bind fun r16 => (aI h r16 v4).bind fun x17 => (if v6 = x17 then (f_X6_isAhead h v0 v1 v2 v3 v5 v6).bind fun x18 => (if x18 = 0 then f_X6_chooseNext_161 h v0 v1 v2 v3 v4 v5 else f_X6_chooseNext_143 h v0 v1 v2 v3 v4 v5 v6) else f_X6_chooseNext_161 h v0 v1 v2 v3 v4 v5) else f_X6_chooseNext_143 h v0 v1 v2 v3 v4 v5 v6)
set_option maxRecDepth 100000 in
set_option maxHeartbeats 4000000 in
theorem w_X6_chooseNext_110 {G : GE} {X : CX} {l : Launch} (hX : Ok G X cX6_chooseNext RX6) (hN : xn X = 8) {P0 : Mem → Prop} (hr : Rt G X l yX6_chooseNext none rm_X6_chooseNext (pmV P0))  (v0 : Nat) (v1 : Nat) (v2 : Int32) (v3 : Int32) (v4 : Int32) {P : ((Int32 × Mem) ⊕ Mem) → Prop} (hc : ∀ s, P (.inl s) → AW G X 27 [(0, vR v0), (1, vR v1), (2, vI v2), (3, vI v3), (4, vI v4), (5, vI s.1)] [] s.2 0 0) (he0 : ∀ e, P (.inr e) → AW G X 167 [] [] e 0 0) (h : Mem) (v5 : Int32) (v6 : Int32) (s0 : Int32) (hy : OK (f_X6_chooseNext_110 h v0 v1 v2 v3 v4 v5 v6 s0) P) : AW G X 110 [(0, vR v0), (1, vR v1), (2, vI v2), (3, vI v3), (4, vI v4), (5, vI v5), (6, vI v6)] [vI s0] h 0 0 := by
  unfold f_X6_chooseNext_110 at hy
  refine aw_istore (pc := 110) hX [(7, vI s0), (0, vR v0), (1, vR v1), (2, vI v2), (3, vI v3), (4, vI v4), (5, vI v5), (6, vI v6)] rfl (lt_n hN (by decide)) dX6_chooseNext_110 ?_
  refine aw_iload (pc := 112) hX 0 rfl dX6_chooseNext_112 ?_
  refine aw_if_ne (pc := 114) hX 143 (by decide) dX6_chooseNext_114 (fun hc9 => ?_) (fun hc9 => ?_)
  · have hy := hy.f hc9
    refine AW.sub [1, 2, 3, 4, 5, 6, 7] rfl ?_
    exact w_X6_chooseNext_143 hX hN hr _ _ _ _ _ hc he0 h v5 v6 hy
  · have hy := hy.t hc9
    refine aw_iload (pc := 117) hX 7 rfl dX6_chooseNext_117 ?_
    refine aw_aloadn (pc := 119) hX 1 rfl dX6_chooseNext_119 ?_
    refine aw_gR (pc := 120) hX hy fl_X6_17 (fun _ _ => rfl) dX6_chooseNext_120 (fun r16 hy => ?_)
    refine aw_iload (pc := 123) hX 5 rfl dX6_chooseNext_123 ?_
    refine aw_aI (pc := 125) hX hy dX6_chooseNext_125 (fun x17 hy => ?_)
    refine aw_ic_ne (pc := 126) hX 161 (by decide) dX6_chooseNext_126 (fun hc9 => ?_) (fun hc9 => ?_)
    · have hy := hy.f hc9
      refine AW.sub [1, 2, 3, 4, 5, 6] rfl ?_
      exact w_X6_chooseNext_161 hX hN hr _ _ _ _ _ hc he0 h v5 hy
    · have hy := hy.t hc9
      refine aw_aloadn (pc := 129) hX 1 rfl dX6_chooseNext_129 ?_
      refine aw_aloadn (pc := 130) hX 2 rfl dX6_chooseNext_130 ?_
      refine aw_iloadn (pc := 131) hX 3 rfl dX6_chooseNext_131 ?_
      refine aw_iloadn (pc := 132) hX 4 rfl dX6_chooseNext_132 ?_
      refine aw_iload (pc := 133) hX 6 rfl dX6_chooseNext_133 ?_
      refine aw_iload (pc := 135) hX 7 rfl dX6_chooseNext_135 ?_
      refine aw_callV (pc := 137) (st := []) (a := v0) hX [vR v1, vI v2, vI v3, vI v5, vI v6] (con_X6_isAhead _ G _ v0 v1 v2 v3 v5 v6 hy.bd) mc_X6_isAhead ml_X6_76 im_X6_isAhead se_X6_isAhead (by decide) hy.bd.kd rfl (rm_of hr (by decide)) (Nat.le_of_ble_eq_true rfl) rfl dX6_chooseNext_137 (kpI rfl rfl (fun x18 hy => ?_))
      refine aw_if_eq (pc := 140) hX 161 (by decide) dX6_chooseNext_140 (fun hc9 => ?_) (fun hc9 => ?_)
      · have hy := hy.t hc9
        refine AW.sub [1, 2, 3, 4, 5, 6] rfl ?_
        exact w_X6_chooseNext_161 hX hN hr _ _ _ _ _ hc he0 h v5 hy
      · have hy := hy.f hc9
        refine AW.sub [1, 2, 3, 4, 5, 6, 7] rfl ?_
        exact w_X6_chooseNext_143 hX hN hr _ _ _ _ _ hc he0 h v5 v6 hy
def f_X6_chooseNext_105 (h : Mem) (v0 : Nat) (v1 : Nat) (v2 : Int32) (v3 : Int32) (v4 : Int32) (v5 : Int32) (v6 : Int32) : Option ((Int32 × Mem) ⊕ Mem) :=
  f_X6_chooseNext_110 h v0 v1 v2 v3 v4 v5 v6 1
set_option maxRecDepth 100000 in
set_option maxHeartbeats 4000000 in
theorem w_X6_chooseNext_105 {G : GE} {X : CX} {l : Launch} (hX : Ok G X cX6_chooseNext RX6) (hN : xn X = 8) {P0 : Mem → Prop} (hr : Rt G X l yX6_chooseNext none rm_X6_chooseNext (pmV P0))  (v0 : Nat) (v1 : Nat) (v2 : Int32) (v3 : Int32) (v4 : Int32) {P : ((Int32 × Mem) ⊕ Mem) → Prop} (hc : ∀ s, P (.inl s) → AW G X 27 [(0, vR v0), (1, vR v1), (2, vI v2), (3, vI v3), (4, vI v4), (5, vI s.1)] [] s.2 0 0) (he0 : ∀ e, P (.inr e) → AW G X 167 [] [] e 0 0) (h : Mem) (v5 : Int32) (v6 : Int32) (hy : OK (f_X6_chooseNext_105 h v0 v1 v2 v3 v4 v5 v6) P) : AW G X 105 [(0, vR v0), (1, vR v1), (2, vI v2), (3, vI v3), (4, vI v4), (5, vI v5), (6, vI v6)] [] h 0 0 := by
  unfold f_X6_chooseNext_105 at hy
  refine aw_iconst (pc := 105) hX 1 (by decide) dX6_chooseNext_105 ?_
  refine aw_goto (pc := 106) hX 110 (by decide) dX6_chooseNext_106 ?_
  exact w_X6_chooseNext_110 hX hN hr _ _ _ _ _ hc he0 h v5 v6 1 hy
def b_X6_chooseNext_27 (h : Mem) (v0 : Nat) (v1 : Nat) (v2 : Int32) (v3 : Int32) (v4 : Int32) (v5 : Int32) : Option ((Int32 × Mem) ⊕ Mem) :=
  (gI h v1 1 4).bind fun x5 => (if x5 ≤ v5 then some (.inr h) else (gI h v0 4 5).bind fun x6 => (if ((((x6 &&& (v2 ^^^ (-1))) : Int32) >>> (v5 &&& 31)) &&& 1) = 0 then f_X6_chooseNext_161 h v0 v1 v2 v3 v4 v5 else (f_X6_ownNotes h v0 v1 v3 v5).bind fun x7 => (gR h v0 1 5).bind fun r8 => (aI h r8 (((v2 ||| ((1 : Int32) <<< (v5 &&& 31))) * 7) + v5)).bind fun x9 => (gR h v0 2 5).bind fun r10 => (aI h r10 v4).bind fun x11 => (if x11 < 0 then f_X6_chooseNext_105 h v0 v1 v2 v3 v4 v5 (x7 + x9) else (gR h v0 1 5).bind fun r19 => (aI h r19 v4).bind fun x20 => (if x20 ≤ (x7 + x9) then f_X6_chooseNext_110 h v0 v1 v2 v3 v4 v5 (x7 + x9) 0 else f_X6_chooseNext_105 h v0 v1 v2 v3 v4 v5 (x7 + x9)))))
set_option maxRecDepth 100000 in
set_option maxHeartbeats 4000000 in
theorem wb_X6_chooseNext_27 {G : GE} {X : CX} {l : Launch} (hX : Ok G X cX6_chooseNext RX6) (hN : xn X = 8) {P0 : Mem → Prop} (hr : Rt G X l yX6_chooseNext none rm_X6_chooseNext (pmV P0))  (v0 : Nat) (v1 : Nat) (v2 : Int32) (v3 : Int32) (v4 : Int32) {P : ((Int32 × Mem) ⊕ Mem) → Prop} (hc : ∀ s, P (.inl s) → AW G X 27 [(0, vR v0), (1, vR v1), (2, vI v2), (3, vI v3), (4, vI v4), (5, vI s.1)] [] s.2 0 0) (he0 : ∀ e, P (.inr e) → AW G X 167 [] [] e 0 0) (h : Mem) (v5 : Int32) (hy : OK (b_X6_chooseNext_27 h v0 v1 v2 v3 v4 v5) P) : AW G X 27 [(0, vR v0), (1, vR v1), (2, vI v2), (3, vI v3), (4, vI v4), (5, vI v5)] [] h 0 0 := by
  unfold b_X6_chooseNext_27 at hy
  refine aw_iload (pc := 27) hX 5 rfl dX6_chooseNext_27 ?_
  refine aw_aloadn (pc := 29) hX 1 rfl dX6_chooseNext_29 ?_
  refine aw_gI (pc := 30) hX hy fl_X6_54 (fun _ _ => rfl) dX6_chooseNext_30 (fun x5 hy => ?_)
  refine aw_ic_ge (pc := 33) hX 167 (by decide) dX6_chooseNext_33 (fun hc9 => ?_) (fun hc9 => ?_)
  · have hy := hy.t hc9
    refine AW.sub [] rfl ?_
    exact he0 h hy.s
  · have hy := hy.f hc9
    refine aw_aloadn (pc := 36) hX 0 rfl dX6_chooseNext_36 ?_
    refine aw_gI (pc := 37) hX hy fl_X6_47 (fun _ _ => rfl) dX6_chooseNext_37 (fun x6 hy => ?_)
    refine aw_iloadn (pc := 40) hX 2 rfl dX6_chooseNext_40 ?_
    refine aw_iconst (pc := 41) hX (-1) (by decide) dX6_chooseNext_41 ?_
    refine aw_ixor (pc := 42) hX dX6_chooseNext_42 ?_
    refine aw_iand (pc := 43) hX dX6_chooseNext_43 ?_
    refine aw_iload (pc := 44) hX 5 rfl dX6_chooseNext_44 ?_
    refine aw_ishr (pc := 46) hX dX6_chooseNext_46 ?_
    refine aw_iconst (pc := 47) hX 1 (by decide) dX6_chooseNext_47 ?_
    refine aw_iand (pc := 48) hX dX6_chooseNext_48 ?_
    refine aw_if_ne (pc := 49) hX 55 (by decide) dX6_chooseNext_49 (fun hc9 => ?_) (fun hc9 => ?_)
    · have hy := hy.f hc9
      refine aw_aloadn (pc := 55) hX 0 rfl dX6_chooseNext_55 ?_
      refine aw_aloadn (pc := 56) hX 1 rfl dX6_chooseNext_56 ?_
      refine aw_iloadn (pc := 57) hX 3 rfl dX6_chooseNext_57 ?_
      refine aw_iload (pc := 58) hX 5 rfl dX6_chooseNext_58 ?_
      refine aw_callV (pc := 60) (st := []) (a := v0) hX [vR v1, vI v3, vI v5] (con_X6_ownNotes _ G _ v0 v1 v3 v5 hy.bd) mc_X6_ownNotes ml_X6_73 im_X6_ownNotes se_X6_ownNotes (by decide) hy.bd.kd rfl (rm_of hr (by decide)) (Nat.le_of_ble_eq_true rfl) rfl dX6_chooseNext_60 (kpI rfl rfl (fun x7 hy => ?_))
      refine aw_aloadn (pc := 63) hX 0 rfl dX6_chooseNext_63 ?_
      refine aw_gR (pc := 64) hX hy fl_X6_17 (fun _ _ => rfl) dX6_chooseNext_64 (fun r8 hy => ?_)
      refine aw_iloadn (pc := 67) hX 2 rfl dX6_chooseNext_67 ?_
      refine aw_iconst (pc := 68) hX 1 (by decide) dX6_chooseNext_68 ?_
      refine aw_iload (pc := 69) hX 5 rfl dX6_chooseNext_69 ?_
      refine aw_ishl (pc := 71) hX dX6_chooseNext_71 ?_
      refine aw_ior (pc := 72) hX dX6_chooseNext_72 ?_
      refine aw_bipush (pc := 73) hX 7 (by decide) dX6_chooseNext_73 ?_
      refine aw_imul (pc := 75) hX dX6_chooseNext_75 ?_
      refine aw_iload (pc := 76) hX 5 rfl dX6_chooseNext_76 ?_
      refine aw_iadd (pc := 78) hX dX6_chooseNext_78 ?_
      refine aw_aI (pc := 79) hX hy dX6_chooseNext_79 (fun x9 hy => ?_)
      refine aw_iadd (pc := 80) hX dX6_chooseNext_80 ?_
      refine aw_istore (pc := 81) hX [(6, vI (x7 + x9)), (0, vR v0), (1, vR v1), (2, vI v2), (3, vI v3), (4, vI v4), (5, vI v5)] rfl (lt_n hN (by decide)) dX6_chooseNext_81 ?_
      refine aw_aloadn (pc := 83) hX 1 rfl dX6_chooseNext_83 ?_
      refine aw_gR (pc := 84) hX hy fl_X6_20 (fun _ _ => rfl) dX6_chooseNext_84 (fun r10 hy => ?_)
      refine aw_iload (pc := 87) hX 5 rfl dX6_chooseNext_87 ?_
      refine aw_aI (pc := 89) hX hy dX6_chooseNext_89 (fun x11 hy => ?_)
      refine aw_if_lt (pc := 90) hX 105 (by decide) dX6_chooseNext_90 (fun hc9 => ?_) (fun hc9 => ?_)
      · have hy := hy.t hc9
        refine AW.sub [1, 2, 3, 4, 5, 6, 0] rfl ?_
        exact w_X6_chooseNext_105 hX hN hr _ _ _ _ _ hc he0 h v5 (x7 + x9) hy
      · have hy := hy.f hc9
        refine aw_iload (pc := 93) hX 0 rfl dX6_chooseNext_93 ?_
        refine aw_aloadn (pc := 95) hX 1 rfl dX6_chooseNext_95 ?_
        refine aw_gR (pc := 96) hX hy fl_X6_17 (fun _ _ => rfl) dX6_chooseNext_96 (fun r19 hy => ?_)
        refine aw_iload (pc := 99) hX 5 rfl dX6_chooseNext_99 ?_
        refine aw_aI (pc := 101) hX hy dX6_chooseNext_101 (fun x20 hy => ?_)
        refine aw_ic_ge (pc := 102) hX 109 (by decide) dX6_chooseNext_102 (fun hc9 => ?_) (fun hc9 => ?_)
        · have hy := hy.t hc9
          refine aw_iconst (pc := 109) hX 0 (by decide) dX6_chooseNext_109 ?_
          refine AW.sub [1, 2, 3, 4, 5, 6, 0] rfl ?_
          exact w_X6_chooseNext_110 hX hN hr _ _ _ _ _ hc he0 h v5 (x7 + x9) 0 hy
        · have hy := hy.f hc9
          refine AW.sub [1, 2, 3, 4, 5, 6, 0] rfl ?_
          exact w_X6_chooseNext_105 hX hN hr _ _ _ _ _ hc he0 h v5 (x7 + x9) hy
    · have hy := hy.t hc9
      refine aw_goto (pc := 52) hX 161 (by decide) dX6_chooseNext_52 ?_
      exact w_X6_chooseNext_161 hX hN hr _ _ _ _ _ hc he0 h v5 hy
theorem wl_X6_chooseNext_27 {G : GE} {X : CX} {l : Launch} (hX : Ok G X cX6_chooseNext RX6) (hN : xn X = 8) {P0 : Mem → Prop} (hr : Rt G X l yX6_chooseNext none rm_X6_chooseNext (pmV P0)) (v0 : Nat) (v1 : Nat) (v2 : Int32) (v3 : Int32) (v4 : Int32) {P : (Mem) → Prop} (he0 : ∀ e, P e → AW G X 167 [] [] e 0 0) : ∀ (n : Nat) (s : Int32 × Mem), OK (iter (fun (s : Int32 × Mem) => b_X6_chooseNext_27 s.2 v0 v1 v2 v3 v4 s.1) n s) P → AW G X 27 [(0, vR v0), (1, vR v1), (2, vI v2), (3, vI v3), (4, vI v4), (5, vI s.1)] [] s.2 0 0 := by
  intro n
  induction n with
  | zero => exact fun s hy => hy.it0.elim
  | succ n ih =>
    intro s hy
    exact wb_X6_chooseNext_27 hX hN hr v0 v1 v2 v3 v4 (fun s hs => ih s hs) (fun e hs => he0 e hs) s.2 s.1 hy.it
def f_X6_chooseNext (h : Mem) (v0 : Nat) (v1 : Nat) (v2 : Int32) (v3 : Int32) : Option Mem :=
  (ck h v0 5).bind fun _ => (gR h v0 1 5).bind fun r1 => (sI h r1 ((v2 * 7) + v3) 0).bind fun h2 => (gR h2 v0 2 5).bind fun r3 => (sI h2 r3 ((v2 * 7) + v3) (-1)).bind fun h4 => (iter (fun (s : Int32 × Mem) => b_X6_chooseNext_27 s.2 v0 v1 v2 v3 ((v2 * 7) + v3) s.1) FU (0, h4)).bind (fun q21 => some q21)
set_option maxRecDepth 100000 in
set_option maxHeartbeats 4000000 in
theorem w_X6_chooseNext {G : GE} {X : CX} {l : Launch} (hX : Ok G X cX6_chooseNext RX6) (hN : xn X = 8) {P : Mem → Prop} (hr : Rt G X l yX6_chooseNext none rm_X6_chooseNext (pmV P)) (h : Mem) (v0 : Nat) (v1 : Nat) (v2 : Int32) (v3 : Int32) (hy : OK (f_X6_chooseNext h v0 v1 v2 v3) P) : AW G X 0 [(0, vR v0), (1, vR v1), (2, vI v2), (3, vI v3)] [] h 0 0 := by
  unfold f_X6_chooseNext at hy
  have hkd := hy.kd
  have hy := hy.kb
  refine aw_iloadn (pc := 0) hX 2 rfl dX6_chooseNext_0 ?_
  refine aw_bipush (pc := 1) hX 7 (by decide) dX6_chooseNext_1 ?_
  refine aw_imul (pc := 3) hX dX6_chooseNext_3 ?_
  refine aw_iloadn (pc := 4) hX 3 rfl dX6_chooseNext_4 ?_
  refine aw_iadd (pc := 5) hX dX6_chooseNext_5 ?_
  refine aw_istore (pc := 6) hX [(4, vI ((v2 * 7) + v3)), (0, vR v0), (1, vR v1), (2, vI v2), (3, vI v3)] rfl (lt_n hN (by decide)) dX6_chooseNext_6 ?_
  refine aw_aloadn (pc := 8) hX 1 rfl dX6_chooseNext_8 ?_
  refine aw_gR (pc := 9) hX hy fl_X6_17 (fun _ _ => rfl) dX6_chooseNext_9 (fun r1 hy => ?_)
  refine aw_iload (pc := 12) hX 0 rfl dX6_chooseNext_12 ?_
  refine aw_iconst (pc := 14) hX 0 (by decide) dX6_chooseNext_14 ?_
  refine aw_sI (pc := 15) hX hy dX6_chooseNext_15 (fun h2 hy => ?_)
  refine aw_aloadn (pc := 16) hX 1 rfl dX6_chooseNext_16 ?_
  refine aw_gR (pc := 17) hX hy fl_X6_20 (fun _ _ => rfl) dX6_chooseNext_17 (fun r3 hy => ?_)
  refine aw_iload (pc := 20) hX 0 rfl dX6_chooseNext_20 ?_
  refine aw_iconst (pc := 22) hX (-1) (by decide) dX6_chooseNext_22 ?_
  refine aw_sI (pc := 23) hX hy dX6_chooseNext_23 (fun h4 hy => ?_)
  refine aw_iconst (pc := 24) hX 0 (by decide) dX6_chooseNext_24 ?_
  refine aw_istore (pc := 25) hX [(5, vI 0), (4, vI ((v2 * 7) + v3)), (0, vR v0), (1, vR v1), (2, vI v2), (3, vI v3)] rfl (lt_n hN (by decide)) dX6_chooseNext_25 ?_
  refine AW.sub [2, 3, 4, 5, 1, 0] rfl ?_
  refine wl_X6_chooseNext_27 hX hN hr v0 v1 v2 v3 ((v2 * 7) + v3) ?_ FU (0, h4) hy.bd
  · intro q21 hy
    exact aw_vret (pc := 167) hX hr (by decide) (by decide) dX6_chooseNext_167 ⟨rfl, hy.s⟩
theorem con_X6_chooseNext (l : Launch) (G : GE) (h : Mem) (v0 : Nat) (v1 : Nat) (v2 : Int32) (v3 : Int32) {P : Mem → Prop} (hy : OK (f_X6_chooseNext h v0 v1 v2 v3) P) : Con l G yX6_chooseNext cX6_chooseNext 8 none rm_X6_chooseNext [vR v0, vR v1, vI v2, vI v3] h (pmV P) := Con.of (by decide) (Nat.le_of_ble_eq_true rfl) (fun X hX hr hN => w_X6_chooseNext hX hN hr h v0 v1 v2 v3 hy)
/-! X6_compose -/
theorem dX6_compose_0 : decode cX6_compose 0 = .ok (.aload_n 0, 1) := by decide +kernel
theorem dX6_compose_1 : decode cX6_compose 1 = .ok (.getfield 39, 3) := by decide +kernel
theorem dX6_compose_4 : decode cX6_compose 4 = .ok (.iload_n 2, 1) := by decide +kernel
theorem dX6_compose_5 : decode cX6_compose 5 = .ok (.if_icmp .ne 4, 3) := by decide +kernel
theorem dX6_compose_8 : decode cX6_compose 8 = .ok (.return_, 1) := by decide +kernel
theorem dX6_compose_9 : decode cX6_compose 9 = .ok (.aload_n 0, 1) := by decide +kernel
theorem dX6_compose_10 : decode cX6_compose 10 = .ok (.iload_n 2, 1) := by decide +kernel
theorem dX6_compose_11 : decode cX6_compose 11 = .ok (.putfield 39, 3) := by decide +kernel
theorem dX6_compose_14 : decode cX6_compose 14 = .ok (.aload_n 0, 1) := by decide +kernel
theorem dX6_compose_15 : decode cX6_compose 15 = .ok (.aload_n 1, 1) := by decide +kernel
theorem dX6_compose_16 : decode cX6_compose 16 = .ok (.iload_n 2, 1) := by decide +kernel
theorem dX6_compose_17 : decode cX6_compose 17 = .ok (.invokestatic 43, 3) := by decide +kernel
theorem dX6_compose_20 : decode cX6_compose 20 = .ok (.putfield 47, 3) := by decide +kernel
theorem dX6_compose_23 : decode cX6_compose 23 = .ok (.aload_n 0, 1) := by decide +kernel
theorem dX6_compose_24 : decode cX6_compose 24 = .ok (.aload_n 1, 1) := by decide +kernel
theorem dX6_compose_25 : decode cX6_compose 25 = .ok (.invokevirtual 50, 3) := by decide +kernel
theorem dX6_compose_28 : decode cX6_compose 28 = .ok (.aload_n 0, 1) := by decide +kernel
theorem dX6_compose_29 : decode cX6_compose 29 = .ok (.getfield 47, 3) := by decide +kernel
theorem dX6_compose_32 : decode cX6_compose 32 = .ok (.istore_n 3, 1) := by decide +kernel
theorem dX6_compose_33 : decode cX6_compose 33 = .ok (.iload_n 3, 1) := by decide +kernel
theorem dX6_compose_34 : decode cX6_compose 34 = .ok (.ifCond .le 56, 3) := by decide +kernel
theorem dX6_compose_37 : decode cX6_compose 37 = .ok (.iconst 0, 1) := by decide +kernel
theorem dX6_compose_38 : decode cX6_compose 38 = .ok (.istore 4, 2) := by decide +kernel
theorem dX6_compose_40 : decode cX6_compose 40 = .ok (.iload 4, 2) := by decide +kernel
theorem dX6_compose_42 : decode cX6_compose 42 = .ok (.aload_n 1, 1) := by decide +kernel
theorem dX6_compose_43 : decode cX6_compose 43 = .ok (.getfield 54, 3) := by decide +kernel
theorem dX6_compose_46 : decode cX6_compose 46 = .ok (.if_icmp .ge 38, 3) := by decide +kernel
theorem dX6_compose_49 : decode cX6_compose 49 = .ok (.iload_n 3, 1) := by decide +kernel
theorem dX6_compose_50 : decode cX6_compose 50 = .ok (.aload_n 0, 1) := by decide +kernel
theorem dX6_compose_51 : decode cX6_compose 51 = .ok (.getfield 47, 3) := by decide +kernel
theorem dX6_compose_54 : decode cX6_compose 54 = .ok (.iconst (-1), 1) := by decide +kernel
theorem dX6_compose_55 : decode cX6_compose 55 = .ok (.ixor, 1) := by decide +kernel
theorem dX6_compose_56 : decode cX6_compose 56 = .ok (.iand, 1) := by decide +kernel
theorem dX6_compose_57 : decode cX6_compose 57 = .ok (.ifCond .ne 21, 3) := by decide +kernel
theorem dX6_compose_60 : decode cX6_compose 60 = .ok (.iload_n 3, 1) := by decide +kernel
theorem dX6_compose_61 : decode cX6_compose 61 = .ok (.iload 4, 2) := by decide +kernel
theorem dX6_compose_63 : decode cX6_compose 63 = .ok (.ishr, 1) := by decide +kernel
theorem dX6_compose_64 : decode cX6_compose 64 = .ok (.iconst 1, 1) := by decide +kernel
theorem dX6_compose_65 : decode cX6_compose 65 = .ok (.iand, 1) := by decide +kernel
theorem dX6_compose_66 : decode cX6_compose 66 = .ok (.iconst 1, 1) := by decide +kernel
theorem dX6_compose_67 : decode cX6_compose 67 = .ok (.if_icmp .ne 11, 3) := by decide +kernel
theorem dX6_compose_70 : decode cX6_compose 70 = .ok (.aload_n 0, 1) := by decide +kernel
theorem dX6_compose_71 : decode cX6_compose 71 = .ok (.aload_n 1, 1) := by decide +kernel
theorem dX6_compose_72 : decode cX6_compose 72 = .ok (.iload_n 3, 1) := by decide +kernel
theorem dX6_compose_73 : decode cX6_compose 73 = .ok (.iload 4, 2) := by decide +kernel
theorem dX6_compose_75 : decode cX6_compose 75 = .ok (.invokevirtual 57, 3) := by decide +kernel
theorem dX6_compose_78 : decode cX6_compose 78 = .ok (.iinc 4 1, 3) := by decide +kernel
theorem dX6_compose_81 : decode cX6_compose 81 = .ok (.goto (-41), 3) := by decide +kernel
theorem dX6_compose_84 : decode cX6_compose 84 = .ok (.iinc 3 (-1), 3) := by decide +kernel
theorem dX6_compose_87 : decode cX6_compose 87 = .ok (.goto (-54), 3) := by decide +kernel
theorem dX6_compose_90 : decode cX6_compose 90 = .ok (.aload_n 0, 1) := by decide +kernel
theorem dX6_compose_91 : decode cX6_compose 91 = .ok (.aload_n 1, 1) := by decide +kernel
theorem dX6_compose_92 : decode cX6_compose 92 = .ok (.iconst 0, 1) := by decide +kernel
theorem dX6_compose_93 : decode cX6_compose 93 = .ok (.bipush 6, 2) := by decide +kernel
theorem dX6_compose_95 : decode cX6_compose 95 = .ok (.invokevirtual 57, 3) := by decide +kernel
theorem dX6_compose_98 : decode cX6_compose 98 = .ok (.return_, 1) := by decide +kernel
abbrev rm_X6_compose : Room := { frames := 4, cells := 0, slots := 0, locals := 110 }
def f_X6_compose_78 (h : Mem) (v0 : Nat) (v1 : Nat) (v3 : Int32) (v4 : Int32) : Option ((Int32 × Mem) ⊕ Mem) :=
  some (.inl ((v4 + 1), h))
set_option maxRecDepth 100000 in
set_option maxHeartbeats 4000000 in
theorem w_X6_compose_78 {G : GE} {X : CX} {l : Launch} (hX : Ok G X cX6_compose RX6) (hN : xn X = 5) {P0 : Mem → Prop} (hr : Rt G X l yX6_compose none rm_X6_compose (pmV P0))  (v0 : Nat) (v1 : Nat) (v3 : Int32) {P : ((Int32 × Mem) ⊕ Mem) → Prop} (hc : ∀ s, P (.inl s) → AW G X 40 [(0, vR v0), (1, vR v1), (3, vI v3), (4, vI s.1)] [] s.2 0 0) (he0 : ∀ e, P (.inr e) → AW G X 84 [(0, vR v0), (1, vR v1), (3, vI v3)] [] e 0 0) (h : Mem) (v4 : Int32) (hy : OK (f_X6_compose_78 h v0 v1 v3 v4) P) : AW G X 78 [(0, vR v0), (1, vR v1), (3, vI v3), (4, vI v4)] [] h 0 0 := by
  unfold f_X6_compose_78 at hy
  refine aw_iinc (pc := 78) hX 1 (by decide) 3 rfl [(4, vI (v4 + 1)), (0, vR v0), (1, vR v1), (3, vI v3)] rfl (lt_n hN (by decide)) dX6_compose_78 ?_
  refine aw_goto (pc := 81) hX 40 (by decide) dX6_compose_81 ?_
  refine AW.sub [1, 2, 3, 0] rfl ?_
  exact hc ((v4 + 1), h) hy.s
def b_X6_compose_40 (h : Mem) (v0 : Nat) (v1 : Nat) (v3 : Int32) (v4 : Int32) : Option ((Int32 × Mem) ⊕ Mem) :=
  (gI h v1 1 4).bind fun x7 => (if x7 ≤ v4 then some (.inr h) else (gI h v0 4 5).bind fun x8 => (if (v3 &&& (x8 ^^^ (-1))) = 0 then (if (((v3 : Int32) >>> (v4 &&& 31)) &&& 1) = 1 then (f_X6_chooseNext h v0 v1 v3 v4).bind fun h9 => f_X6_compose_78 h9 v0 v1 v3 v4 else f_X6_compose_78 h v0 v1 v3 v4) else f_X6_compose_78 h v0 v1 v3 v4))
set_option maxRecDepth 100000 in
set_option maxHeartbeats 4000000 in
theorem wb_X6_compose_40 {G : GE} {X : CX} {l : Launch} (hX : Ok G X cX6_compose RX6) (hN : xn X = 5) {P0 : Mem → Prop} (hr : Rt G X l yX6_compose none rm_X6_compose (pmV P0))  (v0 : Nat) (v1 : Nat) (v3 : Int32) {P : ((Int32 × Mem) ⊕ Mem) → Prop} (hc : ∀ s, P (.inl s) → AW G X 40 [(0, vR v0), (1, vR v1), (3, vI v3), (4, vI s.1)] [] s.2 0 0) (he0 : ∀ e, P (.inr e) → AW G X 84 [(0, vR v0), (1, vR v1), (3, vI v3)] [] e 0 0) (h : Mem) (v4 : Int32) (hy : OK (b_X6_compose_40 h v0 v1 v3 v4) P) : AW G X 40 [(0, vR v0), (1, vR v1), (3, vI v3), (4, vI v4)] [] h 0 0 := by
  unfold b_X6_compose_40 at hy
  refine aw_iload (pc := 40) hX 3 rfl dX6_compose_40 ?_
  refine aw_aloadn (pc := 42) hX 1 rfl dX6_compose_42 ?_
  refine aw_gI (pc := 43) hX hy fl_X6_54 (fun _ _ => rfl) dX6_compose_43 (fun x7 hy => ?_)
  refine aw_ic_ge (pc := 46) hX 84 (by decide) dX6_compose_46 (fun hc9 => ?_) (fun hc9 => ?_)
  · have hy := hy.t hc9
    refine AW.sub [0, 1, 2] rfl ?_
    exact he0 h hy.s
  · have hy := hy.f hc9
    refine aw_iloadn (pc := 49) hX 2 rfl dX6_compose_49 ?_
    refine aw_aloadn (pc := 50) hX 0 rfl dX6_compose_50 ?_
    refine aw_gI (pc := 51) hX hy fl_X6_47 (fun _ _ => rfl) dX6_compose_51 (fun x8 hy => ?_)
    refine aw_iconst (pc := 54) hX (-1) (by decide) dX6_compose_54 ?_
    refine aw_ixor (pc := 55) hX dX6_compose_55 ?_
    refine aw_iand (pc := 56) hX dX6_compose_56 ?_
    refine aw_if_ne (pc := 57) hX 78 (by decide) dX6_compose_57 (fun hc9 => ?_) (fun hc9 => ?_)
    · have hy := hy.f hc9
      exact w_X6_compose_78 hX hN hr _ _ _ hc he0 h v4 hy
    · have hy := hy.t hc9
      refine aw_iloadn (pc := 60) hX 2 rfl dX6_compose_60 ?_
      refine aw_iload (pc := 61) hX 3 rfl dX6_compose_61 ?_
      refine aw_ishr (pc := 63) hX dX6_compose_63 ?_
      refine aw_iconst (pc := 64) hX 1 (by decide) dX6_compose_64 ?_
      refine aw_iand (pc := 65) hX dX6_compose_65 ?_
      refine aw_iconst (pc := 66) hX 1 (by decide) dX6_compose_66 ?_
      refine aw_ic_ne (pc := 67) hX 78 (by decide) dX6_compose_67 (fun hc9 => ?_) (fun hc9 => ?_)
      · have hy := hy.f hc9
        exact w_X6_compose_78 hX hN hr _ _ _ hc he0 h v4 hy
      · have hy := hy.t hc9
        refine aw_aloadn (pc := 70) hX 0 rfl dX6_compose_70 ?_
        refine aw_aloadn (pc := 71) hX 1 rfl dX6_compose_71 ?_
        refine aw_iloadn (pc := 72) hX 2 rfl dX6_compose_72 ?_
        refine aw_iload (pc := 73) hX 3 rfl dX6_compose_73 ?_
        refine aw_callV (pc := 75) (st := []) (a := v0) hX [vR v1, vI v3, vI v4] (con_X6_chooseNext _ G _ v0 v1 v3 v4 hy.bd) mc_X6_chooseNext ml_X6_57 im_X6_chooseNext se_X6_chooseNext (by decide) hy.bd.kd rfl (rm_of hr (by decide)) (Nat.le_of_ble_eq_true rfl) rfl dX6_compose_75 (kmV rfl rfl (fun h9 hy => ?_))
        exact w_X6_compose_78 hX hN hr _ _ _ hc he0 h9 v4 hy
theorem wl_X6_compose_40 {G : GE} {X : CX} {l : Launch} (hX : Ok G X cX6_compose RX6) (hN : xn X = 5) {P0 : Mem → Prop} (hr : Rt G X l yX6_compose none rm_X6_compose (pmV P0)) (v0 : Nat) (v1 : Nat) (v3 : Int32) {P : (Mem) → Prop} (he0 : ∀ e, P e → AW G X 84 [(0, vR v0), (1, vR v1), (3, vI v3)] [] e 0 0) : ∀ (n : Nat) (s : Int32 × Mem), OK (iter (fun (s : Int32 × Mem) => b_X6_compose_40 s.2 v0 v1 v3 s.1) n s) P → AW G X 40 [(0, vR v0), (1, vR v1), (3, vI v3), (4, vI s.1)] [] s.2 0 0 := by
  intro n
  induction n with
  | zero => exact fun s hy => hy.it0.elim
  | succ n ih =>
    intro s hy
    exact wb_X6_compose_40 hX hN hr v0 v1 v3 (fun s hs => ih s hs) (fun e hs => he0 e hs) s.2 s.1 hy.it
def b_X6_compose_33 (h : Mem) (v0 : Nat) (v1 : Nat) (v3 : Int32) : Option ((Int32 × Mem) ⊕ Mem) :=
  (if v3 ≤ 0 then some (.inr h) else (iter (fun (s : Int32 × Mem) => b_X6_compose_40 s.2 v0 v1 v3 s.1) FU (0, h)).bind (fun q10 => some (.inl ((v3 + (-1)), q10))))
set_option maxRecDepth 100000 in
set_option maxHeartbeats 4000000 in
theorem wb_X6_compose_33 {G : GE} {X : CX} {l : Launch} (hX : Ok G X cX6_compose RX6) (hN : xn X = 5) {P0 : Mem → Prop} (hr : Rt G X l yX6_compose none rm_X6_compose (pmV P0))  (v0 : Nat) (v1 : Nat) {P : ((Int32 × Mem) ⊕ Mem) → Prop} (hc : ∀ s, P (.inl s) → AW G X 33 [(0, vR v0), (1, vR v1), (3, vI s.1)] [] s.2 0 0) (he0 : ∀ e, P (.inr e) → AW G X 90 [(0, vR v0), (1, vR v1)] [] e 0 0) (h : Mem) (v3 : Int32) (hy : OK (b_X6_compose_33 h v0 v1 v3) P) : AW G X 33 [(0, vR v0), (1, vR v1), (3, vI v3)] [] h 0 0 := by
  unfold b_X6_compose_33 at hy
  refine aw_iloadn (pc := 33) hX 2 rfl dX6_compose_33 ?_
  refine aw_if_le (pc := 34) hX 90 (by decide) dX6_compose_34 (fun hc9 => ?_) (fun hc9 => ?_)
  · have hy := hy.t hc9
    refine AW.sub [0, 1] rfl ?_
    exact he0 h hy.s
  · have hy := hy.f hc9
    refine aw_iconst (pc := 37) hX 0 (by decide) dX6_compose_37 ?_
    refine aw_istore (pc := 38) hX [(4, vI 0), (0, vR v0), (1, vR v1), (3, vI v3)] rfl (lt_n hN (by decide)) dX6_compose_38 ?_
    refine AW.sub [1, 2, 3, 0] rfl ?_
    refine wl_X6_compose_40 hX hN hr v0 v1 v3 ?_ FU (0, h) hy.bd
    · intro q10 hy
      refine aw_iinc (pc := 84) hX (-1) (by decide) 2 rfl [(3, vI (v3 + (-1))), (0, vR v0), (1, vR v1)] rfl (lt_n hN (by decide)) dX6_compose_84 ?_
      refine aw_goto (pc := 87) hX 33 (by decide) dX6_compose_87 ?_
      refine AW.sub [1, 2, 0] rfl ?_
      exact hc ((v3 + (-1)), q10) hy.s
theorem wl_X6_compose_33 {G : GE} {X : CX} {l : Launch} (hX : Ok G X cX6_compose RX6) (hN : xn X = 5) {P0 : Mem → Prop} (hr : Rt G X l yX6_compose none rm_X6_compose (pmV P0)) (v0 : Nat) (v1 : Nat) {P : (Mem) → Prop} (he0 : ∀ e, P e → AW G X 90 [(0, vR v0), (1, vR v1)] [] e 0 0) : ∀ (n : Nat) (s : Int32 × Mem), OK (iter (fun (s : Int32 × Mem) => b_X6_compose_33 s.2 v0 v1 s.1) n s) P → AW G X 33 [(0, vR v0), (1, vR v1), (3, vI s.1)] [] s.2 0 0 := by
  intro n
  induction n with
  | zero => exact fun s hy => hy.it0.elim
  | succ n ih =>
    intro s hy
    exact wb_X6_compose_33 hX hN hr v0 v1 (fun s hs => ih s hs) (fun e hs => he0 e hs) s.2 s.1 hy.it
def f_X6_compose (h : Mem) (v0 : Nat) (v1 : Nat) (v2 : Int32) : Option Mem :=
  (ck h v0 5).bind fun _ => (gI h v0 3 5).bind fun x1 => (if x1 = v2 then some h else (pI h v0 3 5 v2).bind fun h2 => (f_X6_withoutInner h2 v1 v2).bind fun x3 => (pI h2 v0 4 5 x3).bind fun h4 => (f_X6_findOverlaps h4 v0 v1).bind fun h5 => (gI h5 v0 4 5).bind fun x6 => (iter (fun (s : Int32 × Mem) => b_X6_compose_33 s.2 v0 v1 s.1) FU (x6, h5)).bind (fun q11 => (f_X6_chooseNext q11 v0 v1 0 6).bind fun h12 => some h12))
set_option maxRecDepth 100000 in
set_option maxHeartbeats 4000000 in
theorem w_X6_compose {G : GE} {X : CX} {l : Launch} (hX : Ok G X cX6_compose RX6) (hN : xn X = 5) {P : Mem → Prop} (hr : Rt G X l yX6_compose none rm_X6_compose (pmV P)) (h : Mem) (v0 : Nat) (v1 : Nat) (v2 : Int32) (hy : OK (f_X6_compose h v0 v1 v2) P) : AW G X 0 [(0, vR v0), (1, vR v1), (2, vI v2)] [] h 0 0 := by
  unfold f_X6_compose at hy
  have hkd := hy.kd
  have hy := hy.kb
  refine aw_aloadn (pc := 0) hX 0 rfl dX6_compose_0 ?_
  refine aw_gI (pc := 1) hX hy fl_X6_39 (fun _ _ => rfl) dX6_compose_1 (fun x1 hy => ?_)
  refine aw_iloadn (pc := 4) hX 2 rfl dX6_compose_4 ?_
  refine aw_ic_ne (pc := 5) hX 9 (by decide) dX6_compose_5 (fun hc9 => ?_) (fun hc9 => ?_)
  · have hy := hy.f hc9
    refine aw_aloadn (pc := 9) hX 0 rfl dX6_compose_9 ?_
    refine aw_iloadn (pc := 10) hX 2 rfl dX6_compose_10 ?_
    refine aw_pI (pc := 11) hX hy fl_X6_39 rfl (Or.inl rfl) dX6_compose_11 (fun h2 hy => ?_)
    refine aw_aloadn (pc := 14) hX 0 rfl dX6_compose_14 ?_
    refine aw_aloadn (pc := 15) hX 1 rfl dX6_compose_15 ?_
    refine aw_iloadn (pc := 16) hX 2 rfl dX6_compose_16 ?_
    refine aw_callS (pc := 17) (st := [vR v0]) hX [vR v1, vI v2] (con_X6_withoutInner _ G _ v1 v2 hy.bd) mc_X6_withoutInner ml_X6_43 st_X6_withoutInner rfl (rm_of hr (by decide)) (Nat.le_of_ble_eq_true rfl) rfl dX6_compose_17 (kpI rfl rfl (fun x3 hy => ?_))
    refine aw_pI (pc := 20) hX hy fl_X6_47 rfl (Or.inl rfl) dX6_compose_20 (fun h4 hy => ?_)
    refine aw_aloadn (pc := 23) hX 0 rfl dX6_compose_23 ?_
    refine aw_aloadn (pc := 24) hX 1 rfl dX6_compose_24 ?_
    refine aw_callV (pc := 25) (st := []) (a := v0) hX [vR v1] (con_X6_findOverlaps _ G _ v0 v1 hy.bd) mc_X6_findOverlaps ml_X6_50 im_X6_findOverlaps se_X6_findOverlaps (by decide) hy.bd.kd rfl (rm_of hr (by decide)) (Nat.le_of_ble_eq_true rfl) rfl dX6_compose_25 (kmV rfl rfl (fun h5 hy => ?_))
    refine aw_aloadn (pc := 28) hX 0 rfl dX6_compose_28 ?_
    refine aw_gI (pc := 29) hX hy fl_X6_47 (fun _ _ => rfl) dX6_compose_29 (fun x6 hy => ?_)
    refine aw_istoren (pc := 32) hX [(3, vI x6), (0, vR v0), (1, vR v1), (2, vI v2)] rfl (lt_n hN (by decide)) dX6_compose_32 ?_
    refine AW.sub [1, 2, 0] rfl ?_
    refine wl_X6_compose_33 hX hN hr v0 v1 ?_ FU (x6, h5) hy.bd
    · intro q11 hy
      refine aw_aloadn (pc := 90) hX 0 rfl dX6_compose_90 ?_
      refine aw_aloadn (pc := 91) hX 1 rfl dX6_compose_91 ?_
      refine aw_iconst (pc := 92) hX 0 (by decide) dX6_compose_92 ?_
      refine aw_bipush (pc := 93) hX 6 (by decide) dX6_compose_93 ?_
      refine aw_callV (pc := 95) (st := []) (a := v0) hX [vR v1, vI 0, vI 6] (con_X6_chooseNext _ G _ v0 v1 0 6 hy.bd) mc_X6_chooseNext ml_X6_57 im_X6_chooseNext se_X6_chooseNext (by decide) hy.bd.kd rfl (rm_of hr (by decide)) (Nat.le_of_ble_eq_true rfl) rfl dX6_compose_95 (kmV rfl rfl (fun h12 hy => ?_))
      exact aw_vret (pc := 98) hX hr (by decide) (by decide) dX6_compose_98 ⟨rfl, hy.s⟩
  · have hy := hy.t hc9
    exact aw_vret (pc := 8) hX hr (by decide) (by decide) dX6_compose_8 ⟨rfl, hy.s⟩
theorem con_X6_compose (l : Launch) (G : GE) (h : Mem) (v0 : Nat) (v1 : Nat) (v2 : Int32) {P : Mem → Prop} (hy : OK (f_X6_compose h v0 v1 v2) P) : Con l G yX6_compose cX6_compose 5 none rm_X6_compose [vR v0, vR v1, vI v2] h (pmV P) := Con.of (by decide) (Nat.le_of_ble_eq_true rfl) (fun X hX hr hN => w_X6_compose hX hN hr h v0 v1 v2 hy)
/-! X6_notes -/
theorem dX6_notes_0 : decode cX6_notes 0 = .ok (.aload_n 0, 1) := by decide +kernel
theorem dX6_notes_1 : decode cX6_notes 1 = .ok (.getfield 17, 3) := by decide +kernel
theorem dX6_notes_4 : decode cX6_notes 4 = .ok (.bipush 6, 2) := by decide +kernel
theorem dX6_notes_6 : decode cX6_notes 6 = .ok (.iaload, 1) := by decide +kernel
theorem dX6_notes_7 : decode cX6_notes 7 = .ok (.ireturn, 1) := by decide +kernel
abbrev rm_X6_notes : Room := { frames := 0, cells := 0, slots := 0, locals := 0 }
def f_X6_notes (h : Mem) (v0 : Nat) : Option Int32 :=
  (ck h v0 5).bind fun _ => (gR h v0 1 5).bind fun r1 => (aI h r1 6).bind fun x2 => some x2
set_option maxRecDepth 100000 in
set_option maxHeartbeats 4000000 in
theorem w_X6_notes {G : GE} {X : CX} {l : Launch} (hX : Ok G X cX6_notes RX6) (hN : xn X = 1) (h : Mem) {P : Int32 → Prop} (hr : Rt G X l yX6_notes (some .int) rm_X6_notes (ppI h P)) (v0 : Nat) (hy : OK (f_X6_notes h v0) P) : AW G X 0 [(0, vR v0)] [] h 0 0 := by
  unfold f_X6_notes at hy
  have hkd := hy.kd
  have hy := hy.kb
  refine aw_aloadn (pc := 0) hX 0 rfl dX6_notes_0 ?_
  refine aw_gR (pc := 1) hX hy fl_X6_17 (fun _ _ => rfl) dX6_notes_1 (fun r1 hy => ?_)
  refine aw_bipush (pc := 4) hX 6 (by decide) dX6_notes_4 ?_
  refine aw_aI (pc := 6) hX hy dX6_notes_6 (fun x2 hy => ?_)
  exact aw_iret (pc := 7) hX hr (by decide) (by decide) dX6_notes_7 ⟨rfl, _, rfl, hy.s⟩
theorem con_X6_notes (l : Launch) (G : GE) (h : Mem) (v0 : Nat) {P : Int32 → Prop} (hy : OK (f_X6_notes h v0) P) : Con l G yX6_notes cX6_notes 1 (some .int) rm_X6_notes [vR v0] h (ppI h P) := Con.of (by decide) (Nat.le_of_ble_eq_true rfl) (fun X hX hr hN => w_X6_notes hX hN h hr v0 hy)
/-! X6_noteAt -/
theorem dX6_noteAt_0 : decode cX6_noteAt 0 = .ok (.aload_n 0, 1) := by decide +kernel
theorem dX6_noteAt_1 : decode cX6_noteAt 1 = .ok (.aload_n 1, 1) := by decide +kernel
theorem dX6_noteAt_2 : decode cX6_noteAt 2 = .ok (.iconst 0, 1) := by decide +kernel
theorem dX6_noteAt_3 : decode cX6_noteAt 3 = .ok (.bipush 6, 2) := by decide +kernel
theorem dX6_noteAt_5 : decode cX6_noteAt 5 = .ok (.aload_n 0, 1) := by decide +kernel
theorem dX6_noteAt_6 : decode cX6_noteAt 6 = .ok (.getfield 20, 3) := by decide +kernel
theorem dX6_noteAt_9 : decode cX6_noteAt 9 = .ok (.bipush 6, 2) := by decide +kernel
theorem dX6_noteAt_11 : decode cX6_noteAt 11 = .ok (.iaload, 1) := by decide +kernel
theorem dX6_noteAt_12 : decode cX6_noteAt 12 = .ok (.iload_n 2, 1) := by decide +kernel
theorem dX6_noteAt_13 : decode cX6_noteAt 13 = .ok (.invokevirtual 61, 3) := by decide +kernel
theorem dX6_noteAt_16 : decode cX6_noteAt 16 = .ok (.ireturn, 1) := by decide +kernel
abbrev rm_X6_noteAt : Room := { frames := 2, cells := 0, slots := 0, locals := 54 }
def f_X6_noteAt (h : Mem) (v0 : Nat) (v1 : Nat) (v2 : Int32) : Option Int32 :=
  (ck h v0 5).bind fun _ => (gR h v0 2 5).bind fun r1 => (aI h r1 6).bind fun x2 => (f_X6_noteBehind h v0 v1 0 6 x2 v2).bind fun x3 => some x3
set_option maxRecDepth 100000 in
set_option maxHeartbeats 4000000 in
theorem w_X6_noteAt {G : GE} {X : CX} {l : Launch} (hX : Ok G X cX6_noteAt RX6) (hN : xn X = 3) (h : Mem) {P : Int32 → Prop} (hr : Rt G X l yX6_noteAt (some .int) rm_X6_noteAt (ppI h P)) (v0 : Nat) (v1 : Nat) (v2 : Int32) (hy : OK (f_X6_noteAt h v0 v1 v2) P) : AW G X 0 [(0, vR v0), (1, vR v1), (2, vI v2)] [] h 0 0 := by
  unfold f_X6_noteAt at hy
  have hkd := hy.kd
  have hy := hy.kb
  refine aw_aloadn (pc := 0) hX 0 rfl dX6_noteAt_0 ?_
  refine aw_aloadn (pc := 1) hX 1 rfl dX6_noteAt_1 ?_
  refine aw_iconst (pc := 2) hX 0 (by decide) dX6_noteAt_2 ?_
  refine aw_bipush (pc := 3) hX 6 (by decide) dX6_noteAt_3 ?_
  refine aw_aloadn (pc := 5) hX 0 rfl dX6_noteAt_5 ?_
  refine aw_gR (pc := 6) hX hy fl_X6_20 (fun _ _ => rfl) dX6_noteAt_6 (fun r1 hy => ?_)
  refine aw_bipush (pc := 9) hX 6 (by decide) dX6_noteAt_9 ?_
  refine aw_aI (pc := 11) hX hy dX6_noteAt_11 (fun x2 hy => ?_)
  refine aw_iloadn (pc := 12) hX 2 rfl dX6_noteAt_12 ?_
  refine aw_callV (pc := 13) (st := []) (a := v0) hX [vR v1, vI 0, vI 6, vI x2, vI v2] (con_X6_noteBehind _ G _ v0 v1 0 6 x2 v2 hy.bd) mc_X6_noteBehind ml_X6_61 im_X6_noteBehind se_X6_noteBehind (by decide) hy.bd.kd rfl (rm_of hr (by decide)) (Nat.le_of_ble_eq_true rfl) rfl dX6_noteAt_13 (kpI rfl rfl (fun x3 hy => ?_))
  exact aw_iret (pc := 16) hX hr (by decide) (by decide) dX6_noteAt_16 ⟨rfl, _, rfl, hy.s⟩
theorem con_X6_noteAt (l : Launch) (G : GE) (h : Mem) (v0 : Nat) (v1 : Nat) (v2 : Int32) {P : Int32 → Prop} (hy : OK (f_X6_noteAt h v0 v1 v2) P) : Con l G yX6_noteAt cX6_noteAt 3 (some .int) rm_X6_noteAt [vR v0, vR v1, vI v2] h (ppI h P) := Con.of (by decide) (Nat.le_of_ble_eq_true rfl) (fun X hX hr hN => w_X6_noteAt hX hN h hr v0 v1 v2 hy)
/-! X7_init -/
theorem dX7_init_0 : decode cX7_init 0 = .ok (.aload_n 0, 1) := by decide +kernel
theorem dX7_init_1 : decode cX7_init 1 = .ok (.invokespecial 3, 3) := by decide +kernel
theorem dX7_init_4 : decode cX7_init 4 = .ok (.aload_n 0, 1) := by decide +kernel
theorem dX7_init_5 : decode cX7_init 5 = .ok (.bipush 42, 2) := by decide +kernel
theorem dX7_init_7 : decode cX7_init 7 = .ok (.newarray .int, 2) := by decide +kernel
theorem dX7_init_9 : decode cX7_init 9 = .ok (.putfield 11, 3) := by decide +kernel
theorem dX7_init_12 : decode cX7_init 12 = .ok (.aload_n 0, 1) := by decide +kernel
theorem dX7_init_13 : decode cX7_init 13 = .ok (.bipush 42, 2) := by decide +kernel
theorem dX7_init_15 : decode cX7_init 15 = .ok (.newarray .int, 2) := by decide +kernel
theorem dX7_init_17 : decode cX7_init 17 = .ok (.putfield 17, 3) := by decide +kernel
theorem dX7_init_20 : decode cX7_init 20 = .ok (.return_, 1) := by decide +kernel
abbrev rm_X7_init : Room := { frames := 1, cells := 2, slots := 84, locals := 20 }
def f_X7_init (h : Mem) (v0 : Nat) : Option Mem :=
  (ck h v0 6).bind fun _ => (pR (mNew h 100 42) v0 0 6 (mN h)).bind fun h1 => (pR (mNew h1 100 42) v0 1 6 (mN h1)).bind fun h2 => some h2
set_option maxRecDepth 100000 in
set_option maxHeartbeats 4000000 in
theorem w_X7_init {G : GE} {X : CX} {l : Launch} (hX : Ok G X cX7_init RX7) (hN : xn X = 1) {P : Mem → Prop} (hr : Rt G X l yX7_init none rm_X7_init (pmV P)) (h : Mem) (v0 : Nat) (hy : OK (f_X7_init h v0) P) : AW G X 0 [(0, vR v0)] [] h 0 0 := by
  unfold f_X7_init at hy
  have hkd := hy.kd
  have hy := hy.kb
  refine aw_aloadn (pc := 0) hX 0 rfl dX7_init_0 ?_
  refine aw_objInit0 (pc := 1) hX hkd oi_X7_3 oi_i oi_c (by decide) (Nat.le_of_ble_eq_true rfl) (le_f hr (by decide)) (le_l hr (by decide)) dX7_init_1 ?_
  refine aw_aloadn (pc := 4) hX 0 rfl dX7_init_4 ?_
  refine aw_bipush (pc := 5) hX 42 (by decide) dX7_init_5 ?_
  refine aw_newi (pc := 7) hX 42 42 (by decide) (by decide) (by decide) ar_int (le_c hr (by decide)) (le_s hr (by decide)) dX7_init_7 ?_
  refine AW.eqa (ce' := 1) (sl' := 42) rfl rfl ?_
  refine aw_pR (pc := 9) hX hy fl_X7_11 rfl (Or.inr ⟨rfl, hr.2.2.2.1, rfl, fw_X7_11⟩) dX7_init_9 (fun h1 hy => ?_)
  refine aw_aloadn (pc := 12) hX 0 rfl dX7_init_12 ?_
  refine aw_bipush (pc := 13) hX 42 (by decide) dX7_init_13 ?_
  refine aw_newi (pc := 15) hX 42 42 (by decide) (by decide) (by decide) ar_int (le_c hr (by decide)) (le_s hr (by decide)) dX7_init_15 ?_
  refine AW.eqa (ce' := 2) (sl' := 84) rfl rfl ?_
  refine aw_pR (pc := 17) hX hy fl_X7_17 rfl (Or.inr ⟨rfl, hr.2.2.2.1, rfl, fw_X7_17⟩) dX7_init_17 (fun h2 hy => ?_)
  exact aw_vret (pc := 20) hX hr (by decide) (by decide) dX7_init_20 ⟨rfl, hy.s⟩
theorem con_X7_init (l : Launch) (G : GE) (h : Mem) (v0 : Nat) {P : Mem → Prop} (hy : OK (f_X7_init h v0) P) : Con l G yX7_init cX7_init 1 none rm_X7_init [vR v0] h (pmV P) := Con.of (by decide) (Nat.le_of_ble_eq_true rfl) (fun X hX hr hN => w_X7_init hX hN hr h v0 hy)
/-! X7_carry -/
theorem dX7_carry_0 : decode cX7_carry 0 = .ok (.iload_n 3, 1) := by decide +kernel
theorem dX7_carry_1 : decode cX7_carry 1 = .ok (.bipush 7, 2) := by decide +kernel
theorem dX7_carry_3 : decode cX7_carry 3 = .ok (.imul, 1) := by decide +kernel
theorem dX7_carry_4 : decode cX7_carry 4 = .ok (.istore 5, 2) := by decide +kernel
theorem dX7_carry_6 : decode cX7_carry 6 = .ok (.iload 4, 2) := by decide +kernel
theorem dX7_carry_8 : decode cX7_carry 8 = .ok (.bipush 7, 2) := by decide +kernel
theorem dX7_carry_10 : decode cX7_carry 10 = .ok (.imul, 1) := by decide +kernel
theorem dX7_carry_11 : decode cX7_carry 11 = .ok (.istore 6, 2) := by decide +kernel
theorem dX7_carry_13 : decode cX7_carry 13 = .ok (.iconst 0, 1) := by decide +kernel
theorem dX7_carry_14 : decode cX7_carry 14 = .ok (.istore 7, 2) := by decide +kernel
theorem dX7_carry_16 : decode cX7_carry 16 = .ok (.iload 7, 2) := by decide +kernel
theorem dX7_carry_18 : decode cX7_carry 18 = .ok (.aload_n 0, 1) := by decide +kernel
theorem dX7_carry_19 : decode cX7_carry 19 = .ok (.getfield 57, 3) := by decide +kernel
theorem dX7_carry_22 : decode cX7_carry 22 = .ok (.if_icmp .ge 79, 3) := by decide +kernel
theorem dX7_carry_25 : decode cX7_carry 25 = .ok (.aload_n 0, 1) := by decide +kernel
theorem dX7_carry_26 : decode cX7_carry 26 = .ok (.iload 7, 2) := by decide +kernel
theorem dX7_carry_28 : decode cX7_carry 28 = .ok (.invokevirtual 60, 3) := by decide +kernel
theorem dX7_carry_31 : decode cX7_carry 31 = .ok (.ifCond .eq 64, 3) := by decide +kernel
theorem dX7_carry_34 : decode cX7_carry 34 = .ok (.aload_n 0, 1) := by decide +kernel
theorem dX7_carry_35 : decode cX7_carry 35 = .ok (.getfield 64, 3) := by decide +kernel
theorem dX7_carry_38 : decode cX7_carry 38 = .ok (.iload 7, 2) := by decide +kernel
theorem dX7_carry_40 : decode cX7_carry 40 = .ok (.iaload, 1) := by decide +kernel
theorem dX7_carry_41 : decode cX7_carry 41 = .ok (.iload_n 1, 1) := by decide +kernel
theorem dX7_carry_42 : decode cX7_carry 42 = .ok (.if_icmp .ne 53, 3) := by decide +kernel
theorem dX7_carry_45 : decode cX7_carry 45 = .ok (.aload_n 2, 1) := by decide +kernel
theorem dX7_carry_46 : decode cX7_carry 46 = .ok (.iload 6, 2) := by decide +kernel
theorem dX7_carry_48 : decode cX7_carry 48 = .ok (.aload_n 0, 1) := by decide +kernel
theorem dX7_carry_49 : decode cX7_carry 49 = .ok (.iload 7, 2) := by decide +kernel
theorem dX7_carry_51 : decode cX7_carry 51 = .ok (.invokevirtual 67, 3) := by decide +kernel
theorem dX7_carry_54 : decode cX7_carry 54 = .ok (.iadd, 1) := by decide +kernel
theorem dX7_carry_55 : decode cX7_carry 55 = .ok (.dup2, 1) := by decide +kernel
theorem dX7_carry_56 : decode cX7_carry 56 = .ok (.iaload, 1) := by decide +kernel
theorem dX7_carry_57 : decode cX7_carry 57 = .ok (.aload_n 2, 1) := by decide +kernel
theorem dX7_carry_58 : decode cX7_carry 58 = .ok (.iload 5, 2) := by decide +kernel
theorem dX7_carry_60 : decode cX7_carry 60 = .ok (.aload_n 0, 1) := by decide +kernel
theorem dX7_carry_61 : decode cX7_carry 61 = .ok (.iload 7, 2) := by decide +kernel
theorem dX7_carry_63 : decode cX7_carry 63 = .ok (.invokevirtual 71, 3) := by decide +kernel
theorem dX7_carry_66 : decode cX7_carry 66 = .ok (.iadd, 1) := by decide +kernel
theorem dX7_carry_67 : decode cX7_carry 67 = .ok (.iaload, 1) := by decide +kernel
theorem dX7_carry_68 : decode cX7_carry 68 = .ok (.iadd, 1) := by decide +kernel
theorem dX7_carry_69 : decode cX7_carry 69 = .ok (.iastore, 1) := by decide +kernel
theorem dX7_carry_70 : decode cX7_carry 70 = .ok (.aload_n 2, 1) := by decide +kernel
theorem dX7_carry_71 : decode cX7_carry 71 = .ok (.iload 6, 2) := by decide +kernel
theorem dX7_carry_73 : decode cX7_carry 73 = .ok (.aload_n 0, 1) := by decide +kernel
theorem dX7_carry_74 : decode cX7_carry 74 = .ok (.iload 7, 2) := by decide +kernel
theorem dX7_carry_76 : decode cX7_carry 76 = .ok (.invokevirtual 71, 3) := by decide +kernel
theorem dX7_carry_79 : decode cX7_carry 79 = .ok (.iadd, 1) := by decide +kernel
theorem dX7_carry_80 : decode cX7_carry 80 = .ok (.dup2, 1) := by decide +kernel
theorem dX7_carry_81 : decode cX7_carry 81 = .ok (.iaload, 1) := by decide +kernel
theorem dX7_carry_82 : decode cX7_carry 82 = .ok (.aload_n 2, 1) := by decide +kernel
theorem dX7_carry_83 : decode cX7_carry 83 = .ok (.iload 5, 2) := by decide +kernel
theorem dX7_carry_85 : decode cX7_carry 85 = .ok (.aload_n 0, 1) := by decide +kernel
theorem dX7_carry_86 : decode cX7_carry 86 = .ok (.iload 7, 2) := by decide +kernel
theorem dX7_carry_88 : decode cX7_carry 88 = .ok (.invokevirtual 67, 3) := by decide +kernel
theorem dX7_carry_91 : decode cX7_carry 91 = .ok (.iadd, 1) := by decide +kernel
theorem dX7_carry_92 : decode cX7_carry 92 = .ok (.iaload, 1) := by decide +kernel
theorem dX7_carry_93 : decode cX7_carry 93 = .ok (.iadd, 1) := by decide +kernel
theorem dX7_carry_94 : decode cX7_carry 94 = .ok (.iastore, 1) := by decide +kernel
theorem dX7_carry_95 : decode cX7_carry 95 = .ok (.iinc 7 1, 3) := by decide +kernel
theorem dX7_carry_98 : decode cX7_carry 98 = .ok (.goto (-82), 3) := by decide +kernel
theorem dX7_carry_101 : decode cX7_carry 101 = .ok (.return_, 1) := by decide +kernel
abbrev rm_X7_carry : Room := { frames := 1, cells := 0, slots := 0, locals := 21 }
def f_X7_carry_95 (h : Mem) (v0 : Nat) (v1 : Int32) (v2 : Nat) (v5 : Int32) (v6 : Int32) (v7 : Int32) : Option ((Int32 × Mem) ⊕ Mem) :=
  some (.inl ((v7 + 1), h))
set_option maxRecDepth 100000 in
set_option maxHeartbeats 4000000 in
theorem w_X7_carry_95 {G : GE} {X : CX} {l : Launch} (hX : Ok G X cX7_carry RX7) (hN : xn X = 8) {P0 : Mem → Prop} (hr : Rt G X l yX7_carry none rm_X7_carry (pmV P0))  (v0 : Nat) (v1 : Int32) (v2 : Nat) (v5 : Int32) (v6 : Int32) {P : ((Int32 × Mem) ⊕ Mem) → Prop} (hc : ∀ s, P (.inl s) → AW G X 16 [(0, vR v0), (1, vI v1), (2, vR v2), (5, vI v5), (6, vI v6), (7, vI s.1)] [] s.2 0 0) (he0 : ∀ e, P (.inr e) → AW G X 101 [] [] e 0 0) (h : Mem) (v7 : Int32) (hy : OK (f_X7_carry_95 h v0 v1 v2 v5 v6 v7) P) : AW G X 95 [(0, vR v0), (1, vI v1), (2, vR v2), (5, vI v5), (6, vI v6), (7, vI v7)] [] h 0 0 := by
  unfold f_X7_carry_95 at hy
  refine aw_iinc (pc := 95) hX 1 (by decide) 5 rfl [(7, vI (v7 + 1)), (0, vR v0), (1, vI v1), (2, vR v2), (5, vI v5), (6, vI v6)] rfl (lt_n hN (by decide)) dX7_carry_95 ?_
  refine aw_goto (pc := 98) hX 16 (by decide) dX7_carry_98 ?_
  refine AW.sub [1, 2, 3, 4, 5, 0] rfl ?_
  exact hc ((v7 + 1), h) hy.s
def b_X7_carry_16 (h : Mem) (v0 : Nat) (v1 : Int32) (v2 : Nat) (v5 : Int32) (v6 : Int32) (v7 : Int32) : Option ((Int32 × Mem) ⊕ Mem) :=
  (gI h v0 3 4).bind fun x1 => (if x1 ≤ v7 then some (.inr h) else (f_X5_hasGate h v0 v7).bind fun x2 => (if x2 = 0 then f_X7_carry_95 h v0 v1 v2 v5 v6 v7 else (gR h v0 14 4).bind fun r3 => (aI h r3 v7).bind fun x4 => (if x4 = v1 then (f_X5_otherEnd h v0 v7).bind fun x5 => (aI h v2 (v6 + x5)).bind fun x6 => (f_X5_oneEnd h v0 v7).bind fun x7 => (aI h v2 (v5 + x7)).bind fun x8 => (sI h v2 (v6 + x5) (x6 + x8)).bind fun h9 => (f_X5_oneEnd h9 v0 v7).bind fun x10 => (aI h9 v2 (v6 + x10)).bind fun x11 => (f_X5_otherEnd h9 v0 v7).bind fun x12 => (aI h9 v2 (v5 + x12)).bind fun x13 => (sI h9 v2 (v6 + x10) (x11 + x13)).bind fun h14 => f_X7_carry_95 h14 v0 v1 v2 v5 v6 v7 else f_X7_carry_95 h v0 v1 v2 v5 v6 v7)))
set_option maxRecDepth 100000 in
set_option maxHeartbeats 4000000 in
theorem wb_X7_carry_16 {G : GE} {X : CX} {l : Launch} (hX : Ok G X cX7_carry RX7) (hN : xn X = 8) {P0 : Mem → Prop} (hr : Rt G X l yX7_carry none rm_X7_carry (pmV P0))  (v0 : Nat) (v1 : Int32) (v2 : Nat) (v5 : Int32) (v6 : Int32) {P : ((Int32 × Mem) ⊕ Mem) → Prop} (hc : ∀ s, P (.inl s) → AW G X 16 [(0, vR v0), (1, vI v1), (2, vR v2), (5, vI v5), (6, vI v6), (7, vI s.1)] [] s.2 0 0) (he0 : ∀ e, P (.inr e) → AW G X 101 [] [] e 0 0) (h : Mem) (v7 : Int32) (hy : OK (b_X7_carry_16 h v0 v1 v2 v5 v6 v7) P) : AW G X 16 [(0, vR v0), (1, vI v1), (2, vR v2), (5, vI v5), (6, vI v6), (7, vI v7)] [] h 0 0 := by
  unfold b_X7_carry_16 at hy
  refine aw_iload (pc := 16) hX 5 rfl dX7_carry_16 ?_
  refine aw_aloadn (pc := 18) hX 0 rfl dX7_carry_18 ?_
  refine aw_gI (pc := 19) hX hy fl_X7_57 (fun _ _ => rfl) dX7_carry_19 (fun x1 hy => ?_)
  refine aw_ic_ge (pc := 22) hX 101 (by decide) dX7_carry_22 (fun hc9 => ?_) (fun hc9 => ?_)
  · have hy := hy.t hc9
    refine AW.sub [] rfl ?_
    exact he0 h hy.s
  · have hy := hy.f hc9
    refine aw_aloadn (pc := 25) hX 0 rfl dX7_carry_25 ?_
    refine aw_iload (pc := 26) hX 5 rfl dX7_carry_26 ?_
    refine aw_callV (pc := 28) (st := []) (a := v0) hX [vI v7] (con_X5_hasGate _ G _ v0 v7 hy.bd) mc_X5_hasGate ml_X7_60 im_X5_hasGate se_X5_hasGate (by decide) hy.bd.kd rfl (rm_of hr (by decide)) (Nat.le_of_ble_eq_true rfl) rfl dX7_carry_28 (kpI rfl rfl (fun x2 hy => ?_))
    refine aw_if_eq (pc := 31) hX 95 (by decide) dX7_carry_31 (fun hc9 => ?_) (fun hc9 => ?_)
    · have hy := hy.t hc9
      exact w_X7_carry_95 hX hN hr _ _ _ _ _ hc he0 h v7 hy
    · have hy := hy.f hc9
      refine aw_aloadn (pc := 34) hX 0 rfl dX7_carry_34 ?_
      refine aw_gR (pc := 35) hX hy fl_X7_64 (fun _ _ => rfl) dX7_carry_35 (fun r3 hy => ?_)
      refine aw_iload (pc := 38) hX 5 rfl dX7_carry_38 ?_
      refine aw_aI (pc := 40) hX hy dX7_carry_40 (fun x4 hy => ?_)
      refine aw_iloadn (pc := 41) hX 1 rfl dX7_carry_41 ?_
      refine aw_ic_ne (pc := 42) hX 95 (by decide) dX7_carry_42 (fun hc9 => ?_) (fun hc9 => ?_)
      · have hy := hy.f hc9
        exact w_X7_carry_95 hX hN hr _ _ _ _ _ hc he0 h v7 hy
      · have hy := hy.t hc9
        refine aw_aloadn (pc := 45) hX 2 rfl dX7_carry_45 ?_
        refine aw_iload (pc := 46) hX 4 rfl dX7_carry_46 ?_
        refine aw_aloadn (pc := 48) hX 0 rfl dX7_carry_48 ?_
        refine aw_iload (pc := 49) hX 5 rfl dX7_carry_49 ?_
        refine aw_callV (pc := 51) (st := [vI v6, vR v2]) (a := v0) hX [vI v7] (con_X5_otherEnd _ G _ v0 v7 hy.bd) mc_X5_otherEnd ml_X7_67 im_X5_otherEnd se_X5_otherEnd (by decide) hy.bd.kd rfl (rm_of hr (by decide)) (Nat.le_of_ble_eq_true rfl) rfl dX7_carry_51 (kpI rfl rfl (fun x5 hy => ?_))
        refine aw_iadd (pc := 54) hX dX7_carry_54 ?_
        refine aw_dup2 (pc := 55) hX rfl rfl dX7_carry_55 ?_
        refine aw_aI (pc := 56) hX hy dX7_carry_56 (fun x6 hy => ?_)
        refine aw_aloadn (pc := 57) hX 2 rfl dX7_carry_57 ?_
        refine aw_iload (pc := 58) hX 3 rfl dX7_carry_58 ?_
        refine aw_aloadn (pc := 60) hX 0 rfl dX7_carry_60 ?_
        refine aw_iload (pc := 61) hX 5 rfl dX7_carry_61 ?_
        refine aw_callV (pc := 63) (st := [vI v5, vR v2, vI x6, vI (v6 + x5), vR v2]) (a := v0) hX [vI v7] (con_X5_oneEnd _ G _ v0 v7 hy.bd) mc_X5_oneEnd ml_X7_71 im_X5_oneEnd se_X5_oneEnd (by decide) hy.bd.kd rfl (rm_of hr (by decide)) (Nat.le_of_ble_eq_true rfl) rfl dX7_carry_63 (kpI rfl rfl (fun x7 hy => ?_))
        refine aw_iadd (pc := 66) hX dX7_carry_66 ?_
        refine aw_aI (pc := 67) hX hy dX7_carry_67 (fun x8 hy => ?_)
        refine aw_iadd (pc := 68) hX dX7_carry_68 ?_
        refine aw_sI (pc := 69) hX hy dX7_carry_69 (fun h9 hy => ?_)
        refine aw_aloadn (pc := 70) hX 2 rfl dX7_carry_70 ?_
        refine aw_iload (pc := 71) hX 4 rfl dX7_carry_71 ?_
        refine aw_aloadn (pc := 73) hX 0 rfl dX7_carry_73 ?_
        refine aw_iload (pc := 74) hX 5 rfl dX7_carry_74 ?_
        refine aw_callV (pc := 76) (st := [vI v6, vR v2]) (a := v0) hX [vI v7] (con_X5_oneEnd _ G _ v0 v7 hy.bd) mc_X5_oneEnd ml_X7_71 im_X5_oneEnd se_X5_oneEnd (by decide) hy.bd.kd rfl (rm_of hr (by decide)) (Nat.le_of_ble_eq_true rfl) rfl dX7_carry_76 (kpI rfl rfl (fun x10 hy => ?_))
        refine aw_iadd (pc := 79) hX dX7_carry_79 ?_
        refine aw_dup2 (pc := 80) hX rfl rfl dX7_carry_80 ?_
        refine aw_aI (pc := 81) hX hy dX7_carry_81 (fun x11 hy => ?_)
        refine aw_aloadn (pc := 82) hX 2 rfl dX7_carry_82 ?_
        refine aw_iload (pc := 83) hX 3 rfl dX7_carry_83 ?_
        refine aw_aloadn (pc := 85) hX 0 rfl dX7_carry_85 ?_
        refine aw_iload (pc := 86) hX 5 rfl dX7_carry_86 ?_
        refine aw_callV (pc := 88) (st := [vI v5, vR v2, vI x11, vI (v6 + x10), vR v2]) (a := v0) hX [vI v7] (con_X5_otherEnd _ G _ v0 v7 hy.bd) mc_X5_otherEnd ml_X7_67 im_X5_otherEnd se_X5_otherEnd (by decide) hy.bd.kd rfl (rm_of hr (by decide)) (Nat.le_of_ble_eq_true rfl) rfl dX7_carry_88 (kpI rfl rfl (fun x12 hy => ?_))
        refine aw_iadd (pc := 91) hX dX7_carry_91 ?_
        refine aw_aI (pc := 92) hX hy dX7_carry_92 (fun x13 hy => ?_)
        refine aw_iadd (pc := 93) hX dX7_carry_93 ?_
        refine aw_sI (pc := 94) hX hy dX7_carry_94 (fun h14 hy => ?_)
        exact w_X7_carry_95 hX hN hr _ _ _ _ _ hc he0 h14 v7 hy
theorem wl_X7_carry_16 {G : GE} {X : CX} {l : Launch} (hX : Ok G X cX7_carry RX7) (hN : xn X = 8) {P0 : Mem → Prop} (hr : Rt G X l yX7_carry none rm_X7_carry (pmV P0)) (v0 : Nat) (v1 : Int32) (v2 : Nat) (v5 : Int32) (v6 : Int32) {P : (Mem) → Prop} (he0 : ∀ e, P e → AW G X 101 [] [] e 0 0) : ∀ (n : Nat) (s : Int32 × Mem), OK (iter (fun (s : Int32 × Mem) => b_X7_carry_16 s.2 v0 v1 v2 v5 v6 s.1) n s) P → AW G X 16 [(0, vR v0), (1, vI v1), (2, vR v2), (5, vI v5), (6, vI v6), (7, vI s.1)] [] s.2 0 0 := by
  intro n
  induction n with
  | zero => exact fun s hy => hy.it0.elim
  | succ n ih =>
    intro s hy
    exact wb_X7_carry_16 hX hN hr v0 v1 v2 v5 v6 (fun s hs => ih s hs) (fun e hs => he0 e hs) s.2 s.1 hy.it
def f_X7_carry (h : Mem) (v0 : Nat) (v1 : Int32) (v2 : Nat) (v3 : Int32) (v4 : Int32) : Option Mem :=
  (iter (fun (s : Int32 × Mem) => b_X7_carry_16 s.2 v0 v1 v2 (v3 * 7) (v4 * 7) s.1) FU (0, h)).bind (fun q15 => some q15)
set_option maxRecDepth 100000 in
set_option maxHeartbeats 4000000 in
theorem w_X7_carry {G : GE} {X : CX} {l : Launch} (hX : Ok G X cX7_carry RX7) (hN : xn X = 8) {P : Mem → Prop} (hr : Rt G X l yX7_carry none rm_X7_carry (pmV P)) (h : Mem) (v0 : Nat) (v1 : Int32) (v2 : Nat) (v3 : Int32) (v4 : Int32) (hy : OK (f_X7_carry h v0 v1 v2 v3 v4) P) : AW G X 0 [(0, vR v0), (1, vI v1), (2, vR v2), (3, vI v3), (4, vI v4)] [] h 0 0 := by
  unfold f_X7_carry at hy
  refine aw_iloadn (pc := 0) hX 3 rfl dX7_carry_0 ?_
  refine aw_bipush (pc := 1) hX 7 (by decide) dX7_carry_1 ?_
  refine aw_imul (pc := 3) hX dX7_carry_3 ?_
  refine aw_istore (pc := 4) hX [(5, vI (v3 * 7)), (0, vR v0), (1, vI v1), (2, vR v2), (3, vI v3), (4, vI v4)] rfl (lt_n hN (by decide)) dX7_carry_4 ?_
  refine aw_iload (pc := 6) hX 5 rfl dX7_carry_6 ?_
  refine aw_bipush (pc := 8) hX 7 (by decide) dX7_carry_8 ?_
  refine aw_imul (pc := 10) hX dX7_carry_10 ?_
  refine aw_istore (pc := 11) hX [(6, vI (v4 * 7)), (5, vI (v3 * 7)), (0, vR v0), (1, vI v1), (2, vR v2), (3, vI v3), (4, vI v4)] rfl (lt_n hN (by decide)) dX7_carry_11 ?_
  refine aw_iconst (pc := 13) hX 0 (by decide) dX7_carry_13 ?_
  refine aw_istore (pc := 14) hX [(7, vI 0), (6, vI (v4 * 7)), (5, vI (v3 * 7)), (0, vR v0), (1, vI v1), (2, vR v2), (3, vI v3), (4, vI v4)] rfl (lt_n hN (by decide)) dX7_carry_14 ?_
  refine AW.sub [3, 4, 5, 2, 1, 0] rfl ?_
  refine wl_X7_carry_16 hX hN hr v0 v1 v2 (v3 * 7) (v4 * 7) ?_ FU (0, h) hy.bd
  · intro q15 hy
    exact aw_vret (pc := 101) hX hr (by decide) (by decide) dX7_carry_101 ⟨rfl, hy.s⟩
theorem con_X7_carry (l : Launch) (G : GE) (h : Mem) (v0 : Nat) (v1 : Int32) (v2 : Nat) (v3 : Int32) (v4 : Int32) {P : Mem → Prop} (hy : OK (f_X7_carry h v0 v1 v2 v3 v4) P) : Con l G yX7_carry cX7_carry 8 none rm_X7_carry [vR v0, vI v1, vR v2, vI v3, vI v4] h (pmV P) := Con.of (by decide) (Nat.le_of_ble_eq_true rfl) (fun X hX hr hN => w_X7_carry hX hN hr h v0 v1 v2 v3 v4 hy)
/-! X7_settle -/
theorem dX7_settle_0 : decode cX7_settle 0 = .ok (.aload_n 0, 1) := by decide +kernel
theorem dX7_settle_1 : decode cX7_settle 1 = .ok (.getfield 11, 3) := by decide +kernel
theorem dX7_settle_4 : decode cX7_settle 4 = .ok (.iconst 0, 1) := by decide +kernel
theorem dX7_settle_5 : decode cX7_settle 5 = .ok (.invokestatic 20, 3) := by decide +kernel
theorem dX7_settle_8 : decode cX7_settle 8 = .ok (.aload_n 0, 1) := by decide +kernel
theorem dX7_settle_9 : decode cX7_settle 9 = .ok (.getfield 17, 3) := by decide +kernel
theorem dX7_settle_12 : decode cX7_settle 12 = .ok (.iconst 0, 1) := by decide +kernel
theorem dX7_settle_13 : decode cX7_settle 13 = .ok (.invokestatic 20, 3) := by decide +kernel
theorem dX7_settle_16 : decode cX7_settle 16 = .ok (.iconst 0, 1) := by decide +kernel
theorem dX7_settle_17 : decode cX7_settle 17 = .ok (.istore_n 2, 1) := by decide +kernel
theorem dX7_settle_18 : decode cX7_settle 18 = .ok (.iload_n 2, 1) := by decide +kernel
theorem dX7_settle_19 : decode cX7_settle 19 = .ok (.aload_n 1, 1) := by decide +kernel
theorem dX7_settle_20 : decode cX7_settle 20 = .ok (.getfield 26, 3) := by decide +kernel
theorem dX7_settle_23 : decode cX7_settle 23 = .ok (.if_icmp .ge 31, 3) := by decide +kernel
theorem dX7_settle_26 : decode cX7_settle 26 = .ok (.aload_n 0, 1) := by decide +kernel
theorem dX7_settle_27 : decode cX7_settle 27 = .ok (.getfield 11, 3) := by decide +kernel
theorem dX7_settle_30 : decode cX7_settle 30 = .ok (.iload_n 2, 1) := by decide +kernel
theorem dX7_settle_31 : decode cX7_settle 31 = .ok (.iconst 1, 1) := by decide +kernel
theorem dX7_settle_32 : decode cX7_settle 32 = .ok (.iastore, 1) := by decide +kernel
theorem dX7_settle_33 : decode cX7_settle 33 = .ok (.aload_n 0, 1) := by decide +kernel
theorem dX7_settle_34 : decode cX7_settle 34 = .ok (.getfield 17, 3) := by decide +kernel
theorem dX7_settle_37 : decode cX7_settle 37 = .ok (.aload_n 1, 1) := by decide +kernel
theorem dX7_settle_38 : decode cX7_settle 38 = .ok (.getfield 30, 3) := by decide +kernel
theorem dX7_settle_41 : decode cX7_settle 41 = .ok (.bipush 7, 2) := by decide +kernel
theorem dX7_settle_43 : decode cX7_settle 43 = .ok (.imul, 1) := by decide +kernel
theorem dX7_settle_44 : decode cX7_settle 44 = .ok (.iload_n 2, 1) := by decide +kernel
theorem dX7_settle_45 : decode cX7_settle 45 = .ok (.iadd, 1) := by decide +kernel
theorem dX7_settle_46 : decode cX7_settle 46 = .ok (.iconst 1, 1) := by decide +kernel
theorem dX7_settle_47 : decode cX7_settle 47 = .ok (.iastore, 1) := by decide +kernel
theorem dX7_settle_48 : decode cX7_settle 48 = .ok (.iinc 2 1, 3) := by decide +kernel
theorem dX7_settle_51 : decode cX7_settle 51 = .ok (.goto (-33), 3) := by decide +kernel
theorem dX7_settle_54 : decode cX7_settle 54 = .ok (.iconst 0, 1) := by decide +kernel
theorem dX7_settle_55 : decode cX7_settle 55 = .ok (.istore_n 2, 1) := by decide +kernel
theorem dX7_settle_56 : decode cX7_settle 56 = .ok (.iload_n 2, 1) := by decide +kernel
theorem dX7_settle_57 : decode cX7_settle 57 = .ok (.aload_n 1, 1) := by decide +kernel
theorem dX7_settle_58 : decode cX7_settle 58 = .ok (.getfield 30, 3) := by decide +kernel
theorem dX7_settle_61 : decode cX7_settle 61 = .ok (.if_icmp .ge 27, 3) := by decide +kernel
theorem dX7_settle_64 : decode cX7_settle 64 = .ok (.aload_n 1, 1) := by decide +kernel
theorem dX7_settle_65 : decode cX7_settle 65 = .ok (.aload_n 1, 1) := by decide +kernel
theorem dX7_settle_66 : decode cX7_settle 66 = .ok (.getfield 33, 3) := by decide +kernel
theorem dX7_settle_69 : decode cX7_settle 69 = .ok (.iload_n 2, 1) := by decide +kernel
theorem dX7_settle_70 : decode cX7_settle 70 = .ok (.iaload, 1) := by decide +kernel
theorem dX7_settle_71 : decode cX7_settle 71 = .ok (.aload_n 0, 1) := by decide +kernel
theorem dX7_settle_72 : decode cX7_settle 72 = .ok (.getfield 11, 3) := by decide +kernel
theorem dX7_settle_75 : decode cX7_settle 75 = .ok (.iload_n 2, 1) := by decide +kernel
theorem dX7_settle_76 : decode cX7_settle 76 = .ok (.iload_n 2, 1) := by decide +kernel
theorem dX7_settle_77 : decode cX7_settle 77 = .ok (.iconst 1, 1) := by decide +kernel
theorem dX7_settle_78 : decode cX7_settle 78 = .ok (.iadd, 1) := by decide +kernel
theorem dX7_settle_79 : decode cX7_settle 79 = .ok (.invokestatic 36, 3) := by decide +kernel
theorem dX7_settle_82 : decode cX7_settle 82 = .ok (.iinc 2 1, 3) := by decide +kernel
theorem dX7_settle_85 : decode cX7_settle 85 = .ok (.goto (-29), 3) := by decide +kernel
theorem dX7_settle_88 : decode cX7_settle 88 = .ok (.aload_n 1, 1) := by decide +kernel
theorem dX7_settle_89 : decode cX7_settle 89 = .ok (.getfield 30, 3) := by decide +kernel
theorem dX7_settle_92 : decode cX7_settle 92 = .ok (.iconst 1, 1) := by decide +kernel
theorem dX7_settle_93 : decode cX7_settle 93 = .ok (.isub, 1) := by decide +kernel
theorem dX7_settle_94 : decode cX7_settle 94 = .ok (.istore_n 2, 1) := by decide +kernel
theorem dX7_settle_95 : decode cX7_settle 95 = .ok (.iload_n 2, 1) := by decide +kernel
theorem dX7_settle_96 : decode cX7_settle 96 = .ok (.ifCond .lt 27, 3) := by decide +kernel
theorem dX7_settle_99 : decode cX7_settle 99 = .ok (.aload_n 1, 1) := by decide +kernel
theorem dX7_settle_100 : decode cX7_settle 100 = .ok (.aload_n 1, 1) := by decide +kernel
theorem dX7_settle_101 : decode cX7_settle 101 = .ok (.getfield 33, 3) := by decide +kernel
theorem dX7_settle_104 : decode cX7_settle 104 = .ok (.iload_n 2, 1) := by decide +kernel
theorem dX7_settle_105 : decode cX7_settle 105 = .ok (.iaload, 1) := by decide +kernel
theorem dX7_settle_106 : decode cX7_settle 106 = .ok (.aload_n 0, 1) := by decide +kernel
theorem dX7_settle_107 : decode cX7_settle 107 = .ok (.getfield 17, 3) := by decide +kernel
theorem dX7_settle_110 : decode cX7_settle 110 = .ok (.iload_n 2, 1) := by decide +kernel
theorem dX7_settle_111 : decode cX7_settle 111 = .ok (.iconst 1, 1) := by decide +kernel
theorem dX7_settle_112 : decode cX7_settle 112 = .ok (.iadd, 1) := by decide +kernel
theorem dX7_settle_113 : decode cX7_settle 113 = .ok (.iload_n 2, 1) := by decide +kernel
theorem dX7_settle_114 : decode cX7_settle 114 = .ok (.invokestatic 36, 3) := by decide +kernel
theorem dX7_settle_117 : decode cX7_settle 117 = .ok (.iinc 2 (-1), 3) := by decide +kernel
theorem dX7_settle_120 : decode cX7_settle 120 = .ok (.goto (-25), 3) := by decide +kernel
theorem dX7_settle_123 : decode cX7_settle 123 = .ok (.return_, 1) := by decide +kernel
abbrev rm_X7_settle : Room := { frames := 2, cells := 0, slots := 0, locals := 48 }
def b_X7_settle_18 (h : Mem) (v0 : Nat) (v1 : Nat) (v2 : Int32) : Option ((Int32 × Mem) ⊕ Mem) :=
  (gI h v1 2 4).bind fun x5 => (if x5 ≤ v2 then some (.inr h) else (gR h v0 0 6).bind fun r6 => (sI h r6 v2 1).bind fun h7 => (gR h7 v0 1 6).bind fun r8 => (gI h7 v1 8 4).bind fun x9 => (sI h7 r8 ((x9 * 7) + v2) 1).bind fun h10 => some (.inl ((v2 + 1), h10)))
set_option maxRecDepth 100000 in
set_option maxHeartbeats 4000000 in
theorem wb_X7_settle_18 {G : GE} {X : CX} {l : Launch} (hX : Ok G X cX7_settle RX7) (hN : xn X = 3) {P0 : Mem → Prop} (hr : Rt G X l yX7_settle none rm_X7_settle (pmV P0))  (v0 : Nat) (v1 : Nat) {P : ((Int32 × Mem) ⊕ Mem) → Prop} (hc : ∀ s, P (.inl s) → AW G X 18 [(0, vR v0), (1, vR v1), (2, vI s.1)] [] s.2 0 0) (he0 : ∀ e, P (.inr e) → AW G X 54 [(0, vR v0), (1, vR v1)] [] e 0 0) (h : Mem) (v2 : Int32) (hy : OK (b_X7_settle_18 h v0 v1 v2) P) : AW G X 18 [(0, vR v0), (1, vR v1), (2, vI v2)] [] h 0 0 := by
  unfold b_X7_settle_18 at hy
  refine aw_iloadn (pc := 18) hX 2 rfl dX7_settle_18 ?_
  refine aw_aloadn (pc := 19) hX 1 rfl dX7_settle_19 ?_
  refine aw_gI (pc := 20) hX hy fl_X7_26 (fun _ _ => rfl) dX7_settle_20 (fun x5 hy => ?_)
  refine aw_ic_ge (pc := 23) hX 54 (by decide) dX7_settle_23 (fun hc9 => ?_) (fun hc9 => ?_)
  · have hy := hy.t hc9
    refine AW.sub [0, 1] rfl ?_
    exact he0 h hy.s
  · have hy := hy.f hc9
    refine aw_aloadn (pc := 26) hX 0 rfl dX7_settle_26 ?_
    refine aw_gR (pc := 27) hX hy fl_X7_11 (fun _ _ => rfl) dX7_settle_27 (fun r6 hy => ?_)
    refine aw_iloadn (pc := 30) hX 2 rfl dX7_settle_30 ?_
    refine aw_iconst (pc := 31) hX 1 (by decide) dX7_settle_31 ?_
    refine aw_sI (pc := 32) hX hy dX7_settle_32 (fun h7 hy => ?_)
    refine aw_aloadn (pc := 33) hX 0 rfl dX7_settle_33 ?_
    refine aw_gR (pc := 34) hX hy fl_X7_17 (fun _ _ => rfl) dX7_settle_34 (fun r8 hy => ?_)
    refine aw_aloadn (pc := 37) hX 1 rfl dX7_settle_37 ?_
    refine aw_gI (pc := 38) hX hy fl_X7_30 (fun _ _ => rfl) dX7_settle_38 (fun x9 hy => ?_)
    refine aw_bipush (pc := 41) hX 7 (by decide) dX7_settle_41 ?_
    refine aw_imul (pc := 43) hX dX7_settle_43 ?_
    refine aw_iloadn (pc := 44) hX 2 rfl dX7_settle_44 ?_
    refine aw_iadd (pc := 45) hX dX7_settle_45 ?_
    refine aw_iconst (pc := 46) hX 1 (by decide) dX7_settle_46 ?_
    refine aw_sI (pc := 47) hX hy dX7_settle_47 (fun h10 hy => ?_)
    refine aw_iinc (pc := 48) hX 1 (by decide) 2 rfl [(2, vI (v2 + 1)), (0, vR v0), (1, vR v1)] rfl (lt_n hN (by decide)) dX7_settle_48 ?_
    refine aw_goto (pc := 51) hX 18 (by decide) dX7_settle_51 ?_
    refine AW.sub [1, 2, 0] rfl ?_
    exact hc ((v2 + 1), h10) hy.s
theorem wl_X7_settle_18 {G : GE} {X : CX} {l : Launch} (hX : Ok G X cX7_settle RX7) (hN : xn X = 3) {P0 : Mem → Prop} (hr : Rt G X l yX7_settle none rm_X7_settle (pmV P0)) (v0 : Nat) (v1 : Nat) {P : (Mem) → Prop} (he0 : ∀ e, P e → AW G X 54 [(0, vR v0), (1, vR v1)] [] e 0 0) : ∀ (n : Nat) (s : Int32 × Mem), OK (iter (fun (s : Int32 × Mem) => b_X7_settle_18 s.2 v0 v1 s.1) n s) P → AW G X 18 [(0, vR v0), (1, vR v1), (2, vI s.1)] [] s.2 0 0 := by
  intro n
  induction n with
  | zero => exact fun s hy => hy.it0.elim
  | succ n ih =>
    intro s hy
    exact wb_X7_settle_18 hX hN hr v0 v1 (fun s hs => ih s hs) (fun e hs => he0 e hs) s.2 s.1 hy.it
def b_X7_settle_56 (h : Mem) (v0 : Nat) (v1 : Nat) (v2 : Int32) : Option ((Int32 × Mem) ⊕ Mem) :=
  (gI h v1 8 4).bind fun x12 => (if x12 ≤ v2 then some (.inr h) else (gR h v1 17 4).bind fun r13 => (aI h r13 v2).bind fun x14 => (gR h v0 0 6).bind fun r15 => (f_X7_carry h v1 x14 r15 v2 (v2 + 1)).bind fun h16 => some (.inl ((v2 + 1), h16)))
set_option maxRecDepth 100000 in
set_option maxHeartbeats 4000000 in
theorem wb_X7_settle_56 {G : GE} {X : CX} {l : Launch} (hX : Ok G X cX7_settle RX7) (hN : xn X = 3) {P0 : Mem → Prop} (hr : Rt G X l yX7_settle none rm_X7_settle (pmV P0))  (v0 : Nat) (v1 : Nat) {P : ((Int32 × Mem) ⊕ Mem) → Prop} (hc : ∀ s, P (.inl s) → AW G X 56 [(0, vR v0), (1, vR v1), (2, vI s.1)] [] s.2 0 0) (he0 : ∀ e, P (.inr e) → AW G X 88 [(0, vR v0), (1, vR v1)] [] e 0 0) (h : Mem) (v2 : Int32) (hy : OK (b_X7_settle_56 h v0 v1 v2) P) : AW G X 56 [(0, vR v0), (1, vR v1), (2, vI v2)] [] h 0 0 := by
  unfold b_X7_settle_56 at hy
  refine aw_iloadn (pc := 56) hX 2 rfl dX7_settle_56 ?_
  refine aw_aloadn (pc := 57) hX 1 rfl dX7_settle_57 ?_
  refine aw_gI (pc := 58) hX hy fl_X7_30 (fun _ _ => rfl) dX7_settle_58 (fun x12 hy => ?_)
  refine aw_ic_ge (pc := 61) hX 88 (by decide) dX7_settle_61 (fun hc9 => ?_) (fun hc9 => ?_)
  · have hy := hy.t hc9
    refine AW.sub [0, 1] rfl ?_
    exact he0 h hy.s
  · have hy := hy.f hc9
    refine aw_aloadn (pc := 64) hX 1 rfl dX7_settle_64 ?_
    refine aw_aloadn (pc := 65) hX 1 rfl dX7_settle_65 ?_
    refine aw_gR (pc := 66) hX hy fl_X7_33 (fun _ _ => rfl) dX7_settle_66 (fun r13 hy => ?_)
    refine aw_iloadn (pc := 69) hX 2 rfl dX7_settle_69 ?_
    refine aw_aI (pc := 70) hX hy dX7_settle_70 (fun x14 hy => ?_)
    refine aw_aloadn (pc := 71) hX 0 rfl dX7_settle_71 ?_
    refine aw_gR (pc := 72) hX hy fl_X7_11 (fun _ _ => rfl) dX7_settle_72 (fun r15 hy => ?_)
    refine aw_iloadn (pc := 75) hX 2 rfl dX7_settle_75 ?_
    refine aw_iloadn (pc := 76) hX 2 rfl dX7_settle_76 ?_
    refine aw_iconst (pc := 77) hX 1 (by decide) dX7_settle_77 ?_
    refine aw_iadd (pc := 78) hX dX7_settle_78 ?_
    refine aw_callS (pc := 79) (st := []) hX [vR v1, vI x14, vR r15, vI v2, vI (v2 + 1)] (con_X7_carry _ G _ v1 x14 r15 v2 (v2 + 1) hy.bd) mc_X7_carry ml_X7_36 st_X7_carry rfl (rm_of hr (by decide)) (Nat.le_of_ble_eq_true rfl) rfl dX7_settle_79 (kmV rfl rfl (fun h16 hy => ?_))
    refine aw_iinc (pc := 82) hX 1 (by decide) 2 rfl [(2, vI (v2 + 1)), (0, vR v0), (1, vR v1)] rfl (lt_n hN (by decide)) dX7_settle_82 ?_
    refine aw_goto (pc := 85) hX 56 (by decide) dX7_settle_85 ?_
    refine AW.sub [1, 2, 0] rfl ?_
    exact hc ((v2 + 1), h16) hy.s
theorem wl_X7_settle_56 {G : GE} {X : CX} {l : Launch} (hX : Ok G X cX7_settle RX7) (hN : xn X = 3) {P0 : Mem → Prop} (hr : Rt G X l yX7_settle none rm_X7_settle (pmV P0)) (v0 : Nat) (v1 : Nat) {P : (Mem) → Prop} (he0 : ∀ e, P e → AW G X 88 [(0, vR v0), (1, vR v1)] [] e 0 0) : ∀ (n : Nat) (s : Int32 × Mem), OK (iter (fun (s : Int32 × Mem) => b_X7_settle_56 s.2 v0 v1 s.1) n s) P → AW G X 56 [(0, vR v0), (1, vR v1), (2, vI s.1)] [] s.2 0 0 := by
  intro n
  induction n with
  | zero => exact fun s hy => hy.it0.elim
  | succ n ih =>
    intro s hy
    exact wb_X7_settle_56 hX hN hr v0 v1 (fun s hs => ih s hs) (fun e hs => he0 e hs) s.2 s.1 hy.it
def b_X7_settle_95 (h : Mem) (v0 : Nat) (v1 : Nat) (v2 : Int32) : Option ((Int32 × Mem) ⊕ Mem) :=
  (if v2 < 0 then some (.inr h) else (gR h v1 17 4).bind fun r19 => (aI h r19 v2).bind fun x20 => (gR h v0 1 6).bind fun r21 => (f_X7_carry h v1 x20 r21 (v2 + 1) v2).bind fun h22 => some (.inl ((v2 + (-1)), h22)))
set_option maxRecDepth 100000 in
set_option maxHeartbeats 4000000 in
theorem wb_X7_settle_95 {G : GE} {X : CX} {l : Launch} (hX : Ok G X cX7_settle RX7) (hN : xn X = 3) {P0 : Mem → Prop} (hr : Rt G X l yX7_settle none rm_X7_settle (pmV P0))  (v0 : Nat) (v1 : Nat) {P : ((Int32 × Mem) ⊕ Mem) → Prop} (hc : ∀ s, P (.inl s) → AW G X 95 [(0, vR v0), (1, vR v1), (2, vI s.1)] [] s.2 0 0) (he0 : ∀ e, P (.inr e) → AW G X 123 [] [] e 0 0) (h : Mem) (v2 : Int32) (hy : OK (b_X7_settle_95 h v0 v1 v2) P) : AW G X 95 [(0, vR v0), (1, vR v1), (2, vI v2)] [] h 0 0 := by
  unfold b_X7_settle_95 at hy
  refine aw_iloadn (pc := 95) hX 2 rfl dX7_settle_95 ?_
  refine aw_if_lt (pc := 96) hX 123 (by decide) dX7_settle_96 (fun hc9 => ?_) (fun hc9 => ?_)
  · have hy := hy.t hc9
    refine AW.sub [] rfl ?_
    exact he0 h hy.s
  · have hy := hy.f hc9
    refine aw_aloadn (pc := 99) hX 1 rfl dX7_settle_99 ?_
    refine aw_aloadn (pc := 100) hX 1 rfl dX7_settle_100 ?_
    refine aw_gR (pc := 101) hX hy fl_X7_33 (fun _ _ => rfl) dX7_settle_101 (fun r19 hy => ?_)
    refine aw_iloadn (pc := 104) hX 2 rfl dX7_settle_104 ?_
    refine aw_aI (pc := 105) hX hy dX7_settle_105 (fun x20 hy => ?_)
    refine aw_aloadn (pc := 106) hX 0 rfl dX7_settle_106 ?_
    refine aw_gR (pc := 107) hX hy fl_X7_17 (fun _ _ => rfl) dX7_settle_107 (fun r21 hy => ?_)
    refine aw_iloadn (pc := 110) hX 2 rfl dX7_settle_110 ?_
    refine aw_iconst (pc := 111) hX 1 (by decide) dX7_settle_111 ?_
    refine aw_iadd (pc := 112) hX dX7_settle_112 ?_
    refine aw_iloadn (pc := 113) hX 2 rfl dX7_settle_113 ?_
    refine aw_callS (pc := 114) (st := []) hX [vR v1, vI x20, vR r21, vI (v2 + 1), vI v2] (con_X7_carry _ G _ v1 x20 r21 (v2 + 1) v2 hy.bd) mc_X7_carry ml_X7_36 st_X7_carry rfl (rm_of hr (by decide)) (Nat.le_of_ble_eq_true rfl) rfl dX7_settle_114 (kmV rfl rfl (fun h22 hy => ?_))
    refine aw_iinc (pc := 117) hX (-1) (by decide) 2 rfl [(2, vI (v2 + (-1))), (0, vR v0), (1, vR v1)] rfl (lt_n hN (by decide)) dX7_settle_117 ?_
    refine aw_goto (pc := 120) hX 95 (by decide) dX7_settle_120 ?_
    refine AW.sub [1, 2, 0] rfl ?_
    exact hc ((v2 + (-1)), h22) hy.s
theorem wl_X7_settle_95 {G : GE} {X : CX} {l : Launch} (hX : Ok G X cX7_settle RX7) (hN : xn X = 3) {P0 : Mem → Prop} (hr : Rt G X l yX7_settle none rm_X7_settle (pmV P0)) (v0 : Nat) (v1 : Nat) {P : (Mem) → Prop} (he0 : ∀ e, P e → AW G X 123 [] [] e 0 0) : ∀ (n : Nat) (s : Int32 × Mem), OK (iter (fun (s : Int32 × Mem) => b_X7_settle_95 s.2 v0 v1 s.1) n s) P → AW G X 95 [(0, vR v0), (1, vR v1), (2, vI s.1)] [] s.2 0 0 := by
  intro n
  induction n with
  | zero => exact fun s hy => hy.it0.elim
  | succ n ih =>
    intro s hy
    exact wb_X7_settle_95 hX hN hr v0 v1 (fun s hs => ih s hs) (fun e hs => he0 e hs) s.2 s.1 hy.it
def f_X7_settle (h : Mem) (v0 : Nat) (v1 : Nat) : Option Mem :=
  (ck h v0 6).bind fun _ => (gR h v0 0 6).bind fun r1 => (f_J7_fill_53178 h r1 0).bind fun h2 => (gR h2 v0 1 6).bind fun r3 => (f_J7_fill_53178 h2 r3 0).bind fun h4 => (iter (fun (s : Int32 × Mem) => b_X7_settle_18 s.2 v0 v1 s.1) FU (0, h4)).bind (fun q11 => (iter (fun (s : Int32 × Mem) => b_X7_settle_56 s.2 v0 v1 s.1) FU (0, q11)).bind (fun q17 => (gI q17 v1 8 4).bind fun x18 => (iter (fun (s : Int32 × Mem) => b_X7_settle_95 s.2 v0 v1 s.1) FU ((x18 - 1), q17)).bind (fun q23 => some q23)))
set_option maxRecDepth 100000 in
set_option maxHeartbeats 4000000 in
theorem w_X7_settle {G : GE} {X : CX} {l : Launch} (hX : Ok G X cX7_settle RX7) (hN : xn X = 3) {P : Mem → Prop} (hr : Rt G X l yX7_settle none rm_X7_settle (pmV P)) (h : Mem) (v0 : Nat) (v1 : Nat) (hy : OK (f_X7_settle h v0 v1) P) : AW G X 0 [(0, vR v0), (1, vR v1)] [] h 0 0 := by
  unfold f_X7_settle at hy
  have hkd := hy.kd
  have hy := hy.kb
  refine aw_aloadn (pc := 0) hX 0 rfl dX7_settle_0 ?_
  refine aw_gR (pc := 1) hX hy fl_X7_11 (fun _ _ => rfl) dX7_settle_1 (fun r1 hy => ?_)
  refine aw_iconst (pc := 4) hX 0 (by decide) dX7_settle_4 ?_
  refine aw_callS (pc := 5) (st := []) hX [vR r1, vI 0] (con_J7_fill_53178 _ G _ r1 0 hy.bd) mc_J7_fill_53178 ml_X7_20 st_J7_fill_53178 rfl (rm_of hr (by decide)) (Nat.le_of_ble_eq_true rfl) rfl dX7_settle_5 (kmV rfl rfl (fun h2 hy => ?_))
  refine aw_aloadn (pc := 8) hX 0 rfl dX7_settle_8 ?_
  refine aw_gR (pc := 9) hX hy fl_X7_17 (fun _ _ => rfl) dX7_settle_9 (fun r3 hy => ?_)
  refine aw_iconst (pc := 12) hX 0 (by decide) dX7_settle_12 ?_
  refine aw_callS (pc := 13) (st := []) hX [vR r3, vI 0] (con_J7_fill_53178 _ G _ r3 0 hy.bd) mc_J7_fill_53178 ml_X7_20 st_J7_fill_53178 rfl (rm_of hr (by decide)) (Nat.le_of_ble_eq_true rfl) rfl dX7_settle_13 (kmV rfl rfl (fun h4 hy => ?_))
  refine aw_iconst (pc := 16) hX 0 (by decide) dX7_settle_16 ?_
  refine aw_istoren (pc := 17) hX [(2, vI 0), (0, vR v0), (1, vR v1)] rfl (lt_n hN (by decide)) dX7_settle_17 ?_
  refine AW.sub [1, 2, 0] rfl ?_
  refine wl_X7_settle_18 hX hN hr v0 v1 ?_ FU (0, h4) hy.bd
  · intro q11 hy
    refine aw_iconst (pc := 54) hX 0 (by decide) dX7_settle_54 ?_
    refine aw_istoren (pc := 55) hX [(2, vI 0), (0, vR v0), (1, vR v1)] rfl (lt_n hN (by decide)) dX7_settle_55 ?_
    refine AW.sub [1, 2, 0] rfl ?_
    refine wl_X7_settle_56 hX hN hr v0 v1 ?_ FU (0, q11) hy.bd
    · intro q17 hy
      refine aw_aloadn (pc := 88) hX 1 rfl dX7_settle_88 ?_
      refine aw_gI (pc := 89) hX hy fl_X7_30 (fun _ _ => rfl) dX7_settle_89 (fun x18 hy => ?_)
      refine aw_iconst (pc := 92) hX 1 (by decide) dX7_settle_92 ?_
      refine aw_isub (pc := 93) hX dX7_settle_93 ?_
      refine aw_istoren (pc := 94) hX [(2, vI (x18 - 1)), (0, vR v0), (1, vR v1)] rfl (lt_n hN (by decide)) dX7_settle_94 ?_
      refine AW.sub [1, 2, 0] rfl ?_
      refine wl_X7_settle_95 hX hN hr v0 v1 ?_ FU ((x18 - 1), q17) hy.bd
      · intro q23 hy
        exact aw_vret (pc := 123) hX hr (by decide) (by decide) dX7_settle_123 ⟨rfl, hy.s⟩
theorem con_X7_settle (l : Launch) (G : GE) (h : Mem) (v0 : Nat) (v1 : Nat) {P : Mem → Prop} (hy : OK (f_X7_settle h v0 v1) P) : Con l G yX7_settle cX7_settle 3 none rm_X7_settle [vR v0, vR v1] h (pmV P) := Con.of (by decide) (Nat.le_of_ble_eq_true rfl) (fun X hX hr hN => w_X7_settle hX hN hr h v0 v1 hy)
/-! X7_rowsWith -/
theorem dX7_rowsWith_0 : decode cX7_rowsWith 0 = .ok (.aload_n 0, 1) := by decide +kernel
theorem dX7_rowsWith_1 : decode cX7_rowsWith 1 = .ok (.getfield 11, 3) := by decide +kernel
theorem dX7_rowsWith_4 : decode cX7_rowsWith 4 = .ok (.iload_n 1, 1) := by decide +kernel
theorem dX7_rowsWith_5 : decode cX7_rowsWith 5 = .ok (.bipush 7, 2) := by decide +kernel
theorem dX7_rowsWith_7 : decode cX7_rowsWith 7 = .ok (.imul, 1) := by decide +kernel
theorem dX7_rowsWith_8 : decode cX7_rowsWith 8 = .ok (.iload_n 2, 1) := by decide +kernel
theorem dX7_rowsWith_9 : decode cX7_rowsWith 9 = .ok (.iadd, 1) := by decide +kernel
theorem dX7_rowsWith_10 : decode cX7_rowsWith 10 = .ok (.iaload, 1) := by decide +kernel
theorem dX7_rowsWith_11 : decode cX7_rowsWith 11 = .ok (.aload_n 0, 1) := by decide +kernel
theorem dX7_rowsWith_12 : decode cX7_rowsWith 12 = .ok (.getfield 17, 3) := by decide +kernel
theorem dX7_rowsWith_15 : decode cX7_rowsWith 15 = .ok (.iload_n 1, 1) := by decide +kernel
theorem dX7_rowsWith_16 : decode cX7_rowsWith 16 = .ok (.bipush 7, 2) := by decide +kernel
theorem dX7_rowsWith_18 : decode cX7_rowsWith 18 = .ok (.imul, 1) := by decide +kernel
theorem dX7_rowsWith_19 : decode cX7_rowsWith 19 = .ok (.iload_n 2, 1) := by decide +kernel
theorem dX7_rowsWith_20 : decode cX7_rowsWith 20 = .ok (.iadd, 1) := by decide +kernel
theorem dX7_rowsWith_21 : decode cX7_rowsWith 21 = .ok (.iaload, 1) := by decide +kernel
theorem dX7_rowsWith_22 : decode cX7_rowsWith 22 = .ok (.imul, 1) := by decide +kernel
theorem dX7_rowsWith_23 : decode cX7_rowsWith 23 = .ok (.ireturn, 1) := by decide +kernel
abbrev rm_X7_rowsWith : Room := { frames := 0, cells := 0, slots := 0, locals := 0 }
def f_X7_rowsWith (h : Mem) (v0 : Nat) (v1 : Int32) (v2 : Int32) : Option Int32 :=
  (ck h v0 6).bind fun _ => (gR h v0 0 6).bind fun r1 => (aI h r1 ((v1 * 7) + v2)).bind fun x2 => (gR h v0 1 6).bind fun r3 => (aI h r3 ((v1 * 7) + v2)).bind fun x4 => some (x2 * x4)
set_option maxRecDepth 100000 in
set_option maxHeartbeats 4000000 in
theorem w_X7_rowsWith {G : GE} {X : CX} {l : Launch} (hX : Ok G X cX7_rowsWith RX7) (hN : xn X = 3) (h : Mem) {P : Int32 → Prop} (hr : Rt G X l yX7_rowsWith (some .int) rm_X7_rowsWith (ppI h P)) (v0 : Nat) (v1 : Int32) (v2 : Int32) (hy : OK (f_X7_rowsWith h v0 v1 v2) P) : AW G X 0 [(0, vR v0), (1, vI v1), (2, vI v2)] [] h 0 0 := by
  unfold f_X7_rowsWith at hy
  have hkd := hy.kd
  have hy := hy.kb
  refine aw_aloadn (pc := 0) hX 0 rfl dX7_rowsWith_0 ?_
  refine aw_gR (pc := 1) hX hy fl_X7_11 (fun _ _ => rfl) dX7_rowsWith_1 (fun r1 hy => ?_)
  refine aw_iloadn (pc := 4) hX 1 rfl dX7_rowsWith_4 ?_
  refine aw_bipush (pc := 5) hX 7 (by decide) dX7_rowsWith_5 ?_
  refine aw_imul (pc := 7) hX dX7_rowsWith_7 ?_
  refine aw_iloadn (pc := 8) hX 2 rfl dX7_rowsWith_8 ?_
  refine aw_iadd (pc := 9) hX dX7_rowsWith_9 ?_
  refine aw_aI (pc := 10) hX hy dX7_rowsWith_10 (fun x2 hy => ?_)
  refine aw_aloadn (pc := 11) hX 0 rfl dX7_rowsWith_11 ?_
  refine aw_gR (pc := 12) hX hy fl_X7_17 (fun _ _ => rfl) dX7_rowsWith_12 (fun r3 hy => ?_)
  refine aw_iloadn (pc := 15) hX 1 rfl dX7_rowsWith_15 ?_
  refine aw_bipush (pc := 16) hX 7 (by decide) dX7_rowsWith_16 ?_
  refine aw_imul (pc := 18) hX dX7_rowsWith_18 ?_
  refine aw_iloadn (pc := 19) hX 2 rfl dX7_rowsWith_19 ?_
  refine aw_iadd (pc := 20) hX dX7_rowsWith_20 ?_
  refine aw_aI (pc := 21) hX hy dX7_rowsWith_21 (fun x4 hy => ?_)
  refine aw_imul (pc := 22) hX dX7_rowsWith_22 ?_
  exact aw_iret (pc := 23) hX hr (by decide) (by decide) dX7_rowsWith_23 ⟨rfl, _, rfl, hy.s⟩
theorem con_X7_rowsWith (l : Launch) (G : GE) (h : Mem) (v0 : Nat) (v1 : Int32) (v2 : Int32) {P : Int32 → Prop} (hy : OK (f_X7_rowsWith h v0 v1 v2) P) : Con l G yX7_rowsWith cX7_rowsWith 3 (some .int) rm_X7_rowsWith [vR v0, vI v1, vI v2] h (ppI h P) := Con.of (by decide) (Nat.le_of_ble_eq_true rfl) (fun X hX hr hN => w_X7_rowsWith hX hN h hr v0 v1 v2 hy)
/-! X7_allRows -/
theorem dX7_allRows_0 : decode cX7_allRows 0 = .ok (.iconst 0, 1) := by decide +kernel
theorem dX7_allRows_1 : decode cX7_allRows 1 = .ok (.istore_n 2, 1) := by decide +kernel
theorem dX7_allRows_2 : decode cX7_allRows 2 = .ok (.iconst 0, 1) := by decide +kernel
theorem dX7_allRows_3 : decode cX7_allRows 3 = .ok (.istore_n 3, 1) := by decide +kernel
theorem dX7_allRows_4 : decode cX7_allRows 4 = .ok (.iload_n 3, 1) := by decide +kernel
theorem dX7_allRows_5 : decode cX7_allRows 5 = .ok (.aload_n 1, 1) := by decide +kernel
theorem dX7_allRows_6 : decode cX7_allRows 6 = .ok (.getfield 26, 3) := by decide +kernel
theorem dX7_allRows_9 : decode cX7_allRows 9 = .ok (.if_icmp .ge 18, 3) := by decide +kernel
theorem dX7_allRows_12 : decode cX7_allRows 12 = .ok (.iload_n 2, 1) := by decide +kernel
theorem dX7_allRows_13 : decode cX7_allRows 13 = .ok (.aload_n 0, 1) := by decide +kernel
theorem dX7_allRows_14 : decode cX7_allRows 14 = .ok (.iconst 0, 1) := by decide +kernel
theorem dX7_allRows_15 : decode cX7_allRows 15 = .ok (.iload_n 3, 1) := by decide +kernel
theorem dX7_allRows_16 : decode cX7_allRows 16 = .ok (.invokevirtual 40, 3) := by decide +kernel
theorem dX7_allRows_19 : decode cX7_allRows 19 = .ok (.iadd, 1) := by decide +kernel
theorem dX7_allRows_20 : decode cX7_allRows 20 = .ok (.istore_n 2, 1) := by decide +kernel
theorem dX7_allRows_21 : decode cX7_allRows 21 = .ok (.iinc 3 1, 3) := by decide +kernel
theorem dX7_allRows_24 : decode cX7_allRows 24 = .ok (.goto (-20), 3) := by decide +kernel
theorem dX7_allRows_27 : decode cX7_allRows 27 = .ok (.iload_n 2, 1) := by decide +kernel
theorem dX7_allRows_28 : decode cX7_allRows 28 = .ok (.ireturn, 1) := by decide +kernel
abbrev rm_X7_allRows : Room := { frames := 1, cells := 0, slots := 0, locals := 22 }
def b_X7_allRows_4 (h : Mem) (v0 : Nat) (v1 : Nat) (v2 : Int32) (v3 : Int32) : Option ((Int32 × Int32) ⊕ Int32) :=
  (gI h v1 2 4).bind fun x1 => (if x1 ≤ v3 then some (.inr v2) else (f_X7_rowsWith h v0 0 v3).bind fun x2 => some (.inl ((v2 + x2), (v3 + 1))))
set_option maxRecDepth 100000 in
set_option maxHeartbeats 4000000 in
theorem wb_X7_allRows_4 {G : GE} {X : CX} {l : Launch} (hX : Ok G X cX7_allRows RX7) (hN : xn X = 4) (h : Mem) {P0 : Int32 → Prop} (hr : Rt G X l yX7_allRows (some .int) rm_X7_allRows (ppI h P0))  (v0 : Nat) (v1 : Nat) {P : ((Int32 × Int32) ⊕ Int32) → Prop} (hc : ∀ s, P (.inl s) → AW G X 4 [(0, vR v0), (1, vR v1), (2, vI s.1), (3, vI s.2)] [] h 0 0) (he0 : ∀ e, P (.inr e) → AW G X 27 [(2, vI e)] [] h 0 0) (v2 : Int32) (v3 : Int32) (hy : OK (b_X7_allRows_4 h v0 v1 v2 v3) P) : AW G X 4 [(0, vR v0), (1, vR v1), (2, vI v2), (3, vI v3)] [] h 0 0 := by
  unfold b_X7_allRows_4 at hy
  refine aw_iloadn (pc := 4) hX 3 rfl dX7_allRows_4 ?_
  refine aw_aloadn (pc := 5) hX 1 rfl dX7_allRows_5 ?_
  refine aw_gI (pc := 6) hX hy fl_X7_26 (fun _ _ => rfl) dX7_allRows_6 (fun x1 hy => ?_)
  refine aw_ic_ge (pc := 9) hX 27 (by decide) dX7_allRows_9 (fun hc9 => ?_) (fun hc9 => ?_)
  · have hy := hy.t hc9
    refine AW.sub [2] rfl ?_
    exact he0 v2 hy.s
  · have hy := hy.f hc9
    refine aw_iloadn (pc := 12) hX 2 rfl dX7_allRows_12 ?_
    refine aw_aloadn (pc := 13) hX 0 rfl dX7_allRows_13 ?_
    refine aw_iconst (pc := 14) hX 0 (by decide) dX7_allRows_14 ?_
    refine aw_iloadn (pc := 15) hX 3 rfl dX7_allRows_15 ?_
    refine aw_callV (pc := 16) (st := [vI v2]) (a := v0) hX [vI 0, vI v3] (con_X7_rowsWith _ G _ v0 0 v3 hy.bd) mc_X7_rowsWith ml_X7_40 im_X7_rowsWith se_X7_rowsWith (by decide) hy.bd.kd rfl (rm_of hr (by decide)) (Nat.le_of_ble_eq_true rfl) rfl dX7_allRows_16 (kpI rfl rfl (fun x2 hy => ?_))
    refine aw_iadd (pc := 19) hX dX7_allRows_19 ?_
    refine aw_istoren (pc := 20) hX [(2, vI (v2 + x2)), (0, vR v0), (1, vR v1), (3, vI v3)] rfl (lt_n hN (by decide)) dX7_allRows_20 ?_
    refine aw_iinc (pc := 21) hX 1 (by decide) 3 rfl [(3, vI (v3 + 1)), (2, vI (v2 + x2)), (0, vR v0), (1, vR v1)] rfl (lt_n hN (by decide)) dX7_allRows_21 ?_
    refine aw_goto (pc := 24) hX 4 (by decide) dX7_allRows_24 ?_
    refine AW.sub [2, 3, 1, 0] rfl ?_
    exact hc ((v2 + x2), (v3 + 1)) hy.s
theorem wl_X7_allRows_4 {G : GE} {X : CX} {l : Launch} (hX : Ok G X cX7_allRows RX7) (hN : xn X = 4) (h : Mem) {P0 : Int32 → Prop} (hr : Rt G X l yX7_allRows (some .int) rm_X7_allRows (ppI h P0)) (v0 : Nat) (v1 : Nat) {P : (Int32) → Prop} (he0 : ∀ e, P e → AW G X 27 [(2, vI e)] [] h 0 0) : ∀ (n : Nat) (s : Int32 × Int32), OK (iter (fun (s : Int32 × Int32) => b_X7_allRows_4 h v0 v1 s.1 s.2) n s) P → AW G X 4 [(0, vR v0), (1, vR v1), (2, vI s.1), (3, vI s.2)] [] h 0 0 := by
  intro n
  induction n with
  | zero => exact fun s hy => hy.it0.elim
  | succ n ih =>
    intro s hy
    exact wb_X7_allRows_4 hX hN h hr v0 v1 (fun s hs => ih s hs) (fun e hs => he0 e hs) s.1 s.2 hy.it
def f_X7_allRows (h : Mem) (v0 : Nat) (v1 : Nat) : Option Int32 :=
  (ck h v0 6).bind fun _ => (iter (fun (s : Int32 × Int32) => b_X7_allRows_4 h v0 v1 s.1 s.2) FU (0, 0)).bind (fun q3 => some q3)
set_option maxRecDepth 100000 in
set_option maxHeartbeats 4000000 in
theorem w_X7_allRows {G : GE} {X : CX} {l : Launch} (hX : Ok G X cX7_allRows RX7) (hN : xn X = 4) (h : Mem) {P : Int32 → Prop} (hr : Rt G X l yX7_allRows (some .int) rm_X7_allRows (ppI h P)) (v0 : Nat) (v1 : Nat) (hy : OK (f_X7_allRows h v0 v1) P) : AW G X 0 [(0, vR v0), (1, vR v1)] [] h 0 0 := by
  unfold f_X7_allRows at hy
  have hkd := hy.kd
  have hy := hy.kb
  refine aw_iconst (pc := 0) hX 0 (by decide) dX7_allRows_0 ?_
  refine aw_istoren (pc := 1) hX [(2, vI 0), (0, vR v0), (1, vR v1)] rfl (lt_n hN (by decide)) dX7_allRows_1 ?_
  refine aw_iconst (pc := 2) hX 0 (by decide) dX7_allRows_2 ?_
  refine aw_istoren (pc := 3) hX [(3, vI 0), (2, vI 0), (0, vR v0), (1, vR v1)] rfl (lt_n hN (by decide)) dX7_allRows_3 ?_
  refine AW.sub [2, 3, 1, 0] rfl ?_
  refine wl_X7_allRows_4 hX hN _ hr v0 v1 ?_ FU (0, 0) hy.bd
  · intro q3 hy
    refine aw_iloadn (pc := 27) hX 0 rfl dX7_allRows_27 ?_
    exact aw_iret (pc := 28) hX hr (by decide) (by decide) dX7_allRows_28 ⟨rfl, _, rfl, hy.s⟩
theorem con_X7_allRows (l : Launch) (G : GE) (h : Mem) (v0 : Nat) (v1 : Nat) {P : Int32 → Prop} (hy : OK (f_X7_allRows h v0 v1) P) : Con l G yX7_allRows cX7_allRows 4 (some .int) rm_X7_allRows [vR v0, vR v1] h (ppI h P) := Con.of (by decide) (Nat.le_of_ble_eq_true rfl) (fun X hX hr hN => w_X7_allRows hX hN h hr v0 v1 hy)
/-! X7_placesAt -/
theorem dX7_placesAt_0 : decode cX7_placesAt 0 = .ok (.iconst 0, 1) := by decide +kernel
theorem dX7_placesAt_1 : decode cX7_placesAt 1 = .ok (.istore_n 3, 1) := by decide +kernel
theorem dX7_placesAt_2 : decode cX7_placesAt 2 = .ok (.iconst 0, 1) := by decide +kernel
theorem dX7_placesAt_3 : decode cX7_placesAt 3 = .ok (.istore 4, 2) := by decide +kernel
theorem dX7_placesAt_5 : decode cX7_placesAt 5 = .ok (.iload 4, 2) := by decide +kernel
theorem dX7_placesAt_7 : decode cX7_placesAt 7 = .ok (.aload_n 1, 1) := by decide +kernel
theorem dX7_placesAt_8 : decode cX7_placesAt 8 = .ok (.getfield 26, 3) := by decide +kernel
theorem dX7_placesAt_11 : decode cX7_placesAt 11 = .ok (.if_icmp .ge 30, 3) := by decide +kernel
theorem dX7_placesAt_14 : decode cX7_placesAt 14 = .ok (.iload_n 3, 1) := by decide +kernel
theorem dX7_placesAt_15 : decode cX7_placesAt 15 = .ok (.aload_n 0, 1) := by decide +kernel
theorem dX7_placesAt_16 : decode cX7_placesAt 16 = .ok (.iload_n 2, 1) := by decide +kernel
theorem dX7_placesAt_17 : decode cX7_placesAt 17 = .ok (.iload 4, 2) := by decide +kernel
theorem dX7_placesAt_19 : decode cX7_placesAt 19 = .ok (.invokevirtual 40, 3) := by decide +kernel
theorem dX7_placesAt_22 : decode cX7_placesAt 22 = .ok (.ifCond .le 10, 3) := by decide +kernel
theorem dX7_placesAt_25 : decode cX7_placesAt 25 = .ok (.iconst 1, 1) := by decide +kernel
theorem dX7_placesAt_26 : decode cX7_placesAt 26 = .ok (.iload 4, 2) := by decide +kernel
theorem dX7_placesAt_28 : decode cX7_placesAt 28 = .ok (.ishl, 1) := by decide +kernel
theorem dX7_placesAt_29 : decode cX7_placesAt 29 = .ok (.goto 4, 3) := by decide +kernel
theorem dX7_placesAt_32 : decode cX7_placesAt 32 = .ok (.iconst 0, 1) := by decide +kernel
theorem dX7_placesAt_33 : decode cX7_placesAt 33 = .ok (.ior, 1) := by decide +kernel
theorem dX7_placesAt_34 : decode cX7_placesAt 34 = .ok (.istore_n 3, 1) := by decide +kernel
theorem dX7_placesAt_35 : decode cX7_placesAt 35 = .ok (.iinc 4 1, 3) := by decide +kernel
theorem dX7_placesAt_38 : decode cX7_placesAt 38 = .ok (.goto (-33), 3) := by decide +kernel
theorem dX7_placesAt_41 : decode cX7_placesAt 41 = .ok (.iload_n 3, 1) := by decide +kernel
theorem dX7_placesAt_42 : decode cX7_placesAt 42 = .ok (.ireturn, 1) := by decide +kernel
abbrev rm_X7_placesAt : Room := { frames := 1, cells := 0, slots := 0, locals := 22 }
def f_X7_placesAt_33 (h : Mem) (v0 : Nat) (v1 : Nat) (v2 : Int32) (v4 : Int32) (s0 : Int32) (s1 : Int32) : Option ((Int32 × Int32) ⊕ Int32) :=
  some (.inl ((s0 ||| s1), (v4 + 1)))
set_option maxRecDepth 100000 in
set_option maxHeartbeats 4000000 in
theorem w_X7_placesAt_33 {G : GE} {X : CX} {l : Launch} (hX : Ok G X cX7_placesAt RX7) (hN : xn X = 5) (h : Mem) {P0 : Int32 → Prop} (hr : Rt G X l yX7_placesAt (some .int) rm_X7_placesAt (ppI h P0))  (v0 : Nat) (v1 : Nat) (v2 : Int32) {P : ((Int32 × Int32) ⊕ Int32) → Prop} (hc : ∀ s, P (.inl s) → AW G X 5 [(0, vR v0), (1, vR v1), (2, vI v2), (3, vI s.1), (4, vI s.2)] [] h 0 0) (he0 : ∀ e, P (.inr e) → AW G X 41 [(3, vI e)] [] h 0 0) (v4 : Int32) (s0 : Int32) (s1 : Int32) (hy : OK (f_X7_placesAt_33 h v0 v1 v2 v4 s0 s1) P) : AW G X 33 [(0, vR v0), (1, vR v1), (2, vI v2), (4, vI v4)] [vI s1, vI s0] h 0 0 := by
  unfold f_X7_placesAt_33 at hy
  refine aw_ior (pc := 33) hX dX7_placesAt_33 ?_
  refine aw_istoren (pc := 34) hX [(3, vI (s0 ||| s1)), (0, vR v0), (1, vR v1), (2, vI v2), (4, vI v4)] rfl (lt_n hN (by decide)) dX7_placesAt_34 ?_
  refine aw_iinc (pc := 35) hX 1 (by decide) 4 rfl [(4, vI (v4 + 1)), (3, vI (s0 ||| s1)), (0, vR v0), (1, vR v1), (2, vI v2)] rfl (lt_n hN (by decide)) dX7_placesAt_35 ?_
  refine aw_goto (pc := 38) hX 5 (by decide) dX7_placesAt_38 ?_
  refine AW.sub [2, 3, 4, 1, 0] rfl ?_
  exact hc ((s0 ||| s1), (v4 + 1)) hy.s
def b_X7_placesAt_5 (h : Mem) (v0 : Nat) (v1 : Nat) (v2 : Int32) (v3 : Int32) (v4 : Int32) : Option ((Int32 × Int32) ⊕ Int32) :=
  (gI h v1 2 4).bind fun x1 => (if x1 ≤ v4 then some (.inr v3) else (f_X7_rowsWith h v0 v2 v4).bind fun x2 => (if x2 ≤ 0 then f_X7_placesAt_33 h v0 v1 v2 v4 v3 0 else f_X7_placesAt_33 h v0 v1 v2 v4 v3 ((1 : Int32) <<< (v4 &&& 31))))
set_option maxRecDepth 100000 in
set_option maxHeartbeats 4000000 in
theorem wb_X7_placesAt_5 {G : GE} {X : CX} {l : Launch} (hX : Ok G X cX7_placesAt RX7) (hN : xn X = 5) (h : Mem) {P0 : Int32 → Prop} (hr : Rt G X l yX7_placesAt (some .int) rm_X7_placesAt (ppI h P0))  (v0 : Nat) (v1 : Nat) (v2 : Int32) {P : ((Int32 × Int32) ⊕ Int32) → Prop} (hc : ∀ s, P (.inl s) → AW G X 5 [(0, vR v0), (1, vR v1), (2, vI v2), (3, vI s.1), (4, vI s.2)] [] h 0 0) (he0 : ∀ e, P (.inr e) → AW G X 41 [(3, vI e)] [] h 0 0) (v3 : Int32) (v4 : Int32) (hy : OK (b_X7_placesAt_5 h v0 v1 v2 v3 v4) P) : AW G X 5 [(0, vR v0), (1, vR v1), (2, vI v2), (3, vI v3), (4, vI v4)] [] h 0 0 := by
  unfold b_X7_placesAt_5 at hy
  refine aw_iload (pc := 5) hX 4 rfl dX7_placesAt_5 ?_
  refine aw_aloadn (pc := 7) hX 1 rfl dX7_placesAt_7 ?_
  refine aw_gI (pc := 8) hX hy fl_X7_26 (fun _ _ => rfl) dX7_placesAt_8 (fun x1 hy => ?_)
  refine aw_ic_ge (pc := 11) hX 41 (by decide) dX7_placesAt_11 (fun hc9 => ?_) (fun hc9 => ?_)
  · have hy := hy.t hc9
    refine AW.sub [3] rfl ?_
    exact he0 v3 hy.s
  · have hy := hy.f hc9
    refine aw_iloadn (pc := 14) hX 3 rfl dX7_placesAt_14 ?_
    refine aw_aloadn (pc := 15) hX 0 rfl dX7_placesAt_15 ?_
    refine aw_iloadn (pc := 16) hX 2 rfl dX7_placesAt_16 ?_
    refine aw_iload (pc := 17) hX 4 rfl dX7_placesAt_17 ?_
    refine aw_callV (pc := 19) (st := [vI v3]) (a := v0) hX [vI v2, vI v4] (con_X7_rowsWith _ G _ v0 v2 v4 hy.bd) mc_X7_rowsWith ml_X7_40 im_X7_rowsWith se_X7_rowsWith (by decide) hy.bd.kd rfl (rm_of hr (by decide)) (Nat.le_of_ble_eq_true rfl) rfl dX7_placesAt_19 (kpI rfl rfl (fun x2 hy => ?_))
    refine aw_if_le (pc := 22) hX 32 (by decide) dX7_placesAt_22 (fun hc9 => ?_) (fun hc9 => ?_)
    · have hy := hy.t hc9
      refine aw_iconst (pc := 32) hX 0 (by decide) dX7_placesAt_32 ?_
      refine AW.sub [0, 1, 2, 4] rfl ?_
      exact w_X7_placesAt_33 hX hN _ hr _ _ _ hc he0 v4 v3 0 hy
    · have hy := hy.f hc9
      refine aw_iconst (pc := 25) hX 1 (by decide) dX7_placesAt_25 ?_
      refine aw_iload (pc := 26) hX 4 rfl dX7_placesAt_26 ?_
      refine aw_ishl (pc := 28) hX dX7_placesAt_28 ?_
      refine aw_goto (pc := 29) hX 33 (by decide) dX7_placesAt_29 ?_
      refine AW.sub [0, 1, 2, 4] rfl ?_
      exact w_X7_placesAt_33 hX hN _ hr _ _ _ hc he0 v4 v3 ((1 : Int32) <<< (v4 &&& 31)) hy
theorem wl_X7_placesAt_5 {G : GE} {X : CX} {l : Launch} (hX : Ok G X cX7_placesAt RX7) (hN : xn X = 5) (h : Mem) {P0 : Int32 → Prop} (hr : Rt G X l yX7_placesAt (some .int) rm_X7_placesAt (ppI h P0)) (v0 : Nat) (v1 : Nat) (v2 : Int32) {P : (Int32) → Prop} (he0 : ∀ e, P e → AW G X 41 [(3, vI e)] [] h 0 0) : ∀ (n : Nat) (s : Int32 × Int32), OK (iter (fun (s : Int32 × Int32) => b_X7_placesAt_5 h v0 v1 v2 s.1 s.2) n s) P → AW G X 5 [(0, vR v0), (1, vR v1), (2, vI v2), (3, vI s.1), (4, vI s.2)] [] h 0 0 := by
  intro n
  induction n with
  | zero => exact fun s hy => hy.it0.elim
  | succ n ih =>
    intro s hy
    exact wb_X7_placesAt_5 hX hN h hr v0 v1 v2 (fun s hs => ih s hs) (fun e hs => he0 e hs) s.1 s.2 hy.it
def f_X7_placesAt (h : Mem) (v0 : Nat) (v1 : Nat) (v2 : Int32) : Option Int32 :=
  (ck h v0 6).bind fun _ => (iter (fun (s : Int32 × Int32) => b_X7_placesAt_5 h v0 v1 v2 s.1 s.2) FU (0, 0)).bind (fun q3 => some q3)
set_option maxRecDepth 100000 in
set_option maxHeartbeats 4000000 in
theorem w_X7_placesAt {G : GE} {X : CX} {l : Launch} (hX : Ok G X cX7_placesAt RX7) (hN : xn X = 5) (h : Mem) {P : Int32 → Prop} (hr : Rt G X l yX7_placesAt (some .int) rm_X7_placesAt (ppI h P)) (v0 : Nat) (v1 : Nat) (v2 : Int32) (hy : OK (f_X7_placesAt h v0 v1 v2) P) : AW G X 0 [(0, vR v0), (1, vR v1), (2, vI v2)] [] h 0 0 := by
  unfold f_X7_placesAt at hy
  have hkd := hy.kd
  have hy := hy.kb
  refine aw_iconst (pc := 0) hX 0 (by decide) dX7_placesAt_0 ?_
  refine aw_istoren (pc := 1) hX [(3, vI 0), (0, vR v0), (1, vR v1), (2, vI v2)] rfl (lt_n hN (by decide)) dX7_placesAt_1 ?_
  refine aw_iconst (pc := 2) hX 0 (by decide) dX7_placesAt_2 ?_
  refine aw_istore (pc := 3) hX [(4, vI 0), (3, vI 0), (0, vR v0), (1, vR v1), (2, vI v2)] rfl (lt_n hN (by decide)) dX7_placesAt_3 ?_
  refine AW.sub [2, 3, 4, 1, 0] rfl ?_
  refine wl_X7_placesAt_5 hX hN _ hr v0 v1 v2 ?_ FU (0, 0) hy.bd
  · intro q3 hy
    refine aw_iloadn (pc := 41) hX 0 rfl dX7_placesAt_41 ?_
    exact aw_iret (pc := 42) hX hr (by decide) (by decide) dX7_placesAt_42 ⟨rfl, _, rfl, hy.s⟩
theorem con_X7_placesAt (l : Launch) (G : GE) (h : Mem) (v0 : Nat) (v1 : Nat) (v2 : Int32) {P : Int32 → Prop} (hy : OK (f_X7_placesAt h v0 v1 v2) P) : Con l G yX7_placesAt cX7_placesAt 5 (some .int) rm_X7_placesAt [vR v0, vR v1, vI v2] h (ppI h P) := Con.of (by decide) (Nat.le_of_ble_eq_true rfl) (fun X hX hr hN => w_X7_placesAt hX hN h hr v0 v1 v2 hy)
/-! X7_mostLeft -/
theorem dX7_mostLeft_0 : decode cX7_mostLeft 0 = .ok (.iconst 0, 1) := by decide +kernel
theorem dX7_mostLeft_1 : decode cX7_mostLeft 1 = .ok (.istore_n 3, 1) := by decide +kernel
theorem dX7_mostLeft_2 : decode cX7_mostLeft 2 = .ok (.iconst 0, 1) := by decide +kernel
theorem dX7_mostLeft_3 : decode cX7_mostLeft 3 = .ok (.istore 4, 2) := by decide +kernel
theorem dX7_mostLeft_5 : decode cX7_mostLeft 5 = .ok (.iload 4, 2) := by decide +kernel
theorem dX7_mostLeft_7 : decode cX7_mostLeft 7 = .ok (.aload_n 1, 1) := by decide +kernel
theorem dX7_mostLeft_8 : decode cX7_mostLeft 8 = .ok (.getfield 26, 3) := by decide +kernel
theorem dX7_mostLeft_11 : decode cX7_mostLeft 11 = .ok (.if_icmp .ge 21, 3) := by decide +kernel
theorem dX7_mostLeft_14 : decode cX7_mostLeft 14 = .ok (.iload_n 3, 1) := by decide +kernel
theorem dX7_mostLeft_15 : decode cX7_mostLeft 15 = .ok (.aload_n 0, 1) := by decide +kernel
theorem dX7_mostLeft_16 : decode cX7_mostLeft 16 = .ok (.iload_n 2, 1) := by decide +kernel
theorem dX7_mostLeft_17 : decode cX7_mostLeft 17 = .ok (.iload 4, 2) := by decide +kernel
theorem dX7_mostLeft_19 : decode cX7_mostLeft 19 = .ok (.invokevirtual 40, 3) := by decide +kernel
theorem dX7_mostLeft_22 : decode cX7_mostLeft 22 = .ok (.invokestatic 44, 3) := by decide +kernel
theorem dX7_mostLeft_25 : decode cX7_mostLeft 25 = .ok (.istore_n 3, 1) := by decide +kernel
theorem dX7_mostLeft_26 : decode cX7_mostLeft 26 = .ok (.iinc 4 1, 3) := by decide +kernel
theorem dX7_mostLeft_29 : decode cX7_mostLeft 29 = .ok (.goto (-24), 3) := by decide +kernel
theorem dX7_mostLeft_32 : decode cX7_mostLeft 32 = .ok (.iload_n 3, 1) := by decide +kernel
theorem dX7_mostLeft_33 : decode cX7_mostLeft 33 = .ok (.ireturn, 1) := by decide +kernel
abbrev rm_X7_mostLeft : Room := { frames := 1, cells := 0, slots := 0, locals := 22 }
def b_X7_mostLeft_5 (h : Mem) (v0 : Nat) (v1 : Nat) (v2 : Int32) (v3 : Int32) (v4 : Int32) : Option ((Int32 × Int32) ⊕ Int32) :=
  (gI h v1 2 4).bind fun x1 => (if x1 ≤ v4 then some (.inr v3) else (f_X7_rowsWith h v0 v2 v4).bind fun x2 => some (.inl ((mMax v3 x2), (v4 + 1))))
set_option maxRecDepth 100000 in
set_option maxHeartbeats 4000000 in
theorem wb_X7_mostLeft_5 {G : GE} {X : CX} {l : Launch} (hX : Ok G X cX7_mostLeft RX7) (hN : xn X = 5) (h : Mem) {P0 : Int32 → Prop} (hr : Rt G X l yX7_mostLeft (some .int) rm_X7_mostLeft (ppI h P0))  (v0 : Nat) (v1 : Nat) (v2 : Int32) {P : ((Int32 × Int32) ⊕ Int32) → Prop} (hc : ∀ s, P (.inl s) → AW G X 5 [(0, vR v0), (1, vR v1), (2, vI v2), (3, vI s.1), (4, vI s.2)] [] h 0 0) (he0 : ∀ e, P (.inr e) → AW G X 32 [(3, vI e)] [] h 0 0) (v3 : Int32) (v4 : Int32) (hy : OK (b_X7_mostLeft_5 h v0 v1 v2 v3 v4) P) : AW G X 5 [(0, vR v0), (1, vR v1), (2, vI v2), (3, vI v3), (4, vI v4)] [] h 0 0 := by
  unfold b_X7_mostLeft_5 at hy
  refine aw_iload (pc := 5) hX 4 rfl dX7_mostLeft_5 ?_
  refine aw_aloadn (pc := 7) hX 1 rfl dX7_mostLeft_7 ?_
  refine aw_gI (pc := 8) hX hy fl_X7_26 (fun _ _ => rfl) dX7_mostLeft_8 (fun x1 hy => ?_)
  refine aw_ic_ge (pc := 11) hX 32 (by decide) dX7_mostLeft_11 (fun hc9 => ?_) (fun hc9 => ?_)
  · have hy := hy.t hc9
    refine AW.sub [3] rfl ?_
    exact he0 v3 hy.s
  · have hy := hy.f hc9
    refine aw_iloadn (pc := 14) hX 3 rfl dX7_mostLeft_14 ?_
    refine aw_aloadn (pc := 15) hX 0 rfl dX7_mostLeft_15 ?_
    refine aw_iloadn (pc := 16) hX 2 rfl dX7_mostLeft_16 ?_
    refine aw_iload (pc := 17) hX 4 rfl dX7_mostLeft_17 ?_
    refine aw_callV (pc := 19) (st := [vI v3]) (a := v0) hX [vI v2, vI v4] (con_X7_rowsWith _ G _ v0 v2 v4 hy.bd) mc_X7_rowsWith ml_X7_40 im_X7_rowsWith se_X7_rowsWith (by decide) hy.bd.kd rfl (rm_of hr (by decide)) (Nat.le_of_ble_eq_true rfl) rfl dX7_mostLeft_19 (kpI rfl rfl (fun x2 hy => ?_))
    refine aw_mmax (pc := 22) hX ml_X7_44 (Nat.le_of_ble_eq_true rfl) (le_f hr (by decide)) (le_l hr (by decide)) (le_c hr (by decide)) (le_s hr (by decide)) dX7_mostLeft_22 ?_
    refine aw_istoren (pc := 25) hX [(3, vI (mMax v3 x2)), (0, vR v0), (1, vR v1), (2, vI v2), (4, vI v4)] rfl (lt_n hN (by decide)) dX7_mostLeft_25 ?_
    refine aw_iinc (pc := 26) hX 1 (by decide) 4 rfl [(4, vI (v4 + 1)), (3, vI (mMax v3 x2)), (0, vR v0), (1, vR v1), (2, vI v2)] rfl (lt_n hN (by decide)) dX7_mostLeft_26 ?_
    refine aw_goto (pc := 29) hX 5 (by decide) dX7_mostLeft_29 ?_
    refine AW.sub [2, 3, 4, 1, 0] rfl ?_
    exact hc ((mMax v3 x2), (v4 + 1)) hy.s
theorem wl_X7_mostLeft_5 {G : GE} {X : CX} {l : Launch} (hX : Ok G X cX7_mostLeft RX7) (hN : xn X = 5) (h : Mem) {P0 : Int32 → Prop} (hr : Rt G X l yX7_mostLeft (some .int) rm_X7_mostLeft (ppI h P0)) (v0 : Nat) (v1 : Nat) (v2 : Int32) {P : (Int32) → Prop} (he0 : ∀ e, P e → AW G X 32 [(3, vI e)] [] h 0 0) : ∀ (n : Nat) (s : Int32 × Int32), OK (iter (fun (s : Int32 × Int32) => b_X7_mostLeft_5 h v0 v1 v2 s.1 s.2) n s) P → AW G X 5 [(0, vR v0), (1, vR v1), (2, vI v2), (3, vI s.1), (4, vI s.2)] [] h 0 0 := by
  intro n
  induction n with
  | zero => exact fun s hy => hy.it0.elim
  | succ n ih =>
    intro s hy
    exact wb_X7_mostLeft_5 hX hN h hr v0 v1 v2 (fun s hs => ih s hs) (fun e hs => he0 e hs) s.1 s.2 hy.it
def f_X7_mostLeft (h : Mem) (v0 : Nat) (v1 : Nat) (v2 : Int32) : Option Int32 :=
  (ck h v0 6).bind fun _ => (iter (fun (s : Int32 × Int32) => b_X7_mostLeft_5 h v0 v1 v2 s.1 s.2) FU (0, 0)).bind (fun q3 => some q3)
set_option maxRecDepth 100000 in
set_option maxHeartbeats 4000000 in
theorem w_X7_mostLeft {G : GE} {X : CX} {l : Launch} (hX : Ok G X cX7_mostLeft RX7) (hN : xn X = 5) (h : Mem) {P : Int32 → Prop} (hr : Rt G X l yX7_mostLeft (some .int) rm_X7_mostLeft (ppI h P)) (v0 : Nat) (v1 : Nat) (v2 : Int32) (hy : OK (f_X7_mostLeft h v0 v1 v2) P) : AW G X 0 [(0, vR v0), (1, vR v1), (2, vI v2)] [] h 0 0 := by
  unfold f_X7_mostLeft at hy
  have hkd := hy.kd
  have hy := hy.kb
  refine aw_iconst (pc := 0) hX 0 (by decide) dX7_mostLeft_0 ?_
  refine aw_istoren (pc := 1) hX [(3, vI 0), (0, vR v0), (1, vR v1), (2, vI v2)] rfl (lt_n hN (by decide)) dX7_mostLeft_1 ?_
  refine aw_iconst (pc := 2) hX 0 (by decide) dX7_mostLeft_2 ?_
  refine aw_istore (pc := 3) hX [(4, vI 0), (3, vI 0), (0, vR v0), (1, vR v1), (2, vI v2)] rfl (lt_n hN (by decide)) dX7_mostLeft_3 ?_
  refine AW.sub [2, 3, 4, 1, 0] rfl ?_
  refine wl_X7_mostLeft_5 hX hN _ hr v0 v1 v2 ?_ FU (0, 0) hy.bd
  · intro q3 hy
    refine aw_iloadn (pc := 32) hX 0 rfl dX7_mostLeft_32 ?_
    exact aw_iret (pc := 33) hX hr (by decide) (by decide) dX7_mostLeft_33 ⟨rfl, _, rfl, hy.s⟩
theorem con_X7_mostLeft (l : Launch) (G : GE) (h : Mem) (v0 : Nat) (v1 : Nat) (v2 : Int32) {P : Int32 → Prop} (hy : OK (f_X7_mostLeft h v0 v1 v2) P) : Con l G yX7_mostLeft cX7_mostLeft 5 (some .int) rm_X7_mostLeft [vR v0, vR v1, vI v2] h (ppI h P) := Con.of (by decide) (Nat.le_of_ble_eq_true rfl) (fun X hX hr hN => w_X7_mostLeft hX hN h hr v0 v1 v2 hy)
/-! X7_whatToAsk -/
theorem dX7_whatToAsk_0 : decode cX7_whatToAsk 0 = .ok (.aload_n 0, 1) := by decide +kernel
theorem dX7_whatToAsk_1 : decode cX7_whatToAsk 1 = .ok (.aload_n 1, 1) := by decide +kernel
theorem dX7_whatToAsk_2 : decode cX7_whatToAsk 2 = .ok (.invokevirtual 49, 3) := by decide +kernel
theorem dX7_whatToAsk_5 : decode cX7_whatToAsk 5 = .ok (.ifCond .ne 6, 3) := by decide +kernel
theorem dX7_whatToAsk_8 : decode cX7_whatToAsk 8 = .ok (.bipush (-2), 2) := by decide +kernel
theorem dX7_whatToAsk_10 : decode cX7_whatToAsk 10 = .ok (.ireturn, 1) := by decide +kernel
theorem dX7_whatToAsk_11 : decode cX7_whatToAsk 11 = .ok (.iconst 0, 1) := by decide +kernel
theorem dX7_whatToAsk_12 : decode cX7_whatToAsk 12 = .ok (.istore_n 2, 1) := by decide +kernel
theorem dX7_whatToAsk_13 : decode cX7_whatToAsk 13 = .ok (.iconst 1, 1) := by decide +kernel
theorem dX7_whatToAsk_14 : decode cX7_whatToAsk 14 = .ok (.istore_n 3, 1) := by decide +kernel
theorem dX7_whatToAsk_15 : decode cX7_whatToAsk 15 = .ok (.iload_n 3, 1) := by decide +kernel
theorem dX7_whatToAsk_16 : decode cX7_whatToAsk 16 = .ok (.aload_n 1, 1) := by decide +kernel
theorem dX7_whatToAsk_17 : decode cX7_whatToAsk 17 = .ok (.getfield 30, 3) := by decide +kernel
theorem dX7_whatToAsk_20 : decode cX7_whatToAsk 20 = .ok (.if_icmp .gt 26, 3) := by decide +kernel
theorem dX7_whatToAsk_23 : decode cX7_whatToAsk 23 = .ok (.aload_n 0, 1) := by decide +kernel
theorem dX7_whatToAsk_24 : decode cX7_whatToAsk 24 = .ok (.aload_n 1, 1) := by decide +kernel
theorem dX7_whatToAsk_25 : decode cX7_whatToAsk 25 = .ok (.iload_n 3, 1) := by decide +kernel
theorem dX7_whatToAsk_26 : decode cX7_whatToAsk 26 = .ok (.invokevirtual 53, 3) := by decide +kernel
theorem dX7_whatToAsk_29 : decode cX7_whatToAsk 29 = .ok (.aload_n 0, 1) := by decide +kernel
theorem dX7_whatToAsk_30 : decode cX7_whatToAsk 30 = .ok (.aload_n 1, 1) := by decide +kernel
theorem dX7_whatToAsk_31 : decode cX7_whatToAsk 31 = .ok (.iload_n 2, 1) := by decide +kernel
theorem dX7_whatToAsk_32 : decode cX7_whatToAsk 32 = .ok (.invokevirtual 53, 3) := by decide +kernel
theorem dX7_whatToAsk_35 : decode cX7_whatToAsk 35 = .ok (.if_icmp .ge 5, 3) := by decide +kernel
theorem dX7_whatToAsk_38 : decode cX7_whatToAsk 38 = .ok (.iload_n 3, 1) := by decide +kernel
theorem dX7_whatToAsk_39 : decode cX7_whatToAsk 39 = .ok (.istore_n 2, 1) := by decide +kernel
theorem dX7_whatToAsk_40 : decode cX7_whatToAsk 40 = .ok (.iinc 3 1, 3) := by decide +kernel
theorem dX7_whatToAsk_43 : decode cX7_whatToAsk 43 = .ok (.goto (-28), 3) := by decide +kernel
theorem dX7_whatToAsk_46 : decode cX7_whatToAsk 46 = .ok (.iload_n 2, 1) := by decide +kernel
theorem dX7_whatToAsk_47 : decode cX7_whatToAsk 47 = .ok (.ireturn, 1) := by decide +kernel
abbrev rm_X7_whatToAsk : Room := { frames := 2, cells := 0, slots := 0, locals := 46 }
def f_X7_whatToAsk_40 (h : Mem) (v0 : Nat) (v1 : Nat) (v2 : Int32) (v3 : Int32) : Option ((Int32 × Int32) ⊕ Int32) :=
  some (.inl (v2, (v3 + 1)))
set_option maxRecDepth 100000 in
set_option maxHeartbeats 4000000 in
theorem w_X7_whatToAsk_40 {G : GE} {X : CX} {l : Launch} (hX : Ok G X cX7_whatToAsk RX7) (hN : xn X = 4) (h : Mem) {P0 : Int32 → Prop} (hr : Rt G X l yX7_whatToAsk (some .int) rm_X7_whatToAsk (ppI h P0))  (v0 : Nat) (v1 : Nat) {P : ((Int32 × Int32) ⊕ Int32) → Prop} (hc : ∀ s, P (.inl s) → AW G X 15 [(0, vR v0), (1, vR v1), (2, vI s.1), (3, vI s.2)] [] h 0 0) (he0 : ∀ e, P (.inr e) → AW G X 46 [(2, vI e)] [] h 0 0) (v2 : Int32) (v3 : Int32) (hy : OK (f_X7_whatToAsk_40 h v0 v1 v2 v3) P) : AW G X 40 [(0, vR v0), (1, vR v1), (2, vI v2), (3, vI v3)] [] h 0 0 := by
  unfold f_X7_whatToAsk_40 at hy
  refine aw_iinc (pc := 40) hX 1 (by decide) 3 rfl [(3, vI (v3 + 1)), (0, vR v0), (1, vR v1), (2, vI v2)] rfl (lt_n hN (by decide)) dX7_whatToAsk_40 ?_
  refine aw_goto (pc := 43) hX 15 (by decide) dX7_whatToAsk_43 ?_
  refine AW.sub [1, 2, 3, 0] rfl ?_
  exact hc (v2, (v3 + 1)) hy.s
def b_X7_whatToAsk_15 (h : Mem) (v0 : Nat) (v1 : Nat) (v2 : Int32) (v3 : Int32) : Option ((Int32 × Int32) ⊕ Int32) :=
  (gI h v1 8 4).bind fun x2 => (if x2 < v3 then some (.inr v2) else (f_X7_mostLeft h v0 v1 v3).bind fun x3 => (f_X7_mostLeft h v0 v1 v2).bind fun x4 => (if x4 ≤ x3 then f_X7_whatToAsk_40 h v0 v1 v2 v3 else f_X7_whatToAsk_40 h v0 v1 v3 v3))
set_option maxRecDepth 100000 in
set_option maxHeartbeats 4000000 in
theorem wb_X7_whatToAsk_15 {G : GE} {X : CX} {l : Launch} (hX : Ok G X cX7_whatToAsk RX7) (hN : xn X = 4) (h : Mem) {P0 : Int32 → Prop} (hr : Rt G X l yX7_whatToAsk (some .int) rm_X7_whatToAsk (ppI h P0))  (v0 : Nat) (v1 : Nat) {P : ((Int32 × Int32) ⊕ Int32) → Prop} (hc : ∀ s, P (.inl s) → AW G X 15 [(0, vR v0), (1, vR v1), (2, vI s.1), (3, vI s.2)] [] h 0 0) (he0 : ∀ e, P (.inr e) → AW G X 46 [(2, vI e)] [] h 0 0) (v2 : Int32) (v3 : Int32) (hy : OK (b_X7_whatToAsk_15 h v0 v1 v2 v3) P) : AW G X 15 [(0, vR v0), (1, vR v1), (2, vI v2), (3, vI v3)] [] h 0 0 := by
  unfold b_X7_whatToAsk_15 at hy
  refine aw_iloadn (pc := 15) hX 3 rfl dX7_whatToAsk_15 ?_
  refine aw_aloadn (pc := 16) hX 1 rfl dX7_whatToAsk_16 ?_
  refine aw_gI (pc := 17) hX hy fl_X7_30 (fun _ _ => rfl) dX7_whatToAsk_17 (fun x2 hy => ?_)
  refine aw_ic_gt (pc := 20) hX 46 (by decide) dX7_whatToAsk_20 (fun hc9 => ?_) (fun hc9 => ?_)
  · have hy := hy.t hc9
    refine AW.sub [2] rfl ?_
    exact he0 v2 hy.s
  · have hy := hy.f hc9
    refine aw_aloadn (pc := 23) hX 0 rfl dX7_whatToAsk_23 ?_
    refine aw_aloadn (pc := 24) hX 1 rfl dX7_whatToAsk_24 ?_
    refine aw_iloadn (pc := 25) hX 3 rfl dX7_whatToAsk_25 ?_
    refine aw_callV (pc := 26) (st := []) (a := v0) hX [vR v1, vI v3] (con_X7_mostLeft _ G _ v0 v1 v3 hy.bd) mc_X7_mostLeft ml_X7_53 im_X7_mostLeft se_X7_mostLeft (by decide) hy.bd.kd rfl (rm_of hr (by decide)) (Nat.le_of_ble_eq_true rfl) rfl dX7_whatToAsk_26 (kpI rfl rfl (fun x3 hy => ?_))
    refine aw_aloadn (pc := 29) hX 0 rfl dX7_whatToAsk_29 ?_
    refine aw_aloadn (pc := 30) hX 1 rfl dX7_whatToAsk_30 ?_
    refine aw_iloadn (pc := 31) hX 2 rfl dX7_whatToAsk_31 ?_
    refine aw_callV (pc := 32) (st := [vI x3]) (a := v0) hX [vR v1, vI v2] (con_X7_mostLeft _ G _ v0 v1 v2 hy.bd) mc_X7_mostLeft ml_X7_53 im_X7_mostLeft se_X7_mostLeft (by decide) hy.bd.kd rfl (rm_of hr (by decide)) (Nat.le_of_ble_eq_true rfl) rfl dX7_whatToAsk_32 (kpI rfl rfl (fun x4 hy => ?_))
    refine aw_ic_ge (pc := 35) hX 40 (by decide) dX7_whatToAsk_35 (fun hc9 => ?_) (fun hc9 => ?_)
    · have hy := hy.t hc9
      exact w_X7_whatToAsk_40 hX hN _ hr _ _ hc he0 v2 v3 hy
    · have hy := hy.f hc9
      refine aw_iloadn (pc := 38) hX 3 rfl dX7_whatToAsk_38 ?_
      refine aw_istoren (pc := 39) hX [(2, vI v3), (0, vR v0), (1, vR v1), (3, vI v3)] rfl (lt_n hN (by decide)) dX7_whatToAsk_39 ?_
      refine AW.sub [1, 2, 0, 3] rfl ?_
      exact w_X7_whatToAsk_40 hX hN _ hr _ _ hc he0 v3 v3 hy
theorem wl_X7_whatToAsk_15 {G : GE} {X : CX} {l : Launch} (hX : Ok G X cX7_whatToAsk RX7) (hN : xn X = 4) (h : Mem) {P0 : Int32 → Prop} (hr : Rt G X l yX7_whatToAsk (some .int) rm_X7_whatToAsk (ppI h P0)) (v0 : Nat) (v1 : Nat) {P : (Int32) → Prop} (he0 : ∀ e, P e → AW G X 46 [(2, vI e)] [] h 0 0) : ∀ (n : Nat) (s : Int32 × Int32), OK (iter (fun (s : Int32 × Int32) => b_X7_whatToAsk_15 h v0 v1 s.1 s.2) n s) P → AW G X 15 [(0, vR v0), (1, vR v1), (2, vI s.1), (3, vI s.2)] [] h 0 0 := by
  intro n
  induction n with
  | zero => exact fun s hy => hy.it0.elim
  | succ n ih =>
    intro s hy
    exact wb_X7_whatToAsk_15 hX hN h hr v0 v1 (fun s hs => ih s hs) (fun e hs => he0 e hs) s.1 s.2 hy.it
def f_X7_whatToAsk (h : Mem) (v0 : Nat) (v1 : Nat) : Option Int32 :=
  (ck h v0 6).bind fun _ => (f_X7_allRows h v0 v1).bind fun x1 => (if x1 = 0 then some (-2) else (iter (fun (s : Int32 × Int32) => b_X7_whatToAsk_15 h v0 v1 s.1 s.2) FU (0, 1)).bind (fun q5 => some q5))
set_option maxRecDepth 100000 in
set_option maxHeartbeats 4000000 in
theorem w_X7_whatToAsk {G : GE} {X : CX} {l : Launch} (hX : Ok G X cX7_whatToAsk RX7) (hN : xn X = 4) (h : Mem) {P : Int32 → Prop} (hr : Rt G X l yX7_whatToAsk (some .int) rm_X7_whatToAsk (ppI h P)) (v0 : Nat) (v1 : Nat) (hy : OK (f_X7_whatToAsk h v0 v1) P) : AW G X 0 [(0, vR v0), (1, vR v1)] [] h 0 0 := by
  unfold f_X7_whatToAsk at hy
  have hkd := hy.kd
  have hy := hy.kb
  refine aw_aloadn (pc := 0) hX 0 rfl dX7_whatToAsk_0 ?_
  refine aw_aloadn (pc := 1) hX 1 rfl dX7_whatToAsk_1 ?_
  refine aw_callV (pc := 2) (st := []) (a := v0) hX [vR v1] (con_X7_allRows _ G _ v0 v1 hy.bd) mc_X7_allRows ml_X7_49 im_X7_allRows se_X7_allRows (by decide) hy.bd.kd rfl (rm_of hr (by decide)) (Nat.le_of_ble_eq_true rfl) rfl dX7_whatToAsk_2 (kpI rfl rfl (fun x1 hy => ?_))
  refine aw_if_ne (pc := 5) hX 11 (by decide) dX7_whatToAsk_5 (fun hc9 => ?_) (fun hc9 => ?_)
  · have hy := hy.f hc9
    refine aw_iconst (pc := 11) hX 0 (by decide) dX7_whatToAsk_11 ?_
    refine aw_istoren (pc := 12) hX [(2, vI 0), (0, vR v0), (1, vR v1)] rfl (lt_n hN (by decide)) dX7_whatToAsk_12 ?_
    refine aw_iconst (pc := 13) hX 1 (by decide) dX7_whatToAsk_13 ?_
    refine aw_istoren (pc := 14) hX [(3, vI 1), (2, vI 0), (0, vR v0), (1, vR v1)] rfl (lt_n hN (by decide)) dX7_whatToAsk_14 ?_
    refine AW.sub [2, 3, 1, 0] rfl ?_
    refine wl_X7_whatToAsk_15 hX hN _ hr v0 v1 ?_ FU (0, 1) hy.bd
    · intro q5 hy
      refine aw_iloadn (pc := 46) hX 0 rfl dX7_whatToAsk_46 ?_
      exact aw_iret (pc := 47) hX hr (by decide) (by decide) dX7_whatToAsk_47 ⟨rfl, _, rfl, hy.s⟩
  · have hy := hy.t hc9
    refine aw_bipush (pc := 8) hX (-2) (by decide) dX7_whatToAsk_8 ?_
    exact aw_iret (pc := 10) hX hr (by decide) (by decide) dX7_whatToAsk_10 ⟨rfl, _, rfl, hy.s⟩
theorem con_X7_whatToAsk (l : Launch) (G : GE) (h : Mem) (v0 : Nat) (v1 : Nat) {P : Int32 → Prop} (hy : OK (f_X7_whatToAsk h v0 v1) P) : Con l G yX7_whatToAsk cX7_whatToAsk 4 (some .int) rm_X7_whatToAsk [vR v0, vR v1] h (ppI h P) := Con.of (by decide) (Nat.le_of_ble_eq_true rfl) (fun X hX hr hN => w_X7_whatToAsk hX hN h hr v0 v1 hy)
/-! X8_init -/
theorem dX8_init_0 : decode cX8_init 0 = .ok (.aload_n 0, 1) := by decide +kernel
theorem dX8_init_1 : decode cX8_init 1 = .ok (.invokespecial 5, 3) := by decide +kernel
theorem dX8_init_4 : decode cX8_init 4 = .ok (.aload_n 0, 1) := by decide +kernel
theorem dX8_init_5 : decode cX8_init 5 = .ok (.bipush 64, 2) := by decide +kernel
theorem dX8_init_7 : decode cX8_init 7 = .ok (.newarray .int, 2) := by decide +kernel
theorem dX8_init_9 : decode cX8_init 9 = .ok (.putfield 13, 3) := by decide +kernel
theorem dX8_init_12 : decode cX8_init 12 = .ok (.aload_n 0, 1) := by decide +kernel
theorem dX8_init_13 : decode cX8_init 13 = .ok (.bipush 64, 2) := by decide +kernel
theorem dX8_init_15 : decode cX8_init 15 = .ok (.newarray .int, 2) := by decide +kernel
theorem dX8_init_17 : decode cX8_init 17 = .ok (.putfield 17, 3) := by decide +kernel
theorem dX8_init_20 : decode cX8_init 20 = .ok (.aload_n 0, 1) := by decide +kernel
theorem dX8_init_21 : decode cX8_init 21 = .ok (.bipush 64, 2) := by decide +kernel
theorem dX8_init_23 : decode cX8_init 23 = .ok (.newarray .int, 2) := by decide +kernel
theorem dX8_init_25 : decode cX8_init 25 = .ok (.putfield 20, 3) := by decide +kernel
theorem dX8_init_28 : decode cX8_init 28 = .ok (.return_, 1) := by decide +kernel
abbrev rm_X8_init : Room := { frames := 1, cells := 3, slots := 192, locals := 20 }
def f_X8_init (h : Mem) (v0 : Nat) : Option Mem :=
  (ck h v0 7).bind fun _ => (pR (mNew h 100 64) v0 0 7 (mN h)).bind fun h1 => (pR (mNew h1 100 64) v0 1 7 (mN h1)).bind fun h2 => (pR (mNew h2 100 64) v0 2 7 (mN h2)).bind fun h3 => some h3
set_option maxRecDepth 100000 in
set_option maxHeartbeats 4000000 in
theorem w_X8_init {G : GE} {X : CX} {l : Launch} (hX : Ok G X cX8_init RX8) (hN : xn X = 1) {P : Mem → Prop} (hr : Rt G X l yX8_init none rm_X8_init (pmV P)) (h : Mem) (v0 : Nat) (hy : OK (f_X8_init h v0) P) : AW G X 0 [(0, vR v0)] [] h 0 0 := by
  unfold f_X8_init at hy
  have hkd := hy.kd
  have hy := hy.kb
  refine aw_aloadn (pc := 0) hX 0 rfl dX8_init_0 ?_
  refine aw_objInit0 (pc := 1) hX hkd oi_X8_5 oi_i oi_c (by decide) (Nat.le_of_ble_eq_true rfl) (le_f hr (by decide)) (le_l hr (by decide)) dX8_init_1 ?_
  refine aw_aloadn (pc := 4) hX 0 rfl dX8_init_4 ?_
  refine aw_bipush (pc := 5) hX 64 (by decide) dX8_init_5 ?_
  refine aw_newi (pc := 7) hX 64 64 (by decide) (by decide) (by decide) ar_int (le_c hr (by decide)) (le_s hr (by decide)) dX8_init_7 ?_
  refine AW.eqa (ce' := 1) (sl' := 64) rfl rfl ?_
  refine aw_pR (pc := 9) hX hy fl_X8_13 rfl (Or.inr ⟨rfl, hr.2.2.2.1, rfl, fw_X8_13⟩) dX8_init_9 (fun h1 hy => ?_)
  refine aw_aloadn (pc := 12) hX 0 rfl dX8_init_12 ?_
  refine aw_bipush (pc := 13) hX 64 (by decide) dX8_init_13 ?_
  refine aw_newi (pc := 15) hX 64 64 (by decide) (by decide) (by decide) ar_int (le_c hr (by decide)) (le_s hr (by decide)) dX8_init_15 ?_
  refine AW.eqa (ce' := 2) (sl' := 128) rfl rfl ?_
  refine aw_pR (pc := 17) hX hy fl_X8_17 rfl (Or.inr ⟨rfl, hr.2.2.2.1, rfl, fw_X8_17⟩) dX8_init_17 (fun h2 hy => ?_)
  refine aw_aloadn (pc := 20) hX 0 rfl dX8_init_20 ?_
  refine aw_bipush (pc := 21) hX 64 (by decide) dX8_init_21 ?_
  refine aw_newi (pc := 23) hX 64 64 (by decide) (by decide) (by decide) ar_int (le_c hr (by decide)) (le_s hr (by decide)) dX8_init_23 ?_
  refine AW.eqa (ce' := 3) (sl' := 192) rfl rfl ?_
  refine aw_pR (pc := 25) hX hy fl_X8_20 rfl (Or.inr ⟨rfl, hr.2.2.2.1, rfl, fw_X8_20⟩) dX8_init_25 (fun h3 hy => ?_)
  exact aw_vret (pc := 28) hX hr (by decide) (by decide) dX8_init_28 ⟨rfl, hy.s⟩
theorem con_X8_init (l : Launch) (G : GE) (h : Mem) (v0 : Nat) {P : Mem → Prop} (hy : OK (f_X8_init h v0) P) : Con l G yX8_init cX8_init 1 none rm_X8_init [vR v0] h (pmV P) := Con.of (by decide) (Nat.le_of_ble_eq_true rfl) (fun X hX hr hN => w_X8_init hX hN hr h v0 hy)
/-! X10_placesReached -/
theorem dX10_placesReached_0 : decode cX10_placesReached 0 = .ok (.iconst 1, 1) := by decide +kernel
theorem dX10_placesReached_1 : decode cX10_placesReached 1 = .ok (.iload_n 1, 1) := by decide +kernel
theorem dX10_placesReached_2 : decode cX10_placesReached 2 = .ok (.ishl, 1) := by decide +kernel
theorem dX10_placesReached_3 : decode cX10_placesReached 3 = .ok (.istore 4, 2) := by decide +kernel
theorem dX10_placesReached_5 : decode cX10_placesReached 5 = .ok (.iconst 0, 1) := by decide +kernel
theorem dX10_placesReached_6 : decode cX10_placesReached 6 = .ok (.istore 5, 2) := by decide +kernel
theorem dX10_placesReached_8 : decode cX10_placesReached 8 = .ok (.iload 5, 2) := by decide +kernel
theorem dX10_placesReached_10 : decode cX10_placesReached 10 = .ok (.aload_n 0, 1) := by decide +kernel
theorem dX10_placesReached_11 : decode cX10_placesReached 11 = .ok (.getfield 17, 3) := by decide +kernel
theorem dX10_placesReached_14 : decode cX10_placesReached 14 = .ok (.if_icmp .ge 86, 3) := by decide +kernel
theorem dX10_placesReached_17 : decode cX10_placesReached 17 = .ok (.iload 4, 2) := by decide +kernel
theorem dX10_placesReached_19 : decode cX10_placesReached 19 = .ok (.istore 6, 2) := by decide +kernel
theorem dX10_placesReached_21 : decode cX10_placesReached 21 = .ok (.iconst 0, 1) := by decide +kernel
theorem dX10_placesReached_22 : decode cX10_placesReached 22 = .ok (.istore 7, 2) := by decide +kernel
theorem dX10_placesReached_24 : decode cX10_placesReached 24 = .ok (.iload 7, 2) := by decide +kernel
theorem dX10_placesReached_26 : decode cX10_placesReached 26 = .ok (.aload_n 0, 1) := by decide +kernel
theorem dX10_placesReached_27 : decode cX10_placesReached 27 = .ok (.getfield 21, 3) := by decide +kernel
theorem dX10_placesReached_30 : decode cX10_placesReached 30 = .ok (.if_icmp .ge 54, 3) := by decide +kernel
theorem dX10_placesReached_33 : decode cX10_placesReached 33 = .ok (.iconst 1, 1) := by decide +kernel
theorem dX10_placesReached_34 : decode cX10_placesReached 34 = .ok (.aload_n 0, 1) := by decide +kernel
theorem dX10_placesReached_35 : decode cX10_placesReached 35 = .ok (.iload 7, 2) := by decide +kernel
theorem dX10_placesReached_37 : decode cX10_placesReached 37 = .ok (.invokevirtual 24, 3) := by decide +kernel
theorem dX10_placesReached_40 : decode cX10_placesReached 40 = .ok (.ishl, 1) := by decide +kernel
theorem dX10_placesReached_41 : decode cX10_placesReached 41 = .ok (.iconst 1, 1) := by decide +kernel
theorem dX10_placesReached_42 : decode cX10_placesReached 42 = .ok (.aload_n 0, 1) := by decide +kernel
theorem dX10_placesReached_43 : decode cX10_placesReached 43 = .ok (.iload 7, 2) := by decide +kernel
theorem dX10_placesReached_45 : decode cX10_placesReached 45 = .ok (.invokevirtual 28, 3) := by decide +kernel
theorem dX10_placesReached_48 : decode cX10_placesReached 48 = .ok (.ishl, 1) := by decide +kernel
theorem dX10_placesReached_49 : decode cX10_placesReached 49 = .ok (.ior, 1) := by decide +kernel
theorem dX10_placesReached_50 : decode cX10_placesReached 50 = .ok (.istore 8, 2) := by decide +kernel
theorem dX10_placesReached_52 : decode cX10_placesReached 52 = .ok (.iload 4, 2) := by decide +kernel
theorem dX10_placesReached_54 : decode cX10_placesReached 54 = .ok (.iload 8, 2) := by decide +kernel
theorem dX10_placesReached_56 : decode cX10_placesReached 56 = .ok (.iand, 1) := by decide +kernel
theorem dX10_placesReached_57 : decode cX10_placesReached 57 = .ok (.ifCond .eq 21, 3) := by decide +kernel
theorem dX10_placesReached_60 : decode cX10_placesReached 60 = .ok (.aload_n 0, 1) := by decide +kernel
theorem dX10_placesReached_61 : decode cX10_placesReached 61 = .ok (.iload 7, 2) := by decide +kernel
theorem dX10_placesReached_63 : decode cX10_placesReached 63 = .ok (.iload_n 2, 1) := by decide +kernel
theorem dX10_placesReached_64 : decode cX10_placesReached 64 = .ok (.iload_n 3, 1) := by decide +kernel
theorem dX10_placesReached_65 : decode cX10_placesReached 65 = .ok (.invokestatic 31, 3) := by decide +kernel
theorem dX10_placesReached_68 : decode cX10_placesReached 68 = .ok (.ifCond .eq 10, 3) := by decide +kernel
theorem dX10_placesReached_71 : decode cX10_placesReached 71 = .ok (.iload 4, 2) := by decide +kernel
theorem dX10_placesReached_73 : decode cX10_placesReached 73 = .ok (.iload 8, 2) := by decide +kernel
theorem dX10_placesReached_75 : decode cX10_placesReached 75 = .ok (.ior, 1) := by decide +kernel
theorem dX10_placesReached_76 : decode cX10_placesReached 76 = .ok (.istore 4, 2) := by decide +kernel
theorem dX10_placesReached_78 : decode cX10_placesReached 78 = .ok (.iinc 7 1, 3) := by decide +kernel
theorem dX10_placesReached_81 : decode cX10_placesReached 81 = .ok (.goto (-57), 3) := by decide +kernel
theorem dX10_placesReached_84 : decode cX10_placesReached 84 = .ok (.iload 4, 2) := by decide +kernel
theorem dX10_placesReached_86 : decode cX10_placesReached 86 = .ok (.iload 6, 2) := by decide +kernel
theorem dX10_placesReached_88 : decode cX10_placesReached 88 = .ok (.if_icmp .ne 6, 3) := by decide +kernel
theorem dX10_placesReached_91 : decode cX10_placesReached 91 = .ok (.iload 4, 2) := by decide +kernel
theorem dX10_placesReached_93 : decode cX10_placesReached 93 = .ok (.ireturn, 1) := by decide +kernel
theorem dX10_placesReached_94 : decode cX10_placesReached 94 = .ok (.iinc 5 1, 3) := by decide +kernel
theorem dX10_placesReached_97 : decode cX10_placesReached 97 = .ok (.goto (-89), 3) := by decide +kernel
theorem dX10_placesReached_100 : decode cX10_placesReached 100 = .ok (.iload 4, 2) := by decide +kernel
theorem dX10_placesReached_102 : decode cX10_placesReached 102 = .ok (.ireturn, 1) := by decide +kernel
abbrev rm_X10_placesReached : Room := { frames := 1, cells := 0, slots := 0, locals := 23 }
def f_X10_placesReached_78 (h : Mem) (v0 : Nat) (v2 : Int32) (v3 : Int32) (v4 : Int32) (v5 : Int32) (v6 : Int32) (v7 : Int32) : Option ((Int32 × Int32) ⊕ Int32) :=
  some (.inl (v4, (v7 + 1)))
set_option maxRecDepth 100000 in
set_option maxHeartbeats 4000000 in
theorem w_X10_placesReached_78 {G : GE} {X : CX} {l : Launch} (hX : Ok G X cX10_placesReached RX10) (hN : xn X = 9) (h : Mem) {P0 : Int32 → Prop} (hr : Rt G X l yX10_placesReached (some .int) rm_X10_placesReached (ppI h P0))  (v0 : Nat) (v2 : Int32) (v3 : Int32) (v5 : Int32) (v6 : Int32) {P : ((Int32 × Int32) ⊕ Int32) → Prop} (hc : ∀ s, P (.inl s) → AW G X 24 [(0, vR v0), (2, vI v2), (3, vI v3), (4, vI s.1), (5, vI v5), (6, vI v6), (7, vI s.2)] [] h 0 0) (he0 : ∀ e, P (.inr e) → AW G X 84 [(0, vR v0), (2, vI v2), (3, vI v3), (4, vI e), (5, vI v5), (6, vI v6)] [] h 0 0) (v4 : Int32) (v7 : Int32) (hy : OK (f_X10_placesReached_78 h v0 v2 v3 v4 v5 v6 v7) P) : AW G X 78 [(0, vR v0), (2, vI v2), (3, vI v3), (4, vI v4), (5, vI v5), (6, vI v6), (7, vI v7)] [] h 0 0 := by
  unfold f_X10_placesReached_78 at hy
  refine aw_iinc (pc := 78) hX 1 (by decide) 6 rfl [(7, vI (v7 + 1)), (0, vR v0), (2, vI v2), (3, vI v3), (4, vI v4), (5, vI v5), (6, vI v6)] rfl (lt_n hN (by decide)) dX10_placesReached_78 ?_
  refine aw_goto (pc := 81) hX 24 (by decide) dX10_placesReached_81 ?_
  refine AW.sub [1, 2, 3, 4, 5, 6, 0] rfl ?_
  exact hc (v4, (v7 + 1)) hy.s
def b_X10_placesReached_24 (h : Mem) (v0 : Nat) (v2 : Int32) (v3 : Int32) (v5 : Int32) (v6 : Int32) (v4 : Int32) (v7 : Int32) : Option ((Int32 × Int32) ⊕ Int32) :=
  (gI h v0 3 4).bind fun x2 => (if x2 ≤ v7 then some (.inr v4) else (f_X5_oneEnd h v0 v7).bind fun x3 => (f_X5_otherEnd h v0 v7).bind fun x4 => (if (v4 &&& (((1 : Int32) <<< (x3 &&& 31)) ||| ((1 : Int32) <<< (x4 &&& 31)))) = 0 then f_X10_placesReached_78 h v0 v2 v3 v4 v5 v6 v7 else (f_X1_isOpen h v0 v7 v2 v3).bind fun x5 => (if x5 = 0 then f_X10_placesReached_78 h v0 v2 v3 v4 v5 v6 v7 else f_X10_placesReached_78 h v0 v2 v3 (v4 ||| (((1 : Int32) <<< (x3 &&& 31)) ||| ((1 : Int32) <<< (x4 &&& 31)))) v5 v6 v7)))
set_option maxRecDepth 100000 in
set_option maxHeartbeats 4000000 in
theorem wb_X10_placesReached_24 {G : GE} {X : CX} {l : Launch} (hX : Ok G X cX10_placesReached RX10) (hN : xn X = 9) (h : Mem) {P0 : Int32 → Prop} (hr : Rt G X l yX10_placesReached (some .int) rm_X10_placesReached (ppI h P0))  (v0 : Nat) (v2 : Int32) (v3 : Int32) (v5 : Int32) (v6 : Int32) {P : ((Int32 × Int32) ⊕ Int32) → Prop} (hc : ∀ s, P (.inl s) → AW G X 24 [(0, vR v0), (2, vI v2), (3, vI v3), (4, vI s.1), (5, vI v5), (6, vI v6), (7, vI s.2)] [] h 0 0) (he0 : ∀ e, P (.inr e) → AW G X 84 [(0, vR v0), (2, vI v2), (3, vI v3), (4, vI e), (5, vI v5), (6, vI v6)] [] h 0 0) (v4 : Int32) (v7 : Int32) (hy : OK (b_X10_placesReached_24 h v0 v2 v3 v5 v6 v4 v7) P) : AW G X 24 [(0, vR v0), (2, vI v2), (3, vI v3), (4, vI v4), (5, vI v5), (6, vI v6), (7, vI v7)] [] h 0 0 := by
  unfold b_X10_placesReached_24 at hy
  refine aw_iload (pc := 24) hX 6 rfl dX10_placesReached_24 ?_
  refine aw_aloadn (pc := 26) hX 0 rfl dX10_placesReached_26 ?_
  refine aw_gI (pc := 27) hX hy fl_X10_21 (fun _ _ => rfl) dX10_placesReached_27 (fun x2 hy => ?_)
  refine aw_ic_ge (pc := 30) hX 84 (by decide) dX10_placesReached_30 (fun hc9 => ?_) (fun hc9 => ?_)
  · have hy := hy.t hc9
    refine AW.sub [0, 1, 2, 3, 4, 5] rfl ?_
    exact he0 v4 hy.s
  · have hy := hy.f hc9
    refine aw_iconst (pc := 33) hX 1 (by decide) dX10_placesReached_33 ?_
    refine aw_aloadn (pc := 34) hX 0 rfl dX10_placesReached_34 ?_
    refine aw_iload (pc := 35) hX 6 rfl dX10_placesReached_35 ?_
    refine aw_callV (pc := 37) (st := [vI 1]) (a := v0) hX [vI v7] (con_X5_oneEnd _ G _ v0 v7 hy.bd) mc_X5_oneEnd ml_X10_24 im_X5_oneEnd se_X5_oneEnd (by decide) hy.bd.kd rfl (rm_of hr (by decide)) (Nat.le_of_ble_eq_true rfl) rfl dX10_placesReached_37 (kpI rfl rfl (fun x3 hy => ?_))
    refine aw_ishl (pc := 40) hX dX10_placesReached_40 ?_
    refine aw_iconst (pc := 41) hX 1 (by decide) dX10_placesReached_41 ?_
    refine aw_aloadn (pc := 42) hX 0 rfl dX10_placesReached_42 ?_
    refine aw_iload (pc := 43) hX 6 rfl dX10_placesReached_43 ?_
    refine aw_callV (pc := 45) (st := [vI 1, vI ((1 : Int32) <<< (x3 &&& 31))]) (a := v0) hX [vI v7] (con_X5_otherEnd _ G _ v0 v7 hy.bd) mc_X5_otherEnd ml_X10_28 im_X5_otherEnd se_X5_otherEnd (by decide) hy.bd.kd rfl (rm_of hr (by decide)) (Nat.le_of_ble_eq_true rfl) rfl dX10_placesReached_45 (kpI rfl rfl (fun x4 hy => ?_))
    refine aw_ishl (pc := 48) hX dX10_placesReached_48 ?_
    refine aw_ior (pc := 49) hX dX10_placesReached_49 ?_
    refine aw_istore (pc := 50) hX [(8, vI (((1 : Int32) <<< (x3 &&& 31)) ||| ((1 : Int32) <<< (x4 &&& 31)))), (0, vR v0), (2, vI v2), (3, vI v3), (4, vI v4), (5, vI v5), (6, vI v6), (7, vI v7)] rfl (lt_n hN (by decide)) dX10_placesReached_50 ?_
    refine aw_iload (pc := 52) hX 4 rfl dX10_placesReached_52 ?_
    refine aw_iload (pc := 54) hX 0 rfl dX10_placesReached_54 ?_
    refine aw_iand (pc := 56) hX dX10_placesReached_56 ?_
    refine aw_if_eq (pc := 57) hX 78 (by decide) dX10_placesReached_57 (fun hc9 => ?_) (fun hc9 => ?_)
    · have hy := hy.t hc9
      refine AW.sub [1, 2, 3, 4, 5, 6, 7] rfl ?_
      exact w_X10_placesReached_78 hX hN _ hr _ _ _ _ _ hc he0 v4 v7 hy
    · have hy := hy.f hc9
      refine aw_aloadn (pc := 60) hX 1 rfl dX10_placesReached_60 ?_
      refine aw_iload (pc := 61) hX 7 rfl dX10_placesReached_61 ?_
      refine aw_iloadn (pc := 63) hX 2 rfl dX10_placesReached_63 ?_
      refine aw_iloadn (pc := 64) hX 3 rfl dX10_placesReached_64 ?_
      refine aw_callS (pc := 65) (st := []) hX [vR v0, vI v7, vI v2, vI v3] (con_X1_isOpen _ G _ v0 v7 v2 v3 hy.bd) mc_X1_isOpen ml_X10_31 st_X1_isOpen rfl (rm_of hr (by decide)) (Nat.le_of_ble_eq_true rfl) rfl dX10_placesReached_65 (kpI rfl rfl (fun x5 hy => ?_))
      refine aw_if_eq (pc := 68) hX 78 (by decide) dX10_placesReached_68 (fun hc9 => ?_) (fun hc9 => ?_)
      · have hy := hy.t hc9
        refine AW.sub [1, 2, 3, 4, 5, 6, 7] rfl ?_
        exact w_X10_placesReached_78 hX hN _ hr _ _ _ _ _ hc he0 v4 v7 hy
      · have hy := hy.f hc9
        refine aw_iload (pc := 71) hX 4 rfl dX10_placesReached_71 ?_
        refine aw_iload (pc := 73) hX 0 rfl dX10_placesReached_73 ?_
        refine aw_ior (pc := 75) hX dX10_placesReached_75 ?_
        refine aw_istore (pc := 76) hX [(4, vI (v4 ||| (((1 : Int32) <<< (x3 &&& 31)) ||| ((1 : Int32) <<< (x4 &&& 31))))), (8, vI (((1 : Int32) <<< (x3 &&& 31)) ||| ((1 : Int32) <<< (x4 &&& 31)))), (0, vR v0), (2, vI v2), (3, vI v3), (5, vI v5), (6, vI v6), (7, vI v7)] rfl (lt_n hN (by decide)) dX10_placesReached_76 ?_
        refine AW.sub [2, 3, 4, 0, 5, 6, 7] rfl ?_
        exact w_X10_placesReached_78 hX hN _ hr _ _ _ _ _ hc he0 (v4 ||| (((1 : Int32) <<< (x3 &&& 31)) ||| ((1 : Int32) <<< (x4 &&& 31)))) v7 hy
theorem wl_X10_placesReached_24 {G : GE} {X : CX} {l : Launch} (hX : Ok G X cX10_placesReached RX10) (hN : xn X = 9) (h : Mem) {P0 : Int32 → Prop} (hr : Rt G X l yX10_placesReached (some .int) rm_X10_placesReached (ppI h P0)) (v0 : Nat) (v2 : Int32) (v3 : Int32) (v5 : Int32) (v6 : Int32) {P : (Int32) → Prop} (he0 : ∀ e, P e → AW G X 84 [(0, vR v0), (2, vI v2), (3, vI v3), (4, vI e), (5, vI v5), (6, vI v6)] [] h 0 0) : ∀ (n : Nat) (s : Int32 × Int32), OK (iter (fun (s : Int32 × Int32) => b_X10_placesReached_24 h v0 v2 v3 v5 v6 s.1 s.2) n s) P → AW G X 24 [(0, vR v0), (2, vI v2), (3, vI v3), (4, vI s.1), (5, vI v5), (6, vI v6), (7, vI s.2)] [] h 0 0 := by
  intro n
  induction n with
  | zero => exact fun s hy => hy.it0.elim
  | succ n ih =>
    intro s hy
    exact wb_X10_placesReached_24 hX hN h hr v0 v2 v3 v5 v6 (fun s hs => ih s hs) (fun e hs => he0 e hs) s.1 s.2 hy.it
def b_X10_placesReached_8 (h : Mem) (v0 : Nat) (v2 : Int32) (v3 : Int32) (v4 : Int32) (v5 : Int32) : Option ((Int32 × Int32) ⊕ (Int32 ⊕ Int32)) :=
  (gI h v0 2 4).bind fun x1 => (if x1 ≤ v5 then some (.inr (.inr v4)) else (iter (fun (s : Int32 × Int32) => b_X10_placesReached_24 h v0 v2 v3 v5 v4 s.1 s.2) FU (v4, 0)).bind (fun q6 => (if q6 = v4 then some (.inr (.inl q6)) else some (.inl (q6, (v5 + 1))))))
set_option maxRecDepth 100000 in
set_option maxHeartbeats 4000000 in
theorem wb_X10_placesReached_8 {G : GE} {X : CX} {l : Launch} (hX : Ok G X cX10_placesReached RX10) (hN : xn X = 9) (h : Mem) {P0 : Int32 → Prop} (hr : Rt G X l yX10_placesReached (some .int) rm_X10_placesReached (ppI h P0))  (v0 : Nat) (v2 : Int32) (v3 : Int32) {P : ((Int32 × Int32) ⊕ (Int32 ⊕ Int32)) → Prop} (hc : ∀ s, P (.inl s) → AW G X 8 [(0, vR v0), (2, vI v2), (3, vI v3), (4, vI s.1), (5, vI s.2)] [] h 0 0) (he0 : ∀ e, P (.inr (.inl e)) → AW G X 91 [(4, vI e)] [] h 0 0) (he1 : ∀ e, P (.inr (.inr e)) → AW G X 100 [(4, vI e)] [] h 0 0) (v4 : Int32) (v5 : Int32) (hy : OK (b_X10_placesReached_8 h v0 v2 v3 v4 v5) P) : AW G X 8 [(0, vR v0), (2, vI v2), (3, vI v3), (4, vI v4), (5, vI v5)] [] h 0 0 := by
  unfold b_X10_placesReached_8 at hy
  refine aw_iload (pc := 8) hX 4 rfl dX10_placesReached_8 ?_
  refine aw_aloadn (pc := 10) hX 0 rfl dX10_placesReached_10 ?_
  refine aw_gI (pc := 11) hX hy fl_X10_17 (fun _ _ => rfl) dX10_placesReached_11 (fun x1 hy => ?_)
  refine aw_ic_ge (pc := 14) hX 100 (by decide) dX10_placesReached_14 (fun hc9 => ?_) (fun hc9 => ?_)
  · have hy := hy.t hc9
    refine AW.sub [3] rfl ?_
    exact he1 v4 hy.s
  · have hy := hy.f hc9
    refine aw_iload (pc := 17) hX 3 rfl dX10_placesReached_17 ?_
    refine aw_istore (pc := 19) hX [(6, vI v4), (0, vR v0), (2, vI v2), (3, vI v3), (4, vI v4), (5, vI v5)] rfl (lt_n hN (by decide)) dX10_placesReached_19 ?_
    refine aw_iconst (pc := 21) hX 0 (by decide) dX10_placesReached_21 ?_
    refine aw_istore (pc := 22) hX [(7, vI 0), (6, vI v4), (0, vR v0), (2, vI v2), (3, vI v3), (4, vI v4), (5, vI v5)] rfl (lt_n hN (by decide)) dX10_placesReached_22 ?_
    refine AW.sub [2, 3, 4, 5, 6, 1, 0] rfl ?_
    refine wl_X10_placesReached_24 hX hN _ hr v0 v2 v3 v5 v4 ?_ FU (v4, 0) hy.bd
    · intro q6 hy
      refine aw_iload (pc := 84) hX 3 rfl dX10_placesReached_84 ?_
      refine aw_iload (pc := 86) hX 5 rfl dX10_placesReached_86 ?_
      refine aw_ic_ne (pc := 88) hX 94 (by decide) dX10_placesReached_88 (fun hc9 => ?_) (fun hc9 => ?_)
      · have hy := hy.f hc9
        refine aw_iinc (pc := 94) hX 1 (by decide) 4 rfl [(5, vI (v5 + 1)), (0, vR v0), (2, vI v2), (3, vI v3), (4, vI q6), (6, vI v4)] rfl (lt_n hN (by decide)) dX10_placesReached_94 ?_
        refine aw_goto (pc := 97) hX 8 (by decide) dX10_placesReached_97 ?_
        refine AW.sub [1, 2, 3, 4, 0] rfl ?_
        exact hc (q6, (v5 + 1)) hy.s
      · have hy := hy.t hc9
        refine AW.sub [3] rfl ?_
        exact he0 q6 hy.s
theorem wl_X10_placesReached_8 {G : GE} {X : CX} {l : Launch} (hX : Ok G X cX10_placesReached RX10) (hN : xn X = 9) (h : Mem) {P0 : Int32 → Prop} (hr : Rt G X l yX10_placesReached (some .int) rm_X10_placesReached (ppI h P0)) (v0 : Nat) (v2 : Int32) (v3 : Int32) {P : (Int32 ⊕ Int32) → Prop} (he0 : ∀ e, P (.inl e) → AW G X 91 [(4, vI e)] [] h 0 0) (he1 : ∀ e, P (.inr e) → AW G X 100 [(4, vI e)] [] h 0 0) : ∀ (n : Nat) (s : Int32 × Int32), OK (iter (fun (s : Int32 × Int32) => b_X10_placesReached_8 h v0 v2 v3 s.1 s.2) n s) P → AW G X 8 [(0, vR v0), (2, vI v2), (3, vI v3), (4, vI s.1), (5, vI s.2)] [] h 0 0 := by
  intro n
  induction n with
  | zero => exact fun s hy => hy.it0.elim
  | succ n ih =>
    intro s hy
    exact wb_X10_placesReached_8 hX hN h hr v0 v2 v3 (fun s hs => ih s hs) (fun e hs => he0 e hs) (fun e hs => he1 e hs) s.1 s.2 hy.it
def f_X10_placesReached (h : Mem) (v0 : Nat) (v1 : Int32) (v2 : Int32) (v3 : Int32) : Option Int32 :=
  (iter (fun (s : Int32 × Int32) => b_X10_placesReached_8 h v0 v2 v3 s.1 s.2) FU (((1 : Int32) <<< (v1 &&& 31)), 0)).bind (Sum.elim (fun e8 => some e8) (fun e9 => some e9))
set_option maxRecDepth 100000 in
set_option maxHeartbeats 4000000 in
theorem w_X10_placesReached {G : GE} {X : CX} {l : Launch} (hX : Ok G X cX10_placesReached RX10) (hN : xn X = 9) (h : Mem) {P : Int32 → Prop} (hr : Rt G X l yX10_placesReached (some .int) rm_X10_placesReached (ppI h P)) (v0 : Nat) (v1 : Int32) (v2 : Int32) (v3 : Int32) (hy : OK (f_X10_placesReached h v0 v1 v2 v3) P) : AW G X 0 [(0, vR v0), (1, vI v1), (2, vI v2), (3, vI v3)] [] h 0 0 := by
  unfold f_X10_placesReached at hy
  refine aw_iconst (pc := 0) hX 1 (by decide) dX10_placesReached_0 ?_
  refine aw_iloadn (pc := 1) hX 1 rfl dX10_placesReached_1 ?_
  refine aw_ishl (pc := 2) hX dX10_placesReached_2 ?_
  refine aw_istore (pc := 3) hX [(4, vI ((1 : Int32) <<< (v1 &&& 31))), (0, vR v0), (1, vI v1), (2, vI v2), (3, vI v3)] rfl (lt_n hN (by decide)) dX10_placesReached_3 ?_
  refine aw_iconst (pc := 5) hX 0 (by decide) dX10_placesReached_5 ?_
  refine aw_istore (pc := 6) hX [(5, vI 0), (4, vI ((1 : Int32) <<< (v1 &&& 31))), (0, vR v0), (1, vI v1), (2, vI v2), (3, vI v3)] rfl (lt_n hN (by decide)) dX10_placesReached_6 ?_
  refine AW.sub [2, 4, 5, 1, 0] rfl ?_
  refine wl_X10_placesReached_8 hX hN _ hr v0 v2 v3 ?_ ?_ FU (((1 : Int32) <<< (v1 &&& 31)), 0) hy.bd
  · intro e8 hy
    refine aw_iload (pc := 91) hX 0 rfl dX10_placesReached_91 ?_
    exact aw_iret (pc := 93) hX hr (by decide) (by decide) dX10_placesReached_93 ⟨rfl, _, rfl, hy.s⟩
  · intro e9 hy
    refine aw_iload (pc := 100) hX 0 rfl dX10_placesReached_100 ?_
    exact aw_iret (pc := 102) hX hr (by decide) (by decide) dX10_placesReached_102 ⟨rfl, _, rfl, hy.s⟩
theorem con_X10_placesReached (l : Launch) (G : GE) (h : Mem) (v0 : Nat) (v1 : Int32) (v2 : Int32) (v3 : Int32) {P : Int32 → Prop} (hy : OK (f_X10_placesReached h v0 v1 v2 v3) P) : Con l G yX10_placesReached cX10_placesReached 9 (some .int) rm_X10_placesReached [vR v0, vI v1, vI v2, vI v3] h (ppI h P) := Con.of (by decide) (Nat.le_of_ble_eq_true rfl) (fun X hX hr hN => w_X10_placesReached hX hN h hr v0 v1 v2 v3 hy)
/-! X8_hasLastInn -/
theorem dX8_hasLastInn_0 : decode cX8_hasLastInn 0 = .ok (.iconst 0, 1) := by decide +kernel
theorem dX8_hasLastInn_1 : decode cX8_hasLastInn 1 = .ok (.istore_n 3, 1) := by decide +kernel
theorem dX8_hasLastInn_2 : decode cX8_hasLastInn 2 = .ok (.iload_n 3, 1) := by decide +kernel
theorem dX8_hasLastInn_3 : decode cX8_hasLastInn 3 = .ok (.aload_n 1, 1) := by decide +kernel
theorem dX8_hasLastInn_4 : decode cX8_hasLastInn 4 = .ok (.getfield 42, 3) := by decide +kernel
theorem dX8_hasLastInn_7 : decode cX8_hasLastInn 7 = .ok (.if_icmp .ge 43, 3) := by decide +kernel
theorem dX8_hasLastInn_10 : decode cX8_hasLastInn 10 = .ok (.iload_n 2, 1) := by decide +kernel
theorem dX8_hasLastInn_11 : decode cX8_hasLastInn 11 = .ok (.iload_n 3, 1) := by decide +kernel
theorem dX8_hasLastInn_12 : decode cX8_hasLastInn 12 = .ok (.ishr, 1) := by decide +kernel
theorem dX8_hasLastInn_13 : decode cX8_hasLastInn 13 = .ok (.iconst 1, 1) := by decide +kernel
theorem dX8_hasLastInn_14 : decode cX8_hasLastInn 14 = .ok (.iand, 1) := by decide +kernel
theorem dX8_hasLastInn_15 : decode cX8_hasLastInn 15 = .ok (.iconst 1, 1) := by decide +kernel
theorem dX8_hasLastInn_16 : decode cX8_hasLastInn 16 = .ok (.if_icmp .ne 28, 3) := by decide +kernel
theorem dX8_hasLastInn_19 : decode cX8_hasLastInn 19 = .ok (.aload_n 0, 1) := by decide +kernel
theorem dX8_hasLastInn_20 : decode cX8_hasLastInn 20 = .ok (.getfield 20, 3) := by decide +kernel
theorem dX8_hasLastInn_23 : decode cX8_hasLastInn 23 = .ok (.iload_n 2, 1) := by decide +kernel
theorem dX8_hasLastInn_24 : decode cX8_hasLastInn 24 = .ok (.iconst 1, 1) := by decide +kernel
theorem dX8_hasLastInn_25 : decode cX8_hasLastInn 25 = .ok (.iload_n 3, 1) := by decide +kernel
theorem dX8_hasLastInn_26 : decode cX8_hasLastInn 26 = .ok (.ishl, 1) := by decide +kernel
theorem dX8_hasLastInn_27 : decode cX8_hasLastInn 27 = .ok (.ixor, 1) := by decide +kernel
theorem dX8_hasLastInn_28 : decode cX8_hasLastInn 28 = .ok (.iaload, 1) := by decide +kernel
theorem dX8_hasLastInn_29 : decode cX8_hasLastInn 29 = .ok (.aload_n 1, 1) := by decide +kernel
theorem dX8_hasLastInn_30 : decode cX8_hasLastInn 30 = .ok (.iload_n 3, 1) := by decide +kernel
theorem dX8_hasLastInn_31 : decode cX8_hasLastInn 31 = .ok (.iconst 0, 1) := by decide +kernel
theorem dX8_hasLastInn_32 : decode cX8_hasLastInn 32 = .ok (.invokevirtual 51, 3) := by decide +kernel
theorem dX8_hasLastInn_35 : decode cX8_hasLastInn 35 = .ok (.ishr, 1) := by decide +kernel
theorem dX8_hasLastInn_36 : decode cX8_hasLastInn 36 = .ok (.iconst 1, 1) := by decide +kernel
theorem dX8_hasLastInn_37 : decode cX8_hasLastInn 37 = .ok (.iand, 1) := by decide +kernel
theorem dX8_hasLastInn_38 : decode cX8_hasLastInn 38 = .ok (.iconst 1, 1) := by decide +kernel
theorem dX8_hasLastInn_39 : decode cX8_hasLastInn 39 = .ok (.if_icmp .ne 5, 3) := by decide +kernel
theorem dX8_hasLastInn_42 : decode cX8_hasLastInn 42 = .ok (.iconst 1, 1) := by decide +kernel
theorem dX8_hasLastInn_43 : decode cX8_hasLastInn 43 = .ok (.ireturn, 1) := by decide +kernel
theorem dX8_hasLastInn_44 : decode cX8_hasLastInn 44 = .ok (.iinc 3 1, 3) := by decide +kernel
theorem dX8_hasLastInn_47 : decode cX8_hasLastInn 47 = .ok (.goto (-45), 3) := by decide +kernel
theorem dX8_hasLastInn_50 : decode cX8_hasLastInn 50 = .ok (.iconst 0, 1) := by decide +kernel
theorem dX8_hasLastInn_51 : decode cX8_hasLastInn 51 = .ok (.ireturn, 1) := by decide +kernel
abbrev rm_X8_hasLastInn : Room := { frames := 1, cells := 0, slots := 0, locals := 22 }
def f_X8_hasLastInn_44 (h : Mem) (v0 : Nat) (v1 : Nat) (v2 : Int32) (v3 : Int32) : Option (Int32 ⊕ (Unit ⊕ Unit)) :=
  some (.inl (v3 + 1))
set_option maxRecDepth 100000 in
set_option maxHeartbeats 4000000 in
theorem w_X8_hasLastInn_44 {G : GE} {X : CX} {l : Launch} (hX : Ok G X cX8_hasLastInn RX8) (hN : xn X = 4) (h : Mem) {P0 : Int32 → Prop} (hr : Rt G X l yX8_hasLastInn (some .boolean) rm_X8_hasLastInn (ppI h P0))  (v0 : Nat) (v1 : Nat) (v2 : Int32) {P : (Int32 ⊕ (Unit ⊕ Unit)) → Prop} (hc : ∀ s, P (.inl s) → AW G X 2 [(0, vR v0), (1, vR v1), (2, vI v2), (3, vI s)] [] h 0 0) (he0 : ∀ e, P (.inr (.inl e)) → AW G X 42 [] [] h 0 0) (he1 : ∀ e, P (.inr (.inr e)) → AW G X 50 [] [] h 0 0) (v3 : Int32) (hy : OK (f_X8_hasLastInn_44 h v0 v1 v2 v3) P) : AW G X 44 [(0, vR v0), (1, vR v1), (2, vI v2), (3, vI v3)] [] h 0 0 := by
  unfold f_X8_hasLastInn_44 at hy
  refine aw_iinc (pc := 44) hX 1 (by decide) 3 rfl [(3, vI (v3 + 1)), (0, vR v0), (1, vR v1), (2, vI v2)] rfl (lt_n hN (by decide)) dX8_hasLastInn_44 ?_
  refine aw_goto (pc := 47) hX 2 (by decide) dX8_hasLastInn_47 ?_
  refine AW.sub [1, 2, 3, 0] rfl ?_
  exact hc (v3 + 1) hy.s
def b_X8_hasLastInn_2 (h : Mem) (v0 : Nat) (v1 : Nat) (v2 : Int32) (v3 : Int32) : Option (Int32 ⊕ (Unit ⊕ Unit)) :=
  (gI h v1 5 4).bind fun x1 => (if x1 ≤ v3 then some (.inr (.inr ())) else (if (((v2 : Int32) >>> (v3 &&& 31)) &&& 1) = 1 then (gR h v0 2 7).bind fun r2 => (aI h r2 (v2 ^^^ ((1 : Int32) <<< (v3 &&& 31)))).bind fun x3 => (f_X5_innPart h v1 v3 0).bind fun x4 => (if (((x3 : Int32) >>> (x4 &&& 31)) &&& 1) = 1 then some (.inr (.inl ())) else f_X8_hasLastInn_44 h v0 v1 v2 v3) else f_X8_hasLastInn_44 h v0 v1 v2 v3))
set_option maxRecDepth 100000 in
set_option maxHeartbeats 4000000 in
theorem wb_X8_hasLastInn_2 {G : GE} {X : CX} {l : Launch} (hX : Ok G X cX8_hasLastInn RX8) (hN : xn X = 4) (h : Mem) {P0 : Int32 → Prop} (hr : Rt G X l yX8_hasLastInn (some .boolean) rm_X8_hasLastInn (ppI h P0))  (v0 : Nat) (v1 : Nat) (v2 : Int32) {P : (Int32 ⊕ (Unit ⊕ Unit)) → Prop} (hc : ∀ s, P (.inl s) → AW G X 2 [(0, vR v0), (1, vR v1), (2, vI v2), (3, vI s)] [] h 0 0) (he0 : ∀ e, P (.inr (.inl e)) → AW G X 42 [] [] h 0 0) (he1 : ∀ e, P (.inr (.inr e)) → AW G X 50 [] [] h 0 0) (v3 : Int32) (hy : OK (b_X8_hasLastInn_2 h v0 v1 v2 v3) P) : AW G X 2 [(0, vR v0), (1, vR v1), (2, vI v2), (3, vI v3)] [] h 0 0 := by
  unfold b_X8_hasLastInn_2 at hy
  refine aw_iloadn (pc := 2) hX 3 rfl dX8_hasLastInn_2 ?_
  refine aw_aloadn (pc := 3) hX 1 rfl dX8_hasLastInn_3 ?_
  refine aw_gI (pc := 4) hX hy fl_X8_42 (fun _ _ => rfl) dX8_hasLastInn_4 (fun x1 hy => ?_)
  refine aw_ic_ge (pc := 7) hX 50 (by decide) dX8_hasLastInn_7 (fun hc9 => ?_) (fun hc9 => ?_)
  · have hy := hy.t hc9
    refine AW.sub [] rfl ?_
    exact he1 () hy.s
  · have hy := hy.f hc9
    refine aw_iloadn (pc := 10) hX 2 rfl dX8_hasLastInn_10 ?_
    refine aw_iloadn (pc := 11) hX 3 rfl dX8_hasLastInn_11 ?_
    refine aw_ishr (pc := 12) hX dX8_hasLastInn_12 ?_
    refine aw_iconst (pc := 13) hX 1 (by decide) dX8_hasLastInn_13 ?_
    refine aw_iand (pc := 14) hX dX8_hasLastInn_14 ?_
    refine aw_iconst (pc := 15) hX 1 (by decide) dX8_hasLastInn_15 ?_
    refine aw_ic_ne (pc := 16) hX 44 (by decide) dX8_hasLastInn_16 (fun hc9 => ?_) (fun hc9 => ?_)
    · have hy := hy.f hc9
      exact w_X8_hasLastInn_44 hX hN _ hr _ _ _ hc he0 he1 v3 hy
    · have hy := hy.t hc9
      refine aw_aloadn (pc := 19) hX 0 rfl dX8_hasLastInn_19 ?_
      refine aw_gR (pc := 20) hX hy fl_X8_20 (fun _ _ => rfl) dX8_hasLastInn_20 (fun r2 hy => ?_)
      refine aw_iloadn (pc := 23) hX 2 rfl dX8_hasLastInn_23 ?_
      refine aw_iconst (pc := 24) hX 1 (by decide) dX8_hasLastInn_24 ?_
      refine aw_iloadn (pc := 25) hX 3 rfl dX8_hasLastInn_25 ?_
      refine aw_ishl (pc := 26) hX dX8_hasLastInn_26 ?_
      refine aw_ixor (pc := 27) hX dX8_hasLastInn_27 ?_
      refine aw_aI (pc := 28) hX hy dX8_hasLastInn_28 (fun x3 hy => ?_)
      refine aw_aloadn (pc := 29) hX 1 rfl dX8_hasLastInn_29 ?_
      refine aw_iloadn (pc := 30) hX 3 rfl dX8_hasLastInn_30 ?_
      refine aw_iconst (pc := 31) hX 0 (by decide) dX8_hasLastInn_31 ?_
      refine aw_callV (pc := 32) (st := [vI x3]) (a := v1) hX [vI v3, vI 0] (con_X5_innPart _ G _ v1 v3 0 hy.bd) mc_X5_innPart ml_X8_51 im_X5_innPart se_X5_innPart (by decide) hy.bd.kd rfl (rm_of hr (by decide)) (Nat.le_of_ble_eq_true rfl) rfl dX8_hasLastInn_32 (kpI rfl rfl (fun x4 hy => ?_))
      refine aw_ishr (pc := 35) hX dX8_hasLastInn_35 ?_
      refine aw_iconst (pc := 36) hX 1 (by decide) dX8_hasLastInn_36 ?_
      refine aw_iand (pc := 37) hX dX8_hasLastInn_37 ?_
      refine aw_iconst (pc := 38) hX 1 (by decide) dX8_hasLastInn_38 ?_
      refine aw_ic_ne (pc := 39) hX 44 (by decide) dX8_hasLastInn_39 (fun hc9 => ?_) (fun hc9 => ?_)
      · have hy := hy.f hc9
        exact w_X8_hasLastInn_44 hX hN _ hr _ _ _ hc he0 he1 v3 hy
      · have hy := hy.t hc9
        refine AW.sub [] rfl ?_
        exact he0 () hy.s
theorem wl_X8_hasLastInn_2 {G : GE} {X : CX} {l : Launch} (hX : Ok G X cX8_hasLastInn RX8) (hN : xn X = 4) (h : Mem) {P0 : Int32 → Prop} (hr : Rt G X l yX8_hasLastInn (some .boolean) rm_X8_hasLastInn (ppI h P0)) (v0 : Nat) (v1 : Nat) (v2 : Int32) {P : (Unit ⊕ Unit) → Prop} (he0 : ∀ e, P (.inl e) → AW G X 42 [] [] h 0 0) (he1 : ∀ e, P (.inr e) → AW G X 50 [] [] h 0 0) : ∀ (n : Nat) (s : Int32), OK (iter (fun (s : Int32) => b_X8_hasLastInn_2 h v0 v1 v2 s) n s) P → AW G X 2 [(0, vR v0), (1, vR v1), (2, vI v2), (3, vI s)] [] h 0 0 := by
  intro n
  induction n with
  | zero => exact fun s hy => hy.it0.elim
  | succ n ih =>
    intro s hy
    exact wb_X8_hasLastInn_2 hX hN h hr v0 v1 v2 (fun s hs => ih s hs) (fun e hs => he0 e hs) (fun e hs => he1 e hs) s hy.it
def f_X8_hasLastInn (h : Mem) (v0 : Nat) (v1 : Nat) (v2 : Int32) : Option Int32 :=
  (ck h v0 7).bind fun _ => (iter (fun (s : Int32) => b_X8_hasLastInn_2 h v0 v1 v2 s) FU 0).bind (Sum.elim (fun e6 => some 1) (fun e7 => some 0))
set_option maxRecDepth 100000 in
set_option maxHeartbeats 4000000 in
theorem w_X8_hasLastInn {G : GE} {X : CX} {l : Launch} (hX : Ok G X cX8_hasLastInn RX8) (hN : xn X = 4) (h : Mem) {P : Int32 → Prop} (hr : Rt G X l yX8_hasLastInn (some .boolean) rm_X8_hasLastInn (ppI h P)) (v0 : Nat) (v1 : Nat) (v2 : Int32) (hy : OK (f_X8_hasLastInn h v0 v1 v2) P) : AW G X 0 [(0, vR v0), (1, vR v1), (2, vI v2)] [] h 0 0 := by
  unfold f_X8_hasLastInn at hy
  have hkd := hy.kd
  have hy := hy.kb
  refine aw_iconst (pc := 0) hX 0 (by decide) dX8_hasLastInn_0 ?_
  refine aw_istoren (pc := 1) hX [(3, vI 0), (0, vR v0), (1, vR v1), (2, vI v2)] rfl (lt_n hN (by decide)) dX8_hasLastInn_1 ?_
  refine AW.sub [1, 2, 3, 0] rfl ?_
  refine wl_X8_hasLastInn_2 hX hN _ hr v0 v1 v2 ?_ ?_ FU 0 hy.bd
  · intro e6 hy
    refine aw_iconst (pc := 42) hX 1 (by decide) dX8_hasLastInn_42 ?_
    exact aw_zret (pc := 43) hX hr (by decide) (by decide) dX8_hasLastInn_43 (Or.inr rfl) ⟨rfl, _, rfl, hy.s⟩
  · intro e7 hy
    refine aw_iconst (pc := 50) hX 0 (by decide) dX8_hasLastInn_50 ?_
    exact aw_zret (pc := 51) hX hr (by decide) (by decide) dX8_hasLastInn_51 (Or.inl rfl) ⟨rfl, _, rfl, hy.s⟩
theorem con_X8_hasLastInn (l : Launch) (G : GE) (h : Mem) (v0 : Nat) (v1 : Nat) (v2 : Int32) {P : Int32 → Prop} (hy : OK (f_X8_hasLastInn h v0 v1 v2) P) : Con l G yX8_hasLastInn cX8_hasLastInn 4 (some .boolean) rm_X8_hasLastInn [vR v0, vR v1, vI v2] h (ppI h P) := Con.of (by decide) (Nat.le_of_ble_eq_true rfl) (fun X hX hr hN => w_X8_hasLastInn hX hN h hr v0 v1 v2 hy)
/-! X8_plan -/
theorem dX8_plan_0 : decode cX8_plan 0 = .ok (.aload_n 2, 1) := by decide +kernel
theorem dX8_plan_1 : decode cX8_plan 1 = .ok (.iload_n 3, 1) := by decide +kernel
theorem dX8_plan_2 : decode cX8_plan 2 = .ok (.iconst 0, 1) := by decide +kernel
theorem dX8_plan_3 : decode cX8_plan 3 = .ok (.invokevirtual 25, 3) := by decide +kernel
theorem dX8_plan_6 : decode cX8_plan 6 = .ok (.istore 4, 2) := by decide +kernel
theorem dX8_plan_8 : decode cX8_plan 8 = .ok (.aload_n 0, 1) := by decide +kernel
theorem dX8_plan_9 : decode cX8_plan 9 = .ok (.getfield 13, 3) := by decide +kernel
theorem dX8_plan_12 : decode cX8_plan 12 = .ok (.iconst 0, 1) := by decide +kernel
theorem dX8_plan_13 : decode cX8_plan 13 = .ok (.aload_n 2, 1) := by decide +kernel
theorem dX8_plan_14 : decode cX8_plan 14 = .ok (.iload_n 3, 1) := by decide +kernel
theorem dX8_plan_15 : decode cX8_plan 15 = .ok (.invokevirtual 29, 3) := by decide +kernel
theorem dX8_plan_18 : decode cX8_plan 18 = .ok (.iastore, 1) := by decide +kernel
theorem dX8_plan_19 : decode cX8_plan 19 = .ok (.aload_n 0, 1) := by decide +kernel
theorem dX8_plan_20 : decode cX8_plan 20 = .ok (.getfield 17, 3) := by decide +kernel
theorem dX8_plan_23 : decode cX8_plan 23 = .ok (.iconst 0, 1) := by decide +kernel
theorem dX8_plan_24 : decode cX8_plan 24 = .ok (.iconst 0, 1) := by decide +kernel
theorem dX8_plan_25 : decode cX8_plan 25 = .ok (.iastore, 1) := by decide +kernel
theorem dX8_plan_26 : decode cX8_plan 26 = .ok (.aload_n 0, 1) := by decide +kernel
theorem dX8_plan_27 : decode cX8_plan 27 = .ok (.getfield 20, 3) := by decide +kernel
theorem dX8_plan_30 : decode cX8_plan 30 = .ok (.iconst 0, 1) := by decide +kernel
theorem dX8_plan_31 : decode cX8_plan 31 = .ok (.aload_n 1, 1) := by decide +kernel
theorem dX8_plan_32 : decode cX8_plan 32 = .ok (.iload 4, 2) := by decide +kernel
theorem dX8_plan_34 : decode cX8_plan 34 = .ok (.aload_n 0, 1) := by decide +kernel
theorem dX8_plan_35 : decode cX8_plan 35 = .ok (.getfield 13, 3) := by decide +kernel
theorem dX8_plan_38 : decode cX8_plan 38 = .ok (.iconst 0, 1) := by decide +kernel
theorem dX8_plan_39 : decode cX8_plan 39 = .ok (.iaload, 1) := by decide +kernel
theorem dX8_plan_40 : decode cX8_plan 40 = .ok (.aload_n 2, 1) := by decide +kernel
theorem dX8_plan_41 : decode cX8_plan 41 = .ok (.invokevirtual 32, 3) := by decide +kernel
theorem dX8_plan_44 : decode cX8_plan 44 = .ok (.invokestatic 36, 3) := by decide +kernel
theorem dX8_plan_47 : decode cX8_plan 47 = .ok (.iastore, 1) := by decide +kernel
theorem dX8_plan_48 : decode cX8_plan 48 = .ok (.iconst 1, 1) := by decide +kernel
theorem dX8_plan_49 : decode cX8_plan 49 = .ok (.istore 5, 2) := by decide +kernel
theorem dX8_plan_51 : decode cX8_plan 51 = .ok (.iload 5, 2) := by decide +kernel
theorem dX8_plan_53 : decode cX8_plan 53 = .ok (.iconst 1, 1) := by decide +kernel
theorem dX8_plan_54 : decode cX8_plan 54 = .ok (.aload_n 1, 1) := by decide +kernel
theorem dX8_plan_55 : decode cX8_plan 55 = .ok (.getfield 42, 3) := by decide +kernel
theorem dX8_plan_58 : decode cX8_plan 58 = .ok (.ishl, 1) := by decide +kernel
theorem dX8_plan_59 : decode cX8_plan 59 = .ok (.if_icmp .ge 158, 3) := by decide +kernel
theorem dX8_plan_62 : decode cX8_plan 62 = .ok (.iload 5, 2) := by decide +kernel
theorem dX8_plan_64 : decode cX8_plan 64 = .ok (.invokestatic 46, 3) := by decide +kernel
theorem dX8_plan_67 : decode cX8_plan 67 = .ok (.istore 6, 2) := by decide +kernel
theorem dX8_plan_69 : decode cX8_plan 69 = .ok (.iload 5, 2) := by decide +kernel
theorem dX8_plan_71 : decode cX8_plan 71 = .ok (.iload 5, 2) := by decide +kernel
theorem dX8_plan_73 : decode cX8_plan 73 = .ok (.iconst 1, 1) := by decide +kernel
theorem dX8_plan_74 : decode cX8_plan 74 = .ok (.isub, 1) := by decide +kernel
theorem dX8_plan_75 : decode cX8_plan 75 = .ok (.iand, 1) := by decide +kernel
theorem dX8_plan_76 : decode cX8_plan 76 = .ok (.istore 7, 2) := by decide +kernel
theorem dX8_plan_78 : decode cX8_plan 78 = .ok (.aload_n 1, 1) := by decide +kernel
theorem dX8_plan_79 : decode cX8_plan 79 = .ok (.iload 6, 2) := by decide +kernel
theorem dX8_plan_81 : decode cX8_plan 81 = .ok (.iconst 2, 1) := by decide +kernel
theorem dX8_plan_82 : decode cX8_plan 82 = .ok (.invokevirtual 51, 3) := by decide +kernel
theorem dX8_plan_85 : decode cX8_plan 85 = .ok (.iconst 1, 1) := by decide +kernel
theorem dX8_plan_86 : decode cX8_plan 86 = .ok (.if_icmp .ne 7, 3) := by decide +kernel
theorem dX8_plan_89 : decode cX8_plan 89 = .ok (.iconst 1, 1) := by decide +kernel
theorem dX8_plan_90 : decode cX8_plan 90 = .ok (.goto 4, 3) := by decide +kernel
theorem dX8_plan_93 : decode cX8_plan 93 = .ok (.iconst 0, 1) := by decide +kernel
theorem dX8_plan_94 : decode cX8_plan 94 = .ok (.istore 8, 2) := by decide +kernel
theorem dX8_plan_96 : decode cX8_plan 96 = .ok (.aload_n 0, 1) := by decide +kernel
theorem dX8_plan_97 : decode cX8_plan 97 = .ok (.getfield 13, 3) := by decide +kernel
theorem dX8_plan_100 : decode cX8_plan 100 = .ok (.iload 5, 2) := by decide +kernel
theorem dX8_plan_102 : decode cX8_plan 102 = .ok (.aload_n 0, 1) := by decide +kernel
theorem dX8_plan_103 : decode cX8_plan 103 = .ok (.getfield 13, 3) := by decide +kernel
theorem dX8_plan_106 : decode cX8_plan 106 = .ok (.iload 7, 2) := by decide +kernel
theorem dX8_plan_108 : decode cX8_plan 108 = .ok (.iaload, 1) := by decide +kernel
theorem dX8_plan_109 : decode cX8_plan 109 = .ok (.aload_n 1, 1) := by decide +kernel
theorem dX8_plan_110 : decode cX8_plan 110 = .ok (.iload 6, 2) := by decide +kernel
theorem dX8_plan_112 : decode cX8_plan 112 = .ok (.iconst 1, 1) := by decide +kernel
theorem dX8_plan_113 : decode cX8_plan 113 = .ok (.invokevirtual 51, 3) := by decide +kernel
theorem dX8_plan_116 : decode cX8_plan 116 = .ok (.iload 8, 2) := by decide +kernel
theorem dX8_plan_118 : decode cX8_plan 118 = .ok (.invokestatic 54, 3) := by decide +kernel
theorem dX8_plan_121 : decode cX8_plan 121 = .ok (.ior, 1) := by decide +kernel
theorem dX8_plan_122 : decode cX8_plan 122 = .ok (.iastore, 1) := by decide +kernel
theorem dX8_plan_123 : decode cX8_plan 123 = .ok (.aload_n 0, 1) := by decide +kernel
theorem dX8_plan_124 : decode cX8_plan 124 = .ok (.getfield 17, 3) := by decide +kernel
theorem dX8_plan_127 : decode cX8_plan 127 = .ok (.iload 5, 2) := by decide +kernel
theorem dX8_plan_129 : decode cX8_plan 129 = .ok (.aload_n 0, 1) := by decide +kernel
theorem dX8_plan_130 : decode cX8_plan 130 = .ok (.getfield 17, 3) := by decide +kernel
theorem dX8_plan_133 : decode cX8_plan 133 = .ok (.iload 7, 2) := by decide +kernel
theorem dX8_plan_135 : decode cX8_plan 135 = .ok (.iaload, 1) := by decide +kernel
theorem dX8_plan_136 : decode cX8_plan 136 = .ok (.aload_n 1, 1) := by decide +kernel
theorem dX8_plan_137 : decode cX8_plan 137 = .ok (.iload 6, 2) := by decide +kernel
theorem dX8_plan_139 : decode cX8_plan 139 = .ok (.iconst 3, 1) := by decide +kernel
theorem dX8_plan_140 : decode cX8_plan 140 = .ok (.invokevirtual 51, 3) := by decide +kernel
theorem dX8_plan_143 : decode cX8_plan 143 = .ok (.iadd, 1) := by decide +kernel
theorem dX8_plan_144 : decode cX8_plan 144 = .ok (.iastore, 1) := by decide +kernel
theorem dX8_plan_145 : decode cX8_plan 145 = .ok (.aload_n 0, 1) := by decide +kernel
theorem dX8_plan_146 : decode cX8_plan 146 = .ok (.getfield 17, 3) := by decide +kernel
theorem dX8_plan_149 : decode cX8_plan 149 = .ok (.iload 5, 2) := by decide +kernel
theorem dX8_plan_151 : decode cX8_plan 151 = .ok (.iaload, 1) := by decide +kernel
theorem dX8_plan_152 : decode cX8_plan 152 = .ok (.aload_n 2, 1) := by decide +kernel
theorem dX8_plan_153 : decode cX8_plan 153 = .ok (.iload_n 3, 1) := by decide +kernel
theorem dX8_plan_154 : decode cX8_plan 154 = .ok (.iconst 1, 1) := by decide +kernel
theorem dX8_plan_155 : decode cX8_plan 155 = .ok (.invokevirtual 25, 3) := by decide +kernel
theorem dX8_plan_158 : decode cX8_plan 158 = .ok (.if_icmp .gt 17, 3) := by decide +kernel
theorem dX8_plan_161 : decode cX8_plan 161 = .ok (.aload_n 0, 1) := by decide +kernel
theorem dX8_plan_162 : decode cX8_plan 162 = .ok (.aload_n 1, 1) := by decide +kernel
theorem dX8_plan_163 : decode cX8_plan 163 = .ok (.iload 5, 2) := by decide +kernel
theorem dX8_plan_165 : decode cX8_plan 165 = .ok (.invokevirtual 60, 3) := by decide +kernel
theorem dX8_plan_168 : decode cX8_plan 168 = .ok (.ifCond .eq 7, 3) := by decide +kernel
theorem dX8_plan_171 : decode cX8_plan 171 = .ok (.iconst 1, 1) := by decide +kernel
theorem dX8_plan_172 : decode cX8_plan 172 = .ok (.goto 4, 3) := by decide +kernel
theorem dX8_plan_175 : decode cX8_plan 175 = .ok (.iconst 0, 1) := by decide +kernel
theorem dX8_plan_176 : decode cX8_plan 176 = .ok (.istore 9, 2) := by decide +kernel
theorem dX8_plan_178 : decode cX8_plan 178 = .ok (.aload_n 0, 1) := by decide +kernel
theorem dX8_plan_179 : decode cX8_plan 179 = .ok (.getfield 20, 3) := by decide +kernel
theorem dX8_plan_182 : decode cX8_plan 182 = .ok (.iload 5, 2) := by decide +kernel
theorem dX8_plan_184 : decode cX8_plan 184 = .ok (.iload 9, 2) := by decide +kernel
theorem dX8_plan_186 : decode cX8_plan 186 = .ok (.ifCond .eq 23, 3) := by decide +kernel
theorem dX8_plan_189 : decode cX8_plan 189 = .ok (.aload_n 1, 1) := by decide +kernel
theorem dX8_plan_190 : decode cX8_plan 190 = .ok (.iload 4, 2) := by decide +kernel
theorem dX8_plan_192 : decode cX8_plan 192 = .ok (.aload_n 0, 1) := by decide +kernel
theorem dX8_plan_193 : decode cX8_plan 193 = .ok (.getfield 13, 3) := by decide +kernel
theorem dX8_plan_196 : decode cX8_plan 196 = .ok (.iload 5, 2) := by decide +kernel
theorem dX8_plan_198 : decode cX8_plan 198 = .ok (.iaload, 1) := by decide +kernel
theorem dX8_plan_199 : decode cX8_plan 199 = .ok (.aload_n 2, 1) := by decide +kernel
theorem dX8_plan_200 : decode cX8_plan 200 = .ok (.invokevirtual 32, 3) := by decide +kernel
theorem dX8_plan_203 : decode cX8_plan 203 = .ok (.invokestatic 36, 3) := by decide +kernel
theorem dX8_plan_206 : decode cX8_plan 206 = .ok (.goto 4, 3) := by decide +kernel
theorem dX8_plan_209 : decode cX8_plan 209 = .ok (.iconst 0, 1) := by decide +kernel
theorem dX8_plan_210 : decode cX8_plan 210 = .ok (.iastore, 1) := by decide +kernel
theorem dX8_plan_211 : decode cX8_plan 211 = .ok (.iinc 5 1, 3) := by decide +kernel
theorem dX8_plan_214 : decode cX8_plan 214 = .ok (.goto (-163), 3) := by decide +kernel
theorem dX8_plan_217 : decode cX8_plan 217 = .ok (.return_, 1) := by decide +kernel
abbrev rm_X8_plan : Room := { frames := 2, cells := 0, slots := 0, locals := 51 }
def f_X8_plan_210 (h : Mem) (v0 : Nat) (v1 : Nat) (v2 : Nat) (v3 : Int32) (v4 : Int32) (v5 : Int32) (s0 : Nat) (s1 : Int32) (s2 : Int32) : Option ((Int32 × Mem) ⊕ Mem) :=
  (sI h s0 s1 s2).bind fun h31 => some (.inl ((v5 + 1), h31))
set_option maxRecDepth 100000 in
set_option maxHeartbeats 4000000 in
theorem w_X8_plan_210 {G : GE} {X : CX} {l : Launch} (hX : Ok G X cX8_plan RX8) (hN : xn X = 10) {P0 : Mem → Prop} (hr : Rt G X l yX8_plan none rm_X8_plan (pmV P0))  (v0 : Nat) (v1 : Nat) (v2 : Nat) (v3 : Int32) (v4 : Int32) {P : ((Int32 × Mem) ⊕ Mem) → Prop} (hc : ∀ s, P (.inl s) → AW G X 51 [(0, vR v0), (1, vR v1), (2, vR v2), (3, vI v3), (4, vI v4), (5, vI s.1)] [] s.2 0 0) (he0 : ∀ e, P (.inr e) → AW G X 217 [] [] e 0 0) (h : Mem) (v5 : Int32) (s0 : Nat) (s1 : Int32) (s2 : Int32) (hy : OK (f_X8_plan_210 h v0 v1 v2 v3 v4 v5 s0 s1 s2) P) : AW G X 210 [(0, vR v0), (1, vR v1), (2, vR v2), (3, vI v3), (4, vI v4), (5, vI v5)] [vI s2, vI s1, vR s0] h 0 0 := by
  unfold f_X8_plan_210 at hy
  refine aw_sI (pc := 210) hX hy dX8_plan_210 (fun h31 hy => ?_)
  refine aw_iinc (pc := 211) hX 1 (by decide) 5 rfl [(5, vI (v5 + 1)), (0, vR v0), (1, vR v1), (2, vR v2), (3, vI v3), (4, vI v4)] rfl (lt_n hN (by decide)) dX8_plan_211 ?_
  refine aw_goto (pc := 214) hX 51 (by decide) dX8_plan_214 ?_
  refine AW.sub [1, 2, 3, 4, 5, 0] rfl ?_
  exact hc ((v5 + 1), h31) hy.s
def f_X8_plan_176 (h : Mem) (v0 : Nat) (v1 : Nat) (v2 : Nat) (v3 : Int32) (v4 : Int32) (v5 : Int32) (s0 : Int32) : Option ((Int32 × Mem) ⊕ Mem) :=
  (gR h v0 2 7).bind fun r30 => (if s0 = 0 then f_X8_plan_210 h v0 v1 v2 v3 v4 v5 r30 v5 0 else (gR h v0 0 7).bind fun r32 => (aI h r32 v5).bind fun x33 => (f_X2_rains h v2).bind fun x34 => (f_X10_placesReached h v1 v4 x33 x34).bind fun x35 => f_X8_plan_210 h v0 v1 v2 v3 v4 v5 r30 v5 x35)
set_option maxRecDepth 100000 in
set_option maxHeartbeats 4000000 in
theorem w_X8_plan_176 {G : GE} {X : CX} {l : Launch} (hX : Ok G X cX8_plan RX8) (hN : xn X = 10) {P0 : Mem → Prop} (hr : Rt G X l yX8_plan none rm_X8_plan (pmV P0))  (v0 : Nat) (v1 : Nat) (v2 : Nat) (v3 : Int32) (v4 : Int32) {P : ((Int32 × Mem) ⊕ Mem) → Prop} (hc : ∀ s, P (.inl s) → AW G X 51 [(0, vR v0), (1, vR v1), (2, vR v2), (3, vI v3), (4, vI v4), (5, vI s.1)] [] s.2 0 0) (he0 : ∀ e, P (.inr e) → AW G X 217 [] [] e 0 0) (h : Mem) (v5 : Int32) (s0 : Int32) (hy : OK (f_X8_plan_176 h v0 v1 v2 v3 v4 v5 s0) P) : AW G X 176 [(0, vR v0), (1, vR v1), (2, vR v2), (3, vI v3), (4, vI v4), (5, vI v5)] [vI s0] h 0 0 := by
  unfold f_X8_plan_176 at hy
  refine aw_istore (pc := 176) hX [(9, vI s0), (0, vR v0), (1, vR v1), (2, vR v2), (3, vI v3), (4, vI v4), (5, vI v5)] rfl (lt_n hN (by decide)) dX8_plan_176 ?_
  refine aw_aloadn (pc := 178) hX 1 rfl dX8_plan_178 ?_
  refine aw_gR (pc := 179) hX hy fl_X8_20 (fun _ _ => rfl) dX8_plan_179 (fun r30 hy => ?_)
  refine aw_iload (pc := 182) hX 6 rfl dX8_plan_182 ?_
  refine aw_iload (pc := 184) hX 0 rfl dX8_plan_184 ?_
  refine aw_if_eq (pc := 186) hX 209 (by decide) dX8_plan_186 (fun hc9 => ?_) (fun hc9 => ?_)
  · have hy := hy.t hc9
    refine aw_iconst (pc := 209) hX 0 (by decide) dX8_plan_209 ?_
    refine AW.sub [1, 2, 3, 4, 5, 6] rfl ?_
    exact w_X8_plan_210 hX hN hr _ _ _ _ _ hc he0 h v5 r30 v5 0 hy
  · have hy := hy.f hc9
    refine aw_aloadn (pc := 189) hX 2 rfl dX8_plan_189 ?_
    refine aw_iload (pc := 190) hX 5 rfl dX8_plan_190 ?_
    refine aw_aloadn (pc := 192) hX 1 rfl dX8_plan_192 ?_
    refine aw_gR (pc := 193) hX hy fl_X8_13 (fun _ _ => rfl) dX8_plan_193 (fun r32 hy => ?_)
    refine aw_iload (pc := 196) hX 6 rfl dX8_plan_196 ?_
    refine aw_aI (pc := 198) hX hy dX8_plan_198 (fun x33 hy => ?_)
    refine aw_aloadn (pc := 199) hX 3 rfl dX8_plan_199 ?_
    refine aw_callV (pc := 200) (st := [vI x33, vI v4, vR v1, vI v5, vR r30]) (a := v2) hX [] (con_X2_rains _ G _ v2 hy.bd) mc_X2_rains ml_X8_32 im_X2_rains se_X2_rains (by decide) hy.bd.kd rfl (rm_of hr (by decide)) (Nat.le_of_ble_eq_true rfl) rfl dX8_plan_200 (kpI rfl rfl (fun x34 hy => ?_))
    refine aw_callS (pc := 203) (st := [vI v5, vR r30]) hX [vR v1, vI v4, vI x33, vI x34] (con_X10_placesReached _ G _ v1 v4 x33 x34 hy.bd) mc_X10_placesReached ml_X8_36 st_X10_placesReached rfl (rm_of hr (by decide)) (Nat.le_of_ble_eq_true rfl) rfl dX8_plan_203 (kpI rfl rfl (fun x35 hy => ?_))
    refine aw_goto (pc := 206) hX 210 (by decide) dX8_plan_206 ?_
    refine AW.sub [1, 2, 3, 4, 5, 6] rfl ?_
    exact w_X8_plan_210 hX hN hr _ _ _ _ _ hc he0 h v5 r30 v5 x35 hy
def f_X8_plan_175 (h : Mem) (v0 : Nat) (v1 : Nat) (v2 : Nat) (v3 : Int32) (v4 : Int32) (v5 : Int32) : Option ((Int32 × Mem) ⊕ Mem) :=
  f_X8_plan_176 h v0 v1 v2 v3 v4 v5 0
set_option maxRecDepth 100000 in
set_option maxHeartbeats 4000000 in
theorem w_X8_plan_175 {G : GE} {X : CX} {l : Launch} (hX : Ok G X cX8_plan RX8) (hN : xn X = 10) {P0 : Mem → Prop} (hr : Rt G X l yX8_plan none rm_X8_plan (pmV P0))  (v0 : Nat) (v1 : Nat) (v2 : Nat) (v3 : Int32) (v4 : Int32) {P : ((Int32 × Mem) ⊕ Mem) → Prop} (hc : ∀ s, P (.inl s) → AW G X 51 [(0, vR v0), (1, vR v1), (2, vR v2), (3, vI v3), (4, vI v4), (5, vI s.1)] [] s.2 0 0) (he0 : ∀ e, P (.inr e) → AW G X 217 [] [] e 0 0) (h : Mem) (v5 : Int32) (hy : OK (f_X8_plan_175 h v0 v1 v2 v3 v4 v5) P) : AW G X 175 [(0, vR v0), (1, vR v1), (2, vR v2), (3, vI v3), (4, vI v4), (5, vI v5)] [] h 0 0 := by
  unfold f_X8_plan_175 at hy
  refine aw_iconst (pc := 175) hX 0 (by decide) dX8_plan_175 ?_
  exact w_X8_plan_176 hX hN hr _ _ _ _ _ hc he0 h v5 0 hy
def f_X8_plan_94 (h : Mem) (v0 : Nat) (v1 : Nat) (v2 : Nat) (v3 : Int32) (v4 : Int32) (v5 : Int32) (v6 : Int32) (v7 : Int32) (s0 : Int32) : Option ((Int32 × Mem) ⊕ Mem) :=
  (gR h v0 0 7).bind fun r16 => (gR h v0 0 7).bind fun r17 => (aI h r17 v7).bind fun x18 => (f_X5_innPart h v1 v6 1).bind fun x19 => (f_X1_voice h x19 s0).bind fun x20 => (sI h r16 v5 (x18 ||| x20)).bind fun h21 => (gR h21 v0 1 7).bind fun r22 => (gR h21 v0 1 7).bind fun r23 => (aI h21 r23 v7).bind fun x24 => (f_X5_innPart h21 v1 v6 3).bind fun x25 => (sI h21 r22 v5 (x24 + x25)).bind fun h26 => (gR h26 v0 1 7).bind fun r27 => (aI h26 r27 v5).bind fun x28 => (f_X2_of h26 v2 v3 1).bind fun x29 => (if x29 < x28 then f_X8_plan_175 h26 v0 v1 v2 v3 v4 v5 else (f_X8_hasLastInn h26 v0 v1 v5).bind fun x36 => (if x36 = 0 then f_X8_plan_175 h26 v0 v1 v2 v3 v4 v5 else f_X8_plan_176 h26 v0 v1 v2 v3 v4 v5 1))
set_option maxRecDepth 100000 in
set_option maxHeartbeats 4000000 in
theorem w_X8_plan_94 {G : GE} {X : CX} {l : Launch} (hX : Ok G X cX8_plan RX8) (hN : xn X = 10) {P0 : Mem → Prop} (hr : Rt G X l yX8_plan none rm_X8_plan (pmV P0))  (v0 : Nat) (v1 : Nat) (v2 : Nat) (v3 : Int32) (v4 : Int32) {P : ((Int32 × Mem) ⊕ Mem) → Prop} (hc : ∀ s, P (.inl s) → AW G X 51 [(0, vR v0), (1, vR v1), (2, vR v2), (3, vI v3), (4, vI v4), (5, vI s.1)] [] s.2 0 0) (he0 : ∀ e, P (.inr e) → AW G X 217 [] [] e 0 0) (h : Mem) (v5 : Int32) (v6 : Int32) (v7 : Int32) (s0 : Int32) (hy : OK (f_X8_plan_94 h v0 v1 v2 v3 v4 v5 v6 v7 s0) P) : AW G X 94 [(0, vR v0), (1, vR v1), (2, vR v2), (3, vI v3), (4, vI v4), (5, vI v5), (6, vI v6), (7, vI v7)] [vI s0] h 0 0 := by
  unfold f_X8_plan_94 at hy
  refine aw_istore (pc := 94) hX [(8, vI s0), (0, vR v0), (1, vR v1), (2, vR v2), (3, vI v3), (4, vI v4), (5, vI v5), (6, vI v6), (7, vI v7)] rfl (lt_n hN (by decide)) dX8_plan_94 ?_
  refine aw_aloadn (pc := 96) hX 1 rfl dX8_plan_96 ?_
  refine aw_gR (pc := 97) hX hy fl_X8_13 (fun _ _ => rfl) dX8_plan_97 (fun r16 hy => ?_)
  refine aw_iload (pc := 100) hX 6 rfl dX8_plan_100 ?_
  refine aw_aloadn (pc := 102) hX 1 rfl dX8_plan_102 ?_
  refine aw_gR (pc := 103) hX hy fl_X8_13 (fun _ _ => rfl) dX8_plan_103 (fun r17 hy => ?_)
  refine aw_iload (pc := 106) hX 8 rfl dX8_plan_106 ?_
  refine aw_aI (pc := 108) hX hy dX8_plan_108 (fun x18 hy => ?_)
  refine aw_aloadn (pc := 109) hX 2 rfl dX8_plan_109 ?_
  refine aw_iload (pc := 110) hX 7 rfl dX8_plan_110 ?_
  refine aw_iconst (pc := 112) hX 1 (by decide) dX8_plan_112 ?_
  refine aw_callV (pc := 113) (st := [vI x18, vI v5, vR r16]) (a := v1) hX [vI v6, vI 1] (con_X5_innPart _ G _ v1 v6 1 hy.bd) mc_X5_innPart ml_X8_51 im_X5_innPart se_X5_innPart (by decide) hy.bd.kd rfl (rm_of hr (by decide)) (Nat.le_of_ble_eq_true rfl) rfl dX8_plan_113 (kpI rfl rfl (fun x19 hy => ?_))
  refine aw_iload (pc := 116) hX 0 rfl dX8_plan_116 ?_
  refine aw_callS (pc := 118) (st := [vI x18, vI v5, vR r16]) hX [vI x19, vI s0] (con_X1_voice _ G _ x19 s0 hy.bd) mc_X1_voice ml_X8_54 st_X1_voice rfl (rm_of hr (by decide)) (Nat.le_of_ble_eq_true rfl) rfl dX8_plan_118 (kpI rfl rfl (fun x20 hy => ?_))
  refine aw_ior (pc := 121) hX dX8_plan_121 ?_
  refine aw_sI (pc := 122) hX hy dX8_plan_122 (fun h21 hy => ?_)
  refine aw_aloadn (pc := 123) hX 1 rfl dX8_plan_123 ?_
  refine aw_gR (pc := 124) hX hy fl_X8_17 (fun _ _ => rfl) dX8_plan_124 (fun r22 hy => ?_)
  refine aw_iload (pc := 127) hX 6 rfl dX8_plan_127 ?_
  refine aw_aloadn (pc := 129) hX 1 rfl dX8_plan_129 ?_
  refine aw_gR (pc := 130) hX hy fl_X8_17 (fun _ _ => rfl) dX8_plan_130 (fun r23 hy => ?_)
  refine aw_iload (pc := 133) hX 8 rfl dX8_plan_133 ?_
  refine aw_aI (pc := 135) hX hy dX8_plan_135 (fun x24 hy => ?_)
  refine aw_aloadn (pc := 136) hX 2 rfl dX8_plan_136 ?_
  refine aw_iload (pc := 137) hX 7 rfl dX8_plan_137 ?_
  refine aw_iconst (pc := 139) hX 3 (by decide) dX8_plan_139 ?_
  refine aw_callV (pc := 140) (st := [vI x24, vI v5, vR r22]) (a := v1) hX [vI v6, vI 3] (con_X5_innPart _ G _ v1 v6 3 hy.bd) mc_X5_innPart ml_X8_51 im_X5_innPart se_X5_innPart (by decide) hy.bd.kd rfl (rm_of hr (by decide)) (Nat.le_of_ble_eq_true rfl) rfl dX8_plan_140 (kpI rfl rfl (fun x25 hy => ?_))
  refine aw_iadd (pc := 143) hX dX8_plan_143 ?_
  refine aw_sI (pc := 144) hX hy dX8_plan_144 (fun h26 hy => ?_)
  refine aw_aloadn (pc := 145) hX 1 rfl dX8_plan_145 ?_
  refine aw_gR (pc := 146) hX hy fl_X8_17 (fun _ _ => rfl) dX8_plan_146 (fun r27 hy => ?_)
  refine aw_iload (pc := 149) hX 6 rfl dX8_plan_149 ?_
  refine aw_aI (pc := 151) hX hy dX8_plan_151 (fun x28 hy => ?_)
  refine aw_aloadn (pc := 152) hX 3 rfl dX8_plan_152 ?_
  refine aw_iloadn (pc := 153) hX 4 rfl dX8_plan_153 ?_
  refine aw_iconst (pc := 154) hX 1 (by decide) dX8_plan_154 ?_
  refine aw_callV (pc := 155) (st := [vI x28]) (a := v2) hX [vI v3, vI 1] (con_X2_of _ G _ v2 v3 1 hy.bd) mc_X2_of ml_X8_25 im_X2_of se_X2_of (by decide) hy.bd.kd rfl (rm_of hr (by decide)) (Nat.le_of_ble_eq_true rfl) rfl dX8_plan_155 (kpI rfl rfl (fun x29 hy => ?_))
  refine aw_ic_gt (pc := 158) hX 175 (by decide) dX8_plan_158 (fun hc9 => ?_) (fun hc9 => ?_)
  · have hy := hy.t hc9
    refine AW.sub [1, 2, 3, 4, 5, 6] rfl ?_
    exact w_X8_plan_175 hX hN hr _ _ _ _ _ hc he0 h26 v5 hy
  · have hy := hy.f hc9
    refine aw_aloadn (pc := 161) hX 1 rfl dX8_plan_161 ?_
    refine aw_aloadn (pc := 162) hX 2 rfl dX8_plan_162 ?_
    refine aw_iload (pc := 163) hX 6 rfl dX8_plan_163 ?_
    refine aw_callV (pc := 165) (st := []) (a := v0) hX [vR v1, vI v5] (con_X8_hasLastInn _ G _ v0 v1 v5 hy.bd) mc_X8_hasLastInn ml_X8_60 im_X8_hasLastInn se_X8_hasLastInn (by decide) hy.bd.kd rfl (rm_of hr (by decide)) (Nat.le_of_ble_eq_true rfl) rfl dX8_plan_165 (kpI rfl rfl (fun x36 hy => ?_))
    refine aw_if_eq (pc := 168) hX 175 (by decide) dX8_plan_168 (fun hc9 => ?_) (fun hc9 => ?_)
    · have hy := hy.t hc9
      refine AW.sub [1, 2, 3, 4, 5, 6] rfl ?_
      exact w_X8_plan_175 hX hN hr _ _ _ _ _ hc he0 h26 v5 hy
    · have hy := hy.f hc9
      refine aw_iconst (pc := 171) hX 1 (by decide) dX8_plan_171 ?_
      refine aw_goto (pc := 172) hX 176 (by decide) dX8_plan_172 ?_
      refine AW.sub [1, 2, 3, 4, 5, 6] rfl ?_
      exact w_X8_plan_176 hX hN hr _ _ _ _ _ hc he0 h26 v5 1 hy
def b_X8_plan_51 (h : Mem) (v0 : Nat) (v1 : Nat) (v2 : Nat) (v3 : Int32) (v4 : Int32) (v5 : Int32) : Option ((Int32 × Mem) ⊕ Mem) :=
  (gI h v1 5 4).bind fun x13 => (if ((1 : Int32) <<< (x13 &&& 31)) ≤ v5 then some (.inr h) else (f_J6_numberOfTrailingZeros_0f7a4 h v5).bind fun x14 => (f_X5_innPart h v1 x14 2).bind fun x15 => (if x15 = 1 then f_X8_plan_94 h v0 v1 v2 v3 v4 v5 x14 (v5 &&& (v5 - 1)) 1 else f_X8_plan_94 h v0 v1 v2 v3 v4 v5 x14 (v5 &&& (v5 - 1)) 0))
set_option maxRecDepth 100000 in
set_option maxHeartbeats 4000000 in
theorem wb_X8_plan_51 {G : GE} {X : CX} {l : Launch} (hX : Ok G X cX8_plan RX8) (hN : xn X = 10) {P0 : Mem → Prop} (hr : Rt G X l yX8_plan none rm_X8_plan (pmV P0))  (v0 : Nat) (v1 : Nat) (v2 : Nat) (v3 : Int32) (v4 : Int32) {P : ((Int32 × Mem) ⊕ Mem) → Prop} (hc : ∀ s, P (.inl s) → AW G X 51 [(0, vR v0), (1, vR v1), (2, vR v2), (3, vI v3), (4, vI v4), (5, vI s.1)] [] s.2 0 0) (he0 : ∀ e, P (.inr e) → AW G X 217 [] [] e 0 0) (h : Mem) (v5 : Int32) (hy : OK (b_X8_plan_51 h v0 v1 v2 v3 v4 v5) P) : AW G X 51 [(0, vR v0), (1, vR v1), (2, vR v2), (3, vI v3), (4, vI v4), (5, vI v5)] [] h 0 0 := by
  unfold b_X8_plan_51 at hy
  refine aw_iload (pc := 51) hX 5 rfl dX8_plan_51 ?_
  refine aw_iconst (pc := 53) hX 1 (by decide) dX8_plan_53 ?_
  refine aw_aloadn (pc := 54) hX 1 rfl dX8_plan_54 ?_
  refine aw_gI (pc := 55) hX hy fl_X8_42 (fun _ _ => rfl) dX8_plan_55 (fun x13 hy => ?_)
  refine aw_ishl (pc := 58) hX dX8_plan_58 ?_
  refine aw_ic_ge (pc := 59) hX 217 (by decide) dX8_plan_59 (fun hc9 => ?_) (fun hc9 => ?_)
  · have hy := hy.t hc9
    refine AW.sub [] rfl ?_
    exact he0 h hy.s
  · have hy := hy.f hc9
    refine aw_iload (pc := 62) hX 5 rfl dX8_plan_62 ?_
    refine aw_callS (pc := 64) (st := []) hX [vI v5] (con_J6_numberOfTrailingZeros_0f7a4 _ G _ v5 hy.bd) mc_J6_numberOfTrailingZeros_0f7a4 ml_X8_46 st_J6_numberOfTrailingZeros_0f7a4 rfl (rm_of hr (by decide)) (Nat.le_of_ble_eq_true rfl) rfl dX8_plan_64 (kpI rfl rfl (fun x14 hy => ?_))
    refine aw_istore (pc := 67) hX [(6, vI x14), (0, vR v0), (1, vR v1), (2, vR v2), (3, vI v3), (4, vI v4), (5, vI v5)] rfl (lt_n hN (by decide)) dX8_plan_67 ?_
    refine aw_iload (pc := 69) hX 6 rfl dX8_plan_69 ?_
    refine aw_iload (pc := 71) hX 6 rfl dX8_plan_71 ?_
    refine aw_iconst (pc := 73) hX 1 (by decide) dX8_plan_73 ?_
    refine aw_isub (pc := 74) hX dX8_plan_74 ?_
    refine aw_iand (pc := 75) hX dX8_plan_75 ?_
    refine aw_istore (pc := 76) hX [(7, vI (v5 &&& (v5 - 1))), (6, vI x14), (0, vR v0), (1, vR v1), (2, vR v2), (3, vI v3), (4, vI v4), (5, vI v5)] rfl (lt_n hN (by decide)) dX8_plan_76 ?_
    refine aw_aloadn (pc := 78) hX 3 rfl dX8_plan_78 ?_
    refine aw_iload (pc := 79) hX 1 rfl dX8_plan_79 ?_
    refine aw_iconst (pc := 81) hX 2 (by decide) dX8_plan_81 ?_
    refine aw_callV (pc := 82) (st := []) (a := v1) hX [vI x14, vI 2] (con_X5_innPart _ G _ v1 x14 2 hy.bd) mc_X5_innPart ml_X8_51 im_X5_innPart se_X5_innPart (by decide) hy.bd.kd rfl (rm_of hr (by decide)) (Nat.le_of_ble_eq_true rfl) rfl dX8_plan_82 (kpI rfl rfl (fun x15 hy => ?_))
    refine aw_iconst (pc := 85) hX 1 (by decide) dX8_plan_85 ?_
    refine aw_ic_ne (pc := 86) hX 93 (by decide) dX8_plan_86 (fun hc9 => ?_) (fun hc9 => ?_)
    · have hy := hy.f hc9
      refine aw_iconst (pc := 93) hX 0 (by decide) dX8_plan_93 ?_
      refine AW.sub [2, 3, 4, 5, 6, 7, 1, 0] rfl ?_
      exact w_X8_plan_94 hX hN hr _ _ _ _ _ hc he0 h v5 x14 (v5 &&& (v5 - 1)) 0 hy
    · have hy := hy.t hc9
      refine aw_iconst (pc := 89) hX 1 (by decide) dX8_plan_89 ?_
      refine aw_goto (pc := 90) hX 94 (by decide) dX8_plan_90 ?_
      refine AW.sub [2, 3, 4, 5, 6, 7, 1, 0] rfl ?_
      exact w_X8_plan_94 hX hN hr _ _ _ _ _ hc he0 h v5 x14 (v5 &&& (v5 - 1)) 1 hy
theorem wl_X8_plan_51 {G : GE} {X : CX} {l : Launch} (hX : Ok G X cX8_plan RX8) (hN : xn X = 10) {P0 : Mem → Prop} (hr : Rt G X l yX8_plan none rm_X8_plan (pmV P0)) (v0 : Nat) (v1 : Nat) (v2 : Nat) (v3 : Int32) (v4 : Int32) {P : (Mem) → Prop} (he0 : ∀ e, P e → AW G X 217 [] [] e 0 0) : ∀ (n : Nat) (s : Int32 × Mem), OK (iter (fun (s : Int32 × Mem) => b_X8_plan_51 s.2 v0 v1 v2 v3 v4 s.1) n s) P → AW G X 51 [(0, vR v0), (1, vR v1), (2, vR v2), (3, vI v3), (4, vI v4), (5, vI s.1)] [] s.2 0 0 := by
  intro n
  induction n with
  | zero => exact fun s hy => hy.it0.elim
  | succ n ih =>
    intro s hy
    exact wb_X8_plan_51 hX hN hr v0 v1 v2 v3 v4 (fun s hs => ih s hs) (fun e hs => he0 e hs) s.2 s.1 hy.it
def f_X8_plan (h : Mem) (v0 : Nat) (v1 : Nat) (v2 : Nat) (v3 : Int32) : Option Mem :=
  (ck h v0 7).bind fun _ => (f_X2_of h v2 v3 0).bind fun x1 => (gR h v0 0 7).bind fun r2 => (f_X2_voices h v2 v3).bind fun x3 => (sI h r2 0 x3).bind fun h4 => (gR h4 v0 1 7).bind fun r5 => (sI h4 r5 0 0).bind fun h6 => (gR h6 v0 2 7).bind fun r7 => (gR h6 v0 0 7).bind fun r8 => (aI h6 r8 0).bind fun x9 => (f_X2_rains h6 v2).bind fun x10 => (f_X10_placesReached h6 v1 x1 x9 x10).bind fun x11 => (sI h6 r7 0 x11).bind fun h12 => (iter (fun (s : Int32 × Mem) => b_X8_plan_51 s.2 v0 v1 v2 v3 x1 s.1) FU (1, h12)).bind (fun q37 => some q37)
set_option maxRecDepth 100000 in
set_option maxHeartbeats 4000000 in
theorem w_X8_plan {G : GE} {X : CX} {l : Launch} (hX : Ok G X cX8_plan RX8) (hN : xn X = 10) {P : Mem → Prop} (hr : Rt G X l yX8_plan none rm_X8_plan (pmV P)) (h : Mem) (v0 : Nat) (v1 : Nat) (v2 : Nat) (v3 : Int32) (hy : OK (f_X8_plan h v0 v1 v2 v3) P) : AW G X 0 [(0, vR v0), (1, vR v1), (2, vR v2), (3, vI v3)] [] h 0 0 := by
  unfold f_X8_plan at hy
  have hkd := hy.kd
  have hy := hy.kb
  refine aw_aloadn (pc := 0) hX 2 rfl dX8_plan_0 ?_
  refine aw_iloadn (pc := 1) hX 3 rfl dX8_plan_1 ?_
  refine aw_iconst (pc := 2) hX 0 (by decide) dX8_plan_2 ?_
  refine aw_callV (pc := 3) (st := []) (a := v2) hX [vI v3, vI 0] (con_X2_of _ G _ v2 v3 0 hy.bd) mc_X2_of ml_X8_25 im_X2_of se_X2_of (by decide) hy.bd.kd rfl (rm_of hr (by decide)) (Nat.le_of_ble_eq_true rfl) rfl dX8_plan_3 (kpI rfl rfl (fun x1 hy => ?_))
  refine aw_istore (pc := 6) hX [(4, vI x1), (0, vR v0), (1, vR v1), (2, vR v2), (3, vI v3)] rfl (lt_n hN (by decide)) dX8_plan_6 ?_
  refine aw_aloadn (pc := 8) hX 1 rfl dX8_plan_8 ?_
  refine aw_gR (pc := 9) hX hy fl_X8_13 (fun _ _ => rfl) dX8_plan_9 (fun r2 hy => ?_)
  refine aw_iconst (pc := 12) hX 0 (by decide) dX8_plan_12 ?_
  refine aw_aloadn (pc := 13) hX 3 rfl dX8_plan_13 ?_
  refine aw_iloadn (pc := 14) hX 4 rfl dX8_plan_14 ?_
  refine aw_callV (pc := 15) (st := [vI 0, vR r2]) (a := v2) hX [vI v3] (con_X2_voices _ G _ v2 v3 hy.bd) mc_X2_voices ml_X8_29 im_X2_voices se_X2_voices (by decide) hy.bd.kd rfl (rm_of hr (by decide)) (Nat.le_of_ble_eq_true rfl) rfl dX8_plan_15 (kpI rfl rfl (fun x3 hy => ?_))
  refine aw_sI (pc := 18) hX hy dX8_plan_18 (fun h4 hy => ?_)
  refine aw_aloadn (pc := 19) hX 1 rfl dX8_plan_19 ?_
  refine aw_gR (pc := 20) hX hy fl_X8_17 (fun _ _ => rfl) dX8_plan_20 (fun r5 hy => ?_)
  refine aw_iconst (pc := 23) hX 0 (by decide) dX8_plan_23 ?_
  refine aw_iconst (pc := 24) hX 0 (by decide) dX8_plan_24 ?_
  refine aw_sI (pc := 25) hX hy dX8_plan_25 (fun h6 hy => ?_)
  refine aw_aloadn (pc := 26) hX 1 rfl dX8_plan_26 ?_
  refine aw_gR (pc := 27) hX hy fl_X8_20 (fun _ _ => rfl) dX8_plan_27 (fun r7 hy => ?_)
  refine aw_iconst (pc := 30) hX 0 (by decide) dX8_plan_30 ?_
  refine aw_aloadn (pc := 31) hX 2 rfl dX8_plan_31 ?_
  refine aw_iload (pc := 32) hX 0 rfl dX8_plan_32 ?_
  refine aw_aloadn (pc := 34) hX 1 rfl dX8_plan_34 ?_
  refine aw_gR (pc := 35) hX hy fl_X8_13 (fun _ _ => rfl) dX8_plan_35 (fun r8 hy => ?_)
  refine aw_iconst (pc := 38) hX 0 (by decide) dX8_plan_38 ?_
  refine aw_aI (pc := 39) hX hy dX8_plan_39 (fun x9 hy => ?_)
  refine aw_aloadn (pc := 40) hX 3 rfl dX8_plan_40 ?_
  refine aw_callV (pc := 41) (st := [vI x9, vI x1, vR v1, vI 0, vR r7]) (a := v2) hX [] (con_X2_rains _ G _ v2 hy.bd) mc_X2_rains ml_X8_32 im_X2_rains se_X2_rains (by decide) hy.bd.kd rfl (rm_of hr (by decide)) (Nat.le_of_ble_eq_true rfl) rfl dX8_plan_41 (kpI rfl rfl (fun x10 hy => ?_))
  refine aw_callS (pc := 44) (st := [vI 0, vR r7]) hX [vR v1, vI x1, vI x9, vI x10] (con_X10_placesReached _ G _ v1 x1 x9 x10 hy.bd) mc_X10_placesReached ml_X8_36 st_X10_placesReached rfl (rm_of hr (by decide)) (Nat.le_of_ble_eq_true rfl) rfl dX8_plan_44 (kpI rfl rfl (fun x11 hy => ?_))
  refine aw_sI (pc := 47) hX hy dX8_plan_47 (fun h12 hy => ?_)
  refine aw_iconst (pc := 48) hX 1 (by decide) dX8_plan_48 ?_
  refine aw_istore (pc := 49) hX [(5, vI 1), (4, vI x1), (0, vR v0), (1, vR v1), (2, vR v2), (3, vI v3)] rfl (lt_n hN (by decide)) dX8_plan_49 ?_
  refine AW.sub [2, 3, 4, 5, 1, 0] rfl ?_
  refine wl_X8_plan_51 hX hN hr v0 v1 v2 v3 x1 ?_ FU (1, h12) hy.bd
  · intro q37 hy
    exact aw_vret (pc := 217) hX hr (by decide) (by decide) dX8_plan_217 ⟨rfl, hy.s⟩
theorem con_X8_plan (l : Launch) (G : GE) (h : Mem) (v0 : Nat) (v1 : Nat) (v2 : Nat) (v3 : Int32) {P : Mem → Prop} (hy : OK (f_X8_plan h v0 v1 v2 v3) P) : Con l G yX8_plan cX8_plan 10 none rm_X8_plan [vR v0, vR v1, vR v2, vI v3] h (pmV P) := Con.of (by decide) (Nat.le_of_ble_eq_true rfl) (fun X hX hr hN => w_X8_plan hX hN hr h v0 v1 v2 v3 hy)
/-! J6_bitCount_0f7a4 -/
theorem dJ6_bitCount_0f7a4_0 : decode cJ6_bitCount_0f7a4 0 = .ok (.iload_n 0, 1) := by decide +kernel
theorem dJ6_bitCount_0f7a4_1 : decode cJ6_bitCount_0f7a4 1 = .ok (.iload_n 0, 1) := by decide +kernel
theorem dJ6_bitCount_0f7a4_2 : decode cJ6_bitCount_0f7a4 2 = .ok (.iconst 1, 1) := by decide +kernel
theorem dJ6_bitCount_0f7a4_3 : decode cJ6_bitCount_0f7a4 3 = .ok (.iushr, 1) := by decide +kernel
theorem dJ6_bitCount_0f7a4_4 : decode cJ6_bitCount_0f7a4 4 = .ok (.ldc_w 265, 3) := by decide +kernel
theorem dJ6_bitCount_0f7a4_7 : decode cJ6_bitCount_0f7a4 7 = .ok (.iand, 1) := by decide +kernel
theorem dJ6_bitCount_0f7a4_8 : decode cJ6_bitCount_0f7a4 8 = .ok (.isub, 1) := by decide +kernel
theorem dJ6_bitCount_0f7a4_9 : decode cJ6_bitCount_0f7a4 9 = .ok (.istore_n 0, 1) := by decide +kernel
theorem dJ6_bitCount_0f7a4_10 : decode cJ6_bitCount_0f7a4 10 = .ok (.iload_n 0, 1) := by decide +kernel
theorem dJ6_bitCount_0f7a4_11 : decode cJ6_bitCount_0f7a4 11 = .ok (.ldc_w 266, 3) := by decide +kernel
theorem dJ6_bitCount_0f7a4_14 : decode cJ6_bitCount_0f7a4 14 = .ok (.iand, 1) := by decide +kernel
theorem dJ6_bitCount_0f7a4_15 : decode cJ6_bitCount_0f7a4 15 = .ok (.iload_n 0, 1) := by decide +kernel
theorem dJ6_bitCount_0f7a4_16 : decode cJ6_bitCount_0f7a4 16 = .ok (.iconst 2, 1) := by decide +kernel
theorem dJ6_bitCount_0f7a4_17 : decode cJ6_bitCount_0f7a4 17 = .ok (.iushr, 1) := by decide +kernel
theorem dJ6_bitCount_0f7a4_18 : decode cJ6_bitCount_0f7a4 18 = .ok (.ldc_w 266, 3) := by decide +kernel
theorem dJ6_bitCount_0f7a4_21 : decode cJ6_bitCount_0f7a4 21 = .ok (.iand, 1) := by decide +kernel
theorem dJ6_bitCount_0f7a4_22 : decode cJ6_bitCount_0f7a4 22 = .ok (.iadd, 1) := by decide +kernel
theorem dJ6_bitCount_0f7a4_23 : decode cJ6_bitCount_0f7a4 23 = .ok (.istore_n 0, 1) := by decide +kernel
theorem dJ6_bitCount_0f7a4_24 : decode cJ6_bitCount_0f7a4 24 = .ok (.iload_n 0, 1) := by decide +kernel
theorem dJ6_bitCount_0f7a4_25 : decode cJ6_bitCount_0f7a4 25 = .ok (.iload_n 0, 1) := by decide +kernel
theorem dJ6_bitCount_0f7a4_26 : decode cJ6_bitCount_0f7a4 26 = .ok (.iconst 4, 1) := by decide +kernel
theorem dJ6_bitCount_0f7a4_27 : decode cJ6_bitCount_0f7a4 27 = .ok (.iushr, 1) := by decide +kernel
theorem dJ6_bitCount_0f7a4_28 : decode cJ6_bitCount_0f7a4 28 = .ok (.iadd, 1) := by decide +kernel
theorem dJ6_bitCount_0f7a4_29 : decode cJ6_bitCount_0f7a4 29 = .ok (.ldc_w 267, 3) := by decide +kernel
theorem dJ6_bitCount_0f7a4_32 : decode cJ6_bitCount_0f7a4 32 = .ok (.iand, 1) := by decide +kernel
theorem dJ6_bitCount_0f7a4_33 : decode cJ6_bitCount_0f7a4 33 = .ok (.istore_n 0, 1) := by decide +kernel
theorem dJ6_bitCount_0f7a4_34 : decode cJ6_bitCount_0f7a4 34 = .ok (.iload_n 0, 1) := by decide +kernel
theorem dJ6_bitCount_0f7a4_35 : decode cJ6_bitCount_0f7a4 35 = .ok (.iload_n 0, 1) := by decide +kernel
theorem dJ6_bitCount_0f7a4_36 : decode cJ6_bitCount_0f7a4 36 = .ok (.bipush 8, 2) := by decide +kernel
theorem dJ6_bitCount_0f7a4_38 : decode cJ6_bitCount_0f7a4 38 = .ok (.iushr, 1) := by decide +kernel
theorem dJ6_bitCount_0f7a4_39 : decode cJ6_bitCount_0f7a4 39 = .ok (.iadd, 1) := by decide +kernel
theorem dJ6_bitCount_0f7a4_40 : decode cJ6_bitCount_0f7a4 40 = .ok (.istore_n 0, 1) := by decide +kernel
theorem dJ6_bitCount_0f7a4_41 : decode cJ6_bitCount_0f7a4 41 = .ok (.iload_n 0, 1) := by decide +kernel
theorem dJ6_bitCount_0f7a4_42 : decode cJ6_bitCount_0f7a4 42 = .ok (.iload_n 0, 1) := by decide +kernel
theorem dJ6_bitCount_0f7a4_43 : decode cJ6_bitCount_0f7a4 43 = .ok (.bipush 16, 2) := by decide +kernel
theorem dJ6_bitCount_0f7a4_45 : decode cJ6_bitCount_0f7a4 45 = .ok (.iushr, 1) := by decide +kernel
theorem dJ6_bitCount_0f7a4_46 : decode cJ6_bitCount_0f7a4 46 = .ok (.iadd, 1) := by decide +kernel
theorem dJ6_bitCount_0f7a4_47 : decode cJ6_bitCount_0f7a4 47 = .ok (.istore_n 0, 1) := by decide +kernel
theorem dJ6_bitCount_0f7a4_48 : decode cJ6_bitCount_0f7a4 48 = .ok (.iload_n 0, 1) := by decide +kernel
theorem dJ6_bitCount_0f7a4_49 : decode cJ6_bitCount_0f7a4 49 = .ok (.bipush 63, 2) := by decide +kernel
theorem dJ6_bitCount_0f7a4_51 : decode cJ6_bitCount_0f7a4 51 = .ok (.iand, 1) := by decide +kernel
theorem dJ6_bitCount_0f7a4_52 : decode cJ6_bitCount_0f7a4 52 = .ok (.ireturn, 1) := by decide +kernel
abbrev rm_J6_bitCount_0f7a4 : Room := { frames := 0, cells := 0, slots := 0, locals := 0 }
def f_J6_bitCount_0f7a4 (h : Mem) (v0 : Int32) : Option Int32 :=
  some ((((((((v0 - ((((v0 : Int32).toUInt32 >>> ((1 : Int32).toUInt32 &&& Int32.toUInt32 31)).toInt32) &&& 1431655765)) &&& 858993459) + (((((v0 - ((((v0 : Int32).toUInt32 >>> ((1 : Int32).toUInt32 &&& Int32.toUInt32 31)).toInt32) &&& 1431655765)) : Int32).toUInt32 >>> ((2 : Int32).toUInt32 &&& Int32.toUInt32 31)).toInt32) &&& 858993459)) + ((((((v0 - ((((v0 : Int32).toUInt32 >>> ((1 : Int32).toUInt32 &&& Int32.toUInt32 31)).toInt32) &&& 1431655765)) &&& 858993459) + (((((v0 - ((((v0 : Int32).toUInt32 >>> ((1 : Int32).toUInt32 &&& Int32.toUInt32 31)).toInt32) &&& 1431655765)) : Int32).toUInt32 >>> ((2 : Int32).toUInt32 &&& Int32.toUInt32 31)).toInt32) &&& 858993459)) : Int32).toUInt32 >>> ((4 : Int32).toUInt32 &&& Int32.toUInt32 31)).toInt32)) &&& 252645135) + ((((((((v0 - ((((v0 : Int32).toUInt32 >>> ((1 : Int32).toUInt32 &&& Int32.toUInt32 31)).toInt32) &&& 1431655765)) &&& 858993459) + (((((v0 - ((((v0 : Int32).toUInt32 >>> ((1 : Int32).toUInt32 &&& Int32.toUInt32 31)).toInt32) &&& 1431655765)) : Int32).toUInt32 >>> ((2 : Int32).toUInt32 &&& Int32.toUInt32 31)).toInt32) &&& 858993459)) + ((((((v0 - ((((v0 : Int32).toUInt32 >>> ((1 : Int32).toUInt32 &&& Int32.toUInt32 31)).toInt32) &&& 1431655765)) &&& 858993459) + (((((v0 - ((((v0 : Int32).toUInt32 >>> ((1 : Int32).toUInt32 &&& Int32.toUInt32 31)).toInt32) &&& 1431655765)) : Int32).toUInt32 >>> ((2 : Int32).toUInt32 &&& Int32.toUInt32 31)).toInt32) &&& 858993459)) : Int32).toUInt32 >>> ((4 : Int32).toUInt32 &&& Int32.toUInt32 31)).toInt32)) &&& 252645135) : Int32).toUInt32 >>> ((8 : Int32).toUInt32 &&& Int32.toUInt32 31)).toInt32)) + (((((((((v0 - ((((v0 : Int32).toUInt32 >>> ((1 : Int32).toUInt32 &&& Int32.toUInt32 31)).toInt32) &&& 1431655765)) &&& 858993459) + (((((v0 - ((((v0 : Int32).toUInt32 >>> ((1 : Int32).toUInt32 &&& Int32.toUInt32 31)).toInt32) &&& 1431655765)) : Int32).toUInt32 >>> ((2 : Int32).toUInt32 &&& Int32.toUInt32 31)).toInt32) &&& 858993459)) + ((((((v0 - ((((v0 : Int32).toUInt32 >>> ((1 : Int32).toUInt32 &&& Int32.toUInt32 31)).toInt32) &&& 1431655765)) &&& 858993459) + (((((v0 - ((((v0 : Int32).toUInt32 >>> ((1 : Int32).toUInt32 &&& Int32.toUInt32 31)).toInt32) &&& 1431655765)) : Int32).toUInt32 >>> ((2 : Int32).toUInt32 &&& Int32.toUInt32 31)).toInt32) &&& 858993459)) : Int32).toUInt32 >>> ((4 : Int32).toUInt32 &&& Int32.toUInt32 31)).toInt32)) &&& 252645135) + ((((((((v0 - ((((v0 : Int32).toUInt32 >>> ((1 : Int32).toUInt32 &&& Int32.toUInt32 31)).toInt32) &&& 1431655765)) &&& 858993459) + (((((v0 - ((((v0 : Int32).toUInt32 >>> ((1 : Int32).toUInt32 &&& Int32.toUInt32 31)).toInt32) &&& 1431655765)) : Int32).toUInt32 >>> ((2 : Int32).toUInt32 &&& Int32.toUInt32 31)).toInt32) &&& 858993459)) + ((((((v0 - ((((v0 : Int32).toUInt32 >>> ((1 : Int32).toUInt32 &&& Int32.toUInt32 31)).toInt32) &&& 1431655765)) &&& 858993459) + (((((v0 - ((((v0 : Int32).toUInt32 >>> ((1 : Int32).toUInt32 &&& Int32.toUInt32 31)).toInt32) &&& 1431655765)) : Int32).toUInt32 >>> ((2 : Int32).toUInt32 &&& Int32.toUInt32 31)).toInt32) &&& 858993459)) : Int32).toUInt32 >>> ((4 : Int32).toUInt32 &&& Int32.toUInt32 31)).toInt32)) &&& 252645135) : Int32).toUInt32 >>> ((8 : Int32).toUInt32 &&& Int32.toUInt32 31)).toInt32)) : Int32).toUInt32 >>> ((16 : Int32).toUInt32 &&& Int32.toUInt32 31)).toInt32)) &&& 63)
set_option maxRecDepth 100000 in
set_option maxHeartbeats 4000000 in
theorem w_J6_bitCount_0f7a4 {G : GE} {X : CX} {l : Launch} (hX : Ok G X cJ6_bitCount_0f7a4 RJ6) (hN : xn X = 1) (h : Mem) {P : Int32 → Prop} (hr : Rt G X l yJ6_bitCount_0f7a4 (some .int) rm_J6_bitCount_0f7a4 (ppI h P)) (v0 : Int32) (hy : OK (f_J6_bitCount_0f7a4 h v0) P) : AW G X 0 [(0, vI v0)] [] h 0 0 := by
  unfold f_J6_bitCount_0f7a4 at hy
  refine aw_iloadn (pc := 0) hX 0 rfl dJ6_bitCount_0f7a4_0 ?_
  refine aw_iloadn (pc := 1) hX 0 rfl dJ6_bitCount_0f7a4_1 ?_
  refine aw_iconst (pc := 2) hX 1 (by decide) dJ6_bitCount_0f7a4_2 ?_
  refine aw_iushr (pc := 3) hX dJ6_bitCount_0f7a4_3 ?_
  refine aw_ldcw (pc := 4) hX kc_J6_265 dJ6_bitCount_0f7a4_4 ?_
  refine aw_iand (pc := 7) hX dJ6_bitCount_0f7a4_7 ?_
  refine aw_isub (pc := 8) hX dJ6_bitCount_0f7a4_8 ?_
  refine aw_istoren (pc := 9) hX [(0, vI (v0 - ((((v0 : Int32).toUInt32 >>> ((1 : Int32).toUInt32 &&& Int32.toUInt32 31)).toInt32) &&& 1431655765)))] rfl (lt_n hN (by decide)) dJ6_bitCount_0f7a4_9 ?_
  refine aw_iloadn (pc := 10) hX 0 rfl dJ6_bitCount_0f7a4_10 ?_
  refine aw_ldcw (pc := 11) hX kc_J6_266 dJ6_bitCount_0f7a4_11 ?_
  refine aw_iand (pc := 14) hX dJ6_bitCount_0f7a4_14 ?_
  refine aw_iloadn (pc := 15) hX 0 rfl dJ6_bitCount_0f7a4_15 ?_
  refine aw_iconst (pc := 16) hX 2 (by decide) dJ6_bitCount_0f7a4_16 ?_
  refine aw_iushr (pc := 17) hX dJ6_bitCount_0f7a4_17 ?_
  refine aw_ldcw (pc := 18) hX kc_J6_266 dJ6_bitCount_0f7a4_18 ?_
  refine aw_iand (pc := 21) hX dJ6_bitCount_0f7a4_21 ?_
  refine aw_iadd (pc := 22) hX dJ6_bitCount_0f7a4_22 ?_
  refine aw_istoren (pc := 23) hX [(0, vI (((v0 - ((((v0 : Int32).toUInt32 >>> ((1 : Int32).toUInt32 &&& Int32.toUInt32 31)).toInt32) &&& 1431655765)) &&& 858993459) + (((((v0 - ((((v0 : Int32).toUInt32 >>> ((1 : Int32).toUInt32 &&& Int32.toUInt32 31)).toInt32) &&& 1431655765)) : Int32).toUInt32 >>> ((2 : Int32).toUInt32 &&& Int32.toUInt32 31)).toInt32) &&& 858993459)))] rfl (lt_n hN (by decide)) dJ6_bitCount_0f7a4_23 ?_
  refine aw_iloadn (pc := 24) hX 0 rfl dJ6_bitCount_0f7a4_24 ?_
  refine aw_iloadn (pc := 25) hX 0 rfl dJ6_bitCount_0f7a4_25 ?_
  refine aw_iconst (pc := 26) hX 4 (by decide) dJ6_bitCount_0f7a4_26 ?_
  refine aw_iushr (pc := 27) hX dJ6_bitCount_0f7a4_27 ?_
  refine aw_iadd (pc := 28) hX dJ6_bitCount_0f7a4_28 ?_
  refine aw_ldcw (pc := 29) hX kc_J6_267 dJ6_bitCount_0f7a4_29 ?_
  refine aw_iand (pc := 32) hX dJ6_bitCount_0f7a4_32 ?_
  refine aw_istoren (pc := 33) hX [(0, vI (((((v0 - ((((v0 : Int32).toUInt32 >>> ((1 : Int32).toUInt32 &&& Int32.toUInt32 31)).toInt32) &&& 1431655765)) &&& 858993459) + (((((v0 - ((((v0 : Int32).toUInt32 >>> ((1 : Int32).toUInt32 &&& Int32.toUInt32 31)).toInt32) &&& 1431655765)) : Int32).toUInt32 >>> ((2 : Int32).toUInt32 &&& Int32.toUInt32 31)).toInt32) &&& 858993459)) + ((((((v0 - ((((v0 : Int32).toUInt32 >>> ((1 : Int32).toUInt32 &&& Int32.toUInt32 31)).toInt32) &&& 1431655765)) &&& 858993459) + (((((v0 - ((((v0 : Int32).toUInt32 >>> ((1 : Int32).toUInt32 &&& Int32.toUInt32 31)).toInt32) &&& 1431655765)) : Int32).toUInt32 >>> ((2 : Int32).toUInt32 &&& Int32.toUInt32 31)).toInt32) &&& 858993459)) : Int32).toUInt32 >>> ((4 : Int32).toUInt32 &&& Int32.toUInt32 31)).toInt32)) &&& 252645135))] rfl (lt_n hN (by decide)) dJ6_bitCount_0f7a4_33 ?_
  refine aw_iloadn (pc := 34) hX 0 rfl dJ6_bitCount_0f7a4_34 ?_
  refine aw_iloadn (pc := 35) hX 0 rfl dJ6_bitCount_0f7a4_35 ?_
  refine aw_bipush (pc := 36) hX 8 (by decide) dJ6_bitCount_0f7a4_36 ?_
  refine aw_iushr (pc := 38) hX dJ6_bitCount_0f7a4_38 ?_
  refine aw_iadd (pc := 39) hX dJ6_bitCount_0f7a4_39 ?_
  refine aw_istoren (pc := 40) hX [(0, vI ((((((v0 - ((((v0 : Int32).toUInt32 >>> ((1 : Int32).toUInt32 &&& Int32.toUInt32 31)).toInt32) &&& 1431655765)) &&& 858993459) + (((((v0 - ((((v0 : Int32).toUInt32 >>> ((1 : Int32).toUInt32 &&& Int32.toUInt32 31)).toInt32) &&& 1431655765)) : Int32).toUInt32 >>> ((2 : Int32).toUInt32 &&& Int32.toUInt32 31)).toInt32) &&& 858993459)) + ((((((v0 - ((((v0 : Int32).toUInt32 >>> ((1 : Int32).toUInt32 &&& Int32.toUInt32 31)).toInt32) &&& 1431655765)) &&& 858993459) + (((((v0 - ((((v0 : Int32).toUInt32 >>> ((1 : Int32).toUInt32 &&& Int32.toUInt32 31)).toInt32) &&& 1431655765)) : Int32).toUInt32 >>> ((2 : Int32).toUInt32 &&& Int32.toUInt32 31)).toInt32) &&& 858993459)) : Int32).toUInt32 >>> ((4 : Int32).toUInt32 &&& Int32.toUInt32 31)).toInt32)) &&& 252645135) + ((((((((v0 - ((((v0 : Int32).toUInt32 >>> ((1 : Int32).toUInt32 &&& Int32.toUInt32 31)).toInt32) &&& 1431655765)) &&& 858993459) + (((((v0 - ((((v0 : Int32).toUInt32 >>> ((1 : Int32).toUInt32 &&& Int32.toUInt32 31)).toInt32) &&& 1431655765)) : Int32).toUInt32 >>> ((2 : Int32).toUInt32 &&& Int32.toUInt32 31)).toInt32) &&& 858993459)) + ((((((v0 - ((((v0 : Int32).toUInt32 >>> ((1 : Int32).toUInt32 &&& Int32.toUInt32 31)).toInt32) &&& 1431655765)) &&& 858993459) + (((((v0 - ((((v0 : Int32).toUInt32 >>> ((1 : Int32).toUInt32 &&& Int32.toUInt32 31)).toInt32) &&& 1431655765)) : Int32).toUInt32 >>> ((2 : Int32).toUInt32 &&& Int32.toUInt32 31)).toInt32) &&& 858993459)) : Int32).toUInt32 >>> ((4 : Int32).toUInt32 &&& Int32.toUInt32 31)).toInt32)) &&& 252645135) : Int32).toUInt32 >>> ((8 : Int32).toUInt32 &&& Int32.toUInt32 31)).toInt32)))] rfl (lt_n hN (by decide)) dJ6_bitCount_0f7a4_40 ?_
  refine aw_iloadn (pc := 41) hX 0 rfl dJ6_bitCount_0f7a4_41 ?_
  refine aw_iloadn (pc := 42) hX 0 rfl dJ6_bitCount_0f7a4_42 ?_
  refine aw_bipush (pc := 43) hX 16 (by decide) dJ6_bitCount_0f7a4_43 ?_
  refine aw_iushr (pc := 45) hX dJ6_bitCount_0f7a4_45 ?_
  refine aw_iadd (pc := 46) hX dJ6_bitCount_0f7a4_46 ?_
  refine aw_istoren (pc := 47) hX [(0, vI (((((((v0 - ((((v0 : Int32).toUInt32 >>> ((1 : Int32).toUInt32 &&& Int32.toUInt32 31)).toInt32) &&& 1431655765)) &&& 858993459) + (((((v0 - ((((v0 : Int32).toUInt32 >>> ((1 : Int32).toUInt32 &&& Int32.toUInt32 31)).toInt32) &&& 1431655765)) : Int32).toUInt32 >>> ((2 : Int32).toUInt32 &&& Int32.toUInt32 31)).toInt32) &&& 858993459)) + ((((((v0 - ((((v0 : Int32).toUInt32 >>> ((1 : Int32).toUInt32 &&& Int32.toUInt32 31)).toInt32) &&& 1431655765)) &&& 858993459) + (((((v0 - ((((v0 : Int32).toUInt32 >>> ((1 : Int32).toUInt32 &&& Int32.toUInt32 31)).toInt32) &&& 1431655765)) : Int32).toUInt32 >>> ((2 : Int32).toUInt32 &&& Int32.toUInt32 31)).toInt32) &&& 858993459)) : Int32).toUInt32 >>> ((4 : Int32).toUInt32 &&& Int32.toUInt32 31)).toInt32)) &&& 252645135) + ((((((((v0 - ((((v0 : Int32).toUInt32 >>> ((1 : Int32).toUInt32 &&& Int32.toUInt32 31)).toInt32) &&& 1431655765)) &&& 858993459) + (((((v0 - ((((v0 : Int32).toUInt32 >>> ((1 : Int32).toUInt32 &&& Int32.toUInt32 31)).toInt32) &&& 1431655765)) : Int32).toUInt32 >>> ((2 : Int32).toUInt32 &&& Int32.toUInt32 31)).toInt32) &&& 858993459)) + ((((((v0 - ((((v0 : Int32).toUInt32 >>> ((1 : Int32).toUInt32 &&& Int32.toUInt32 31)).toInt32) &&& 1431655765)) &&& 858993459) + (((((v0 - ((((v0 : Int32).toUInt32 >>> ((1 : Int32).toUInt32 &&& Int32.toUInt32 31)).toInt32) &&& 1431655765)) : Int32).toUInt32 >>> ((2 : Int32).toUInt32 &&& Int32.toUInt32 31)).toInt32) &&& 858993459)) : Int32).toUInt32 >>> ((4 : Int32).toUInt32 &&& Int32.toUInt32 31)).toInt32)) &&& 252645135) : Int32).toUInt32 >>> ((8 : Int32).toUInt32 &&& Int32.toUInt32 31)).toInt32)) + (((((((((v0 - ((((v0 : Int32).toUInt32 >>> ((1 : Int32).toUInt32 &&& Int32.toUInt32 31)).toInt32) &&& 1431655765)) &&& 858993459) + (((((v0 - ((((v0 : Int32).toUInt32 >>> ((1 : Int32).toUInt32 &&& Int32.toUInt32 31)).toInt32) &&& 1431655765)) : Int32).toUInt32 >>> ((2 : Int32).toUInt32 &&& Int32.toUInt32 31)).toInt32) &&& 858993459)) + ((((((v0 - ((((v0 : Int32).toUInt32 >>> ((1 : Int32).toUInt32 &&& Int32.toUInt32 31)).toInt32) &&& 1431655765)) &&& 858993459) + (((((v0 - ((((v0 : Int32).toUInt32 >>> ((1 : Int32).toUInt32 &&& Int32.toUInt32 31)).toInt32) &&& 1431655765)) : Int32).toUInt32 >>> ((2 : Int32).toUInt32 &&& Int32.toUInt32 31)).toInt32) &&& 858993459)) : Int32).toUInt32 >>> ((4 : Int32).toUInt32 &&& Int32.toUInt32 31)).toInt32)) &&& 252645135) + ((((((((v0 - ((((v0 : Int32).toUInt32 >>> ((1 : Int32).toUInt32 &&& Int32.toUInt32 31)).toInt32) &&& 1431655765)) &&& 858993459) + (((((v0 - ((((v0 : Int32).toUInt32 >>> ((1 : Int32).toUInt32 &&& Int32.toUInt32 31)).toInt32) &&& 1431655765)) : Int32).toUInt32 >>> ((2 : Int32).toUInt32 &&& Int32.toUInt32 31)).toInt32) &&& 858993459)) + ((((((v0 - ((((v0 : Int32).toUInt32 >>> ((1 : Int32).toUInt32 &&& Int32.toUInt32 31)).toInt32) &&& 1431655765)) &&& 858993459) + (((((v0 - ((((v0 : Int32).toUInt32 >>> ((1 : Int32).toUInt32 &&& Int32.toUInt32 31)).toInt32) &&& 1431655765)) : Int32).toUInt32 >>> ((2 : Int32).toUInt32 &&& Int32.toUInt32 31)).toInt32) &&& 858993459)) : Int32).toUInt32 >>> ((4 : Int32).toUInt32 &&& Int32.toUInt32 31)).toInt32)) &&& 252645135) : Int32).toUInt32 >>> ((8 : Int32).toUInt32 &&& Int32.toUInt32 31)).toInt32)) : Int32).toUInt32 >>> ((16 : Int32).toUInt32 &&& Int32.toUInt32 31)).toInt32)))] rfl (lt_n hN (by decide)) dJ6_bitCount_0f7a4_47 ?_
  refine aw_iloadn (pc := 48) hX 0 rfl dJ6_bitCount_0f7a4_48 ?_
  refine aw_bipush (pc := 49) hX 63 (by decide) dJ6_bitCount_0f7a4_49 ?_
  refine aw_iand (pc := 51) hX dJ6_bitCount_0f7a4_51 ?_
  exact aw_iret (pc := 52) hX hr (by decide) (by decide) dJ6_bitCount_0f7a4_52 ⟨rfl, _, rfl, hy.s⟩
theorem con_J6_bitCount_0f7a4 (l : Launch) (G : GE) (h : Mem) (v0 : Int32) {P : Int32 → Prop} (hy : OK (f_J6_bitCount_0f7a4 h v0) P) : Con l G yJ6_bitCount_0f7a4 cJ6_bitCount_0f7a4 1 (some .int) rm_J6_bitCount_0f7a4 [vI v0] h (ppI h P) := Con.of (by decide) (Nat.le_of_ble_eq_true rfl) (fun X hX hr hN => w_J6_bitCount_0f7a4 hX hN h hr v0 hy)
/-! X8_isBetter -/
theorem dX8_isBetter_0 : decode cX8_isBetter 0 = .ok (.aload_n 0, 1) := by decide +kernel
theorem dX8_isBetter_1 : decode cX8_isBetter 1 = .ok (.getfield 17, 3) := by decide +kernel
theorem dX8_isBetter_4 : decode cX8_isBetter 4 = .ok (.iload_n 1, 1) := by decide +kernel
theorem dX8_isBetter_5 : decode cX8_isBetter 5 = .ok (.iaload, 1) := by decide +kernel
theorem dX8_isBetter_6 : decode cX8_isBetter 6 = .ok (.aload_n 0, 1) := by decide +kernel
theorem dX8_isBetter_7 : decode cX8_isBetter 7 = .ok (.getfield 17, 3) := by decide +kernel
theorem dX8_isBetter_10 : decode cX8_isBetter 10 = .ok (.iload_n 2, 1) := by decide +kernel
theorem dX8_isBetter_11 : decode cX8_isBetter 11 = .ok (.iaload, 1) := by decide +kernel
theorem dX8_isBetter_12 : decode cX8_isBetter 12 = .ok (.if_icmp .eq 24, 3) := by decide +kernel
theorem dX8_isBetter_15 : decode cX8_isBetter 15 = .ok (.aload_n 0, 1) := by decide +kernel
theorem dX8_isBetter_16 : decode cX8_isBetter 16 = .ok (.getfield 17, 3) := by decide +kernel
theorem dX8_isBetter_19 : decode cX8_isBetter 19 = .ok (.iload_n 1, 1) := by decide +kernel
theorem dX8_isBetter_20 : decode cX8_isBetter 20 = .ok (.iaload, 1) := by decide +kernel
theorem dX8_isBetter_21 : decode cX8_isBetter 21 = .ok (.aload_n 0, 1) := by decide +kernel
theorem dX8_isBetter_22 : decode cX8_isBetter 22 = .ok (.getfield 17, 3) := by decide +kernel
theorem dX8_isBetter_25 : decode cX8_isBetter 25 = .ok (.iload_n 2, 1) := by decide +kernel
theorem dX8_isBetter_26 : decode cX8_isBetter 26 = .ok (.iaload, 1) := by decide +kernel
theorem dX8_isBetter_27 : decode cX8_isBetter 27 = .ok (.if_icmp .ge 7, 3) := by decide +kernel
theorem dX8_isBetter_30 : decode cX8_isBetter 30 = .ok (.iconst 1, 1) := by decide +kernel
theorem dX8_isBetter_31 : decode cX8_isBetter 31 = .ok (.goto 4, 3) := by decide +kernel
theorem dX8_isBetter_34 : decode cX8_isBetter 34 = .ok (.iconst 0, 1) := by decide +kernel
theorem dX8_isBetter_35 : decode cX8_isBetter 35 = .ok (.ireturn, 1) := by decide +kernel
theorem dX8_isBetter_36 : decode cX8_isBetter 36 = .ok (.iload_n 1, 1) := by decide +kernel
theorem dX8_isBetter_37 : decode cX8_isBetter 37 = .ok (.invokestatic 68, 3) := by decide +kernel
theorem dX8_isBetter_40 : decode cX8_isBetter 40 = .ok (.iload_n 2, 1) := by decide +kernel
theorem dX8_isBetter_41 : decode cX8_isBetter 41 = .ok (.invokestatic 68, 3) := by decide +kernel
theorem dX8_isBetter_44 : decode cX8_isBetter 44 = .ok (.if_icmp .ge 7, 3) := by decide +kernel
theorem dX8_isBetter_47 : decode cX8_isBetter 47 = .ok (.iconst 1, 1) := by decide +kernel
theorem dX8_isBetter_48 : decode cX8_isBetter 48 = .ok (.goto 4, 3) := by decide +kernel
theorem dX8_isBetter_51 : decode cX8_isBetter 51 = .ok (.iconst 0, 1) := by decide +kernel
theorem dX8_isBetter_52 : decode cX8_isBetter 52 = .ok (.ireturn, 1) := by decide +kernel
abbrev rm_X8_isBetter : Room := { frames := 1, cells := 0, slots := 0, locals := 20 }
def f_X8_isBetter (h : Mem) (v0 : Nat) (v1 : Int32) (v2 : Int32) : Option Int32 :=
  (ck h v0 7).bind fun _ => (gR h v0 1 7).bind fun r1 => (aI h r1 v1).bind fun x2 => (gR h v0 1 7).bind fun r3 => (aI h r3 v2).bind fun x4 => (if x2 = x4 then (f_J6_bitCount_0f7a4 h v1).bind fun x5 => (f_J6_bitCount_0f7a4 h v2).bind fun x6 => (if x6 ≤ x5 then some 0 else some 1) else (gR h v0 1 7).bind fun r7 => (aI h r7 v1).bind fun x8 => (gR h v0 1 7).bind fun r9 => (aI h r9 v2).bind fun x10 => (if x10 ≤ x8 then some 0 else some 1))
set_option maxRecDepth 100000 in
set_option maxHeartbeats 4000000 in
theorem w_X8_isBetter {G : GE} {X : CX} {l : Launch} (hX : Ok G X cX8_isBetter RX8) (hN : xn X = 3) (h : Mem) {P : Int32 → Prop} (hr : Rt G X l yX8_isBetter (some .boolean) rm_X8_isBetter (ppI h P)) (v0 : Nat) (v1 : Int32) (v2 : Int32) (hy : OK (f_X8_isBetter h v0 v1 v2) P) : AW G X 0 [(0, vR v0), (1, vI v1), (2, vI v2)] [] h 0 0 := by
  unfold f_X8_isBetter at hy
  have hkd := hy.kd
  have hy := hy.kb
  refine aw_aloadn (pc := 0) hX 0 rfl dX8_isBetter_0 ?_
  refine aw_gR (pc := 1) hX hy fl_X8_17 (fun _ _ => rfl) dX8_isBetter_1 (fun r1 hy => ?_)
  refine aw_iloadn (pc := 4) hX 1 rfl dX8_isBetter_4 ?_
  refine aw_aI (pc := 5) hX hy dX8_isBetter_5 (fun x2 hy => ?_)
  refine aw_aloadn (pc := 6) hX 0 rfl dX8_isBetter_6 ?_
  refine aw_gR (pc := 7) hX hy fl_X8_17 (fun _ _ => rfl) dX8_isBetter_7 (fun r3 hy => ?_)
  refine aw_iloadn (pc := 10) hX 2 rfl dX8_isBetter_10 ?_
  refine aw_aI (pc := 11) hX hy dX8_isBetter_11 (fun x4 hy => ?_)
  refine aw_ic_eq (pc := 12) hX 36 (by decide) dX8_isBetter_12 (fun hc9 => ?_) (fun hc9 => ?_)
  · have hy := hy.t hc9
    refine aw_iloadn (pc := 36) hX 1 rfl dX8_isBetter_36 ?_
    refine aw_callS (pc := 37) (st := []) hX [vI v1] (con_J6_bitCount_0f7a4 _ G _ v1 hy.bd) mc_J6_bitCount_0f7a4 ml_X8_68 st_J6_bitCount_0f7a4 rfl (rm_of hr (by decide)) (Nat.le_of_ble_eq_true rfl) rfl dX8_isBetter_37 (kpI rfl rfl (fun x5 hy => ?_))
    refine aw_iloadn (pc := 40) hX 2 rfl dX8_isBetter_40 ?_
    refine aw_callS (pc := 41) (st := [vI x5]) hX [vI v2] (con_J6_bitCount_0f7a4 _ G _ v2 hy.bd) mc_J6_bitCount_0f7a4 ml_X8_68 st_J6_bitCount_0f7a4 rfl (rm_of hr (by decide)) (Nat.le_of_ble_eq_true rfl) rfl dX8_isBetter_41 (kpI rfl rfl (fun x6 hy => ?_))
    refine aw_ic_ge (pc := 44) hX 51 (by decide) dX8_isBetter_44 (fun hc9 => ?_) (fun hc9 => ?_)
    · have hy := hy.t hc9
      refine aw_iconst (pc := 51) hX 0 (by decide) dX8_isBetter_51 ?_
      exact aw_zret (pc := 52) hX hr (by decide) (by decide) dX8_isBetter_52 (Or.inl rfl) ⟨rfl, _, rfl, hy.s⟩
    · have hy := hy.f hc9
      refine aw_iconst (pc := 47) hX 1 (by decide) dX8_isBetter_47 ?_
      refine aw_goto (pc := 48) hX 52 (by decide) dX8_isBetter_48 ?_
      exact aw_zret (pc := 52) hX hr (by decide) (by decide) dX8_isBetter_52 (Or.inr rfl) ⟨rfl, _, rfl, hy.s⟩
  · have hy := hy.f hc9
    refine aw_aloadn (pc := 15) hX 0 rfl dX8_isBetter_15 ?_
    refine aw_gR (pc := 16) hX hy fl_X8_17 (fun _ _ => rfl) dX8_isBetter_16 (fun r7 hy => ?_)
    refine aw_iloadn (pc := 19) hX 1 rfl dX8_isBetter_19 ?_
    refine aw_aI (pc := 20) hX hy dX8_isBetter_20 (fun x8 hy => ?_)
    refine aw_aloadn (pc := 21) hX 0 rfl dX8_isBetter_21 ?_
    refine aw_gR (pc := 22) hX hy fl_X8_17 (fun _ _ => rfl) dX8_isBetter_22 (fun r9 hy => ?_)
    refine aw_iloadn (pc := 25) hX 2 rfl dX8_isBetter_25 ?_
    refine aw_aI (pc := 26) hX hy dX8_isBetter_26 (fun x10 hy => ?_)
    refine aw_ic_ge (pc := 27) hX 34 (by decide) dX8_isBetter_27 (fun hc9 => ?_) (fun hc9 => ?_)
    · have hy := hy.t hc9
      refine aw_iconst (pc := 34) hX 0 (by decide) dX8_isBetter_34 ?_
      exact aw_zret (pc := 35) hX hr (by decide) (by decide) dX8_isBetter_35 (Or.inl rfl) ⟨rfl, _, rfl, hy.s⟩
    · have hy := hy.f hc9
      refine aw_iconst (pc := 30) hX 1 (by decide) dX8_isBetter_30 ?_
      refine aw_goto (pc := 31) hX 35 (by decide) dX8_isBetter_31 ?_
      exact aw_zret (pc := 35) hX hr (by decide) (by decide) dX8_isBetter_35 (Or.inr rfl) ⟨rfl, _, rfl, hy.s⟩
theorem con_X8_isBetter (l : Launch) (G : GE) (h : Mem) (v0 : Nat) (v1 : Int32) (v2 : Int32) {P : Int32 → Prop} (hy : OK (f_X8_isBetter h v0 v1 v2) P) : Con l G yX8_isBetter cX8_isBetter 3 (some .boolean) rm_X8_isBetter [vR v0, vI v1, vI v2] h (ppI h P) := Con.of (by decide) (Nat.le_of_ble_eq_true rfl) (fun X hX hr hN => w_X8_isBetter hX hN h hr v0 v1 v2 hy)
/-! X8_bestSet -/
theorem dX8_bestSet_0 : decode cX8_bestSet 0 = .ok (.bipush (-2), 2) := by decide +kernel
theorem dX8_bestSet_2 : decode cX8_bestSet 2 = .ok (.istore_n 3, 1) := by decide +kernel
theorem dX8_bestSet_3 : decode cX8_bestSet 3 = .ok (.iconst 0, 1) := by decide +kernel
theorem dX8_bestSet_4 : decode cX8_bestSet 4 = .ok (.istore 4, 2) := by decide +kernel
theorem dX8_bestSet_6 : decode cX8_bestSet 6 = .ok (.iload 4, 2) := by decide +kernel
theorem dX8_bestSet_8 : decode cX8_bestSet 8 = .ok (.iconst 1, 1) := by decide +kernel
theorem dX8_bestSet_9 : decode cX8_bestSet 9 = .ok (.aload_n 1, 1) := by decide +kernel
theorem dX8_bestSet_10 : decode cX8_bestSet 10 = .ok (.getfield 42, 3) := by decide +kernel
theorem dX8_bestSet_13 : decode cX8_bestSet 13 = .ok (.ishl, 1) := by decide +kernel
theorem dX8_bestSet_14 : decode cX8_bestSet 14 = .ok (.if_icmp .ge 41, 3) := by decide +kernel
theorem dX8_bestSet_17 : decode cX8_bestSet 17 = .ok (.aload_n 0, 1) := by decide +kernel
theorem dX8_bestSet_18 : decode cX8_bestSet 18 = .ok (.getfield 20, 3) := by decide +kernel
theorem dX8_bestSet_21 : decode cX8_bestSet 21 = .ok (.iload 4, 2) := by decide +kernel
theorem dX8_bestSet_23 : decode cX8_bestSet 23 = .ok (.iaload, 1) := by decide +kernel
theorem dX8_bestSet_24 : decode cX8_bestSet 24 = .ok (.iload_n 2, 1) := by decide +kernel
theorem dX8_bestSet_25 : decode cX8_bestSet 25 = .ok (.ishr, 1) := by decide +kernel
theorem dX8_bestSet_26 : decode cX8_bestSet 26 = .ok (.iconst 1, 1) := by decide +kernel
theorem dX8_bestSet_27 : decode cX8_bestSet 27 = .ok (.iand, 1) := by decide +kernel
theorem dX8_bestSet_28 : decode cX8_bestSet 28 = .ok (.iconst 1, 1) := by decide +kernel
theorem dX8_bestSet_29 : decode cX8_bestSet 29 = .ok (.if_icmp .ne 20, 3) := by decide +kernel
theorem dX8_bestSet_32 : decode cX8_bestSet 32 = .ok (.iload_n 3, 1) := by decide +kernel
theorem dX8_bestSet_33 : decode cX8_bestSet 33 = .ok (.ifCond .lt 13, 3) := by decide +kernel
theorem dX8_bestSet_36 : decode cX8_bestSet 36 = .ok (.aload_n 0, 1) := by decide +kernel
theorem dX8_bestSet_37 : decode cX8_bestSet 37 = .ok (.iload 4, 2) := by decide +kernel
theorem dX8_bestSet_39 : decode cX8_bestSet 39 = .ok (.iload_n 3, 1) := by decide +kernel
theorem dX8_bestSet_40 : decode cX8_bestSet 40 = .ok (.invokevirtual 64, 3) := by decide +kernel
theorem dX8_bestSet_43 : decode cX8_bestSet 43 = .ok (.ifCond .eq 6, 3) := by decide +kernel
theorem dX8_bestSet_46 : decode cX8_bestSet 46 = .ok (.iload 4, 2) := by decide +kernel
theorem dX8_bestSet_48 : decode cX8_bestSet 48 = .ok (.istore_n 3, 1) := by decide +kernel
theorem dX8_bestSet_49 : decode cX8_bestSet 49 = .ok (.iinc 4 1, 3) := by decide +kernel
theorem dX8_bestSet_52 : decode cX8_bestSet 52 = .ok (.goto (-46), 3) := by decide +kernel
theorem dX8_bestSet_55 : decode cX8_bestSet 55 = .ok (.iload_n 3, 1) := by decide +kernel
theorem dX8_bestSet_56 : decode cX8_bestSet 56 = .ok (.ireturn, 1) := by decide +kernel
abbrev rm_X8_bestSet : Room := { frames := 2, cells := 0, slots := 0, locals := 42 }
def f_X8_bestSet_49 (h : Mem) (v0 : Nat) (v1 : Nat) (v2 : Int32) (v3 : Int32) (v4 : Int32) : Option ((Int32 × Int32) ⊕ Int32) :=
  some (.inl (v3, (v4 + 1)))
set_option maxRecDepth 100000 in
set_option maxHeartbeats 4000000 in
theorem w_X8_bestSet_49 {G : GE} {X : CX} {l : Launch} (hX : Ok G X cX8_bestSet RX8) (hN : xn X = 5) (h : Mem) {P0 : Int32 → Prop} (hr : Rt G X l yX8_bestSet (some .int) rm_X8_bestSet (ppI h P0))  (v0 : Nat) (v1 : Nat) (v2 : Int32) {P : ((Int32 × Int32) ⊕ Int32) → Prop} (hc : ∀ s, P (.inl s) → AW G X 6 [(0, vR v0), (1, vR v1), (2, vI v2), (3, vI s.1), (4, vI s.2)] [] h 0 0) (he0 : ∀ e, P (.inr e) → AW G X 55 [(3, vI e)] [] h 0 0) (v3 : Int32) (v4 : Int32) (hy : OK (f_X8_bestSet_49 h v0 v1 v2 v3 v4) P) : AW G X 49 [(0, vR v0), (1, vR v1), (2, vI v2), (3, vI v3), (4, vI v4)] [] h 0 0 := by
  unfold f_X8_bestSet_49 at hy
  refine aw_iinc (pc := 49) hX 1 (by decide) 4 rfl [(4, vI (v4 + 1)), (0, vR v0), (1, vR v1), (2, vI v2), (3, vI v3)] rfl (lt_n hN (by decide)) dX8_bestSet_49 ?_
  refine aw_goto (pc := 52) hX 6 (by decide) dX8_bestSet_52 ?_
  refine AW.sub [1, 2, 3, 4, 0] rfl ?_
  exact hc (v3, (v4 + 1)) hy.s
def f_X8_bestSet_46 (h : Mem) (v0 : Nat) (v1 : Nat) (v2 : Int32) (v4 : Int32) : Option ((Int32 × Int32) ⊕ Int32) :=
  f_X8_bestSet_49 h v0 v1 v2 v4 v4
set_option maxRecDepth 100000 in
set_option maxHeartbeats 4000000 in
theorem w_X8_bestSet_46 {G : GE} {X : CX} {l : Launch} (hX : Ok G X cX8_bestSet RX8) (hN : xn X = 5) (h : Mem) {P0 : Int32 → Prop} (hr : Rt G X l yX8_bestSet (some .int) rm_X8_bestSet (ppI h P0))  (v0 : Nat) (v1 : Nat) (v2 : Int32) {P : ((Int32 × Int32) ⊕ Int32) → Prop} (hc : ∀ s, P (.inl s) → AW G X 6 [(0, vR v0), (1, vR v1), (2, vI v2), (3, vI s.1), (4, vI s.2)] [] h 0 0) (he0 : ∀ e, P (.inr e) → AW G X 55 [(3, vI e)] [] h 0 0) (v4 : Int32) (hy : OK (f_X8_bestSet_46 h v0 v1 v2 v4) P) : AW G X 46 [(0, vR v0), (1, vR v1), (2, vI v2), (4, vI v4)] [] h 0 0 := by
  unfold f_X8_bestSet_46 at hy
  refine aw_iload (pc := 46) hX 3 rfl dX8_bestSet_46 ?_
  refine aw_istoren (pc := 48) hX [(3, vI v4), (0, vR v0), (1, vR v1), (2, vI v2), (4, vI v4)] rfl (lt_n hN (by decide)) dX8_bestSet_48 ?_
  refine AW.sub [1, 2, 3, 0, 4] rfl ?_
  exact w_X8_bestSet_49 hX hN _ hr _ _ _ hc he0 v4 v4 hy
def b_X8_bestSet_6 (h : Mem) (v0 : Nat) (v1 : Nat) (v2 : Int32) (v3 : Int32) (v4 : Int32) : Option ((Int32 × Int32) ⊕ Int32) :=
  (gI h v1 5 4).bind fun x1 => (if ((1 : Int32) <<< (x1 &&& 31)) ≤ v4 then some (.inr v3) else (gR h v0 2 7).bind fun r2 => (aI h r2 v4).bind fun x3 => (if (((x3 : Int32) >>> (v2 &&& 31)) &&& 1) = 1 then (if v3 < 0 then f_X8_bestSet_46 h v0 v1 v2 v4 else (f_X8_isBetter h v0 v4 v3).bind fun x4 => (if x4 = 0 then f_X8_bestSet_49 h v0 v1 v2 v3 v4 else f_X8_bestSet_46 h v0 v1 v2 v4)) else f_X8_bestSet_49 h v0 v1 v2 v3 v4))
set_option maxRecDepth 100000 in
set_option maxHeartbeats 4000000 in
theorem wb_X8_bestSet_6 {G : GE} {X : CX} {l : Launch} (hX : Ok G X cX8_bestSet RX8) (hN : xn X = 5) (h : Mem) {P0 : Int32 → Prop} (hr : Rt G X l yX8_bestSet (some .int) rm_X8_bestSet (ppI h P0))  (v0 : Nat) (v1 : Nat) (v2 : Int32) {P : ((Int32 × Int32) ⊕ Int32) → Prop} (hc : ∀ s, P (.inl s) → AW G X 6 [(0, vR v0), (1, vR v1), (2, vI v2), (3, vI s.1), (4, vI s.2)] [] h 0 0) (he0 : ∀ e, P (.inr e) → AW G X 55 [(3, vI e)] [] h 0 0) (v3 : Int32) (v4 : Int32) (hy : OK (b_X8_bestSet_6 h v0 v1 v2 v3 v4) P) : AW G X 6 [(0, vR v0), (1, vR v1), (2, vI v2), (3, vI v3), (4, vI v4)] [] h 0 0 := by
  unfold b_X8_bestSet_6 at hy
  refine aw_iload (pc := 6) hX 4 rfl dX8_bestSet_6 ?_
  refine aw_iconst (pc := 8) hX 1 (by decide) dX8_bestSet_8 ?_
  refine aw_aloadn (pc := 9) hX 1 rfl dX8_bestSet_9 ?_
  refine aw_gI (pc := 10) hX hy fl_X8_42 (fun _ _ => rfl) dX8_bestSet_10 (fun x1 hy => ?_)
  refine aw_ishl (pc := 13) hX dX8_bestSet_13 ?_
  refine aw_ic_ge (pc := 14) hX 55 (by decide) dX8_bestSet_14 (fun hc9 => ?_) (fun hc9 => ?_)
  · have hy := hy.t hc9
    refine AW.sub [3] rfl ?_
    exact he0 v3 hy.s
  · have hy := hy.f hc9
    refine aw_aloadn (pc := 17) hX 0 rfl dX8_bestSet_17 ?_
    refine aw_gR (pc := 18) hX hy fl_X8_20 (fun _ _ => rfl) dX8_bestSet_18 (fun r2 hy => ?_)
    refine aw_iload (pc := 21) hX 4 rfl dX8_bestSet_21 ?_
    refine aw_aI (pc := 23) hX hy dX8_bestSet_23 (fun x3 hy => ?_)
    refine aw_iloadn (pc := 24) hX 2 rfl dX8_bestSet_24 ?_
    refine aw_ishr (pc := 25) hX dX8_bestSet_25 ?_
    refine aw_iconst (pc := 26) hX 1 (by decide) dX8_bestSet_26 ?_
    refine aw_iand (pc := 27) hX dX8_bestSet_27 ?_
    refine aw_iconst (pc := 28) hX 1 (by decide) dX8_bestSet_28 ?_
    refine aw_ic_ne (pc := 29) hX 49 (by decide) dX8_bestSet_29 (fun hc9 => ?_) (fun hc9 => ?_)
    · have hy := hy.f hc9
      exact w_X8_bestSet_49 hX hN _ hr _ _ _ hc he0 v3 v4 hy
    · have hy := hy.t hc9
      refine aw_iloadn (pc := 32) hX 3 rfl dX8_bestSet_32 ?_
      refine aw_if_lt (pc := 33) hX 46 (by decide) dX8_bestSet_33 (fun hc9 => ?_) (fun hc9 => ?_)
      · have hy := hy.t hc9
        refine AW.sub [0, 1, 2, 4] rfl ?_
        exact w_X8_bestSet_46 hX hN _ hr _ _ _ hc he0 v4 hy
      · have hy := hy.f hc9
        refine aw_aloadn (pc := 36) hX 0 rfl dX8_bestSet_36 ?_
        refine aw_iload (pc := 37) hX 4 rfl dX8_bestSet_37 ?_
        refine aw_iloadn (pc := 39) hX 3 rfl dX8_bestSet_39 ?_
        refine aw_callV (pc := 40) (st := []) (a := v0) hX [vI v4, vI v3] (con_X8_isBetter _ G _ v0 v4 v3 hy.bd) mc_X8_isBetter ml_X8_64 im_X8_isBetter se_X8_isBetter (by decide) hy.bd.kd rfl (rm_of hr (by decide)) (Nat.le_of_ble_eq_true rfl) rfl dX8_bestSet_40 (kpI rfl rfl (fun x4 hy => ?_))
        refine aw_if_eq (pc := 43) hX 49 (by decide) dX8_bestSet_43 (fun hc9 => ?_) (fun hc9 => ?_)
        · have hy := hy.t hc9
          exact w_X8_bestSet_49 hX hN _ hr _ _ _ hc he0 v3 v4 hy
        · have hy := hy.f hc9
          refine AW.sub [0, 1, 2, 4] rfl ?_
          exact w_X8_bestSet_46 hX hN _ hr _ _ _ hc he0 v4 hy
theorem wl_X8_bestSet_6 {G : GE} {X : CX} {l : Launch} (hX : Ok G X cX8_bestSet RX8) (hN : xn X = 5) (h : Mem) {P0 : Int32 → Prop} (hr : Rt G X l yX8_bestSet (some .int) rm_X8_bestSet (ppI h P0)) (v0 : Nat) (v1 : Nat) (v2 : Int32) {P : (Int32) → Prop} (he0 : ∀ e, P e → AW G X 55 [(3, vI e)] [] h 0 0) : ∀ (n : Nat) (s : Int32 × Int32), OK (iter (fun (s : Int32 × Int32) => b_X8_bestSet_6 h v0 v1 v2 s.1 s.2) n s) P → AW G X 6 [(0, vR v0), (1, vR v1), (2, vI v2), (3, vI s.1), (4, vI s.2)] [] h 0 0 := by
  intro n
  induction n with
  | zero => exact fun s hy => hy.it0.elim
  | succ n ih =>
    intro s hy
    exact wb_X8_bestSet_6 hX hN h hr v0 v1 v2 (fun s hs => ih s hs) (fun e hs => he0 e hs) s.1 s.2 hy.it
def f_X8_bestSet (h : Mem) (v0 : Nat) (v1 : Nat) (v2 : Int32) : Option Int32 :=
  (ck h v0 7).bind fun _ => (iter (fun (s : Int32 × Int32) => b_X8_bestSet_6 h v0 v1 v2 s.1 s.2) FU ((-2), 0)).bind (fun q5 => some q5)
set_option maxRecDepth 100000 in
set_option maxHeartbeats 4000000 in
theorem w_X8_bestSet {G : GE} {X : CX} {l : Launch} (hX : Ok G X cX8_bestSet RX8) (hN : xn X = 5) (h : Mem) {P : Int32 → Prop} (hr : Rt G X l yX8_bestSet (some .int) rm_X8_bestSet (ppI h P)) (v0 : Nat) (v1 : Nat) (v2 : Int32) (hy : OK (f_X8_bestSet h v0 v1 v2) P) : AW G X 0 [(0, vR v0), (1, vR v1), (2, vI v2)] [] h 0 0 := by
  unfold f_X8_bestSet at hy
  have hkd := hy.kd
  have hy := hy.kb
  refine aw_bipush (pc := 0) hX (-2) (by decide) dX8_bestSet_0 ?_
  refine aw_istoren (pc := 2) hX [(3, vI (-2)), (0, vR v0), (1, vR v1), (2, vI v2)] rfl (lt_n hN (by decide)) dX8_bestSet_2 ?_
  refine aw_iconst (pc := 3) hX 0 (by decide) dX8_bestSet_3 ?_
  refine aw_istore (pc := 4) hX [(4, vI 0), (3, vI (-2)), (0, vR v0), (1, vR v1), (2, vI v2)] rfl (lt_n hN (by decide)) dX8_bestSet_4 ?_
  refine AW.sub [2, 3, 4, 1, 0] rfl ?_
  refine wl_X8_bestSet_6 hX hN _ hr v0 v1 v2 ?_ FU ((-2), 0) hy.bd
  · intro q5 hy
    refine aw_iloadn (pc := 55) hX 0 rfl dX8_bestSet_55 ?_
    exact aw_iret (pc := 56) hX hr (by decide) (by decide) dX8_bestSet_56 ⟨rfl, _, rfl, hy.s⟩
theorem con_X8_bestSet (l : Launch) (G : GE) (h : Mem) (v0 : Nat) (v1 : Nat) (v2 : Int32) {P : Int32 → Prop} (hy : OK (f_X8_bestSet h v0 v1 v2) P) : Con l G yX8_bestSet cX8_bestSet 5 (some .int) rm_X8_bestSet [vR v0, vR v1, vI v2] h (ppI h P) := Con.of (by decide) (Nat.le_of_ble_eq_true rfl) (fun X hX hr hN => w_X8_bestSet hX hN h hr v0 v1 v2 hy)
/-! X8_coinsOf -/
theorem dX8_coinsOf_0 : decode cX8_coinsOf 0 = .ok (.aload_n 0, 1) := by decide +kernel
theorem dX8_coinsOf_1 : decode cX8_coinsOf 1 = .ok (.getfield 17, 3) := by decide +kernel
theorem dX8_coinsOf_4 : decode cX8_coinsOf 4 = .ok (.iload_n 1, 1) := by decide +kernel
theorem dX8_coinsOf_5 : decode cX8_coinsOf 5 = .ok (.iaload, 1) := by decide +kernel
theorem dX8_coinsOf_6 : decode cX8_coinsOf 6 = .ok (.ireturn, 1) := by decide +kernel
abbrev rm_X8_coinsOf : Room := { frames := 0, cells := 0, slots := 0, locals := 0 }
def f_X8_coinsOf (h : Mem) (v0 : Nat) (v1 : Int32) : Option Int32 :=
  (ck h v0 7).bind fun _ => (gR h v0 1 7).bind fun r1 => (aI h r1 v1).bind fun x2 => some x2
set_option maxRecDepth 100000 in
set_option maxHeartbeats 4000000 in
theorem w_X8_coinsOf {G : GE} {X : CX} {l : Launch} (hX : Ok G X cX8_coinsOf RX8) (hN : xn X = 2) (h : Mem) {P : Int32 → Prop} (hr : Rt G X l yX8_coinsOf (some .int) rm_X8_coinsOf (ppI h P)) (v0 : Nat) (v1 : Int32) (hy : OK (f_X8_coinsOf h v0 v1) P) : AW G X 0 [(0, vR v0), (1, vI v1)] [] h 0 0 := by
  unfold f_X8_coinsOf at hy
  have hkd := hy.kd
  have hy := hy.kb
  refine aw_aloadn (pc := 0) hX 0 rfl dX8_coinsOf_0 ?_
  refine aw_gR (pc := 1) hX hy fl_X8_17 (fun _ _ => rfl) dX8_coinsOf_1 (fun r1 hy => ?_)
  refine aw_iloadn (pc := 4) hX 1 rfl dX8_coinsOf_4 ?_
  refine aw_aI (pc := 5) hX hy dX8_coinsOf_5 (fun x2 hy => ?_)
  exact aw_iret (pc := 6) hX hr (by decide) (by decide) dX8_coinsOf_6 ⟨rfl, _, rfl, hy.s⟩
theorem con_X8_coinsOf (l : Launch) (G : GE) (h : Mem) (v0 : Nat) (v1 : Int32) {P : Int32 → Prop} (hy : OK (f_X8_coinsOf h v0 v1) P) : Con l G yX8_coinsOf cX8_coinsOf 2 (some .int) rm_X8_coinsOf [vR v0, vI v1] h (ppI h P) := Con.of (by decide) (Nat.le_of_ble_eq_true rfl) (fun X hX hr hN => w_X8_coinsOf hX hN h hr v0 v1 hy)
/-! X8_placesOfAll -/
theorem dX8_placesOfAll_0 : decode cX8_placesOfAll 0 = .ok (.iconst 0, 1) := by decide +kernel
theorem dX8_placesOfAll_1 : decode cX8_placesOfAll 1 = .ok (.istore_n 2, 1) := by decide +kernel
theorem dX8_placesOfAll_2 : decode cX8_placesOfAll 2 = .ok (.iconst 0, 1) := by decide +kernel
theorem dX8_placesOfAll_3 : decode cX8_placesOfAll 3 = .ok (.istore_n 3, 1) := by decide +kernel
theorem dX8_placesOfAll_4 : decode cX8_placesOfAll 4 = .ok (.iload_n 3, 1) := by decide +kernel
theorem dX8_placesOfAll_5 : decode cX8_placesOfAll 5 = .ok (.iconst 1, 1) := by decide +kernel
theorem dX8_placesOfAll_6 : decode cX8_placesOfAll 6 = .ok (.aload_n 1, 1) := by decide +kernel
theorem dX8_placesOfAll_7 : decode cX8_placesOfAll 7 = .ok (.getfield 42, 3) := by decide +kernel
theorem dX8_placesOfAll_10 : decode cX8_placesOfAll 10 = .ok (.ishl, 1) := by decide +kernel
theorem dX8_placesOfAll_11 : decode cX8_placesOfAll 11 = .ok (.if_icmp .ge 18, 3) := by decide +kernel
theorem dX8_placesOfAll_14 : decode cX8_placesOfAll 14 = .ok (.iload_n 2, 1) := by decide +kernel
theorem dX8_placesOfAll_15 : decode cX8_placesOfAll 15 = .ok (.aload_n 0, 1) := by decide +kernel
theorem dX8_placesOfAll_16 : decode cX8_placesOfAll 16 = .ok (.getfield 20, 3) := by decide +kernel
theorem dX8_placesOfAll_19 : decode cX8_placesOfAll 19 = .ok (.iload_n 3, 1) := by decide +kernel
theorem dX8_placesOfAll_20 : decode cX8_placesOfAll 20 = .ok (.iaload, 1) := by decide +kernel
theorem dX8_placesOfAll_21 : decode cX8_placesOfAll 21 = .ok (.ior, 1) := by decide +kernel
theorem dX8_placesOfAll_22 : decode cX8_placesOfAll 22 = .ok (.istore_n 2, 1) := by decide +kernel
theorem dX8_placesOfAll_23 : decode cX8_placesOfAll 23 = .ok (.iinc 3 1, 3) := by decide +kernel
theorem dX8_placesOfAll_26 : decode cX8_placesOfAll 26 = .ok (.goto (-22), 3) := by decide +kernel
theorem dX8_placesOfAll_29 : decode cX8_placesOfAll 29 = .ok (.iload_n 2, 1) := by decide +kernel
theorem dX8_placesOfAll_30 : decode cX8_placesOfAll 30 = .ok (.ireturn, 1) := by decide +kernel
abbrev rm_X8_placesOfAll : Room := { frames := 0, cells := 0, slots := 0, locals := 0 }
def b_X8_placesOfAll_4 (h : Mem) (v0 : Nat) (v1 : Nat) (v2 : Int32) (v3 : Int32) : Option ((Int32 × Int32) ⊕ Int32) :=
  (gI h v1 5 4).bind fun x1 => (if ((1 : Int32) <<< (x1 &&& 31)) ≤ v3 then some (.inr v2) else (gR h v0 2 7).bind fun r2 => (aI h r2 v3).bind fun x3 => some (.inl ((v2 ||| x3), (v3 + 1))))
set_option maxRecDepth 100000 in
set_option maxHeartbeats 4000000 in
theorem wb_X8_placesOfAll_4 {G : GE} {X : CX} {l : Launch} (hX : Ok G X cX8_placesOfAll RX8) (hN : xn X = 4) (h : Mem) {P0 : Int32 → Prop} (hr : Rt G X l yX8_placesOfAll (some .int) rm_X8_placesOfAll (ppI h P0))  (v0 : Nat) (v1 : Nat) {P : ((Int32 × Int32) ⊕ Int32) → Prop} (hc : ∀ s, P (.inl s) → AW G X 4 [(0, vR v0), (1, vR v1), (2, vI s.1), (3, vI s.2)] [] h 0 0) (he0 : ∀ e, P (.inr e) → AW G X 29 [(2, vI e)] [] h 0 0) (v2 : Int32) (v3 : Int32) (hy : OK (b_X8_placesOfAll_4 h v0 v1 v2 v3) P) : AW G X 4 [(0, vR v0), (1, vR v1), (2, vI v2), (3, vI v3)] [] h 0 0 := by
  unfold b_X8_placesOfAll_4 at hy
  refine aw_iloadn (pc := 4) hX 3 rfl dX8_placesOfAll_4 ?_
  refine aw_iconst (pc := 5) hX 1 (by decide) dX8_placesOfAll_5 ?_
  refine aw_aloadn (pc := 6) hX 1 rfl dX8_placesOfAll_6 ?_
  refine aw_gI (pc := 7) hX hy fl_X8_42 (fun _ _ => rfl) dX8_placesOfAll_7 (fun x1 hy => ?_)
  refine aw_ishl (pc := 10) hX dX8_placesOfAll_10 ?_
  refine aw_ic_ge (pc := 11) hX 29 (by decide) dX8_placesOfAll_11 (fun hc9 => ?_) (fun hc9 => ?_)
  · have hy := hy.t hc9
    refine AW.sub [2] rfl ?_
    exact he0 v2 hy.s
  · have hy := hy.f hc9
    refine aw_iloadn (pc := 14) hX 2 rfl dX8_placesOfAll_14 ?_
    refine aw_aloadn (pc := 15) hX 0 rfl dX8_placesOfAll_15 ?_
    refine aw_gR (pc := 16) hX hy fl_X8_20 (fun _ _ => rfl) dX8_placesOfAll_16 (fun r2 hy => ?_)
    refine aw_iloadn (pc := 19) hX 3 rfl dX8_placesOfAll_19 ?_
    refine aw_aI (pc := 20) hX hy dX8_placesOfAll_20 (fun x3 hy => ?_)
    refine aw_ior (pc := 21) hX dX8_placesOfAll_21 ?_
    refine aw_istoren (pc := 22) hX [(2, vI (v2 ||| x3)), (0, vR v0), (1, vR v1), (3, vI v3)] rfl (lt_n hN (by decide)) dX8_placesOfAll_22 ?_
    refine aw_iinc (pc := 23) hX 1 (by decide) 3 rfl [(3, vI (v3 + 1)), (2, vI (v2 ||| x3)), (0, vR v0), (1, vR v1)] rfl (lt_n hN (by decide)) dX8_placesOfAll_23 ?_
    refine aw_goto (pc := 26) hX 4 (by decide) dX8_placesOfAll_26 ?_
    refine AW.sub [2, 3, 1, 0] rfl ?_
    exact hc ((v2 ||| x3), (v3 + 1)) hy.s
theorem wl_X8_placesOfAll_4 {G : GE} {X : CX} {l : Launch} (hX : Ok G X cX8_placesOfAll RX8) (hN : xn X = 4) (h : Mem) {P0 : Int32 → Prop} (hr : Rt G X l yX8_placesOfAll (some .int) rm_X8_placesOfAll (ppI h P0)) (v0 : Nat) (v1 : Nat) {P : (Int32) → Prop} (he0 : ∀ e, P e → AW G X 29 [(2, vI e)] [] h 0 0) : ∀ (n : Nat) (s : Int32 × Int32), OK (iter (fun (s : Int32 × Int32) => b_X8_placesOfAll_4 h v0 v1 s.1 s.2) n s) P → AW G X 4 [(0, vR v0), (1, vR v1), (2, vI s.1), (3, vI s.2)] [] h 0 0 := by
  intro n
  induction n with
  | zero => exact fun s hy => hy.it0.elim
  | succ n ih =>
    intro s hy
    exact wb_X8_placesOfAll_4 hX hN h hr v0 v1 (fun s hs => ih s hs) (fun e hs => he0 e hs) s.1 s.2 hy.it
def f_X8_placesOfAll (h : Mem) (v0 : Nat) (v1 : Nat) : Option Int32 :=
  (ck h v0 7).bind fun _ => (iter (fun (s : Int32 × Int32) => b_X8_placesOfAll_4 h v0 v1 s.1 s.2) FU (0, 0)).bind (fun q4 => some q4)
set_option maxRecDepth 100000 in
set_option maxHeartbeats 4000000 in
theorem w_X8_placesOfAll {G : GE} {X : CX} {l : Launch} (hX : Ok G X cX8_placesOfAll RX8) (hN : xn X = 4) (h : Mem) {P : Int32 → Prop} (hr : Rt G X l yX8_placesOfAll (some .int) rm_X8_placesOfAll (ppI h P)) (v0 : Nat) (v1 : Nat) (hy : OK (f_X8_placesOfAll h v0 v1) P) : AW G X 0 [(0, vR v0), (1, vR v1)] [] h 0 0 := by
  unfold f_X8_placesOfAll at hy
  have hkd := hy.kd
  have hy := hy.kb
  refine aw_iconst (pc := 0) hX 0 (by decide) dX8_placesOfAll_0 ?_
  refine aw_istoren (pc := 1) hX [(2, vI 0), (0, vR v0), (1, vR v1)] rfl (lt_n hN (by decide)) dX8_placesOfAll_1 ?_
  refine aw_iconst (pc := 2) hX 0 (by decide) dX8_placesOfAll_2 ?_
  refine aw_istoren (pc := 3) hX [(3, vI 0), (2, vI 0), (0, vR v0), (1, vR v1)] rfl (lt_n hN (by decide)) dX8_placesOfAll_3 ?_
  refine AW.sub [2, 3, 1, 0] rfl ?_
  refine wl_X8_placesOfAll_4 hX hN _ hr v0 v1 ?_ FU (0, 0) hy.bd
  · intro q4 hy
    refine aw_iloadn (pc := 29) hX 0 rfl dX8_placesOfAll_29 ?_
    exact aw_iret (pc := 30) hX hr (by decide) (by decide) dX8_placesOfAll_30 ⟨rfl, _, rfl, hy.s⟩
theorem con_X8_placesOfAll (l : Launch) (G : GE) (h : Mem) (v0 : Nat) (v1 : Nat) {P : Int32 → Prop} (hy : OK (f_X8_placesOfAll h v0 v1) P) : Con l G yX8_placesOfAll cX8_placesOfAll 4 (some .int) rm_X8_placesOfAll [vR v0, vR v1] h (ppI h P) := Con.of (by decide) (Nat.le_of_ble_eq_true rfl) (fun X hX hr hN => w_X8_placesOfAll hX hN h hr v0 v1 hy)
/-! X9_isPrice -/
theorem dX9_isPrice_0 : decode cX9_isPrice 0 = .ok (.iload_n 0, 1) := by decide +kernel
theorem dX9_isPrice_1 : decode cX9_isPrice 1 = .ok (.ifCond .lt 13, 3) := by decide +kernel
theorem dX9_isPrice_4 : decode cX9_isPrice 4 = .ok (.iload_n 0, 1) := by decide +kernel
theorem dX9_isPrice_5 : decode cX9_isPrice 5 = .ok (.bipush 10, 2) := by decide +kernel
theorem dX9_isPrice_7 : decode cX9_isPrice 7 = .ok (.if_icmp .ge 7, 3) := by decide +kernel
theorem dX9_isPrice_10 : decode cX9_isPrice 10 = .ok (.iconst 1, 1) := by decide +kernel
theorem dX9_isPrice_11 : decode cX9_isPrice 11 = .ok (.goto 4, 3) := by decide +kernel
theorem dX9_isPrice_14 : decode cX9_isPrice 14 = .ok (.iconst 0, 1) := by decide +kernel
theorem dX9_isPrice_15 : decode cX9_isPrice 15 = .ok (.ireturn, 1) := by decide +kernel
abbrev rm_X9_isPrice : Room := { frames := 0, cells := 0, slots := 0, locals := 0 }
def f_X9_isPrice_14 (h : Mem) : Option Int32 :=
  some 0
set_option maxRecDepth 100000 in
set_option maxHeartbeats 4000000 in
theorem w_X9_isPrice_14 {G : GE} {X : CX} {l : Launch} (hX : Ok G X cX9_isPrice RX9) (hN : xn X = 1) (h : Mem) {P : Int32 → Prop} (hr : Rt G X l yX9_isPrice (some .boolean) rm_X9_isPrice (ppI h P)) (hy : OK (f_X9_isPrice_14 h) P) : AW G X 14 [] [] h 0 0 := by
  unfold f_X9_isPrice_14 at hy
  refine aw_iconst (pc := 14) hX 0 (by decide) dX9_isPrice_14 ?_
  exact aw_zret (pc := 15) hX hr (by decide) (by decide) dX9_isPrice_15 (Or.inl rfl) ⟨rfl, _, rfl, hy.s⟩
def f_X9_isPrice (h : Mem) (v0 : Int32) : Option Int32 :=
  (if v0 < 0 then f_X9_isPrice_14 h else (if 10 ≤ v0 then f_X9_isPrice_14 h else some 1))
set_option maxRecDepth 100000 in
set_option maxHeartbeats 4000000 in
theorem w_X9_isPrice {G : GE} {X : CX} {l : Launch} (hX : Ok G X cX9_isPrice RX9) (hN : xn X = 1) (h : Mem) {P : Int32 → Prop} (hr : Rt G X l yX9_isPrice (some .boolean) rm_X9_isPrice (ppI h P)) (v0 : Int32) (hy : OK (f_X9_isPrice h v0) P) : AW G X 0 [(0, vI v0)] [] h 0 0 := by
  unfold f_X9_isPrice at hy
  refine aw_iloadn (pc := 0) hX 0 rfl dX9_isPrice_0 ?_
  refine aw_if_lt (pc := 1) hX 14 (by decide) dX9_isPrice_1 (fun hc9 => ?_) (fun hc9 => ?_)
  · have hy := hy.t hc9
    refine AW.sub [] rfl ?_
    exact w_X9_isPrice_14 hX hN _ hr hy
  · have hy := hy.f hc9
    refine aw_iloadn (pc := 4) hX 0 rfl dX9_isPrice_4 ?_
    refine aw_bipush (pc := 5) hX 10 (by decide) dX9_isPrice_5 ?_
    refine aw_ic_ge (pc := 7) hX 14 (by decide) dX9_isPrice_7 (fun hc9 => ?_) (fun hc9 => ?_)
    · have hy := hy.t hc9
      refine AW.sub [] rfl ?_
      exact w_X9_isPrice_14 hX hN _ hr hy
    · have hy := hy.f hc9
      refine aw_iconst (pc := 10) hX 1 (by decide) dX9_isPrice_10 ?_
      refine aw_goto (pc := 11) hX 15 (by decide) dX9_isPrice_11 ?_
      exact aw_zret (pc := 15) hX hr (by decide) (by decide) dX9_isPrice_15 (Or.inr rfl) ⟨rfl, _, rfl, hy.s⟩
theorem con_X9_isPrice (l : Launch) (G : GE) (h : Mem) (v0 : Int32) {P : Int32 → Prop} (hy : OK (f_X9_isPrice h v0) P) : Con l G yX9_isPrice cX9_isPrice 1 (some .boolean) rm_X9_isPrice [vI v0] h (ppI h P) := Con.of (by decide) (Nat.le_of_ble_eq_true rfl) (fun X hX hr hN => w_X9_isPrice hX hN h hr v0 hy)
