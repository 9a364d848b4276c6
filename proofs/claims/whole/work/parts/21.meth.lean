/-! X13_couldBe -/
theorem dX13_couldBe_0 : decode cX13_couldBe 0 = .ok (.iconst 0, 1) := by decide +kernel
theorem dX13_couldBe_1 : decode cX13_couldBe 1 = .ok (.istore_n 2, 1) := by decide +kernel
theorem dX13_couldBe_2 : decode cX13_couldBe 2 = .ok (.iconst 0, 1) := by decide +kernel
theorem dX13_couldBe_3 : decode cX13_couldBe 3 = .ok (.istore_n 3, 1) := by decide +kernel
theorem dX13_couldBe_4 : decode cX13_couldBe 4 = .ok (.iload_n 3, 1) := by decide +kernel
theorem dX13_couldBe_5 : decode cX13_couldBe 5 = .ok (.aload_n 0, 1) := by decide +kernel
theorem dX13_couldBe_6 : decode cX13_couldBe 6 = .ok (.getfield 338, 3) := by decide +kernel
theorem dX13_couldBe_9 : decode cX13_couldBe 9 = .ok (.getfield 197, 3) := by decide +kernel
theorem dX13_couldBe_12 : decode cX13_couldBe 12 = .ok (.if_icmp .ge 28, 3) := by decide +kernel
theorem dX13_couldBe_15 : decode cX13_couldBe 15 = .ok (.iload_n 2, 1) := by decide +kernel
theorem dX13_couldBe_16 : decode cX13_couldBe 16 = .ok (.aload_n 0, 1) := by decide +kernel
theorem dX13_couldBe_17 : decode cX13_couldBe 17 = .ok (.iload_n 1, 1) := by decide +kernel
theorem dX13_couldBe_18 : decode cX13_couldBe 18 = .ok (.iload_n 3, 1) := by decide +kernel
theorem dX13_couldBe_19 : decode cX13_couldBe 19 = .ok (.invokevirtual 481, 3) := by decide +kernel
theorem dX13_couldBe_22 : decode cX13_couldBe 22 = .ok (.ifCond .le 9, 3) := by decide +kernel
theorem dX13_couldBe_25 : decode cX13_couldBe 25 = .ok (.iconst 1, 1) := by decide +kernel
theorem dX13_couldBe_26 : decode cX13_couldBe 26 = .ok (.iload_n 3, 1) := by decide +kernel
theorem dX13_couldBe_27 : decode cX13_couldBe 27 = .ok (.ishl, 1) := by decide +kernel
theorem dX13_couldBe_28 : decode cX13_couldBe 28 = .ok (.goto 4, 3) := by decide +kernel
theorem dX13_couldBe_31 : decode cX13_couldBe 31 = .ok (.iconst 0, 1) := by decide +kernel
theorem dX13_couldBe_32 : decode cX13_couldBe 32 = .ok (.ior, 1) := by decide +kernel
theorem dX13_couldBe_33 : decode cX13_couldBe 33 = .ok (.istore_n 2, 1) := by decide +kernel
theorem dX13_couldBe_34 : decode cX13_couldBe 34 = .ok (.iinc 3 1, 3) := by decide +kernel
theorem dX13_couldBe_37 : decode cX13_couldBe 37 = .ok (.goto (-33), 3) := by decide +kernel
theorem dX13_couldBe_40 : decode cX13_couldBe 40 = .ok (.iload_n 2, 1) := by decide +kernel
theorem dX13_couldBe_41 : decode cX13_couldBe 41 = .ok (.ireturn, 1) := by decide +kernel
abbrev rm_X13_couldBe : Room := { frames := 1, cells := 0, slots := 0, locals := 22 }
def f_X13_couldBe_32 (h : Mem) (v0 : Nat) (v1 : Int32) (v3 : Int32) (s0 : Int32) (s1 : Int32) : Option ((Int32 × Int32) ⊕ Int32) :=
  some (.inl ((s0 ||| s1), (v3 + 1)))
set_option maxRecDepth 100000 in
set_option maxHeartbeats 4000000 in
theorem w_X13_couldBe_32 {G : GE} {X : CX} {l : Launch} (hX : Ok G X cX13_couldBe RX13) (hN : xn X = 4) (h : Mem) {P0 : Int32 → Prop} (hr : Rt G X l yX13_couldBe (some .int) rm_X13_couldBe (ppI h P0))  (v0 : Nat) (v1 : Int32) {P : ((Int32 × Int32) ⊕ Int32) → Prop} (hc : ∀ s, P (.inl s) → AW G X 4 [(0, vR v0), (1, vI v1), (2, vI s.1), (3, vI s.2)] [] h 0 0) (he0 : ∀ e, P (.inr e) → AW G X 40 [(2, vI e)] [] h 0 0) (v3 : Int32) (s0 : Int32) (s1 : Int32) (hy : OK (f_X13_couldBe_32 h v0 v1 v3 s0 s1) P) : AW G X 32 [(0, vR v0), (1, vI v1), (3, vI v3)] [vI s1, vI s0] h 0 0 := by
  unfold f_X13_couldBe_32 at hy
  refine aw_ior (pc := 32) hX dX13_couldBe_32 ?_
  refine aw_istoren (pc := 33) hX [(2, vI (s0 ||| s1)), (0, vR v0), (1, vI v1), (3, vI v3)] rfl (lt_n hN (by decide)) dX13_couldBe_33 ?_
  refine aw_iinc (pc := 34) hX 1 (by decide) 3 rfl [(3, vI (v3 + 1)), (2, vI (s0 ||| s1)), (0, vR v0), (1, vI v1)] rfl (lt_n hN (by decide)) dX13_couldBe_34 ?_
  refine aw_goto (pc := 37) hX 4 (by decide) dX13_couldBe_37 ?_
  refine AW.sub [2, 3, 1, 0] rfl ?_
  exact hc ((s0 ||| s1), (v3 + 1)) hy.s
def b_X13_couldBe_4 (h : Mem) (v0 : Nat) (v1 : Int32) (v2 : Int32) (v3 : Int32) : Option ((Int32 × Int32) ⊕ Int32) :=
  (gR h v0 3 11).bind fun r1 => (gI h r1 2 10).bind fun x2 => (if x2 ≤ v3 then some (.inr v2) else (f_X13_rowsBy h v0 v1 v3).bind fun x3 => (if x3 ≤ 0 then f_X13_couldBe_32 h v0 v1 v3 v2 0 else f_X13_couldBe_32 h v0 v1 v3 v2 ((1 : Int32) <<< (v3 &&& 31))))
set_option maxRecDepth 100000 in
set_option maxHeartbeats 4000000 in
theorem wb_X13_couldBe_4 {G : GE} {X : CX} {l : Launch} (hX : Ok G X cX13_couldBe RX13) (hN : xn X = 4) (h : Mem) {P0 : Int32 → Prop} (hr : Rt G X l yX13_couldBe (some .int) rm_X13_couldBe (ppI h P0))  (v0 : Nat) (v1 : Int32) {P : ((Int32 × Int32) ⊕ Int32) → Prop} (hc : ∀ s, P (.inl s) → AW G X 4 [(0, vR v0), (1, vI v1), (2, vI s.1), (3, vI s.2)] [] h 0 0) (he0 : ∀ e, P (.inr e) → AW G X 40 [(2, vI e)] [] h 0 0) (v2 : Int32) (v3 : Int32) (hy : OK (b_X13_couldBe_4 h v0 v1 v2 v3) P) : AW G X 4 [(0, vR v0), (1, vI v1), (2, vI v2), (3, vI v3)] [] h 0 0 := by
  unfold b_X13_couldBe_4 at hy
  refine aw_iloadn (pc := 4) hX 3 rfl dX13_couldBe_4 ?_
  refine aw_aloadn (pc := 5) hX 0 rfl dX13_couldBe_5 ?_
  refine aw_gR (pc := 6) hX hy fl_X13_338 (fun _ _ => rfl) dX13_couldBe_6 (fun r1 hy => ?_)
  refine aw_gI (pc := 9) hX hy fl_X13_197 (fun _ _ => rfl) dX13_couldBe_9 (fun x2 hy => ?_)
  refine aw_ic_ge (pc := 12) hX 40 (by decide) dX13_couldBe_12 (fun hc9 => ?_) (fun hc9 => ?_)
  · have hy := hy.t hc9
    refine AW.sub [2] rfl ?_
    exact he0 v2 hy.s
  · have hy := hy.f hc9
    refine aw_iloadn (pc := 15) hX 2 rfl dX13_couldBe_15 ?_
    refine aw_aloadn (pc := 16) hX 0 rfl dX13_couldBe_16 ?_
    refine aw_iloadn (pc := 17) hX 1 rfl dX13_couldBe_17 ?_
    refine aw_iloadn (pc := 18) hX 3 rfl dX13_couldBe_18 ?_
    refine aw_callV (pc := 19) (st := [vI v2]) (a := v0) hX [vI v1, vI v3] (con_X13_rowsBy _ G _ v0 v1 v3 hy.bd) mc_X13_rowsBy ml_X13_481 im_X13_rowsBy se_X13_rowsBy (by decide) hy.bd.kd rfl (rm_of hr (by decide)) (Nat.le_of_ble_eq_true rfl) rfl dX13_couldBe_19 (kpI rfl rfl (fun x3 hy => ?_))
    refine aw_if_le (pc := 22) hX 31 (by decide) dX13_couldBe_22 (fun hc9 => ?_) (fun hc9 => ?_)
    · have hy := hy.t hc9
      refine aw_iconst (pc := 31) hX 0 (by decide) dX13_couldBe_31 ?_
      refine AW.sub [0, 1, 3] rfl ?_
      exact w_X13_couldBe_32 hX hN _ hr _ _ hc he0 v3 v2 0 hy
    · have hy := hy.f hc9
      refine aw_iconst (pc := 25) hX 1 (by decide) dX13_couldBe_25 ?_
      refine aw_iloadn (pc := 26) hX 3 rfl dX13_couldBe_26 ?_
      refine aw_ishl (pc := 27) hX dX13_couldBe_27 ?_
      refine aw_goto (pc := 28) hX 32 (by decide) dX13_couldBe_28 ?_
      refine AW.sub [0, 1, 3] rfl ?_
      exact w_X13_couldBe_32 hX hN _ hr _ _ hc he0 v3 v2 ((1 : Int32) <<< (v3 &&& 31)) hy
theorem wl_X13_couldBe_4 {G : GE} {X : CX} {l : Launch} (hX : Ok G X cX13_couldBe RX13) (hN : xn X = 4) (h : Mem) {P0 : Int32 → Prop} (hr : Rt G X l yX13_couldBe (some .int) rm_X13_couldBe (ppI h P0)) (v0 : Nat) (v1 : Int32) {P : (Int32) → Prop} (he0 : ∀ e, P e → AW G X 40 [(2, vI e)] [] h 0 0) : ∀ (n : Nat) (s : Int32 × Int32), OK (iter (fun (s : Int32 × Int32) => b_X13_couldBe_4 h v0 v1 s.1 s.2) n s) P → AW G X 4 [(0, vR v0), (1, vI v1), (2, vI s.1), (3, vI s.2)] [] h 0 0 := by
  intro n
  induction n with
  | zero => exact fun s hy => hy.it0.elim
  | succ n ih =>
    intro s hy
    exact wb_X13_couldBe_4 hX hN h hr v0 v1 (fun s hs => ih s hs) (fun e hs => he0 e hs) s.1 s.2 hy.it
def f_X13_couldBe (h : Mem) (v0 : Nat) (v1 : Int32) : Option Int32 :=
  (ck h v0 11).bind fun _ => (iter (fun (s : Int32 × Int32) => b_X13_couldBe_4 h v0 v1 s.1 s.2) FU (0, 0)).bind (fun q4 => some q4)
set_option maxRecDepth 100000 in
set_option maxHeartbeats 4000000 in
theorem w_X13_couldBe {G : GE} {X : CX} {l : Launch} (hX : Ok G X cX13_couldBe RX13) (hN : xn X = 4) (h : Mem) {P : Int32 → Prop} (hr : Rt G X l yX13_couldBe (some .int) rm_X13_couldBe (ppI h P)) (v0 : Nat) (v1 : Int32) (hy : OK (f_X13_couldBe h v0 v1) P) : AW G X 0 [(0, vR v0), (1, vI v1)] [] h 0 0 := by
  unfold f_X13_couldBe at hy
  have hkd := hy.kd
  have hy := hy.kb
  refine aw_iconst (pc := 0) hX 0 (by decide) dX13_couldBe_0 ?_
  refine aw_istoren (pc := 1) hX [(2, vI 0), (0, vR v0), (1, vI v1)] rfl (lt_n hN (by decide)) dX13_couldBe_1 ?_
  refine aw_iconst (pc := 2) hX 0 (by decide) dX13_couldBe_2 ?_
  refine aw_istoren (pc := 3) hX [(3, vI 0), (2, vI 0), (0, vR v0), (1, vI v1)] rfl (lt_n hN (by decide)) dX13_couldBe_3 ?_
  refine AW.sub [2, 3, 1, 0] rfl ?_
  refine wl_X13_couldBe_4 hX hN _ hr v0 v1 ?_ FU (0, 0) hy.bd
  · intro q4 hy
    refine aw_iloadn (pc := 40) hX 0 rfl dX13_couldBe_40 ?_
    exact aw_iret (pc := 41) hX hr (by decide) (by decide) dX13_couldBe_41 ⟨rfl, _, rfl, hy.s⟩
theorem con_X13_couldBe (l : Launch) (G : GE) (h : Mem) (v0 : Nat) (v1 : Int32) {P : Int32 → Prop} (hy : OK (f_X13_couldBe h v0 v1) P) : Con l G yX13_couldBe cX13_couldBe 4 (some .int) rm_X13_couldBe [vR v0, vI v1] h (ppI h P) := Con.of (by decide) (Nat.le_of_ble_eq_true rfl) (fun X hX hr hN => w_X13_couldBe hX hN h hr v0 v1 hy)
/-! X13_isHearing -/
theorem dX13_isHearing_0 : decode cX13_isHearing 0 = .ok (.aload_n 0, 1) := by decide +kernel
theorem dX13_isHearing_1 : decode cX13_isHearing 1 = .ok (.getfield 338, 3) := by decide +kernel
theorem dX13_isHearing_4 : decode cX13_isHearing 4 = .ok (.ifnull 22, 3) := by decide +kernel
theorem dX13_isHearing_7 : decode cX13_isHearing 7 = .ok (.iload_n 1, 1) := by decide +kernel
theorem dX13_isHearing_8 : decode cX13_isHearing 8 = .ok (.ifCond .lt 18, 3) := by decide +kernel
theorem dX13_isHearing_11 : decode cX13_isHearing 11 = .ok (.iload_n 1, 1) := by decide +kernel
theorem dX13_isHearing_12 : decode cX13_isHearing 12 = .ok (.aload_n 0, 1) := by decide +kernel
theorem dX13_isHearing_13 : decode cX13_isHearing 13 = .ok (.getfield 338, 3) := by decide +kernel
theorem dX13_isHearing_16 : decode cX13_isHearing 16 = .ok (.getfield 326, 3) := by decide +kernel
theorem dX13_isHearing_19 : decode cX13_isHearing 19 = .ok (.if_icmp .gt 7, 3) := by decide +kernel
theorem dX13_isHearing_22 : decode cX13_isHearing 22 = .ok (.iconst 1, 1) := by decide +kernel
theorem dX13_isHearing_23 : decode cX13_isHearing 23 = .ok (.goto 4, 3) := by decide +kernel
theorem dX13_isHearing_26 : decode cX13_isHearing 26 = .ok (.iconst 0, 1) := by decide +kernel
theorem dX13_isHearing_27 : decode cX13_isHearing 27 = .ok (.ireturn, 1) := by decide +kernel
abbrev rm_X13_isHearing : Room := { frames := 0, cells := 0, slots := 0, locals := 0 }
def f_X13_isHearing_26 (h : Mem) : Option Int32 :=
  some 0
set_option maxRecDepth 100000 in
set_option maxHeartbeats 4000000 in
theorem w_X13_isHearing_26 {G : GE} {X : CX} {l : Launch} (hX : Ok G X cX13_isHearing RX13) (hN : xn X = 2) (h : Mem) {P : Int32 → Prop} (hr : Rt G X l yX13_isHearing (some .boolean) rm_X13_isHearing (ppI h P)) (hy : OK (f_X13_isHearing_26 h) P) : AW G X 26 [] [] h 0 0 := by
  unfold f_X13_isHearing_26 at hy
  refine aw_iconst (pc := 26) hX 0 (by decide) dX13_isHearing_26 ?_
  exact aw_zret (pc := 27) hX hr (by decide) (by decide) dX13_isHearing_27 (Or.inl rfl) ⟨rfl, _, rfl, hy.s⟩
def f_X13_isHearing (h : Mem) (v0 : Nat) (v1 : Int32) : Option Int32 :=
  (ck h v0 11).bind fun _ => (gR h v0 3 11).bind fun r1 => (if r1 = 0 then f_X13_isHearing_26 h else (if v1 < 0 then f_X13_isHearing_26 h else (gR h v0 3 11).bind fun r2 => (gI h r2 8 10).bind fun x3 => (if x3 < v1 then f_X13_isHearing_26 h else some 1)))
set_option maxRecDepth 100000 in
set_option maxHeartbeats 4000000 in
theorem w_X13_isHearing {G : GE} {X : CX} {l : Launch} (hX : Ok G X cX13_isHearing RX13) (hN : xn X = 2) (h : Mem) {P : Int32 → Prop} (hr : Rt G X l yX13_isHearing (some .boolean) rm_X13_isHearing (ppI h P)) (v0 : Nat) (v1 : Int32) (hy : OK (f_X13_isHearing h v0 v1) P) : AW G X 0 [(0, vR v0), (1, vI v1)] [] h 0 0 := by
  unfold f_X13_isHearing at hy
  have hkd := hy.kd
  have hy := hy.kb
  refine aw_aloadn (pc := 0) hX 0 rfl dX13_isHearing_0 ?_
  refine aw_gR (pc := 1) hX hy fl_X13_338 (fun _ _ => rfl) dX13_isHearing_1 (fun r1 hy => ?_)
  refine aw_ifnull (pc := 4) hX 26 (by decide) dX13_isHearing_4 (fun hc9 => ?_) (fun hc9 => ?_)
  · have hy := hy.t hc9
    refine AW.sub [] rfl ?_
    exact w_X13_isHearing_26 hX hN _ hr hy
  · have hy := hy.f hc9
    refine aw_iloadn (pc := 7) hX 1 rfl dX13_isHearing_7 ?_
    refine aw_if_lt (pc := 8) hX 26 (by decide) dX13_isHearing_8 (fun hc9 => ?_) (fun hc9 => ?_)
    · have hy := hy.t hc9
      refine AW.sub [] rfl ?_
      exact w_X13_isHearing_26 hX hN _ hr hy
    · have hy := hy.f hc9
      refine aw_iloadn (pc := 11) hX 1 rfl dX13_isHearing_11 ?_
      refine aw_aloadn (pc := 12) hX 0 rfl dX13_isHearing_12 ?_
      refine aw_gR (pc := 13) hX hy fl_X13_338 (fun _ _ => rfl) dX13_isHearing_13 (fun r2 hy => ?_)
      refine aw_gI (pc := 16) hX hy fl_X13_326 (fun _ _ => rfl) dX13_isHearing_16 (fun x3 hy => ?_)
      refine aw_ic_gt (pc := 19) hX 26 (by decide) dX13_isHearing_19 (fun hc9 => ?_) (fun hc9 => ?_)
      · have hy := hy.t hc9
        refine AW.sub [] rfl ?_
        exact w_X13_isHearing_26 hX hN _ hr hy
      · have hy := hy.f hc9
        refine aw_iconst (pc := 22) hX 1 (by decide) dX13_isHearing_22 ?_
        refine aw_goto (pc := 23) hX 27 (by decide) dX13_isHearing_23 ?_
        exact aw_zret (pc := 27) hX hr (by decide) (by decide) dX13_isHearing_27 (Or.inr rfl) ⟨rfl, _, rfl, hy.s⟩
theorem con_X13_isHearing (l : Launch) (G : GE) (h : Mem) (v0 : Nat) (v1 : Int32) {P : Int32 → Prop} (hy : OK (f_X13_isHearing h v0 v1) P) : Con l G yX13_isHearing cX13_isHearing 2 (some .boolean) rm_X13_isHearing [vR v0, vI v1] h (ppI h P) := Con.of (by decide) (Nat.le_of_ble_eq_true rfl) (fun X hX hr hN => w_X13_isHearing hX hN h hr v0 v1 hy)
/-! X13_could -/
theorem dX13_could_0 : decode cX13_could 0 = .ok (.aload_n 0, 1) := by decide +kernel
theorem dX13_could_1 : decode cX13_could 1 = .ok (.iconst 0, 1) := by decide +kernel
theorem dX13_could_2 : decode cX13_could 2 = .ok (.putfield 51, 3) := by decide +kernel
theorem dX13_could_5 : decode cX13_could 5 = .ok (.aload_n 0, 1) := by decide +kernel
theorem dX13_could_6 : decode cX13_could 6 = .ok (.iload_n 1, 1) := by decide +kernel
theorem dX13_could_7 : decode cX13_could 7 = .ok (.invokevirtual 484, 3) := by decide +kernel
theorem dX13_could_10 : decode cX13_could 10 = .ok (.ifCond .ne 9, 3) := by decide +kernel
theorem dX13_could_13 : decode cX13_could 13 = .ok (.aload_n 0, 1) := by decide +kernel
theorem dX13_could_14 : decode cX13_could 14 = .ok (.iconst 1, 1) := by decide +kernel
theorem dX13_could_15 : decode cX13_could 15 = .ok (.invokevirtual 57, 3) := by decide +kernel
theorem dX13_could_18 : decode cX13_could 18 = .ok (.ireturn, 1) := by decide +kernel
theorem dX13_could_19 : decode cX13_could 19 = .ok (.aload_n 0, 1) := by decide +kernel
theorem dX13_could_20 : decode cX13_could 20 = .ok (.invokevirtual 478, 3) := by decide +kernel
theorem dX13_could_23 : decode cX13_could 23 = .ok (.aload_n 0, 1) := by decide +kernel
theorem dX13_could_24 : decode cX13_could 24 = .ok (.aload_n 0, 1) := by decide +kernel
theorem dX13_could_25 : decode cX13_could 25 = .ok (.iload_n 1, 1) := by decide +kernel
theorem dX13_could_26 : decode cX13_could 26 = .ok (.invokevirtual 487, 3) := by decide +kernel
theorem dX13_could_29 : decode cX13_could 29 = .ok (.invokevirtual 61, 3) := by decide +kernel
theorem dX13_could_32 : decode cX13_could 32 = .ok (.ireturn, 1) := by decide +kernel
abbrev rm_X13_could : Room := { frames := 3, cells := 0, slots := 0, locals := 69 }
def f_X13_could (h : Mem) (v0 : Nat) (v1 : Int32) : Option (Int32 × Mem) :=
  (ck h v0 11).bind fun _ => (pI h v0 0 11 0).bind fun h1 => (f_X13_isHearing h1 v0 v1).bind fun x2 => (if x2 = 0 then (f_X13_refused h1 v0 1).bind fun q10 => some (q10.1, q10.2) else (f_X13_strangers h1 v0).bind fun h3 => (f_X13_couldBe h3 v0 v1).bind fun x4 => (f_X13_good h3 v0 x4).bind fun q7 => some (q7.1, q7.2))
set_option maxRecDepth 100000 in
set_option maxHeartbeats 4000000 in
theorem w_X13_could {G : GE} {X : CX} {l : Launch} (hX : Ok G X cX13_could RX13) (hN : xn X = 2) {P : (Int32 × Mem) → Prop} (hr : Rt G X l yX13_could (some .int) rm_X13_could (pmI P)) (h : Mem) (v0 : Nat) (v1 : Int32) (hy : OK (f_X13_could h v0 v1) P) : AW G X 0 [(0, vR v0), (1, vI v1)] [] h 0 0 := by
  unfold f_X13_could at hy
  have hkd := hy.kd
  have hy := hy.kb
  refine aw_aloadn (pc := 0) hX 0 rfl dX13_could_0 ?_
  refine aw_iconst (pc := 1) hX 0 (by decide) dX13_could_1 ?_
  refine aw_pI (pc := 2) hX hy fl_X13_51 rfl (Or.inl rfl) dX13_could_2 (fun h1 hy => ?_)
  refine aw_aloadn (pc := 5) hX 0 rfl dX13_could_5 ?_
  refine aw_iloadn (pc := 6) hX 1 rfl dX13_could_6 ?_
  refine aw_callV (pc := 7) (st := []) (a := v0) hX [vI v1] (con_X13_isHearing _ G _ v0 v1 hy.bd) mc_X13_isHearing ml_X13_484 im_X13_isHearing se_X13_isHearing (by decide) hy.bd.kd rfl (rm_of hr (by decide)) (Nat.le_of_ble_eq_true rfl) rfl dX13_could_7 (kpI rfl rfl (fun x2 hy => ?_))
  refine aw_if_ne (pc := 10) hX 19 (by decide) dX13_could_10 (fun hc9 => ?_) (fun hc9 => ?_)
  · have hy := hy.f hc9
    refine aw_aloadn (pc := 19) hX 0 rfl dX13_could_19 ?_
    refine aw_callV (pc := 20) (st := []) (a := v0) hX [] (con_X13_strangers _ G _ v0 hy.bd) mc_X13_strangers ml_X13_478 im_X13_strangers se_X13_strangers (by decide) hy.bd.kd rfl (rm_of hr (by decide)) (Nat.le_of_ble_eq_true rfl) rfl dX13_could_20 (kmV rfl rfl (fun h3 hy => ?_))
    refine aw_aloadn (pc := 23) hX 0 rfl dX13_could_23 ?_
    refine aw_aloadn (pc := 24) hX 0 rfl dX13_could_24 ?_
    refine aw_iloadn (pc := 25) hX 1 rfl dX13_could_25 ?_
    refine aw_callV (pc := 26) (st := [vR v0]) (a := v0) hX [vI v1] (con_X13_couldBe _ G _ v0 v1 hy.bd) mc_X13_couldBe ml_X13_487 im_X13_couldBe se_X13_couldBe (by decide) hy.bd.kd rfl (rm_of hr (by decide)) (Nat.le_of_ble_eq_true rfl) rfl dX13_could_26 (kpI rfl rfl (fun x4 hy => ?_))
    refine aw_callV (pc := 29) (st := []) (a := v0) hX [vI x4] (con_X13_good _ G _ v0 x4 hy.bd) mc_X13_good ml_X13_61 im_X13_good se_X13_good (by decide) hy.bd.kd rfl (rm_of hr (by decide)) (Nat.le_of_ble_eq_true rfl) rfl dX13_could_29 (kmI rfl rfl (fun q7 hy => ?_))
    exact aw_iret (pc := 32) hX hr (by decide) (by decide) dX13_could_32 ⟨_, rfl, hy.s⟩
  · have hy := hy.t hc9
    refine aw_aloadn (pc := 13) hX 0 rfl dX13_could_13 ?_
    refine aw_iconst (pc := 14) hX 1 (by decide) dX13_could_14 ?_
    refine aw_callV (pc := 15) (st := []) (a := v0) hX [vI 1] (con_X13_refused _ G _ v0 1 hy.bd) mc_X13_refused ml_X13_57 im_X13_refused se_X13_refused (by decide) hy.bd.kd rfl (rm_of hr (by decide)) (Nat.le_of_ble_eq_true rfl) rfl dX13_could_15 (kmI rfl rfl (fun q10 hy => ?_))
    exact aw_iret (pc := 18) hX hr (by decide) (by decide) dX13_could_18 ⟨_, rfl, hy.s⟩
theorem con_X13_could (l : Launch) (G : GE) (h : Mem) (v0 : Nat) (v1 : Int32) {P : (Int32 × Mem) → Prop} (hy : OK (f_X13_could h v0 v1) P) : Con l G yX13_could cX13_could 2 (some .int) rm_X13_could [vR v0, vI v1] h (pmI P) := Con.of (by decide) (Nat.le_of_ble_eq_true rfl) (fun X hX hr hN => w_X13_could hX hN hr h v0 v1 hy)
/-! X13_surely -/
theorem dX13_surely_0 : decode cX13_surely 0 = .ok (.aload_n 0, 1) := by decide +kernel
theorem dX13_surely_1 : decode cX13_surely 1 = .ok (.iconst 0, 1) := by decide +kernel
theorem dX13_surely_2 : decode cX13_surely 2 = .ok (.putfield 51, 3) := by decide +kernel
theorem dX13_surely_5 : decode cX13_surely 5 = .ok (.aload_n 0, 1) := by decide +kernel
theorem dX13_surely_6 : decode cX13_surely 6 = .ok (.iload_n 1, 1) := by decide +kernel
theorem dX13_surely_7 : decode cX13_surely 7 = .ok (.invokevirtual 484, 3) := by decide +kernel
theorem dX13_surely_10 : decode cX13_surely 10 = .ok (.ifCond .ne 9, 3) := by decide +kernel
theorem dX13_surely_13 : decode cX13_surely 13 = .ok (.aload_n 0, 1) := by decide +kernel
theorem dX13_surely_14 : decode cX13_surely 14 = .ok (.iconst 1, 1) := by decide +kernel
theorem dX13_surely_15 : decode cX13_surely 15 = .ok (.invokevirtual 57, 3) := by decide +kernel
theorem dX13_surely_18 : decode cX13_surely 18 = .ok (.ireturn, 1) := by decide +kernel
theorem dX13_surely_19 : decode cX13_surely 19 = .ok (.aload_n 0, 1) := by decide +kernel
theorem dX13_surely_20 : decode cX13_surely 20 = .ok (.invokevirtual 478, 3) := by decide +kernel
theorem dX13_surely_23 : decode cX13_surely 23 = .ok (.iconst 0, 1) := by decide +kernel
theorem dX13_surely_24 : decode cX13_surely 24 = .ok (.istore_n 2, 1) := by decide +kernel
theorem dX13_surely_25 : decode cX13_surely 25 = .ok (.iload_n 2, 1) := by decide +kernel
theorem dX13_surely_26 : decode cX13_surely 26 = .ok (.aload_n 0, 1) := by decide +kernel
theorem dX13_surely_27 : decode cX13_surely 27 = .ok (.getfield 338, 3) := by decide +kernel
theorem dX13_surely_30 : decode cX13_surely 30 = .ok (.getfield 197, 3) := by decide +kernel
theorem dX13_surely_33 : decode cX13_surely 33 = .ok (.if_icmp .ge 26, 3) := by decide +kernel
theorem dX13_surely_36 : decode cX13_surely 36 = .ok (.aload_n 0, 1) := by decide +kernel
theorem dX13_surely_37 : decode cX13_surely 37 = .ok (.iload_n 1, 1) := by decide +kernel
theorem dX13_surely_38 : decode cX13_surely 38 = .ok (.invokevirtual 487, 3) := by decide +kernel
theorem dX13_surely_41 : decode cX13_surely 41 = .ok (.iconst 1, 1) := by decide +kernel
theorem dX13_surely_42 : decode cX13_surely 42 = .ok (.iload_n 2, 1) := by decide +kernel
theorem dX13_surely_43 : decode cX13_surely 43 = .ok (.ishl, 1) := by decide +kernel
theorem dX13_surely_44 : decode cX13_surely 44 = .ok (.if_icmp .ne 9, 3) := by decide +kernel
theorem dX13_surely_47 : decode cX13_surely 47 = .ok (.aload_n 0, 1) := by decide +kernel
theorem dX13_surely_48 : decode cX13_surely 48 = .ok (.iload_n 2, 1) := by decide +kernel
theorem dX13_surely_49 : decode cX13_surely 49 = .ok (.invokevirtual 61, 3) := by decide +kernel
theorem dX13_surely_52 : decode cX13_surely 52 = .ok (.ireturn, 1) := by decide +kernel
theorem dX13_surely_53 : decode cX13_surely 53 = .ok (.iinc 2 1, 3) := by decide +kernel
theorem dX13_surely_56 : decode cX13_surely 56 = .ok (.goto (-31), 3) := by decide +kernel
theorem dX13_surely_59 : decode cX13_surely 59 = .ok (.aload_n 0, 1) := by decide +kernel
theorem dX13_surely_60 : decode cX13_surely 60 = .ok (.bipush (-2), 2) := by decide +kernel
theorem dX13_surely_62 : decode cX13_surely 62 = .ok (.invokevirtual 61, 3) := by decide +kernel
theorem dX13_surely_65 : decode cX13_surely 65 = .ok (.ireturn, 1) := by decide +kernel
abbrev rm_X13_surely : Room := { frames := 3, cells := 0, slots := 0, locals := 69 }
def b_X13_surely_25 (h : Mem) (v0 : Nat) (v1 : Int32) (v2 : Int32) : Option (Int32 ⊕ (Int32 ⊕ Unit)) :=
  (gR h v0 3 11).bind fun r4 => (gI h r4 2 10).bind fun x5 => (if x5 ≤ v2 then some (.inr (.inr ())) else (f_X13_couldBe h v0 v1).bind fun x6 => (if x6 = ((1 : Int32) <<< (v2 &&& 31)) then some (.inr (.inl v2)) else some (.inl (v2 + 1))))
set_option maxRecDepth 100000 in
set_option maxHeartbeats 4000000 in
theorem wb_X13_surely_25 {G : GE} {X : CX} {l : Launch} (hX : Ok G X cX13_surely RX13) (hN : xn X = 3) {P0 : (Int32 × Mem) → Prop} (hr : Rt G X l yX13_surely (some .int) rm_X13_surely (pmI P0)) (h : Mem)  (v0 : Nat) (v1 : Int32) {P : (Int32 ⊕ (Int32 ⊕ Unit)) → Prop} (hc : ∀ s, P (.inl s) → AW G X 25 [(0, vR v0), (1, vI v1), (2, vI s)] [] h 0 0) (he0 : ∀ e, P (.inr (.inl e)) → AW G X 47 [(0, vR v0), (2, vI e)] [] h 0 0) (he1 : ∀ e, P (.inr (.inr e)) → AW G X 59 [(0, vR v0)] [] h 0 0) (v2 : Int32) (hy : OK (b_X13_surely_25 h v0 v1 v2) P) : AW G X 25 [(0, vR v0), (1, vI v1), (2, vI v2)] [] h 0 0 := by
  unfold b_X13_surely_25 at hy
  refine aw_iloadn (pc := 25) hX 2 rfl dX13_surely_25 ?_
  refine aw_aloadn (pc := 26) hX 0 rfl dX13_surely_26 ?_
  refine aw_gR (pc := 27) hX hy fl_X13_338 (fun _ _ => rfl) dX13_surely_27 (fun r4 hy => ?_)
  refine aw_gI (pc := 30) hX hy fl_X13_197 (fun _ _ => rfl) dX13_surely_30 (fun x5 hy => ?_)
  refine aw_ic_ge (pc := 33) hX 59 (by decide) dX13_surely_33 (fun hc9 => ?_) (fun hc9 => ?_)
  · have hy := hy.t hc9
    refine AW.sub [0] rfl ?_
    exact he1 () hy.s
  · have hy := hy.f hc9
    refine aw_aloadn (pc := 36) hX 0 rfl dX13_surely_36 ?_
    refine aw_iloadn (pc := 37) hX 1 rfl dX13_surely_37 ?_
    refine aw_callV (pc := 38) (st := []) (a := v0) hX [vI v1] (con_X13_couldBe _ G _ v0 v1 hy.bd) mc_X13_couldBe ml_X13_487 im_X13_couldBe se_X13_couldBe (by decide) hy.bd.kd rfl (rm_of hr (by decide)) (Nat.le_of_ble_eq_true rfl) rfl dX13_surely_38 (kpI rfl rfl (fun x6 hy => ?_))
    refine aw_iconst (pc := 41) hX 1 (by decide) dX13_surely_41 ?_
    refine aw_iloadn (pc := 42) hX 2 rfl dX13_surely_42 ?_
    refine aw_ishl (pc := 43) hX dX13_surely_43 ?_
    refine aw_ic_ne (pc := 44) hX 53 (by decide) dX13_surely_44 (fun hc9 => ?_) (fun hc9 => ?_)
    · have hy := hy.f hc9
      refine aw_iinc (pc := 53) hX 1 (by decide) 2 rfl [(2, vI (v2 + 1)), (0, vR v0), (1, vI v1)] rfl (lt_n hN (by decide)) dX13_surely_53 ?_
      refine aw_goto (pc := 56) hX 25 (by decide) dX13_surely_56 ?_
      refine AW.sub [1, 2, 0] rfl ?_
      exact hc (v2 + 1) hy.s
    · have hy := hy.t hc9
      refine AW.sub [0, 2] rfl ?_
      exact he0 v2 hy.s
theorem wl_X13_surely_25 {G : GE} {X : CX} {l : Launch} (hX : Ok G X cX13_surely RX13) (hN : xn X = 3) {P0 : (Int32 × Mem) → Prop} (hr : Rt G X l yX13_surely (some .int) rm_X13_surely (pmI P0)) (h : Mem) (v0 : Nat) (v1 : Int32) {P : (Int32 ⊕ Unit) → Prop} (he0 : ∀ e, P (.inl e) → AW G X 47 [(0, vR v0), (2, vI e)] [] h 0 0) (he1 : ∀ e, P (.inr e) → AW G X 59 [(0, vR v0)] [] h 0 0) : ∀ (n : Nat) (s : Int32), OK (iter (fun (s : Int32) => b_X13_surely_25 h v0 v1 s) n s) P → AW G X 25 [(0, vR v0), (1, vI v1), (2, vI s)] [] h 0 0 := by
  intro n
  induction n with
  | zero => exact fun s hy => hy.it0.elim
  | succ n ih =>
    intro s hy
    exact wb_X13_surely_25 hX hN hr h v0 v1 (fun s hs => ih s hs) (fun e hs => he0 e hs) (fun e hs => he1 e hs) s hy.it
def f_X13_surely (h : Mem) (v0 : Nat) (v1 : Int32) : Option (Int32 × Mem) :=
  (ck h v0 11).bind fun _ => (pI h v0 0 11 0).bind fun h1 => (f_X13_isHearing h1 v0 v1).bind fun x2 => (if x2 = 0 then (f_X13_refused h1 v0 1).bind fun q18 => some (q18.1, q18.2) else (f_X13_strangers h1 v0).bind fun h3 => (iter (fun (s : Int32) => b_X13_surely_25 h3 v0 v1 s) FU 0).bind (Sum.elim (fun e8 => (f_X13_good h3 v0 e8).bind fun q11 => some (q11.1, q11.2)) (fun e12 => (f_X13_good h3 v0 (-2)).bind fun q15 => some (q15.1, q15.2))))
set_option maxRecDepth 100000 in
set_option maxHeartbeats 4000000 in
theorem w_X13_surely {G : GE} {X : CX} {l : Launch} (hX : Ok G X cX13_surely RX13) (hN : xn X = 3) {P : (Int32 × Mem) → Prop} (hr : Rt G X l yX13_surely (some .int) rm_X13_surely (pmI P)) (h : Mem) (v0 : Nat) (v1 : Int32) (hy : OK (f_X13_surely h v0 v1) P) : AW G X 0 [(0, vR v0), (1, vI v1)] [] h 0 0 := by
  unfold f_X13_surely at hy
  have hkd := hy.kd
  have hy := hy.kb
  refine aw_aloadn (pc := 0) hX 0 rfl dX13_surely_0 ?_
  refine aw_iconst (pc := 1) hX 0 (by decide) dX13_surely_1 ?_
  refine aw_pI (pc := 2) hX hy fl_X13_51 rfl (Or.inl rfl) dX13_surely_2 (fun h1 hy => ?_)
  refine aw_aloadn (pc := 5) hX 0 rfl dX13_surely_5 ?_
  refine aw_iloadn (pc := 6) hX 1 rfl dX13_surely_6 ?_
  refine aw_callV (pc := 7) (st := []) (a := v0) hX [vI v1] (con_X13_isHearing _ G _ v0 v1 hy.bd) mc_X13_isHearing ml_X13_484 im_X13_isHearing se_X13_isHearing (by decide) hy.bd.kd rfl (rm_of hr (by decide)) (Nat.le_of_ble_eq_true rfl) rfl dX13_surely_7 (kpI rfl rfl (fun x2 hy => ?_))
  refine aw_if_ne (pc := 10) hX 19 (by decide) dX13_surely_10 (fun hc9 => ?_) (fun hc9 => ?_)
  · have hy := hy.f hc9
    refine aw_aloadn (pc := 19) hX 0 rfl dX13_surely_19 ?_
    refine aw_callV (pc := 20) (st := []) (a := v0) hX [] (con_X13_strangers _ G _ v0 hy.bd) mc_X13_strangers ml_X13_478 im_X13_strangers se_X13_strangers (by decide) hy.bd.kd rfl (rm_of hr (by decide)) (Nat.le_of_ble_eq_true rfl) rfl dX13_surely_20 (kmV rfl rfl (fun h3 hy => ?_))
    refine aw_iconst (pc := 23) hX 0 (by decide) dX13_surely_23 ?_
    refine aw_istoren (pc := 24) hX [(2, vI 0), (0, vR v0), (1, vI v1)] rfl (lt_n hN (by decide)) dX13_surely_24 ?_
    refine AW.sub [1, 2, 0] rfl ?_
    refine wl_X13_surely_25 hX hN hr _ v0 v1 ?_ ?_ FU 0 hy.bd
    · intro e8 hy
      refine aw_aloadn (pc := 47) hX 0 rfl dX13_surely_47 ?_
      refine aw_iloadn (pc := 48) hX 1 rfl dX13_surely_48 ?_
      refine aw_callV (pc := 49) (st := []) (a := v0) hX [vI e8] (con_X13_good _ G _ v0 e8 hy.bd) mc_X13_good ml_X13_61 im_X13_good se_X13_good (by decide) hy.bd.kd rfl (rm_of hr (by decide)) (Nat.le_of_ble_eq_true rfl) rfl dX13_surely_49 (kmI rfl rfl (fun q11 hy => ?_))
      exact aw_iret (pc := 52) hX hr (by decide) (by decide) dX13_surely_52 ⟨_, rfl, hy.s⟩
    · intro e12 hy
      refine aw_aloadn (pc := 59) hX 0 rfl dX13_surely_59 ?_
      refine aw_bipush (pc := 60) hX (-2) (by decide) dX13_surely_60 ?_
      refine aw_callV (pc := 62) (st := []) (a := v0) hX [vI (-2)] (con_X13_good _ G _ v0 (-2) hy.bd) mc_X13_good ml_X13_61 im_X13_good se_X13_good (by decide) hy.bd.kd rfl (rm_of hr (by decide)) (Nat.le_of_ble_eq_true rfl) rfl dX13_surely_62 (kmI rfl rfl (fun q15 hy => ?_))
      exact aw_iret (pc := 65) hX hr (by decide) (by decide) dX13_surely_65 ⟨_, rfl, hy.s⟩
  · have hy := hy.t hc9
    refine aw_aloadn (pc := 13) hX 0 rfl dX13_surely_13 ?_
    refine aw_iconst (pc := 14) hX 1 (by decide) dX13_surely_14 ?_
    refine aw_callV (pc := 15) (st := []) (a := v0) hX [vI 1] (con_X13_refused _ G _ v0 1 hy.bd) mc_X13_refused ml_X13_57 im_X13_refused se_X13_refused (by decide) hy.bd.kd rfl (rm_of hr (by decide)) (Nat.le_of_ble_eq_true rfl) rfl dX13_surely_15 (kmI rfl rfl (fun q18 hy => ?_))
    exact aw_iret (pc := 18) hX hr (by decide) (by decide) dX13_surely_18 ⟨_, rfl, hy.s⟩
theorem con_X13_surely (l : Launch) (G : GE) (h : Mem) (v0 : Nat) (v1 : Int32) {P : (Int32 × Mem) → Prop} (hy : OK (f_X13_surely h v0 v1) P) : Con l G yX13_surely cX13_surely 3 (some .int) rm_X13_surely [vR v0, vI v1] h (pmI P) := Con.of (by decide) (Nat.le_of_ble_eq_true rfl) (fun X hX hr hN => w_X13_surely hX hN hr h v0 v1 hy)
/-! X13_toAsk -/
theorem dX13_toAsk_0 : decode cX13_toAsk 0 = .ok (.aload_n 0, 1) := by decide +kernel
theorem dX13_toAsk_1 : decode cX13_toAsk 1 = .ok (.invokevirtual 478, 3) := by decide +kernel
theorem dX13_toAsk_4 : decode cX13_toAsk 4 = .ok (.bipush (-2), 2) := by decide +kernel
theorem dX13_toAsk_6 : decode cX13_toAsk 6 = .ok (.istore_n 1, 1) := by decide +kernel
theorem dX13_toAsk_7 : decode cX13_toAsk 7 = .ok (.aload_n 0, 1) := by decide +kernel
theorem dX13_toAsk_8 : decode cX13_toAsk 8 = .ok (.bipush (-2), 2) := by decide +kernel
theorem dX13_toAsk_10 : decode cX13_toAsk 10 = .ok (.putfield 490, 3) := by decide +kernel
theorem dX13_toAsk_13 : decode cX13_toAsk 13 = .ok (.iconst 0, 1) := by decide +kernel
theorem dX13_toAsk_14 : decode cX13_toAsk 14 = .ok (.istore_n 2, 1) := by decide +kernel
theorem dX13_toAsk_15 : decode cX13_toAsk 15 = .ok (.iload_n 2, 1) := by decide +kernel
theorem dX13_toAsk_16 : decode cX13_toAsk 16 = .ok (.aload_n 0, 1) := by decide +kernel
theorem dX13_toAsk_17 : decode cX13_toAsk 17 = .ok (.getfield 338, 3) := by decide +kernel
theorem dX13_toAsk_20 : decode cX13_toAsk 20 = .ok (.getfield 326, 3) := by decide +kernel
theorem dX13_toAsk_23 : decode cX13_toAsk 23 = .ok (.if_icmp .gt 82, 3) := by decide +kernel
theorem dX13_toAsk_26 : decode cX13_toAsk 26 = .ok (.aload_n 0, 1) := by decide +kernel
theorem dX13_toAsk_27 : decode cX13_toAsk 27 = .ok (.getfield 475, 3) := by decide +kernel
theorem dX13_toAsk_30 : decode cX13_toAsk 30 = .ok (.ifCond .le 75, 3) := by decide +kernel
theorem dX13_toAsk_33 : decode cX13_toAsk 33 = .ok (.iconst 0, 1) := by decide +kernel
theorem dX13_toAsk_34 : decode cX13_toAsk 34 = .ok (.istore_n 3, 1) := by decide +kernel
theorem dX13_toAsk_35 : decode cX13_toAsk 35 = .ok (.iconst 0, 1) := by decide +kernel
theorem dX13_toAsk_36 : decode cX13_toAsk 36 = .ok (.istore 4, 2) := by decide +kernel
theorem dX13_toAsk_38 : decode cX13_toAsk 38 = .ok (.iload 4, 2) := by decide +kernel
theorem dX13_toAsk_40 : decode cX13_toAsk 40 = .ok (.aload_n 0, 1) := by decide +kernel
theorem dX13_toAsk_41 : decode cX13_toAsk 41 = .ok (.getfield 338, 3) := by decide +kernel
theorem dX13_toAsk_44 : decode cX13_toAsk 44 = .ok (.getfield 197, 3) := by decide +kernel
theorem dX13_toAsk_47 : decode cX13_toAsk 47 = .ok (.if_icmp .ge 28, 3) := by decide +kernel
theorem dX13_toAsk_50 : decode cX13_toAsk 50 = .ok (.aload_n 0, 1) := by decide +kernel
theorem dX13_toAsk_51 : decode cX13_toAsk 51 = .ok (.iload_n 2, 1) := by decide +kernel
theorem dX13_toAsk_52 : decode cX13_toAsk 52 = .ok (.iload 4, 2) := by decide +kernel
theorem dX13_toAsk_54 : decode cX13_toAsk 54 = .ok (.invokevirtual 481, 3) := by decide +kernel
theorem dX13_toAsk_57 : decode cX13_toAsk 57 = .ok (.iload_n 3, 1) := by decide +kernel
theorem dX13_toAsk_58 : decode cX13_toAsk 58 = .ok (.if_icmp .le 11, 3) := by decide +kernel
theorem dX13_toAsk_61 : decode cX13_toAsk 61 = .ok (.aload_n 0, 1) := by decide +kernel
theorem dX13_toAsk_62 : decode cX13_toAsk 62 = .ok (.iload_n 2, 1) := by decide +kernel
theorem dX13_toAsk_63 : decode cX13_toAsk 63 = .ok (.iload 4, 2) := by decide +kernel
theorem dX13_toAsk_65 : decode cX13_toAsk 65 = .ok (.invokevirtual 481, 3) := by decide +kernel
theorem dX13_toAsk_68 : decode cX13_toAsk 68 = .ok (.istore_n 3, 1) := by decide +kernel
theorem dX13_toAsk_69 : decode cX13_toAsk 69 = .ok (.iinc 4 1, 3) := by decide +kernel
theorem dX13_toAsk_72 : decode cX13_toAsk 72 = .ok (.goto (-34), 3) := by decide +kernel
theorem dX13_toAsk_75 : decode cX13_toAsk 75 = .ok (.iload_n 1, 1) := by decide +kernel
theorem dX13_toAsk_76 : decode cX13_toAsk 76 = .ok (.bipush (-2), 2) := by decide +kernel
theorem dX13_toAsk_78 : decode cX13_toAsk 78 = .ok (.if_icmp .eq 14, 3) := by decide +kernel
theorem dX13_toAsk_81 : decode cX13_toAsk 81 = .ok (.iload_n 3, 1) := by decide +kernel
theorem dX13_toAsk_82 : decode cX13_toAsk 82 = .ok (.aload_n 0, 1) := by decide +kernel
theorem dX13_toAsk_83 : decode cX13_toAsk 83 = .ok (.getfield 490, 3) := by decide +kernel
theorem dX13_toAsk_86 : decode cX13_toAsk 86 = .ok (.if_icmp .lt 6, 3) := by decide +kernel
theorem dX13_toAsk_89 : decode cX13_toAsk 89 = .ok (.goto 10, 3) := by decide +kernel
theorem dX13_toAsk_92 : decode cX13_toAsk 92 = .ok (.iload_n 2, 1) := by decide +kernel
theorem dX13_toAsk_93 : decode cX13_toAsk 93 = .ok (.istore_n 1, 1) := by decide +kernel
theorem dX13_toAsk_94 : decode cX13_toAsk 94 = .ok (.aload_n 0, 1) := by decide +kernel
theorem dX13_toAsk_95 : decode cX13_toAsk 95 = .ok (.iload_n 3, 1) := by decide +kernel
theorem dX13_toAsk_96 : decode cX13_toAsk 96 = .ok (.putfield 490, 3) := by decide +kernel
theorem dX13_toAsk_99 : decode cX13_toAsk 99 = .ok (.iinc 2 1, 3) := by decide +kernel
theorem dX13_toAsk_102 : decode cX13_toAsk 102 = .ok (.goto (-87), 3) := by decide +kernel
theorem dX13_toAsk_105 : decode cX13_toAsk 105 = .ok (.iload_n 1, 1) := by decide +kernel
theorem dX13_toAsk_106 : decode cX13_toAsk 106 = .ok (.ireturn, 1) := by decide +kernel
abbrev rm_X13_toAsk : Room := { frames := 3, cells := 0, slots := 0, locals := 69 }
def f_X13_toAsk_69 (h : Mem) (v0 : Nat) (v1 : Int32) (v2 : Int32) (v3 : Int32) (v4 : Int32) : Option ((Int32 × Int32) ⊕ Int32) :=
  some (.inl (v3, (v4 + 1)))
set_option maxRecDepth 100000 in
set_option maxHeartbeats 4000000 in
theorem w_X13_toAsk_69 {G : GE} {X : CX} {l : Launch} (hX : Ok G X cX13_toAsk RX13) (hN : xn X = 5) {P0 : (Int32 × Mem) → Prop} (hr : Rt G X l yX13_toAsk (some .int) rm_X13_toAsk (pmI P0)) (h : Mem)  (v0 : Nat) (v1 : Int32) (v2 : Int32) {P : ((Int32 × Int32) ⊕ Int32) → Prop} (hc : ∀ s, P (.inl s) → AW G X 38 [(0, vR v0), (1, vI v1), (2, vI v2), (3, vI s.1), (4, vI s.2)] [] h 0 0) (he0 : ∀ e, P (.inr e) → AW G X 75 [(0, vR v0), (1, vI v1), (2, vI v2), (3, vI e)] [] h 0 0) (v3 : Int32) (v4 : Int32) (hy : OK (f_X13_toAsk_69 h v0 v1 v2 v3 v4) P) : AW G X 69 [(0, vR v0), (1, vI v1), (2, vI v2), (3, vI v3), (4, vI v4)] [] h 0 0 := by
  unfold f_X13_toAsk_69 at hy
  refine aw_iinc (pc := 69) hX 1 (by decide) 4 rfl [(4, vI (v4 + 1)), (0, vR v0), (1, vI v1), (2, vI v2), (3, vI v3)] rfl (lt_n hN (by decide)) dX13_toAsk_69 ?_
  refine aw_goto (pc := 72) hX 38 (by decide) dX13_toAsk_72 ?_
  refine AW.sub [1, 2, 3, 4, 0] rfl ?_
  exact hc (v3, (v4 + 1)) hy.s
def b_X13_toAsk_38 (h : Mem) (v0 : Nat) (v1 : Int32) (v2 : Int32) (v3 : Int32) (v4 : Int32) : Option ((Int32 × Int32) ⊕ Int32) :=
  (gR h v0 3 11).bind fun r6 => (gI h r6 2 10).bind fun x7 => (if x7 ≤ v4 then some (.inr v3) else (f_X13_rowsBy h v0 v2 v4).bind fun x8 => (if x8 ≤ v3 then f_X13_toAsk_69 h v0 v1 v2 v3 v4 else (f_X13_rowsBy h v0 v2 v4).bind fun x9 => f_X13_toAsk_69 h v0 v1 v2 x9 v4))
set_option maxRecDepth 100000 in
set_option maxHeartbeats 4000000 in
theorem wb_X13_toAsk_38 {G : GE} {X : CX} {l : Launch} (hX : Ok G X cX13_toAsk RX13) (hN : xn X = 5) {P0 : (Int32 × Mem) → Prop} (hr : Rt G X l yX13_toAsk (some .int) rm_X13_toAsk (pmI P0)) (h : Mem)  (v0 : Nat) (v1 : Int32) (v2 : Int32) {P : ((Int32 × Int32) ⊕ Int32) → Prop} (hc : ∀ s, P (.inl s) → AW G X 38 [(0, vR v0), (1, vI v1), (2, vI v2), (3, vI s.1), (4, vI s.2)] [] h 0 0) (he0 : ∀ e, P (.inr e) → AW G X 75 [(0, vR v0), (1, vI v1), (2, vI v2), (3, vI e)] [] h 0 0) (v3 : Int32) (v4 : Int32) (hy : OK (b_X13_toAsk_38 h v0 v1 v2 v3 v4) P) : AW G X 38 [(0, vR v0), (1, vI v1), (2, vI v2), (3, vI v3), (4, vI v4)] [] h 0 0 := by
  unfold b_X13_toAsk_38 at hy
  refine aw_iload (pc := 38) hX 4 rfl dX13_toAsk_38 ?_
  refine aw_aloadn (pc := 40) hX 0 rfl dX13_toAsk_40 ?_
  refine aw_gR (pc := 41) hX hy fl_X13_338 (fun _ _ => rfl) dX13_toAsk_41 (fun r6 hy => ?_)
  refine aw_gI (pc := 44) hX hy fl_X13_197 (fun _ _ => rfl) dX13_toAsk_44 (fun x7 hy => ?_)
  refine aw_ic_ge (pc := 47) hX 75 (by decide) dX13_toAsk_47 (fun hc9 => ?_) (fun hc9 => ?_)
  · have hy := hy.t hc9
    refine AW.sub [0, 1, 2, 3] rfl ?_
    exact he0 v3 hy.s
  · have hy := hy.f hc9
    refine aw_aloadn (pc := 50) hX 0 rfl dX13_toAsk_50 ?_
    refine aw_iloadn (pc := 51) hX 2 rfl dX13_toAsk_51 ?_
    refine aw_iload (pc := 52) hX 4 rfl dX13_toAsk_52 ?_
    refine aw_callV (pc := 54) (st := []) (a := v0) hX [vI v2, vI v4] (con_X13_rowsBy _ G _ v0 v2 v4 hy.bd) mc_X13_rowsBy ml_X13_481 im_X13_rowsBy se_X13_rowsBy (by decide) hy.bd.kd rfl (rm_of hr (by decide)) (Nat.le_of_ble_eq_true rfl) rfl dX13_toAsk_54 (kpI rfl rfl (fun x8 hy => ?_))
    refine aw_iloadn (pc := 57) hX 3 rfl dX13_toAsk_57 ?_
    refine aw_ic_le (pc := 58) hX 69 (by decide) dX13_toAsk_58 (fun hc9 => ?_) (fun hc9 => ?_)
    · have hy := hy.t hc9
      exact w_X13_toAsk_69 hX hN hr _ _ _ _ hc he0 v3 v4 hy
    · have hy := hy.f hc9
      refine aw_aloadn (pc := 61) hX 0 rfl dX13_toAsk_61 ?_
      refine aw_iloadn (pc := 62) hX 2 rfl dX13_toAsk_62 ?_
      refine aw_iload (pc := 63) hX 4 rfl dX13_toAsk_63 ?_
      refine aw_callV (pc := 65) (st := []) (a := v0) hX [vI v2, vI v4] (con_X13_rowsBy _ G _ v0 v2 v4 hy.bd) mc_X13_rowsBy ml_X13_481 im_X13_rowsBy se_X13_rowsBy (by decide) hy.bd.kd rfl (rm_of hr (by decide)) (Nat.le_of_ble_eq_true rfl) rfl dX13_toAsk_65 (kpI rfl rfl (fun x9 hy => ?_))
      refine aw_istoren (pc := 68) hX [(3, vI x9), (0, vR v0), (1, vI v1), (2, vI v2), (4, vI v4)] rfl (lt_n hN (by decide)) dX13_toAsk_68 ?_
      refine AW.sub [1, 2, 3, 0, 4] rfl ?_
      exact w_X13_toAsk_69 hX hN hr _ _ _ _ hc he0 x9 v4 hy
theorem wl_X13_toAsk_38 {G : GE} {X : CX} {l : Launch} (hX : Ok G X cX13_toAsk RX13) (hN : xn X = 5) {P0 : (Int32 × Mem) → Prop} (hr : Rt G X l yX13_toAsk (some .int) rm_X13_toAsk (pmI P0)) (h : Mem) (v0 : Nat) (v1 : Int32) (v2 : Int32) {P : (Int32) → Prop} (he0 : ∀ e, P e → AW G X 75 [(0, vR v0), (1, vI v1), (2, vI v2), (3, vI e)] [] h 0 0) : ∀ (n : Nat) (s : Int32 × Int32), OK (iter (fun (s : Int32 × Int32) => b_X13_toAsk_38 h v0 v1 v2 s.1 s.2) n s) P → AW G X 38 [(0, vR v0), (1, vI v1), (2, vI v2), (3, vI s.1), (4, vI s.2)] [] h 0 0 := by
  intro n
  induction n with
  | zero => exact fun s hy => hy.it0.elim
  | succ n ih =>
    intro s hy
    exact wb_X13_toAsk_38 hX hN hr h v0 v1 v2 (fun s hs => ih s hs) (fun e hs => he0 e hs) s.1 s.2 hy.it
def f_X13_toAsk_99 (h : Mem) (v0 : Nat) (v1 : Int32) (v2 : Int32) : Option ((Int32 × Int32 × Mem) ⊕ ((Int32 × Mem))) :=
  some (.inl (v1, (v2 + 1), h))
set_option maxRecDepth 100000 in
set_option maxHeartbeats 4000000 in
theorem w_X13_toAsk_99 {G : GE} {X : CX} {l : Launch} (hX : Ok G X cX13_toAsk RX13) (hN : xn X = 5) {P0 : (Int32 × Mem) → Prop} (hr : Rt G X l yX13_toAsk (some .int) rm_X13_toAsk (pmI P0))  (v0 : Nat) {P : ((Int32 × Int32 × Mem) ⊕ ((Int32 × Mem))) → Prop} (hc : ∀ s, P (.inl s) → AW G X 15 [(0, vR v0), (1, vI s.1), (2, vI s.2.1)] [] s.2.2 0 0) (he0 : ∀ e, P (.inr e) → AW G X 105 [(1, vI e.1)] [] e.2 0 0) (h : Mem) (v1 : Int32) (v2 : Int32) (hy : OK (f_X13_toAsk_99 h v0 v1 v2) P) : AW G X 99 [(0, vR v0), (1, vI v1), (2, vI v2)] [] h 0 0 := by
  unfold f_X13_toAsk_99 at hy
  refine aw_iinc (pc := 99) hX 1 (by decide) 2 rfl [(2, vI (v2 + 1)), (0, vR v0), (1, vI v1)] rfl (lt_n hN (by decide)) dX13_toAsk_99 ?_
  refine aw_goto (pc := 102) hX 15 (by decide) dX13_toAsk_102 ?_
  refine AW.sub [1, 2, 0] rfl ?_
  exact hc (v1, (v2 + 1), h) hy.s
def f_X13_toAsk_92 (h : Mem) (v0 : Nat) (v2 : Int32) (v3 : Int32) : Option ((Int32 × Int32 × Mem) ⊕ ((Int32 × Mem))) :=
  (pI h v0 36 11 v3).bind fun h11 => f_X13_toAsk_99 h11 v0 v2 v2
set_option maxRecDepth 100000 in
set_option maxHeartbeats 4000000 in
theorem w_X13_toAsk_92 {G : GE} {X : CX} {l : Launch} (hX : Ok G X cX13_toAsk RX13) (hN : xn X = 5) {P0 : (Int32 × Mem) → Prop} (hr : Rt G X l yX13_toAsk (some .int) rm_X13_toAsk (pmI P0))  (v0 : Nat) {P : ((Int32 × Int32 × Mem) ⊕ ((Int32 × Mem))) → Prop} (hc : ∀ s, P (.inl s) → AW G X 15 [(0, vR v0), (1, vI s.1), (2, vI s.2.1)] [] s.2.2 0 0) (he0 : ∀ e, P (.inr e) → AW G X 105 [(1, vI e.1)] [] e.2 0 0) (h : Mem) (v2 : Int32) (v3 : Int32) (hy : OK (f_X13_toAsk_92 h v0 v2 v3) P) : AW G X 92 [(0, vR v0), (2, vI v2), (3, vI v3)] [] h 0 0 := by
  unfold f_X13_toAsk_92 at hy
  refine aw_iloadn (pc := 92) hX 1 rfl dX13_toAsk_92 ?_
  refine aw_istoren (pc := 93) hX [(1, vI v2), (0, vR v0), (2, vI v2), (3, vI v3)] rfl (lt_n hN (by decide)) dX13_toAsk_93 ?_
  refine aw_aloadn (pc := 94) hX 1 rfl dX13_toAsk_94 ?_
  refine aw_iloadn (pc := 95) hX 3 rfl dX13_toAsk_95 ?_
  refine aw_pI (pc := 96) hX hy fl_X13_490 rfl (Or.inl rfl) dX13_toAsk_96 (fun h11 hy => ?_)
  refine AW.sub [1, 0, 2] rfl ?_
  exact w_X13_toAsk_99 hX hN hr _ hc he0 h11 v2 v2 hy
def b_X13_toAsk_15 (h : Mem) (v0 : Nat) (v1 : Int32) (v2 : Int32) : Option ((Int32 × Int32 × Mem) ⊕ ((Int32 × Mem))) :=
  (gR h v0 3 11).bind fun r3 => (gI h r3 8 10).bind fun x4 => (if x4 < v2 then some (.inr (v1, h)) else (gI h v0 35 11).bind fun x5 => (if x5 ≤ 0 then some (.inr (v1, h)) else (iter (fun (s : Int32 × Int32) => b_X13_toAsk_38 h v0 v1 v2 s.1 s.2) FU (0, 0)).bind (fun q10 => (if v1 = (-2) then f_X13_toAsk_92 h v0 v2 q10 else (gI h v0 36 11).bind fun x12 => (if q10 < x12 then f_X13_toAsk_92 h v0 v2 q10 else f_X13_toAsk_99 h v0 v1 v2)))))
set_option maxRecDepth 100000 in
set_option maxHeartbeats 4000000 in
theorem wb_X13_toAsk_15 {G : GE} {X : CX} {l : Launch} (hX : Ok G X cX13_toAsk RX13) (hN : xn X = 5) {P0 : (Int32 × Mem) → Prop} (hr : Rt G X l yX13_toAsk (some .int) rm_X13_toAsk (pmI P0))  (v0 : Nat) {P : ((Int32 × Int32 × Mem) ⊕ ((Int32 × Mem))) → Prop} (hc : ∀ s, P (.inl s) → AW G X 15 [(0, vR v0), (1, vI s.1), (2, vI s.2.1)] [] s.2.2 0 0) (he0 : ∀ e, P (.inr e) → AW G X 105 [(1, vI e.1)] [] e.2 0 0) (h : Mem) (v1 : Int32) (v2 : Int32) (hy : OK (b_X13_toAsk_15 h v0 v1 v2) P) : AW G X 15 [(0, vR v0), (1, vI v1), (2, vI v2)] [] h 0 0 := by
  unfold b_X13_toAsk_15 at hy
  refine aw_iloadn (pc := 15) hX 2 rfl dX13_toAsk_15 ?_
  refine aw_aloadn (pc := 16) hX 0 rfl dX13_toAsk_16 ?_
  refine aw_gR (pc := 17) hX hy fl_X13_338 (fun _ _ => rfl) dX13_toAsk_17 (fun r3 hy => ?_)
  refine aw_gI (pc := 20) hX hy fl_X13_326 (fun _ _ => rfl) dX13_toAsk_20 (fun x4 hy => ?_)
  refine aw_ic_gt (pc := 23) hX 105 (by decide) dX13_toAsk_23 (fun hc9 => ?_) (fun hc9 => ?_)
  · have hy := hy.t hc9
    refine AW.sub [1] rfl ?_
    exact he0 (v1, h) hy.s
  · have hy := hy.f hc9
    refine aw_aloadn (pc := 26) hX 0 rfl dX13_toAsk_26 ?_
    refine aw_gI (pc := 27) hX hy fl_X13_475 (fun _ _ => rfl) dX13_toAsk_27 (fun x5 hy => ?_)
    refine aw_if_le (pc := 30) hX 105 (by decide) dX13_toAsk_30 (fun hc9 => ?_) (fun hc9 => ?_)
    · have hy := hy.t hc9
      refine AW.sub [1] rfl ?_
      exact he0 (v1, h) hy.s
    · have hy := hy.f hc9
      refine aw_iconst (pc := 33) hX 0 (by decide) dX13_toAsk_33 ?_
      refine aw_istoren (pc := 34) hX [(3, vI 0), (0, vR v0), (1, vI v1), (2, vI v2)] rfl (lt_n hN (by decide)) dX13_toAsk_34 ?_
      refine aw_iconst (pc := 35) hX 0 (by decide) dX13_toAsk_35 ?_
      refine aw_istore (pc := 36) hX [(4, vI 0), (3, vI 0), (0, vR v0), (1, vI v1), (2, vI v2)] rfl (lt_n hN (by decide)) dX13_toAsk_36 ?_
      refine AW.sub [2, 3, 4, 1, 0] rfl ?_
      refine wl_X13_toAsk_38 hX hN hr _ v0 v1 v2 ?_ FU (0, 0) hy.bd
      · intro q10 hy
        refine aw_iloadn (pc := 75) hX 1 rfl dX13_toAsk_75 ?_
        refine aw_bipush (pc := 76) hX (-2) (by decide) dX13_toAsk_76 ?_
        refine aw_ic_eq (pc := 78) hX 92 (by decide) dX13_toAsk_78 (fun hc9 => ?_) (fun hc9 => ?_)
        · have hy := hy.t hc9
          refine AW.sub [0, 2, 3] rfl ?_
          exact w_X13_toAsk_92 hX hN hr _ hc he0 h v2 q10 hy
        · have hy := hy.f hc9
          refine aw_iloadn (pc := 81) hX 3 rfl dX13_toAsk_81 ?_
          refine aw_aloadn (pc := 82) hX 0 rfl dX13_toAsk_82 ?_
          refine aw_gI (pc := 83) hX hy fl_X13_490 (fun _ _ => rfl) dX13_toAsk_83 (fun x12 hy => ?_)
          refine aw_ic_lt (pc := 86) hX 92 (by decide) dX13_toAsk_86 (fun hc9 => ?_) (fun hc9 => ?_)
          · have hy := hy.t hc9
            refine AW.sub [0, 2, 3] rfl ?_
            exact w_X13_toAsk_92 hX hN hr _ hc he0 h v2 q10 hy
          · have hy := hy.f hc9
            refine aw_goto (pc := 89) hX 99 (by decide) dX13_toAsk_89 ?_
            refine AW.sub [0, 1, 2] rfl ?_
            exact w_X13_toAsk_99 hX hN hr _ hc he0 h v1 v2 hy
theorem wl_X13_toAsk_15 {G : GE} {X : CX} {l : Launch} (hX : Ok G X cX13_toAsk RX13) (hN : xn X = 5) {P0 : (Int32 × Mem) → Prop} (hr : Rt G X l yX13_toAsk (some .int) rm_X13_toAsk (pmI P0)) (v0 : Nat) {P : ((Int32 × Mem)) → Prop} (he0 : ∀ e, P e → AW G X 105 [(1, vI e.1)] [] e.2 0 0) : ∀ (n : Nat) (s : Int32 × Int32 × Mem), OK (iter (fun (s : Int32 × Int32 × Mem) => b_X13_toAsk_15 s.2.2 v0 s.1 s.2.1) n s) P → AW G X 15 [(0, vR v0), (1, vI s.1), (2, vI s.2.1)] [] s.2.2 0 0 := by
  intro n
  induction n with
  | zero => exact fun s hy => hy.it0.elim
  | succ n ih =>
    intro s hy
    exact wb_X13_toAsk_15 hX hN hr v0 (fun s hs => ih s hs) (fun e hs => he0 e hs) s.2.2 s.1 s.2.1 hy.it
def f_X13_toAsk (h : Mem) (v0 : Nat) : Option (Int32 × Mem) :=
  (ck h v0 11).bind fun _ => (f_X13_strangers h v0).bind fun h1 => (pI h1 v0 36 11 (-2)).bind fun h2 => (iter (fun (s : Int32 × Int32 × Mem) => b_X13_toAsk_15 s.2.2 v0 s.1 s.2.1) FU ((-2), 0, h2)).bind (fun q13 => some (q13.1, q13.2))
set_option maxRecDepth 100000 in
set_option maxHeartbeats 4000000 in
theorem w_X13_toAsk {G : GE} {X : CX} {l : Launch} (hX : Ok G X cX13_toAsk RX13) (hN : xn X = 5) {P : (Int32 × Mem) → Prop} (hr : Rt G X l yX13_toAsk (some .int) rm_X13_toAsk (pmI P)) (h : Mem) (v0 : Nat) (hy : OK (f_X13_toAsk h v0) P) : AW G X 0 [(0, vR v0)] [] h 0 0 := by
  unfold f_X13_toAsk at hy
  have hkd := hy.kd
  have hy := hy.kb
  refine aw_aloadn (pc := 0) hX 0 rfl dX13_toAsk_0 ?_
  refine aw_callV (pc := 1) (st := []) (a := v0) hX [] (con_X13_strangers _ G _ v0 hy.bd) mc_X13_strangers ml_X13_478 im_X13_strangers se_X13_strangers (by decide) hy.bd.kd rfl (rm_of hr (by decide)) (Nat.le_of_ble_eq_true rfl) rfl dX13_toAsk_1 (kmV rfl rfl (fun h1 hy => ?_))
  refine aw_bipush (pc := 4) hX (-2) (by decide) dX13_toAsk_4 ?_
  refine aw_istoren (pc := 6) hX [(1, vI (-2)), (0, vR v0)] rfl (lt_n hN (by decide)) dX13_toAsk_6 ?_
  refine aw_aloadn (pc := 7) hX 1 rfl dX13_toAsk_7 ?_
  refine aw_bipush (pc := 8) hX (-2) (by decide) dX13_toAsk_8 ?_
  refine aw_pI (pc := 10) hX hy fl_X13_490 rfl (Or.inl rfl) dX13_toAsk_10 (fun h2 hy => ?_)
  refine aw_iconst (pc := 13) hX 0 (by decide) dX13_toAsk_13 ?_
  refine aw_istoren (pc := 14) hX [(2, vI 0), (1, vI (-2)), (0, vR v0)] rfl (lt_n hN (by decide)) dX13_toAsk_14 ?_
  refine AW.sub [2, 1, 0] rfl ?_
  refine wl_X13_toAsk_15 hX hN hr v0 ?_ FU ((-2), 0, h2) hy.bd
  · intro q13 hy
    refine aw_iloadn (pc := 105) hX 0 rfl dX13_toAsk_105 ?_
    exact aw_iret (pc := 106) hX hr (by decide) (by decide) dX13_toAsk_106 ⟨_, rfl, hy.s⟩
theorem con_X13_toAsk (l : Launch) (G : GE) (h : Mem) (v0 : Nat) {P : (Int32 × Mem) → Prop} (hy : OK (f_X13_toAsk h v0) P) : Con l G yX13_toAsk cX13_toAsk 5 (some .int) rm_X13_toAsk [vR v0] h (pmI P) := Con.of (by decide) (Nat.le_of_ble_eq_true rfl) (fun X hX hr hN => w_X13_toAsk hX hN hr h v0 hy)
/-! X13_ask -/
theorem dX13_ask_0 : decode cX13_ask 0 = .ok (.aload_n 0, 1) := by decide +kernel
theorem dX13_ask_1 : decode cX13_ask 1 = .ok (.iconst 0, 1) := by decide +kernel
theorem dX13_ask_2 : decode cX13_ask 2 = .ok (.putfield 51, 3) := by decide +kernel
theorem dX13_ask_5 : decode cX13_ask 5 = .ok (.aload_n 0, 1) := by decide +kernel
theorem dX13_ask_6 : decode cX13_ask 6 = .ok (.getfield 338, 3) := by decide +kernel
theorem dX13_ask_9 : decode cX13_ask 9 = .ok (.ifnonnull 11, 3) := by decide +kernel
theorem dX13_ask_12 : decode cX13_ask 12 = .ok (.aload_n 0, 1) := by decide +kernel
theorem dX13_ask_13 : decode cX13_ask 13 = .ok (.iconst 1, 1) := by decide +kernel
theorem dX13_ask_14 : decode cX13_ask 14 = .ok (.invokevirtual 57, 3) := by decide +kernel
theorem dX13_ask_17 : decode cX13_ask 17 = .ok (.goto 11, 3) := by decide +kernel
theorem dX13_ask_20 : decode cX13_ask 20 = .ok (.aload_n 0, 1) := by decide +kernel
theorem dX13_ask_21 : decode cX13_ask 21 = .ok (.aload_n 0, 1) := by decide +kernel
theorem dX13_ask_22 : decode cX13_ask 22 = .ok (.invokevirtual 493, 3) := by decide +kernel
theorem dX13_ask_25 : decode cX13_ask 25 = .ok (.invokevirtual 61, 3) := by decide +kernel
theorem dX13_ask_28 : decode cX13_ask 28 = .ok (.ireturn, 1) := by decide +kernel
abbrev rm_X13_ask : Room := { frames := 4, cells := 0, slots := 0, locals := 93 }
def f_X13_ask (h : Mem) (v0 : Nat) : Option (Int32 × Mem) :=
  (ck h v0 11).bind fun _ => (pI h v0 0 11 0).bind fun h1 => (gR h1 v0 3 11).bind fun r2 => (if r2 = 0 then (f_X13_refused h1 v0 1).bind fun q11 => some (q11.1, q11.2) else (f_X13_toAsk h1 v0).bind fun q5 => (f_X13_good q5.2 v0 q5.1).bind fun q8 => some (q8.1, q8.2))
set_option maxRecDepth 100000 in
set_option maxHeartbeats 4000000 in
theorem w_X13_ask {G : GE} {X : CX} {l : Launch} (hX : Ok G X cX13_ask RX13) (hN : xn X = 1) {P : (Int32 × Mem) → Prop} (hr : Rt G X l yX13_ask (some .int) rm_X13_ask (pmI P)) (h : Mem) (v0 : Nat) (hy : OK (f_X13_ask h v0) P) : AW G X 0 [(0, vR v0)] [] h 0 0 := by
  unfold f_X13_ask at hy
  have hkd := hy.kd
  have hy := hy.kb
  refine aw_aloadn (pc := 0) hX 0 rfl dX13_ask_0 ?_
  refine aw_iconst (pc := 1) hX 0 (by decide) dX13_ask_1 ?_
  refine aw_pI (pc := 2) hX hy fl_X13_51 rfl (Or.inl rfl) dX13_ask_2 (fun h1 hy => ?_)
  refine aw_aloadn (pc := 5) hX 0 rfl dX13_ask_5 ?_
  refine aw_gR (pc := 6) hX hy fl_X13_338 (fun _ _ => rfl) dX13_ask_6 (fun r2 hy => ?_)
  refine aw_ifnonnull (pc := 9) hX 20 (by decide) dX13_ask_9 (fun hc9 => ?_) (fun hc9 => ?_)
  · have hy := hy.f hc9
    refine aw_aloadn (pc := 20) hX 0 rfl dX13_ask_20 ?_
    refine aw_aloadn (pc := 21) hX 0 rfl dX13_ask_21 ?_
    refine aw_callV (pc := 22) (st := [vR v0]) (a := v0) hX [] (con_X13_toAsk _ G _ v0 hy.bd) mc_X13_toAsk ml_X13_493 im_X13_toAsk se_X13_toAsk (by decide) hy.bd.kd rfl (rm_of hr (by decide)) (Nat.le_of_ble_eq_true rfl) rfl dX13_ask_22 (kmI rfl rfl (fun q5 hy => ?_))
    refine aw_callV (pc := 25) (st := []) (a := v0) hX [vI q5.1] (con_X13_good _ G _ v0 q5.1 hy.bd) mc_X13_good ml_X13_61 im_X13_good se_X13_good (by decide) hy.bd.kd rfl (rm_of hr (by decide)) (Nat.le_of_ble_eq_true rfl) rfl dX13_ask_25 (kmI rfl rfl (fun q8 hy => ?_))
    exact aw_iret (pc := 28) hX hr (by decide) (by decide) dX13_ask_28 ⟨_, rfl, hy.s⟩
  · have hy := hy.t hc9
    refine aw_aloadn (pc := 12) hX 0 rfl dX13_ask_12 ?_
    refine aw_iconst (pc := 13) hX 1 (by decide) dX13_ask_13 ?_
    refine aw_callV (pc := 14) (st := []) (a := v0) hX [vI 1] (con_X13_refused _ G _ v0 1 hy.bd) mc_X13_refused ml_X13_57 im_X13_refused se_X13_refused (by decide) hy.bd.kd rfl (rm_of hr (by decide)) (Nat.le_of_ble_eq_true rfl) rfl dX13_ask_14 (kmI rfl rfl (fun q11 hy => ?_))
    refine aw_goto (pc := 17) hX 28 (by decide) dX13_ask_17 ?_
    exact aw_iret (pc := 28) hX hr (by decide) (by decide) dX13_ask_28 ⟨_, rfl, hy.s⟩
theorem con_X13_ask (l : Launch) (G : GE) (h : Mem) (v0 : Nat) {P : (Int32 × Mem) → Prop} (hy : OK (f_X13_ask h v0) P) : Con l G yX13_ask cX13_ask 1 (some .int) rm_X13_ask [vR v0] h (pmI P) := Con.of (by decide) (Nat.le_of_ble_eq_true rfl) (fun X hX hr hN => w_X13_ask hX hN hr h v0 hy)
/-! X13_askLeaves -/
theorem dX13_askLeaves_0 : decode cX13_askLeaves 0 = .ok (.aload_n 0, 1) := by decide +kernel
theorem dX13_askLeaves_1 : decode cX13_askLeaves 1 = .ok (.iconst 0, 1) := by decide +kernel
theorem dX13_askLeaves_2 : decode cX13_askLeaves 2 = .ok (.putfield 51, 3) := by decide +kernel
theorem dX13_askLeaves_5 : decode cX13_askLeaves 5 = .ok (.aload_n 0, 1) := by decide +kernel
theorem dX13_askLeaves_6 : decode cX13_askLeaves 6 = .ok (.getfield 338, 3) := by decide +kernel
theorem dX13_askLeaves_9 : decode cX13_askLeaves 9 = .ok (.ifnonnull 9, 3) := by decide +kernel
theorem dX13_askLeaves_12 : decode cX13_askLeaves 12 = .ok (.aload_n 0, 1) := by decide +kernel
theorem dX13_askLeaves_13 : decode cX13_askLeaves 13 = .ok (.iconst 1, 1) := by decide +kernel
theorem dX13_askLeaves_14 : decode cX13_askLeaves 14 = .ok (.invokevirtual 57, 3) := by decide +kernel
theorem dX13_askLeaves_17 : decode cX13_askLeaves 17 = .ok (.ireturn, 1) := by decide +kernel
theorem dX13_askLeaves_18 : decode cX13_askLeaves 18 = .ok (.aload_n 0, 1) := by decide +kernel
theorem dX13_askLeaves_19 : decode cX13_askLeaves 19 = .ok (.invokevirtual 493, 3) := by decide +kernel
theorem dX13_askLeaves_22 : decode cX13_askLeaves 22 = .ok (.pop, 1) := by decide +kernel
theorem dX13_askLeaves_23 : decode cX13_askLeaves 23 = .ok (.aload_n 0, 1) := by decide +kernel
theorem dX13_askLeaves_24 : decode cX13_askLeaves 24 = .ok (.aload_n 0, 1) := by decide +kernel
theorem dX13_askLeaves_25 : decode cX13_askLeaves 25 = .ok (.getfield 490, 3) := by decide +kernel
theorem dX13_askLeaves_28 : decode cX13_askLeaves 28 = .ok (.invokevirtual 61, 3) := by decide +kernel
theorem dX13_askLeaves_31 : decode cX13_askLeaves 31 = .ok (.ireturn, 1) := by decide +kernel
abbrev rm_X13_askLeaves : Room := { frames := 4, cells := 0, slots := 0, locals := 93 }
def f_X13_askLeaves (h : Mem) (v0 : Nat) : Option (Int32 × Mem) :=
  (ck h v0 11).bind fun _ => (pI h v0 0 11 0).bind fun h1 => (gR h1 v0 3 11).bind fun r2 => (if r2 = 0 then (f_X13_refused h1 v0 1).bind fun q12 => some (q12.1, q12.2) else (f_X13_toAsk h1 v0).bind fun q5 => (gI q5.2 v0 36 11).bind fun x6 => (f_X13_good q5.2 v0 x6).bind fun q9 => some (q9.1, q9.2))
set_option maxRecDepth 100000 in
set_option maxHeartbeats 4000000 in
theorem w_X13_askLeaves {G : GE} {X : CX} {l : Launch} (hX : Ok G X cX13_askLeaves RX13) (hN : xn X = 1) {P : (Int32 × Mem) → Prop} (hr : Rt G X l yX13_askLeaves (some .int) rm_X13_askLeaves (pmI P)) (h : Mem) (v0 : Nat) (hy : OK (f_X13_askLeaves h v0) P) : AW G X 0 [(0, vR v0)] [] h 0 0 := by
  unfold f_X13_askLeaves at hy
  have hkd := hy.kd
  have hy := hy.kb
  refine aw_aloadn (pc := 0) hX 0 rfl dX13_askLeaves_0 ?_
  refine aw_iconst (pc := 1) hX 0 (by decide) dX13_askLeaves_1 ?_
  refine aw_pI (pc := 2) hX hy fl_X13_51 rfl (Or.inl rfl) dX13_askLeaves_2 (fun h1 hy => ?_)
  refine aw_aloadn (pc := 5) hX 0 rfl dX13_askLeaves_5 ?_
  refine aw_gR (pc := 6) hX hy fl_X13_338 (fun _ _ => rfl) dX13_askLeaves_6 (fun r2 hy => ?_)
  refine aw_ifnonnull (pc := 9) hX 18 (by decide) dX13_askLeaves_9 (fun hc9 => ?_) (fun hc9 => ?_)
  · have hy := hy.f hc9
    refine aw_aloadn (pc := 18) hX 0 rfl dX13_askLeaves_18 ?_
    refine aw_callV (pc := 19) (st := []) (a := v0) hX [] (con_X13_toAsk _ G _ v0 hy.bd) mc_X13_toAsk ml_X13_493 im_X13_toAsk se_X13_toAsk (by decide) hy.bd.kd rfl (rm_of hr (by decide)) (Nat.le_of_ble_eq_true rfl) rfl dX13_askLeaves_19 (kmI rfl rfl (fun q5 hy => ?_))
    refine aw_pop (pc := 22) hX rfl dX13_askLeaves_22 ?_
    refine aw_aloadn (pc := 23) hX 0 rfl dX13_askLeaves_23 ?_
    refine aw_aloadn (pc := 24) hX 0 rfl dX13_askLeaves_24 ?_
    refine aw_gI (pc := 25) hX hy fl_X13_490 (fun _ _ => rfl) dX13_askLeaves_25 (fun x6 hy => ?_)
    refine aw_callV (pc := 28) (st := []) (a := v0) hX [vI x6] (con_X13_good _ G _ v0 x6 hy.bd) mc_X13_good ml_X13_61 im_X13_good se_X13_good (by decide) hy.bd.kd rfl (rm_of hr (by decide)) (Nat.le_of_ble_eq_true rfl) rfl dX13_askLeaves_28 (kmI rfl rfl (fun q9 hy => ?_))
    exact aw_iret (pc := 31) hX hr (by decide) (by decide) dX13_askLeaves_31 ⟨_, rfl, hy.s⟩
  · have hy := hy.t hc9
    refine aw_aloadn (pc := 12) hX 0 rfl dX13_askLeaves_12 ?_
    refine aw_iconst (pc := 13) hX 1 (by decide) dX13_askLeaves_13 ?_
    refine aw_callV (pc := 14) (st := []) (a := v0) hX [vI 1] (con_X13_refused _ G _ v0 1 hy.bd) mc_X13_refused ml_X13_57 im_X13_refused se_X13_refused (by decide) hy.bd.kd rfl (rm_of hr (by decide)) (Nat.le_of_ble_eq_true rfl) rfl dX13_askLeaves_14 (kmI rfl rfl (fun q12 hy => ?_))
    exact aw_iret (pc := 17) hX hr (by decide) (by decide) dX13_askLeaves_17 ⟨_, rfl, hy.s⟩
theorem con_X13_askLeaves (l : Launch) (G : GE) (h : Mem) (v0 : Nat) {P : (Int32 × Mem) → Prop} (hy : OK (f_X13_askLeaves h v0) P) : Con l G yX13_askLeaves cX13_askLeaves 1 (some .int) rm_X13_askLeaves [vR v0] h (pmI P) := Con.of (by decide) (Nat.le_of_ble_eq_true rfl) (fun X hX hr hN => w_X13_askLeaves hX hN hr h v0 hy)
/-! X13_suspect -/
theorem dX13_suspect_0 : decode cX13_suspect 0 = .ok (.aload_n 0, 1) := by decide +kernel
theorem dX13_suspect_1 : decode cX13_suspect 1 = .ok (.iconst 0, 1) := by decide +kernel
theorem dX13_suspect_2 : decode cX13_suspect 2 = .ok (.putfield 51, 3) := by decide +kernel
theorem dX13_suspect_5 : decode cX13_suspect 5 = .ok (.aload_n 0, 1) := by decide +kernel
theorem dX13_suspect_6 : decode cX13_suspect 6 = .ok (.getfield 338, 3) := by decide +kernel
theorem dX13_suspect_9 : decode cX13_suspect 9 = .ok (.ifnonnull 9, 3) := by decide +kernel
theorem dX13_suspect_12 : decode cX13_suspect 12 = .ok (.aload_n 0, 1) := by decide +kernel
theorem dX13_suspect_13 : decode cX13_suspect 13 = .ok (.iconst 1, 1) := by decide +kernel
theorem dX13_suspect_14 : decode cX13_suspect 14 = .ok (.invokevirtual 57, 3) := by decide +kernel
theorem dX13_suspect_17 : decode cX13_suspect 17 = .ok (.ireturn, 1) := by decide +kernel
theorem dX13_suspect_18 : decode cX13_suspect 18 = .ok (.iconst 0, 1) := by decide +kernel
theorem dX13_suspect_19 : decode cX13_suspect 19 = .ok (.istore_n 1, 1) := by decide +kernel
theorem dX13_suspect_20 : decode cX13_suspect 20 = .ok (.iconst 0, 1) := by decide +kernel
theorem dX13_suspect_21 : decode cX13_suspect 21 = .ok (.istore_n 2, 1) := by decide +kernel
theorem dX13_suspect_22 : decode cX13_suspect 22 = .ok (.iload_n 2, 1) := by decide +kernel
theorem dX13_suspect_23 : decode cX13_suspect 23 = .ok (.aload_n 0, 1) := by decide +kernel
theorem dX13_suspect_24 : decode cX13_suspect 24 = .ok (.getfield 338, 3) := by decide +kernel
theorem dX13_suspect_27 : decode cX13_suspect 27 = .ok (.getfield 326, 3) := by decide +kernel
theorem dX13_suspect_30 : decode cX13_suspect 30 = .ok (.if_icmp .ge 23, 3) := by decide +kernel
theorem dX13_suspect_33 : decode cX13_suspect 33 = .ok (.iload_n 1, 1) := by decide +kernel
theorem dX13_suspect_34 : decode cX13_suspect 34 = .ok (.iconst 1, 1) := by decide +kernel
theorem dX13_suspect_35 : decode cX13_suspect 35 = .ok (.aload_n 0, 1) := by decide +kernel
theorem dX13_suspect_36 : decode cX13_suspect 36 = .ok (.getfield 338, 3) := by decide +kernel
theorem dX13_suspect_39 : decode cX13_suspect 39 = .ok (.getfield 328, 3) := by decide +kernel
theorem dX13_suspect_42 : decode cX13_suspect 42 = .ok (.iload_n 2, 1) := by decide +kernel
theorem dX13_suspect_43 : decode cX13_suspect 43 = .ok (.iaload, 1) := by decide +kernel
theorem dX13_suspect_44 : decode cX13_suspect 44 = .ok (.ishl, 1) := by decide +kernel
theorem dX13_suspect_45 : decode cX13_suspect 45 = .ok (.ior, 1) := by decide +kernel
theorem dX13_suspect_46 : decode cX13_suspect 46 = .ok (.istore_n 1, 1) := by decide +kernel
theorem dX13_suspect_47 : decode cX13_suspect 47 = .ok (.iinc 2 1, 3) := by decide +kernel
theorem dX13_suspect_50 : decode cX13_suspect 50 = .ok (.goto (-28), 3) := by decide +kernel
theorem dX13_suspect_53 : decode cX13_suspect 53 = .ok (.iconst 0, 1) := by decide +kernel
theorem dX13_suspect_54 : decode cX13_suspect 54 = .ok (.istore_n 2, 1) := by decide +kernel
theorem dX13_suspect_55 : decode cX13_suspect 55 = .ok (.iload_n 2, 1) := by decide +kernel
theorem dX13_suspect_56 : decode cX13_suspect 56 = .ok (.aload_n 0, 1) := by decide +kernel
theorem dX13_suspect_57 : decode cX13_suspect 57 = .ok (.getfield 338, 3) := by decide +kernel
theorem dX13_suspect_60 : decode cX13_suspect 60 = .ok (.getfield 306, 3) := by decide +kernel
theorem dX13_suspect_63 : decode cX13_suspect 63 = .ok (.if_icmp .ge 31, 3) := by decide +kernel
theorem dX13_suspect_66 : decode cX13_suspect 66 = .ok (.iload_n 1, 1) := by decide +kernel
theorem dX13_suspect_67 : decode cX13_suspect 67 = .ok (.aload_n 0, 1) := by decide +kernel
theorem dX13_suspect_68 : decode cX13_suspect 68 = .ok (.getfield 17, 3) := by decide +kernel
theorem dX13_suspect_71 : decode cX13_suspect 71 = .ok (.bipush 8, 2) := by decide +kernel
theorem dX13_suspect_73 : decode cX13_suspect 73 = .ok (.iload_n 2, 1) := by decide +kernel
theorem dX13_suspect_74 : decode cX13_suspect 74 = .ok (.iadd, 1) := by decide +kernel
theorem dX13_suspect_75 : decode cX13_suspect 75 = .ok (.iaload, 1) := by decide +kernel
theorem dX13_suspect_76 : decode cX13_suspect 76 = .ok (.iconst (-1), 1) := by decide +kernel
theorem dX13_suspect_77 : decode cX13_suspect 77 = .ok (.ixor, 1) := by decide +kernel
theorem dX13_suspect_78 : decode cX13_suspect 78 = .ok (.iand, 1) := by decide +kernel
theorem dX13_suspect_79 : decode cX13_suspect 79 = .ok (.ifCond .ne 9, 3) := by decide +kernel
theorem dX13_suspect_82 : decode cX13_suspect 82 = .ok (.aload_n 0, 1) := by decide +kernel
theorem dX13_suspect_83 : decode cX13_suspect 83 = .ok (.iload_n 2, 1) := by decide +kernel
theorem dX13_suspect_84 : decode cX13_suspect 84 = .ok (.invokevirtual 61, 3) := by decide +kernel
theorem dX13_suspect_87 : decode cX13_suspect 87 = .ok (.ireturn, 1) := by decide +kernel
theorem dX13_suspect_88 : decode cX13_suspect 88 = .ok (.iinc 2 1, 3) := by decide +kernel
theorem dX13_suspect_91 : decode cX13_suspect 91 = .ok (.goto (-36), 3) := by decide +kernel
theorem dX13_suspect_94 : decode cX13_suspect 94 = .ok (.aload_n 0, 1) := by decide +kernel
theorem dX13_suspect_95 : decode cX13_suspect 95 = .ok (.bipush (-2), 2) := by decide +kernel
theorem dX13_suspect_97 : decode cX13_suspect 97 = .ok (.invokevirtual 61, 3) := by decide +kernel
theorem dX13_suspect_100 : decode cX13_suspect 100 = .ok (.ireturn, 1) := by decide +kernel
abbrev rm_X13_suspect : Room := { frames := 1, cells := 0, slots := 0, locals := 21 }
def b_X13_suspect_22 (h : Mem) (v0 : Nat) (v1 : Int32) (v2 : Int32) : Option ((Int32 × Int32) ⊕ Int32) :=
  (gR h v0 3 11).bind fun r3 => (gI h r3 8 10).bind fun x4 => (if x4 ≤ v2 then some (.inr v1) else (gR h v0 3 11).bind fun r5 => (gR h r5 24 10).bind fun r6 => (aI h r6 v2).bind fun x7 => some (.inl ((v1 ||| ((1 : Int32) <<< (x7 &&& 31))), (v2 + 1))))
set_option maxRecDepth 100000 in
set_option maxHeartbeats 4000000 in
theorem wb_X13_suspect_22 {G : GE} {X : CX} {l : Launch} (hX : Ok G X cX13_suspect RX13) (hN : xn X = 3) {P0 : (Int32 × Mem) → Prop} (hr : Rt G X l yX13_suspect (some .int) rm_X13_suspect (pmI P0)) (h : Mem)  (v0 : Nat) {P : ((Int32 × Int32) ⊕ Int32) → Prop} (hc : ∀ s, P (.inl s) → AW G X 22 [(0, vR v0), (1, vI s.1), (2, vI s.2)] [] h 0 0) (he0 : ∀ e, P (.inr e) → AW G X 53 [(0, vR v0), (1, vI e)] [] h 0 0) (v1 : Int32) (v2 : Int32) (hy : OK (b_X13_suspect_22 h v0 v1 v2) P) : AW G X 22 [(0, vR v0), (1, vI v1), (2, vI v2)] [] h 0 0 := by
  unfold b_X13_suspect_22 at hy
  refine aw_iloadn (pc := 22) hX 2 rfl dX13_suspect_22 ?_
  refine aw_aloadn (pc := 23) hX 0 rfl dX13_suspect_23 ?_
  refine aw_gR (pc := 24) hX hy fl_X13_338 (fun _ _ => rfl) dX13_suspect_24 (fun r3 hy => ?_)
  refine aw_gI (pc := 27) hX hy fl_X13_326 (fun _ _ => rfl) dX13_suspect_27 (fun x4 hy => ?_)
  refine aw_ic_ge (pc := 30) hX 53 (by decide) dX13_suspect_30 (fun hc9 => ?_) (fun hc9 => ?_)
  · have hy := hy.t hc9
    refine AW.sub [0, 1] rfl ?_
    exact he0 v1 hy.s
  · have hy := hy.f hc9
    refine aw_iloadn (pc := 33) hX 1 rfl dX13_suspect_33 ?_
    refine aw_iconst (pc := 34) hX 1 (by decide) dX13_suspect_34 ?_
    refine aw_aloadn (pc := 35) hX 0 rfl dX13_suspect_35 ?_
    refine aw_gR (pc := 36) hX hy fl_X13_338 (fun _ _ => rfl) dX13_suspect_36 (fun r5 hy => ?_)
    refine aw_gR (pc := 39) hX hy fl_X13_328 (fun _ _ => rfl) dX13_suspect_39 (fun r6 hy => ?_)
    refine aw_iloadn (pc := 42) hX 2 rfl dX13_suspect_42 ?_
    refine aw_aI (pc := 43) hX hy dX13_suspect_43 (fun x7 hy => ?_)
    refine aw_ishl (pc := 44) hX dX13_suspect_44 ?_
    refine aw_ior (pc := 45) hX dX13_suspect_45 ?_
    refine aw_istoren (pc := 46) hX [(1, vI (v1 ||| ((1 : Int32) <<< (x7 &&& 31)))), (0, vR v0), (2, vI v2)] rfl (lt_n hN (by decide)) dX13_suspect_46 ?_
    refine aw_iinc (pc := 47) hX 1 (by decide) 2 rfl [(2, vI (v2 + 1)), (1, vI (v1 ||| ((1 : Int32) <<< (x7 &&& 31)))), (0, vR v0)] rfl (lt_n hN (by decide)) dX13_suspect_47 ?_
    refine aw_goto (pc := 50) hX 22 (by decide) dX13_suspect_50 ?_
    refine AW.sub [2, 1, 0] rfl ?_
    exact hc ((v1 ||| ((1 : Int32) <<< (x7 &&& 31))), (v2 + 1)) hy.s
theorem wl_X13_suspect_22 {G : GE} {X : CX} {l : Launch} (hX : Ok G X cX13_suspect RX13) (hN : xn X = 3) {P0 : (Int32 × Mem) → Prop} (hr : Rt G X l yX13_suspect (some .int) rm_X13_suspect (pmI P0)) (h : Mem) (v0 : Nat) {P : (Int32) → Prop} (he0 : ∀ e, P e → AW G X 53 [(0, vR v0), (1, vI e)] [] h 0 0) : ∀ (n : Nat) (s : Int32 × Int32), OK (iter (fun (s : Int32 × Int32) => b_X13_suspect_22 h v0 s.1 s.2) n s) P → AW G X 22 [(0, vR v0), (1, vI s.1), (2, vI s.2)] [] h 0 0 := by
  intro n
  induction n with
  | zero => exact fun s hy => hy.it0.elim
  | succ n ih =>
    intro s hy
    exact wb_X13_suspect_22 hX hN hr h v0 (fun s hs => ih s hs) (fun e hs => he0 e hs) s.1 s.2 hy.it
def b_X13_suspect_55 (h : Mem) (v0 : Nat) (v1 : Int32) (v2 : Int32) : Option (Int32 ⊕ (Int32 ⊕ Unit)) :=
  (gR h v0 3 11).bind fun r9 => (gI h r9 6 10).bind fun x10 => (if x10 ≤ v2 then some (.inr (.inr ())) else (gR h v0 16 11).bind fun r11 => (aI h r11 (8 + v2)).bind fun x12 => (if (v1 &&& (x12 ^^^ (-1))) = 0 then some (.inr (.inl v2)) else some (.inl (v2 + 1))))
set_option maxRecDepth 100000 in
set_option maxHeartbeats 4000000 in
theorem wb_X13_suspect_55 {G : GE} {X : CX} {l : Launch} (hX : Ok G X cX13_suspect RX13) (hN : xn X = 3) {P0 : (Int32 × Mem) → Prop} (hr : Rt G X l yX13_suspect (some .int) rm_X13_suspect (pmI P0)) (h : Mem)  (v0 : Nat) (v1 : Int32) {P : (Int32 ⊕ (Int32 ⊕ Unit)) → Prop} (hc : ∀ s, P (.inl s) → AW G X 55 [(0, vR v0), (1, vI v1), (2, vI s)] [] h 0 0) (he0 : ∀ e, P (.inr (.inl e)) → AW G X 82 [(0, vR v0), (2, vI e)] [] h 0 0) (he1 : ∀ e, P (.inr (.inr e)) → AW G X 94 [(0, vR v0)] [] h 0 0) (v2 : Int32) (hy : OK (b_X13_suspect_55 h v0 v1 v2) P) : AW G X 55 [(0, vR v0), (1, vI v1), (2, vI v2)] [] h 0 0 := by
  unfold b_X13_suspect_55 at hy
  refine aw_iloadn (pc := 55) hX 2 rfl dX13_suspect_55 ?_
  refine aw_aloadn (pc := 56) hX 0 rfl dX13_suspect_56 ?_
  refine aw_gR (pc := 57) hX hy fl_X13_338 (fun _ _ => rfl) dX13_suspect_57 (fun r9 hy => ?_)
  refine aw_gI (pc := 60) hX hy fl_X13_306 (fun _ _ => rfl) dX13_suspect_60 (fun x10 hy => ?_)
  refine aw_ic_ge (pc := 63) hX 94 (by decide) dX13_suspect_63 (fun hc9 => ?_) (fun hc9 => ?_)
  · have hy := hy.t hc9
    refine AW.sub [0] rfl ?_
    exact he1 () hy.s
  · have hy := hy.f hc9
    refine aw_iloadn (pc := 66) hX 1 rfl dX13_suspect_66 ?_
    refine aw_aloadn (pc := 67) hX 0 rfl dX13_suspect_67 ?_
    refine aw_gR (pc := 68) hX hy fl_X13_17 (fun _ _ => rfl) dX13_suspect_68 (fun r11 hy => ?_)
    refine aw_bipush (pc := 71) hX 8 (by decide) dX13_suspect_71 ?_
    refine aw_iloadn (pc := 73) hX 2 rfl dX13_suspect_73 ?_
    refine aw_iadd (pc := 74) hX dX13_suspect_74 ?_
    refine aw_aI (pc := 75) hX hy dX13_suspect_75 (fun x12 hy => ?_)
    refine aw_iconst (pc := 76) hX (-1) (by decide) dX13_suspect_76 ?_
    refine aw_ixor (pc := 77) hX dX13_suspect_77 ?_
    refine aw_iand (pc := 78) hX dX13_suspect_78 ?_
    refine aw_if_ne (pc := 79) hX 88 (by decide) dX13_suspect_79 (fun hc9 => ?_) (fun hc9 => ?_)
    · have hy := hy.f hc9
      refine aw_iinc (pc := 88) hX 1 (by decide) 2 rfl [(2, vI (v2 + 1)), (0, vR v0), (1, vI v1)] rfl (lt_n hN (by decide)) dX13_suspect_88 ?_
      refine aw_goto (pc := 91) hX 55 (by decide) dX13_suspect_91 ?_
      refine AW.sub [1, 2, 0] rfl ?_
      exact hc (v2 + 1) hy.s
    · have hy := hy.t hc9
      refine AW.sub [0, 2] rfl ?_
      exact he0 v2 hy.s
theorem wl_X13_suspect_55 {G : GE} {X : CX} {l : Launch} (hX : Ok G X cX13_suspect RX13) (hN : xn X = 3) {P0 : (Int32 × Mem) → Prop} (hr : Rt G X l yX13_suspect (some .int) rm_X13_suspect (pmI P0)) (h : Mem) (v0 : Nat) (v1 : Int32) {P : (Int32 ⊕ Unit) → Prop} (he0 : ∀ e, P (.inl e) → AW G X 82 [(0, vR v0), (2, vI e)] [] h 0 0) (he1 : ∀ e, P (.inr e) → AW G X 94 [(0, vR v0)] [] h 0 0) : ∀ (n : Nat) (s : Int32), OK (iter (fun (s : Int32) => b_X13_suspect_55 h v0 v1 s) n s) P → AW G X 55 [(0, vR v0), (1, vI v1), (2, vI s)] [] h 0 0 := by
  intro n
  induction n with
  | zero => exact fun s hy => hy.it0.elim
  | succ n ih =>
    intro s hy
    exact wb_X13_suspect_55 hX hN hr h v0 v1 (fun s hs => ih s hs) (fun e hs => he0 e hs) (fun e hs => he1 e hs) s hy.it
def f_X13_suspect (h : Mem) (v0 : Nat) : Option (Int32 × Mem) :=
  (ck h v0 11).bind fun _ => (pI h v0 0 11 0).bind fun h1 => (gR h1 v0 3 11).bind fun r2 => (if r2 = 0 then (f_X13_refused h1 v0 1).bind fun q24 => some (q24.1, q24.2) else (iter (fun (s : Int32 × Int32) => b_X13_suspect_22 h1 v0 s.1 s.2) FU (0, 0)).bind (fun q8 => (iter (fun (s : Int32) => b_X13_suspect_55 h1 v0 q8 s) FU 0).bind (Sum.elim (fun e14 => (f_X13_good h1 v0 e14).bind fun q17 => some (q17.1, q17.2)) (fun e18 => (f_X13_good h1 v0 (-2)).bind fun q21 => some (q21.1, q21.2)))))
set_option maxRecDepth 100000 in
set_option maxHeartbeats 4000000 in
theorem w_X13_suspect {G : GE} {X : CX} {l : Launch} (hX : Ok G X cX13_suspect RX13) (hN : xn X = 3) {P : (Int32 × Mem) → Prop} (hr : Rt G X l yX13_suspect (some .int) rm_X13_suspect (pmI P)) (h : Mem) (v0 : Nat) (hy : OK (f_X13_suspect h v0) P) : AW G X 0 [(0, vR v0)] [] h 0 0 := by
  unfold f_X13_suspect at hy
  have hkd := hy.kd
  have hy := hy.kb
  refine aw_aloadn (pc := 0) hX 0 rfl dX13_suspect_0 ?_
  refine aw_iconst (pc := 1) hX 0 (by decide) dX13_suspect_1 ?_
  refine aw_pI (pc := 2) hX hy fl_X13_51 rfl (Or.inl rfl) dX13_suspect_2 (fun h1 hy => ?_)
  refine aw_aloadn (pc := 5) hX 0 rfl dX13_suspect_5 ?_
  refine aw_gR (pc := 6) hX hy fl_X13_338 (fun _ _ => rfl) dX13_suspect_6 (fun r2 hy => ?_)
  refine aw_ifnonnull (pc := 9) hX 18 (by decide) dX13_suspect_9 (fun hc9 => ?_) (fun hc9 => ?_)
  · have hy := hy.f hc9
    refine aw_iconst (pc := 18) hX 0 (by decide) dX13_suspect_18 ?_
    refine aw_istoren (pc := 19) hX [(1, vI 0), (0, vR v0)] rfl (lt_n hN (by decide)) dX13_suspect_19 ?_
    refine aw_iconst (pc := 20) hX 0 (by decide) dX13_suspect_20 ?_
    refine aw_istoren (pc := 21) hX [(2, vI 0), (1, vI 0), (0, vR v0)] rfl (lt_n hN (by decide)) dX13_suspect_21 ?_
    refine AW.sub [2, 1, 0] rfl ?_
    refine wl_X13_suspect_22 hX hN hr _ v0 ?_ FU (0, 0) hy.bd
    · intro q8 hy
      refine aw_iconst (pc := 53) hX 0 (by decide) dX13_suspect_53 ?_
      refine aw_istoren (pc := 54) hX [(2, vI 0), (0, vR v0), (1, vI q8)] rfl (lt_n hN (by decide)) dX13_suspect_54 ?_
      refine AW.sub [1, 2, 0] rfl ?_
      refine wl_X13_suspect_55 hX hN hr _ v0 q8 ?_ ?_ FU 0 hy.bd
      · intro e14 hy
        refine aw_aloadn (pc := 82) hX 0 rfl dX13_suspect_82 ?_
        refine aw_iloadn (pc := 83) hX 1 rfl dX13_suspect_83 ?_
        refine aw_callV (pc := 84) (st := []) (a := v0) hX [vI e14] (con_X13_good _ G _ v0 e14 hy.bd) mc_X13_good ml_X13_61 im_X13_good se_X13_good (by decide) hy.bd.kd rfl (rm_of hr (by decide)) (Nat.le_of_ble_eq_true rfl) rfl dX13_suspect_84 (kmI rfl rfl (fun q17 hy => ?_))
        exact aw_iret (pc := 87) hX hr (by decide) (by decide) dX13_suspect_87 ⟨_, rfl, hy.s⟩
      · intro e18 hy
        refine aw_aloadn (pc := 94) hX 0 rfl dX13_suspect_94 ?_
        refine aw_bipush (pc := 95) hX (-2) (by decide) dX13_suspect_95 ?_
        refine aw_callV (pc := 97) (st := []) (a := v0) hX [vI (-2)] (con_X13_good _ G _ v0 (-2) hy.bd) mc_X13_good ml_X13_61 im_X13_good se_X13_good (by decide) hy.bd.kd rfl (rm_of hr (by decide)) (Nat.le_of_ble_eq_true rfl) rfl dX13_suspect_97 (kmI rfl rfl (fun q21 hy => ?_))
        exact aw_iret (pc := 100) hX hr (by decide) (by decide) dX13_suspect_100 ⟨_, rfl, hy.s⟩
  · have hy := hy.t hc9
    refine aw_aloadn (pc := 12) hX 0 rfl dX13_suspect_12 ?_
    refine aw_iconst (pc := 13) hX 1 (by decide) dX13_suspect_13 ?_
    refine aw_callV (pc := 14) (st := []) (a := v0) hX [vI 1] (con_X13_refused _ G _ v0 1 hy.bd) mc_X13_refused ml_X13_57 im_X13_refused se_X13_refused (by decide) hy.bd.kd rfl (rm_of hr (by decide)) (Nat.le_of_ble_eq_true rfl) rfl dX13_suspect_14 (kmI rfl rfl (fun q24 hy => ?_))
    exact aw_iret (pc := 17) hX hr (by decide) (by decide) dX13_suspect_17 ⟨_, rfl, hy.s⟩
theorem con_X13_suspect (l : Launch) (G : GE) (h : Mem) (v0 : Nat) {P : (Int32 × Mem) → Prop} (hy : OK (f_X13_suspect h v0) P) : Con l G yX13_suspect cX13_suspect 3 (some .int) rm_X13_suspect [vR v0] h (pmI P) := Con.of (by decide) (Nat.le_of_ble_eq_true rfl) (fun X hX hr hN => w_X13_suspect hX hN hr h v0 hy)
/-! X13_gets -/
theorem dX13_gets_0 : decode cX13_gets 0 = .ok (.iload_n 1, 1) := by decide +kernel
theorem dX13_gets_1 : decode cX13_gets 1 = .ok (.iload_n 2, 1) := by decide +kernel
theorem dX13_gets_2 : decode cX13_gets 2 = .ok (.if_icmp .ge 7, 3) := by decide +kernel
theorem dX13_gets_5 : decode cX13_gets 5 = .ok (.iload_n 0, 1) := by decide +kernel
theorem dX13_gets_6 : decode cX13_gets 6 = .ok (.goto 15, 3) := by decide +kernel
theorem dX13_gets_9 : decode cX13_gets 9 = .ok (.iload_n 1, 1) := by decide +kernel
theorem dX13_gets_10 : decode cX13_gets 10 = .ok (.iload_n 2, 1) := by decide +kernel
theorem dX13_gets_11 : decode cX13_gets 11 = .ok (.if_icmp .ne 9, 3) := by decide +kernel
theorem dX13_gets_14 : decode cX13_gets 14 = .ok (.iload_n 0, 1) := by decide +kernel
theorem dX13_gets_15 : decode cX13_gets 15 = .ok (.iconst 2, 1) := by decide +kernel
theorem dX13_gets_16 : decode cX13_gets 16 = .ok (.idiv, 1) := by decide +kernel
theorem dX13_gets_17 : decode cX13_gets 17 = .ok (.goto 4, 3) := by decide +kernel
theorem dX13_gets_20 : decode cX13_gets 20 = .ok (.iconst 0, 1) := by decide +kernel
theorem dX13_gets_21 : decode cX13_gets 21 = .ok (.iload_n 1, 1) := by decide +kernel
theorem dX13_gets_22 : decode cX13_gets 22 = .ok (.iconst 2, 1) := by decide +kernel
theorem dX13_gets_23 : decode cX13_gets 23 = .ok (.isub, 1) := by decide +kernel
theorem dX13_gets_24 : decode cX13_gets 24 = .ok (.imul, 1) := by decide +kernel
theorem dX13_gets_25 : decode cX13_gets 25 = .ok (.ireturn, 1) := by decide +kernel
abbrev rm_X13_gets : Room := { frames := 0, cells := 0, slots := 0, locals := 0 }
def f_X13_gets_21 (h : Mem) (v1 : Int32) (s0 : Int32) : Option Int32 :=
  some (s0 * (v1 - 2))
set_option maxRecDepth 100000 in
set_option maxHeartbeats 4000000 in
theorem w_X13_gets_21 {G : GE} {X : CX} {l : Launch} (hX : Ok G X cX13_gets RX13) (hN : xn X = 3) (h : Mem) {P : Int32 → Prop} (hr : Rt G X l yX13_gets (some .int) rm_X13_gets (ppI h P)) (v1 : Int32) (s0 : Int32) (hy : OK (f_X13_gets_21 h v1 s0) P) : AW G X 21 [(1, vI v1)] [vI s0] h 0 0 := by
  unfold f_X13_gets_21 at hy
  refine aw_iloadn (pc := 21) hX 0 rfl dX13_gets_21 ?_
  refine aw_iconst (pc := 22) hX 2 (by decide) dX13_gets_22 ?_
  refine aw_isub (pc := 23) hX dX13_gets_23 ?_
  refine aw_imul (pc := 24) hX dX13_gets_24 ?_
  exact aw_iret (pc := 25) hX hr (by decide) (by decide) dX13_gets_25 ⟨rfl, _, rfl, hy.s⟩
def f_X13_gets (h : Mem) (v0 : Int32) (v1 : Int32) (v2 : Int32) : Option Int32 :=
  (if v2 ≤ v1 then (if v1 = v2 then (idv v0 2).bind fun x1 => f_X13_gets_21 h v1 x1 else f_X13_gets_21 h v1 0) else f_X13_gets_21 h v1 v0)
set_option maxRecDepth 100000 in
set_option maxHeartbeats 4000000 in
theorem w_X13_gets {G : GE} {X : CX} {l : Launch} (hX : Ok G X cX13_gets RX13) (hN : xn X = 3) (h : Mem) {P : Int32 → Prop} (hr : Rt G X l yX13_gets (some .int) rm_X13_gets (ppI h P)) (v0 : Int32) (v1 : Int32) (v2 : Int32) (hy : OK (f_X13_gets h v0 v1 v2) P) : AW G X 0 [(0, vI v0), (1, vI v1), (2, vI v2)] [] h 0 0 := by
  unfold f_X13_gets at hy
  refine aw_iloadn (pc := 0) hX 1 rfl dX13_gets_0 ?_
  refine aw_iloadn (pc := 1) hX 2 rfl dX13_gets_1 ?_
  refine aw_ic_ge (pc := 2) hX 9 (by decide) dX13_gets_2 (fun hc9 => ?_) (fun hc9 => ?_)
  · have hy := hy.t hc9
    refine aw_iloadn (pc := 9) hX 1 rfl dX13_gets_9 ?_
    refine aw_iloadn (pc := 10) hX 2 rfl dX13_gets_10 ?_
    refine aw_ic_ne (pc := 11) hX 20 (by decide) dX13_gets_11 (fun hc9 => ?_) (fun hc9 => ?_)
    · have hy := hy.f hc9
      refine aw_iconst (pc := 20) hX 0 (by decide) dX13_gets_20 ?_
      refine AW.sub [1] rfl ?_
      exact w_X13_gets_21 hX hN _ hr v1 0 hy
    · have hy := hy.t hc9
      refine aw_iloadn (pc := 14) hX 0 rfl dX13_gets_14 ?_
      refine aw_iconst (pc := 15) hX 2 (by decide) dX13_gets_15 ?_
      refine aw_idiv (pc := 16) hX hy dX13_gets_16 (fun x1 hy => ?_)
      refine aw_goto (pc := 17) hX 21 (by decide) dX13_gets_17 ?_
      refine AW.sub [1] rfl ?_
      exact w_X13_gets_21 hX hN _ hr v1 x1 hy
  · have hy := hy.f hc9
    refine aw_iloadn (pc := 5) hX 0 rfl dX13_gets_5 ?_
    refine aw_goto (pc := 6) hX 21 (by decide) dX13_gets_6 ?_
    refine AW.sub [1] rfl ?_
    exact w_X13_gets_21 hX hN _ hr v1 v0 hy
theorem con_X13_gets (l : Launch) (G : GE) (h : Mem) (v0 : Int32) (v1 : Int32) (v2 : Int32) {P : Int32 → Prop} (hy : OK (f_X13_gets h v0 v1 v2) P) : Con l G yX13_gets cX13_gets 3 (some .int) rm_X13_gets [vI v0, vI v1, vI v2] h (ppI h P) := Con.of (by decide) (Nat.le_of_ble_eq_true rfl) (fun X hX hr hN => w_X13_gets hX hN h hr v0 v1 v2 hy)
/-! X13_refusesMany -/
theorem dX13_refusesMany_0 : decode cX13_refusesMany 0 = .ok (.aload_n 0, 1) := by decide +kernel
theorem dX13_refusesMany_1 : decode cX13_refusesMany 1 = .ok (.getfield 338, 3) := by decide +kernel
theorem dX13_refusesMany_4 : decode cX13_refusesMany 4 = .ok (.ifnonnull 7, 3) := by decide +kernel
theorem dX13_refusesMany_7 : decode cX13_refusesMany 7 = .ok (.iconst 1, 1) := by decide +kernel
theorem dX13_refusesMany_8 : decode cX13_refusesMany 8 = .ok (.goto 18, 3) := by decide +kernel
theorem dX13_refusesMany_11 : decode cX13_refusesMany 11 = .ok (.iload_n 1, 1) := by decide +kernel
theorem dX13_refusesMany_12 : decode cX13_refusesMany 12 = .ok (.iconst 0, 1) := by decide +kernel
theorem dX13_refusesMany_13 : decode cX13_refusesMany 13 = .ok (.bipush 99, 2) := by decide +kernel
theorem dX13_refusesMany_15 : decode cX13_refusesMany 15 = .ok (.invokestatic 129, 3) := by decide +kernel
theorem dX13_refusesMany_18 : decode cX13_refusesMany 18 = .ok (.ifCond .eq 7, 3) := by decide +kernel
theorem dX13_refusesMany_21 : decode cX13_refusesMany 21 = .ok (.iconst 0, 1) := by decide +kernel
theorem dX13_refusesMany_22 : decode cX13_refusesMany 22 = .ok (.goto 4, 3) := by decide +kernel
theorem dX13_refusesMany_25 : decode cX13_refusesMany 25 = .ok (.iconst 2, 1) := by decide +kernel
theorem dX13_refusesMany_26 : decode cX13_refusesMany 26 = .ok (.ireturn, 1) := by decide +kernel
abbrev rm_X13_refusesMany : Room := { frames := 1, cells := 0, slots := 0, locals := 22 }
def f_X13_refusesMany (h : Mem) (v0 : Nat) (v1 : Int32) : Option Int32 :=
  (ck h v0 11).bind fun _ => (gR h v0 3 11).bind fun r1 => (if r1 = 0 then some 1 else (f_X13_in h v1 0 99).bind fun x2 => (if x2 = 0 then some 2 else some 0))
set_option maxRecDepth 100000 in
set_option maxHeartbeats 4000000 in
theorem w_X13_refusesMany {G : GE} {X : CX} {l : Launch} (hX : Ok G X cX13_refusesMany RX13) (hN : xn X = 2) (h : Mem) {P : Int32 → Prop} (hr : Rt G X l yX13_refusesMany (some .int) rm_X13_refusesMany (ppI h P)) (v0 : Nat) (v1 : Int32) (hy : OK (f_X13_refusesMany h v0 v1) P) : AW G X 0 [(0, vR v0), (1, vI v1)] [] h 0 0 := by
  unfold f_X13_refusesMany at hy
  have hkd := hy.kd
  have hy := hy.kb
  refine aw_aloadn (pc := 0) hX 0 rfl dX13_refusesMany_0 ?_
  refine aw_gR (pc := 1) hX hy fl_X13_338 (fun _ _ => rfl) dX13_refusesMany_1 (fun r1 hy => ?_)
  refine aw_ifnonnull (pc := 4) hX 11 (by decide) dX13_refusesMany_4 (fun hc9 => ?_) (fun hc9 => ?_)
  · have hy := hy.f hc9
    refine aw_iloadn (pc := 11) hX 1 rfl dX13_refusesMany_11 ?_
    refine aw_iconst (pc := 12) hX 0 (by decide) dX13_refusesMany_12 ?_
    refine aw_bipush (pc := 13) hX 99 (by decide) dX13_refusesMany_13 ?_
    refine aw_callS (pc := 15) (st := []) hX [vI v1, vI 0, vI 99] (con_X13_in _ G _ v1 0 99 hy.bd) mc_X13_in ml_X13_129 st_X13_in rfl (rm_of hr (by decide)) (Nat.le_of_ble_eq_true rfl) rfl dX13_refusesMany_15 (kpI rfl rfl (fun x2 hy => ?_))
    refine aw_if_eq (pc := 18) hX 25 (by decide) dX13_refusesMany_18 (fun hc9 => ?_) (fun hc9 => ?_)
    · have hy := hy.t hc9
      refine aw_iconst (pc := 25) hX 2 (by decide) dX13_refusesMany_25 ?_
      exact aw_iret (pc := 26) hX hr (by decide) (by decide) dX13_refusesMany_26 ⟨rfl, _, rfl, hy.s⟩
    · have hy := hy.f hc9
      refine aw_iconst (pc := 21) hX 0 (by decide) dX13_refusesMany_21 ?_
      refine aw_goto (pc := 22) hX 26 (by decide) dX13_refusesMany_22 ?_
      exact aw_iret (pc := 26) hX hr (by decide) (by decide) dX13_refusesMany_26 ⟨rfl, _, rfl, hy.s⟩
  · have hy := hy.t hc9
    refine aw_iconst (pc := 7) hX 1 (by decide) dX13_refusesMany_7 ?_
    refine aw_goto (pc := 8) hX 26 (by decide) dX13_refusesMany_8 ?_
    exact aw_iret (pc := 26) hX hr (by decide) (by decide) dX13_refusesMany_26 ⟨rfl, _, rfl, hy.s⟩
theorem con_X13_refusesMany (l : Launch) (G : GE) (h : Mem) (v0 : Nat) (v1 : Int32) {P : Int32 → Prop} (hy : OK (f_X13_refusesMany h v0 v1) P) : Con l G yX13_refusesMany cX13_refusesMany 2 (some .int) rm_X13_refusesMany [vR v0, vI v1] h (ppI h P) := Con.of (by decide) (Nat.le_of_ble_eq_true rfl) (fun X hX hr hN => w_X13_refusesMany hX hN h hr v0 v1 hy)
/-! X13_sells -/
theorem dX13_sells_0 : decode cX13_sells 0 = .ok (.aload_n 0, 1) := by decide +kernel
theorem dX13_sells_1 : decode cX13_sells 1 = .ok (.iconst 0, 1) := by decide +kernel
theorem dX13_sells_2 : decode cX13_sells 2 = .ok (.putfield 51, 3) := by decide +kernel
theorem dX13_sells_5 : decode cX13_sells 5 = .ok (.aload_n 0, 1) := by decide +kernel
theorem dX13_sells_6 : decode cX13_sells 6 = .ok (.iload_n 1, 1) := by decide +kernel
theorem dX13_sells_7 : decode cX13_sells 7 = .ok (.invokevirtual 496, 3) := by decide +kernel
theorem dX13_sells_10 : decode cX13_sells 10 = .ok (.istore 5, 2) := by decide +kernel
theorem dX13_sells_12 : decode cX13_sells 12 = .ok (.iload 5, 2) := by decide +kernel
theorem dX13_sells_14 : decode cX13_sells 14 = .ok (.ifCond .ne 26, 3) := by decide +kernel
theorem dX13_sells_17 : decode cX13_sells 17 = .ok (.iload_n 2, 1) := by decide +kernel
theorem dX13_sells_18 : decode cX13_sells 18 = .ok (.iconst 0, 1) := by decide +kernel
theorem dX13_sells_19 : decode cX13_sells 19 = .ok (.bipush 9, 2) := by decide +kernel
theorem dX13_sells_21 : decode cX13_sells 21 = .ok (.invokestatic 129, 3) := by decide +kernel
theorem dX13_sells_24 : decode cX13_sells 24 = .ok (.ifCond .eq 13, 3) := by decide +kernel
theorem dX13_sells_27 : decode cX13_sells 27 = .ok (.iload_n 3, 1) := by decide +kernel
theorem dX13_sells_28 : decode cX13_sells 28 = .ok (.iconst 0, 1) := by decide +kernel
theorem dX13_sells_29 : decode cX13_sells 29 = .ok (.bipush 9, 2) := by decide +kernel
theorem dX13_sells_31 : decode cX13_sells 31 = .ok (.invokestatic 129, 3) := by decide +kernel
theorem dX13_sells_34 : decode cX13_sells 34 = .ok (.ifCond .ne 6, 3) := by decide +kernel
theorem dX13_sells_37 : decode cX13_sells 37 = .ok (.iconst 2, 1) := by decide +kernel
theorem dX13_sells_38 : decode cX13_sells 38 = .ok (.istore 5, 2) := by decide +kernel
theorem dX13_sells_40 : decode cX13_sells 40 = .ok (.iload 5, 2) := by decide +kernel
theorem dX13_sells_42 : decode cX13_sells 42 = .ok (.ifCond .le 12, 3) := by decide +kernel
theorem dX13_sells_45 : decode cX13_sells 45 = .ok (.aload_n 0, 1) := by decide +kernel
theorem dX13_sells_46 : decode cX13_sells 46 = .ok (.iload 5, 2) := by decide +kernel
theorem dX13_sells_48 : decode cX13_sells 48 = .ok (.invokevirtual 499, 3) := by decide +kernel
theorem dX13_sells_51 : decode cX13_sells 51 = .ok (.goto 27, 3) := by decide +kernel
theorem dX13_sells_54 : decode cX13_sells 54 = .ok (.aload_n 0, 1) := by decide +kernel
theorem dX13_sells_55 : decode cX13_sells 55 = .ok (.iload 4, 2) := by decide +kernel
theorem dX13_sells_57 : decode cX13_sells 57 = .ok (.ifCond .eq 12, 3) := by decide +kernel
theorem dX13_sells_60 : decode cX13_sells 60 = .ok (.iload_n 1, 1) := by decide +kernel
theorem dX13_sells_61 : decode cX13_sells 61 = .ok (.iload_n 3, 1) := by decide +kernel
theorem dX13_sells_62 : decode cX13_sells 62 = .ok (.iload_n 2, 1) := by decide +kernel
theorem dX13_sells_63 : decode cX13_sells 63 = .ok (.invokestatic 502, 3) := by decide +kernel
theorem dX13_sells_66 : decode cX13_sells 66 = .ok (.goto 9, 3) := by decide +kernel
theorem dX13_sells_69 : decode cX13_sells 69 = .ok (.iload_n 1, 1) := by decide +kernel
theorem dX13_sells_70 : decode cX13_sells 70 = .ok (.iload_n 2, 1) := by decide +kernel
theorem dX13_sells_71 : decode cX13_sells 71 = .ok (.iload_n 3, 1) := by decide +kernel
theorem dX13_sells_72 : decode cX13_sells 72 = .ok (.invokestatic 502, 3) := by decide +kernel
theorem dX13_sells_75 : decode cX13_sells 75 = .ok (.invokevirtual 61, 3) := by decide +kernel
theorem dX13_sells_78 : decode cX13_sells 78 = .ok (.ireturn, 1) := by decide +kernel
abbrev rm_X13_sells : Room := { frames := 2, cells := 0, slots := 0, locals := 43 }
def f_X13_sells_75 (h : Mem) (s0 : Nat) (s1 : Int32) : Option (Int32 × Mem) :=
  (f_X13_good h s0 s1).bind fun q6 => some (q6.1, q6.2)
set_option maxRecDepth 100000 in
set_option maxHeartbeats 4000000 in
theorem w_X13_sells_75 {G : GE} {X : CX} {l : Launch} (hX : Ok G X cX13_sells RX13) (hN : xn X = 6) {P : (Int32 × Mem) → Prop} (hr : Rt G X l yX13_sells (some .int) rm_X13_sells (pmI P)) (h : Mem) (s0 : Nat) (s1 : Int32) (hy : OK (f_X13_sells_75 h s0 s1) P) : AW G X 75 [] [vI s1, vR s0] h 0 0 := by
  unfold f_X13_sells_75 at hy
  refine aw_callV (pc := 75) (st := []) (a := s0) hX [vI s1] (con_X13_good _ G _ s0 s1 hy.bd) mc_X13_good ml_X13_61 im_X13_good se_X13_good (by decide) hy.bd.kd rfl (rm_of hr (by decide)) (Nat.le_of_ble_eq_true rfl) rfl dX13_sells_75 (kmI rfl rfl (fun q6 hy => ?_))
  exact aw_iret (pc := 78) hX hr (by decide) (by decide) dX13_sells_78 ⟨_, rfl, hy.s⟩
def f_X13_sells_40 (h : Mem) (v0 : Nat) (v1 : Int32) (v2 : Int32) (v3 : Int32) (v4 : Int32) (v5 : Int32) : Option (Int32 × Mem) :=
  (if v5 ≤ 0 then (if v4 = 0 then (f_X13_gets h v1 v2 v3).bind fun x3 => f_X13_sells_75 h v0 x3 else (f_X13_gets h v1 v3 v2).bind fun x7 => f_X13_sells_75 h v0 x7) else (f_X13_lost h v0 v5).bind fun q10 => some (q10.1, q10.2))
set_option maxRecDepth 100000 in
set_option maxHeartbeats 4000000 in
theorem w_X13_sells_40 {G : GE} {X : CX} {l : Launch} (hX : Ok G X cX13_sells RX13) (hN : xn X = 6) {P : (Int32 × Mem) → Prop} (hr : Rt G X l yX13_sells (some .int) rm_X13_sells (pmI P)) (h : Mem) (v0 : Nat) (v1 : Int32) (v2 : Int32) (v3 : Int32) (v4 : Int32) (v5 : Int32) (hy : OK (f_X13_sells_40 h v0 v1 v2 v3 v4 v5) P) : AW G X 40 [(0, vR v0), (1, vI v1), (2, vI v2), (3, vI v3), (4, vI v4), (5, vI v5)] [] h 0 0 := by
  unfold f_X13_sells_40 at hy
  refine aw_iload (pc := 40) hX 5 rfl dX13_sells_40 ?_
  refine aw_if_le (pc := 42) hX 54 (by decide) dX13_sells_42 (fun hc9 => ?_) (fun hc9 => ?_)
  · have hy := hy.t hc9
    refine aw_aloadn (pc := 54) hX 0 rfl dX13_sells_54 ?_
    refine aw_iload (pc := 55) hX 4 rfl dX13_sells_55 ?_
    refine aw_if_eq (pc := 57) hX 69 (by decide) dX13_sells_57 (fun hc9 => ?_) (fun hc9 => ?_)
    · have hy := hy.t hc9
      refine aw_iloadn (pc := 69) hX 1 rfl dX13_sells_69 ?_
      refine aw_iloadn (pc := 70) hX 2 rfl dX13_sells_70 ?_
      refine aw_iloadn (pc := 71) hX 3 rfl dX13_sells_71 ?_
      refine aw_callS (pc := 72) (st := [vR v0]) hX [vI v1, vI v2, vI v3] (con_X13_gets _ G _ v1 v2 v3 hy.bd) mc_X13_gets ml_X13_502 st_X13_gets rfl (rm_of hr (by decide)) (Nat.le_of_ble_eq_true rfl) rfl dX13_sells_72 (kpI rfl rfl (fun x3 hy => ?_))
      refine AW.sub [] rfl ?_
      exact w_X13_sells_75 hX hN hr h v0 x3 hy
    · have hy := hy.f hc9
      refine aw_iloadn (pc := 60) hX 1 rfl dX13_sells_60 ?_
      refine aw_iloadn (pc := 61) hX 3 rfl dX13_sells_61 ?_
      refine aw_iloadn (pc := 62) hX 2 rfl dX13_sells_62 ?_
      refine aw_callS (pc := 63) (st := [vR v0]) hX [vI v1, vI v3, vI v2] (con_X13_gets _ G _ v1 v3 v2 hy.bd) mc_X13_gets ml_X13_502 st_X13_gets rfl (rm_of hr (by decide)) (Nat.le_of_ble_eq_true rfl) rfl dX13_sells_63 (kpI rfl rfl (fun x7 hy => ?_))
      refine aw_goto (pc := 66) hX 75 (by decide) dX13_sells_66 ?_
      refine AW.sub [] rfl ?_
      exact w_X13_sells_75 hX hN hr h v0 x7 hy
  · have hy := hy.f hc9
    refine aw_aloadn (pc := 45) hX 0 rfl dX13_sells_45 ?_
    refine aw_iload (pc := 46) hX 5 rfl dX13_sells_46 ?_
    refine aw_callV (pc := 48) (st := []) (a := v0) hX [vI v5] (con_X13_lost _ G _ v0 v5 hy.bd) mc_X13_lost ml_X13_499 im_X13_lost se_X13_lost (by decide) hy.bd.kd rfl (rm_of hr (by decide)) (Nat.le_of_ble_eq_true rfl) rfl dX13_sells_48 (kmI rfl rfl (fun q10 hy => ?_))
    refine aw_goto (pc := 51) hX 78 (by decide) dX13_sells_51 ?_
    exact aw_iret (pc := 78) hX hr (by decide) (by decide) dX13_sells_78 ⟨_, rfl, hy.s⟩
def f_X13_sells_37 (h : Mem) (v0 : Nat) (v1 : Int32) (v2 : Int32) (v3 : Int32) (v4 : Int32) : Option (Int32 × Mem) :=
  f_X13_sells_40 h v0 v1 v2 v3 v4 2
set_option maxRecDepth 100000 in
set_option maxHeartbeats 4000000 in
theorem w_X13_sells_37 {G : GE} {X : CX} {l : Launch} (hX : Ok G X cX13_sells RX13) (hN : xn X = 6) {P : (Int32 × Mem) → Prop} (hr : Rt G X l yX13_sells (some .int) rm_X13_sells (pmI P)) (h : Mem) (v0 : Nat) (v1 : Int32) (v2 : Int32) (v3 : Int32) (v4 : Int32) (hy : OK (f_X13_sells_37 h v0 v1 v2 v3 v4) P) : AW G X 37 [(0, vR v0), (1, vI v1), (2, vI v2), (3, vI v3), (4, vI v4)] [] h 0 0 := by
  unfold f_X13_sells_37 at hy
  refine aw_iconst (pc := 37) hX 2 (by decide) dX13_sells_37 ?_
  refine aw_istore (pc := 38) hX [(5, vI 2), (0, vR v0), (1, vI v1), (2, vI v2), (3, vI v3), (4, vI v4)] rfl (lt_n hN (by decide)) dX13_sells_38 ?_
  refine AW.sub [1, 2, 3, 4, 5, 0] rfl ?_
  exact w_X13_sells_40 hX hN hr h v0 v1 v2 v3 v4 2 hy
def f_X13_sells (h : Mem) (v0 : Nat) (v1 : Int32) (v2 : Int32) (v3 : Int32) (v4 : Int32) : Option (Int32 × Mem) :=
  (ck h v0 11).bind fun _ => (pI h v0 0 11 0).bind fun h1 => (f_X13_refusesMany h1 v0 v1).bind fun x2 => (if x2 = 0 then (f_X13_in h1 v2 0 9).bind fun x11 => (if x11 = 0 then f_X13_sells_37 h1 v0 v1 v2 v3 v4 else (f_X13_in h1 v3 0 9).bind fun x12 => (if x12 = 0 then f_X13_sells_37 h1 v0 v1 v2 v3 v4 else f_X13_sells_40 h1 v0 v1 v2 v3 v4 x2)) else f_X13_sells_40 h1 v0 v1 v2 v3 v4 x2)
set_option maxRecDepth 100000 in
set_option maxHeartbeats 4000000 in
theorem w_X13_sells {G : GE} {X : CX} {l : Launch} (hX : Ok G X cX13_sells RX13) (hN : xn X = 6) {P : (Int32 × Mem) → Prop} (hr : Rt G X l yX13_sells (some .int) rm_X13_sells (pmI P)) (h : Mem) (v0 : Nat) (v1 : Int32) (v2 : Int32) (v3 : Int32) (v4 : Int32) (hy : OK (f_X13_sells h v0 v1 v2 v3 v4) P) : AW G X 0 [(0, vR v0), (1, vI v1), (2, vI v2), (3, vI v3), (4, vI v4)] [] h 0 0 := by
  unfold f_X13_sells at hy
  have hkd := hy.kd
  have hy := hy.kb
  refine aw_aloadn (pc := 0) hX 0 rfl dX13_sells_0 ?_
  refine aw_iconst (pc := 1) hX 0 (by decide) dX13_sells_1 ?_
  refine aw_pI (pc := 2) hX hy fl_X13_51 rfl (Or.inl rfl) dX13_sells_2 (fun h1 hy => ?_)
  refine aw_aloadn (pc := 5) hX 0 rfl dX13_sells_5 ?_
  refine aw_iloadn (pc := 6) hX 1 rfl dX13_sells_6 ?_
  refine aw_callV (pc := 7) (st := []) (a := v0) hX [vI v1] (con_X13_refusesMany _ G _ v0 v1 hy.bd) mc_X13_refusesMany ml_X13_496 im_X13_refusesMany se_X13_refusesMany (by decide) hy.bd.kd rfl (rm_of hr (by decide)) (Nat.le_of_ble_eq_true rfl) rfl dX13_sells_7 (kpI rfl rfl (fun x2 hy => ?_))
  refine aw_istore (pc := 10) hX [(5, vI x2), (0, vR v0), (1, vI v1), (2, vI v2), (3, vI v3), (4, vI v4)] rfl (lt_n hN (by decide)) dX13_sells_10 ?_
  refine aw_iload (pc := 12) hX 0 rfl dX13_sells_12 ?_
  refine aw_if_ne (pc := 14) hX 40 (by decide) dX13_sells_14 (fun hc9 => ?_) (fun hc9 => ?_)
  · have hy := hy.f hc9
    refine AW.sub [1, 2, 3, 4, 5, 0] rfl ?_
    exact w_X13_sells_40 hX hN hr h1 v0 v1 v2 v3 v4 x2 hy
  · have hy := hy.t hc9
    refine aw_iloadn (pc := 17) hX 3 rfl dX13_sells_17 ?_
    refine aw_iconst (pc := 18) hX 0 (by decide) dX13_sells_18 ?_
    refine aw_bipush (pc := 19) hX 9 (by decide) dX13_sells_19 ?_
    refine aw_callS (pc := 21) (st := []) hX [vI v2, vI 0, vI 9] (con_X13_in _ G _ v2 0 9 hy.bd) mc_X13_in ml_X13_129 st_X13_in rfl (rm_of hr (by decide)) (Nat.le_of_ble_eq_true rfl) rfl dX13_sells_21 (kpI rfl rfl (fun x11 hy => ?_))
    refine aw_if_eq (pc := 24) hX 37 (by decide) dX13_sells_24 (fun hc9 => ?_) (fun hc9 => ?_)
    · have hy := hy.t hc9
      refine AW.sub [1, 2, 3, 4, 5] rfl ?_
      exact w_X13_sells_37 hX hN hr h1 v0 v1 v2 v3 v4 hy
    · have hy := hy.f hc9
      refine aw_iloadn (pc := 27) hX 4 rfl dX13_sells_27 ?_
      refine aw_iconst (pc := 28) hX 0 (by decide) dX13_sells_28 ?_
      refine aw_bipush (pc := 29) hX 9 (by decide) dX13_sells_29 ?_
      refine aw_callS (pc := 31) (st := []) hX [vI v3, vI 0, vI 9] (con_X13_in _ G _ v3 0 9 hy.bd) mc_X13_in ml_X13_129 st_X13_in rfl (rm_of hr (by decide)) (Nat.le_of_ble_eq_true rfl) rfl dX13_sells_31 (kpI rfl rfl (fun x12 hy => ?_))
      refine aw_if_ne (pc := 34) hX 40 (by decide) dX13_sells_34 (fun hc9 => ?_) (fun hc9 => ?_)
      · have hy := hy.f hc9
        refine AW.sub [1, 2, 3, 4, 5, 0] rfl ?_
        exact w_X13_sells_40 hX hN hr h1 v0 v1 v2 v3 v4 x2 hy
      · have hy := hy.t hc9
        refine AW.sub [1, 2, 3, 4, 5] rfl ?_
        exact w_X13_sells_37 hX hN hr h1 v0 v1 v2 v3 v4 hy
theorem con_X13_sells (l : Launch) (G : GE) (h : Mem) (v0 : Nat) (v1 : Int32) (v2 : Int32) (v3 : Int32) (v4 : Int32) {P : (Int32 × Mem) → Prop} (hy : OK (f_X13_sells h v0 v1 v2 v3 v4) P) : Con l G yX13_sells cX13_sells 6 (some .int) rm_X13_sells [vR v0, vI v1, vI v2, vI v3, vI v4] h (pmI P) := Con.of (by decide) (Nat.le_of_ble_eq_true rfl) (fun X hX hr hN => w_X13_sells hX hN hr h v0 v1 v2 v3 v4 hy)
/-! X13_isRest -/
theorem dX13_isRest_0 : decode cX13_isRest 0 = .ok (.iconst 0, 1) := by decide +kernel
theorem dX13_isRest_1 : decode cX13_isRest 1 = .ok (.istore_n 3, 1) := by decide +kernel
theorem dX13_isRest_2 : decode cX13_isRest 2 = .ok (.iload_n 3, 1) := by decide +kernel
theorem dX13_isRest_3 : decode cX13_isRest 3 = .ok (.bipush 10, 2) := by decide +kernel
theorem dX13_isRest_5 : decode cX13_isRest 5 = .ok (.if_icmp .ge 41, 3) := by decide +kernel
theorem dX13_isRest_8 : decode cX13_isRest 8 = .ok (.iload_n 0, 1) := by decide +kernel
theorem dX13_isRest_9 : decode cX13_isRest 9 = .ok (.iload_n 3, 1) := by decide +kernel
theorem dX13_isRest_10 : decode cX13_isRest 10 = .ok (.iload_n 2, 1) := by decide +kernel
theorem dX13_isRest_11 : decode cX13_isRest 11 = .ok (.invokestatic 502, 3) := by decide +kernel
theorem dX13_isRest_14 : decode cX13_isRest 14 = .ok (.iload_n 0, 1) := by decide +kernel
theorem dX13_isRest_15 : decode cX13_isRest 15 = .ok (.iload_n 1, 1) := by decide +kernel
theorem dX13_isRest_16 : decode cX13_isRest 16 = .ok (.iload_n 2, 1) := by decide +kernel
theorem dX13_isRest_17 : decode cX13_isRest 17 = .ok (.invokestatic 502, 3) := by decide +kernel
theorem dX13_isRest_20 : decode cX13_isRest 20 = .ok (.if_icmp .gt 18, 3) := by decide +kernel
theorem dX13_isRest_23 : decode cX13_isRest 23 = .ok (.iload_n 0, 1) := by decide +kernel
theorem dX13_isRest_24 : decode cX13_isRest 24 = .ok (.iload_n 3, 1) := by decide +kernel
theorem dX13_isRest_25 : decode cX13_isRest 25 = .ok (.iload_n 1, 1) := by decide +kernel
theorem dX13_isRest_26 : decode cX13_isRest 26 = .ok (.invokestatic 502, 3) := by decide +kernel
theorem dX13_isRest_29 : decode cX13_isRest 29 = .ok (.iload_n 0, 1) := by decide +kernel
theorem dX13_isRest_30 : decode cX13_isRest 30 = .ok (.iload_n 2, 1) := by decide +kernel
theorem dX13_isRest_31 : decode cX13_isRest 31 = .ok (.iload_n 1, 1) := by decide +kernel
theorem dX13_isRest_32 : decode cX13_isRest 32 = .ok (.invokestatic 502, 3) := by decide +kernel
theorem dX13_isRest_35 : decode cX13_isRest 35 = .ok (.if_icmp .le 5, 3) := by decide +kernel
theorem dX13_isRest_38 : decode cX13_isRest 38 = .ok (.iconst 0, 1) := by decide +kernel
theorem dX13_isRest_39 : decode cX13_isRest 39 = .ok (.ireturn, 1) := by decide +kernel
theorem dX13_isRest_40 : decode cX13_isRest 40 = .ok (.iinc 3 1, 3) := by decide +kernel
theorem dX13_isRest_43 : decode cX13_isRest 43 = .ok (.goto (-41), 3) := by decide +kernel
theorem dX13_isRest_46 : decode cX13_isRest 46 = .ok (.iconst 1, 1) := by decide +kernel
theorem dX13_isRest_47 : decode cX13_isRest 47 = .ok (.ireturn, 1) := by decide +kernel
abbrev rm_X13_isRest : Room := { frames := 1, cells := 0, slots := 0, locals := 22 }
def b_X13_isRest_2 (h : Mem) (v0 : Int32) (v1 : Int32) (v2 : Int32) (v3 : Int32) : Option (Int32 ⊕ (Unit ⊕ Unit)) :=
  (if 10 ≤ v3 then some (.inr (.inr ())) else (f_X13_gets h v0 v3 v2).bind fun x1 => (f_X13_gets h v0 v1 v2).bind fun x2 => (if x2 < x1 then some (.inr (.inl ())) else (f_X13_gets h v0 v3 v1).bind fun x3 => (f_X13_gets h v0 v2 v1).bind fun x4 => (if x3 ≤ x4 then some (.inl (v3 + 1)) else some (.inr (.inl ())))))
set_option maxRecDepth 100000 in
set_option maxHeartbeats 4000000 in
theorem wb_X13_isRest_2 {G : GE} {X : CX} {l : Launch} (hX : Ok G X cX13_isRest RX13) (hN : xn X = 4) (h : Mem) {P0 : Int32 → Prop} (hr : Rt G X l yX13_isRest (some .boolean) rm_X13_isRest (ppI h P0))  (v0 : Int32) (v1 : Int32) (v2 : Int32) {P : (Int32 ⊕ (Unit ⊕ Unit)) → Prop} (hc : ∀ s, P (.inl s) → AW G X 2 [(0, vI v0), (1, vI v1), (2, vI v2), (3, vI s)] [] h 0 0) (he0 : ∀ e, P (.inr (.inl e)) → AW G X 38 [] [] h 0 0) (he1 : ∀ e, P (.inr (.inr e)) → AW G X 46 [] [] h 0 0) (v3 : Int32) (hy : OK (b_X13_isRest_2 h v0 v1 v2 v3) P) : AW G X 2 [(0, vI v0), (1, vI v1), (2, vI v2), (3, vI v3)] [] h 0 0 := by
  unfold b_X13_isRest_2 at hy
  refine aw_iloadn (pc := 2) hX 3 rfl dX13_isRest_2 ?_
  refine aw_bipush (pc := 3) hX 10 (by decide) dX13_isRest_3 ?_
  refine aw_ic_ge (pc := 5) hX 46 (by decide) dX13_isRest_5 (fun hc9 => ?_) (fun hc9 => ?_)
  · have hy := hy.t hc9
    refine AW.sub [] rfl ?_
    exact he1 () hy.s
  · have hy := hy.f hc9
    refine aw_iloadn (pc := 8) hX 0 rfl dX13_isRest_8 ?_
    refine aw_iloadn (pc := 9) hX 3 rfl dX13_isRest_9 ?_
    refine aw_iloadn (pc := 10) hX 2 rfl dX13_isRest_10 ?_
    refine aw_callS (pc := 11) (st := []) hX [vI v0, vI v3, vI v2] (con_X13_gets _ G _ v0 v3 v2 hy.bd) mc_X13_gets ml_X13_502 st_X13_gets rfl (rm_of hr (by decide)) (Nat.le_of_ble_eq_true rfl) rfl dX13_isRest_11 (kpI rfl rfl (fun x1 hy => ?_))
    refine aw_iloadn (pc := 14) hX 0 rfl dX13_isRest_14 ?_
    refine aw_iloadn (pc := 15) hX 1 rfl dX13_isRest_15 ?_
    refine aw_iloadn (pc := 16) hX 2 rfl dX13_isRest_16 ?_
    refine aw_callS (pc := 17) (st := [vI x1]) hX [vI v0, vI v1, vI v2] (con_X13_gets _ G _ v0 v1 v2 hy.bd) mc_X13_gets ml_X13_502 st_X13_gets rfl (rm_of hr (by decide)) (Nat.le_of_ble_eq_true rfl) rfl dX13_isRest_17 (kpI rfl rfl (fun x2 hy => ?_))
    refine aw_ic_gt (pc := 20) hX 38 (by decide) dX13_isRest_20 (fun hc9 => ?_) (fun hc9 => ?_)
    · have hy := hy.t hc9
      refine AW.sub [] rfl ?_
      exact he0 () hy.s
    · have hy := hy.f hc9
      refine aw_iloadn (pc := 23) hX 0 rfl dX13_isRest_23 ?_
      refine aw_iloadn (pc := 24) hX 3 rfl dX13_isRest_24 ?_
      refine aw_iloadn (pc := 25) hX 1 rfl dX13_isRest_25 ?_
      refine aw_callS (pc := 26) (st := []) hX [vI v0, vI v3, vI v1] (con_X13_gets _ G _ v0 v3 v1 hy.bd) mc_X13_gets ml_X13_502 st_X13_gets rfl (rm_of hr (by decide)) (Nat.le_of_ble_eq_true rfl) rfl dX13_isRest_26 (kpI rfl rfl (fun x3 hy => ?_))
      refine aw_iloadn (pc := 29) hX 0 rfl dX13_isRest_29 ?_
      refine aw_iloadn (pc := 30) hX 2 rfl dX13_isRest_30 ?_
      refine aw_iloadn (pc := 31) hX 1 rfl dX13_isRest_31 ?_
      refine aw_callS (pc := 32) (st := [vI x3]) hX [vI v0, vI v2, vI v1] (con_X13_gets _ G _ v0 v2 v1 hy.bd) mc_X13_gets ml_X13_502 st_X13_gets rfl (rm_of hr (by decide)) (Nat.le_of_ble_eq_true rfl) rfl dX13_isRest_32 (kpI rfl rfl (fun x4 hy => ?_))
      refine aw_ic_le (pc := 35) hX 40 (by decide) dX13_isRest_35 (fun hc9 => ?_) (fun hc9 => ?_)
      · have hy := hy.t hc9
        refine aw_iinc (pc := 40) hX 1 (by decide) 3 rfl [(3, vI (v3 + 1)), (0, vI v0), (1, vI v1), (2, vI v2)] rfl (lt_n hN (by decide)) dX13_isRest_40 ?_
        refine aw_goto (pc := 43) hX 2 (by decide) dX13_isRest_43 ?_
        refine AW.sub [1, 2, 3, 0] rfl ?_
        exact hc (v3 + 1) hy.s
      · have hy := hy.f hc9
        refine AW.sub [] rfl ?_
        exact he0 () hy.s
theorem wl_X13_isRest_2 {G : GE} {X : CX} {l : Launch} (hX : Ok G X cX13_isRest RX13) (hN : xn X = 4) (h : Mem) {P0 : Int32 → Prop} (hr : Rt G X l yX13_isRest (some .boolean) rm_X13_isRest (ppI h P0)) (v0 : Int32) (v1 : Int32) (v2 : Int32) {P : (Unit ⊕ Unit) → Prop} (he0 : ∀ e, P (.inl e) → AW G X 38 [] [] h 0 0) (he1 : ∀ e, P (.inr e) → AW G X 46 [] [] h 0 0) : ∀ (n : Nat) (s : Int32), OK (iter (fun (s : Int32) => b_X13_isRest_2 h v0 v1 v2 s) n s) P → AW G X 2 [(0, vI v0), (1, vI v1), (2, vI v2), (3, vI s)] [] h 0 0 := by
  intro n
  induction n with
  | zero => exact fun s hy => hy.it0.elim
  | succ n ih =>
    intro s hy
    exact wb_X13_isRest_2 hX hN h hr v0 v1 v2 (fun s hs => ih s hs) (fun e hs => he0 e hs) (fun e hs => he1 e hs) s hy.it
def f_X13_isRest (h : Mem) (v0 : Int32) (v1 : Int32) (v2 : Int32) : Option Int32 :=
  (iter (fun (s : Int32) => b_X13_isRest_2 h v0 v1 v2 s) FU 0).bind (Sum.elim (fun e6 => some 0) (fun e7 => some 1))
set_option maxRecDepth 100000 in
set_option maxHeartbeats 4000000 in
theorem w_X13_isRest {G : GE} {X : CX} {l : Launch} (hX : Ok G X cX13_isRest RX13) (hN : xn X = 4) (h : Mem) {P : Int32 → Prop} (hr : Rt G X l yX13_isRest (some .boolean) rm_X13_isRest (ppI h P)) (v0 : Int32) (v1 : Int32) (v2 : Int32) (hy : OK (f_X13_isRest h v0 v1 v2) P) : AW G X 0 [(0, vI v0), (1, vI v1), (2, vI v2)] [] h 0 0 := by
  unfold f_X13_isRest at hy
  refine aw_iconst (pc := 0) hX 0 (by decide) dX13_isRest_0 ?_
  refine aw_istoren (pc := 1) hX [(3, vI 0), (0, vI v0), (1, vI v1), (2, vI v2)] rfl (lt_n hN (by decide)) dX13_isRest_1 ?_
  refine AW.sub [1, 2, 3, 0] rfl ?_
  refine wl_X13_isRest_2 hX hN _ hr v0 v1 v2 ?_ ?_ FU 0 hy.bd
  · intro e6 hy
    refine aw_iconst (pc := 38) hX 0 (by decide) dX13_isRest_38 ?_
    exact aw_zret (pc := 39) hX hr (by decide) (by decide) dX13_isRest_39 (Or.inl rfl) ⟨rfl, _, rfl, hy.s⟩
  · intro e7 hy
    refine aw_iconst (pc := 46) hX 1 (by decide) dX13_isRest_46 ?_
    exact aw_zret (pc := 47) hX hr (by decide) (by decide) dX13_isRest_47 (Or.inr rfl) ⟨rfl, _, rfl, hy.s⟩
theorem con_X13_isRest (l : Launch) (G : GE) (h : Mem) (v0 : Int32) (v1 : Int32) (v2 : Int32) {P : Int32 → Prop} (hy : OK (f_X13_isRest h v0 v1 v2) P) : Con l G yX13_isRest cX13_isRest 4 (some .boolean) rm_X13_isRest [vI v0, vI v1, vI v2] h (ppI h P) := Con.of (by decide) (Nat.le_of_ble_eq_true rfl) (fun X hX hr hN => w_X13_isRest hX hN h hr v0 v1 v2 hy)
/-! X13_rests -/
theorem dX13_rests_0 : decode cX13_rests 0 = .ok (.aload_n 0, 1) := by decide +kernel
theorem dX13_rests_1 : decode cX13_rests 1 = .ok (.iconst 0, 1) := by decide +kernel
theorem dX13_rests_2 : decode cX13_rests 2 = .ok (.putfield 51, 3) := by decide +kernel
theorem dX13_rests_5 : decode cX13_rests 5 = .ok (.aload_n 0, 1) := by decide +kernel
theorem dX13_rests_6 : decode cX13_rests 6 = .ok (.iload_n 1, 1) := by decide +kernel
theorem dX13_rests_7 : decode cX13_rests 7 = .ok (.invokevirtual 496, 3) := by decide +kernel
theorem dX13_rests_10 : decode cX13_rests 10 = .ok (.istore_n 2, 1) := by decide +kernel
theorem dX13_rests_11 : decode cX13_rests 11 = .ok (.iload_n 2, 1) := by decide +kernel
theorem dX13_rests_12 : decode cX13_rests 12 = .ok (.ifCond .le 9, 3) := by decide +kernel
theorem dX13_rests_15 : decode cX13_rests 15 = .ok (.aload_n 0, 1) := by decide +kernel
theorem dX13_rests_16 : decode cX13_rests 16 = .ok (.iload_n 2, 1) := by decide +kernel
theorem dX13_rests_17 : decode cX13_rests 17 = .ok (.invokevirtual 57, 3) := by decide +kernel
theorem dX13_rests_20 : decode cX13_rests 20 = .ok (.ireturn, 1) := by decide +kernel
theorem dX13_rests_21 : decode cX13_rests 21 = .ok (.iconst 0, 1) := by decide +kernel
theorem dX13_rests_22 : decode cX13_rests 22 = .ok (.istore_n 3, 1) := by decide +kernel
theorem dX13_rests_23 : decode cX13_rests 23 = .ok (.iconst 0, 1) := by decide +kernel
theorem dX13_rests_24 : decode cX13_rests 24 = .ok (.istore 4, 2) := by decide +kernel
theorem dX13_rests_26 : decode cX13_rests 26 = .ok (.iload 4, 2) := by decide +kernel
theorem dX13_rests_28 : decode cX13_rests 28 = .ok (.bipush 100, 2) := by decide +kernel
theorem dX13_rests_30 : decode cX13_rests 30 = .ok (.if_icmp .ge 34, 3) := by decide +kernel
theorem dX13_rests_33 : decode cX13_rests 33 = .ok (.iload_n 3, 1) := by decide +kernel
theorem dX13_rests_34 : decode cX13_rests 34 = .ok (.iload_n 1, 1) := by decide +kernel
theorem dX13_rests_35 : decode cX13_rests 35 = .ok (.iload 4, 2) := by decide +kernel
theorem dX13_rests_37 : decode cX13_rests 37 = .ok (.bipush 10, 2) := by decide +kernel
theorem dX13_rests_39 : decode cX13_rests 39 = .ok (.idiv, 1) := by decide +kernel
theorem dX13_rests_40 : decode cX13_rests 40 = .ok (.iload 4, 2) := by decide +kernel
theorem dX13_rests_42 : decode cX13_rests 42 = .ok (.bipush 10, 2) := by decide +kernel
theorem dX13_rests_44 : decode cX13_rests 44 = .ok (.irem, 1) := by decide +kernel
theorem dX13_rests_45 : decode cX13_rests 45 = .ok (.invokestatic 506, 3) := by decide +kernel
theorem dX13_rests_48 : decode cX13_rests 48 = .ok (.ifCond .eq 7, 3) := by decide +kernel
theorem dX13_rests_51 : decode cX13_rests 51 = .ok (.iconst 1, 1) := by decide +kernel
theorem dX13_rests_52 : decode cX13_rests 52 = .ok (.goto 4, 3) := by decide +kernel
theorem dX13_rests_55 : decode cX13_rests 55 = .ok (.iconst 0, 1) := by decide +kernel
theorem dX13_rests_56 : decode cX13_rests 56 = .ok (.iadd, 1) := by decide +kernel
theorem dX13_rests_57 : decode cX13_rests 57 = .ok (.istore_n 3, 1) := by decide +kernel
theorem dX13_rests_58 : decode cX13_rests 58 = .ok (.iinc 4 1, 3) := by decide +kernel
theorem dX13_rests_61 : decode cX13_rests 61 = .ok (.goto (-35), 3) := by decide +kernel
theorem dX13_rests_64 : decode cX13_rests 64 = .ok (.aload_n 0, 1) := by decide +kernel
theorem dX13_rests_65 : decode cX13_rests 65 = .ok (.iload_n 3, 1) := by decide +kernel
theorem dX13_rests_66 : decode cX13_rests 66 = .ok (.invokevirtual 61, 3) := by decide +kernel
theorem dX13_rests_69 : decode cX13_rests 69 = .ok (.ireturn, 1) := by decide +kernel
abbrev rm_X13_rests : Room := { frames := 2, cells := 0, slots := 0, locals := 45 }
def f_X13_rests_56 (h : Mem) (v0 : Nat) (v1 : Int32) (v4 : Int32) (s0 : Int32) (s1 : Int32) : Option ((Int32 × Int32) ⊕ Int32) :=
  some (.inl ((s0 + s1), (v4 + 1)))
set_option maxRecDepth 100000 in
set_option maxHeartbeats 4000000 in
theorem w_X13_rests_56 {G : GE} {X : CX} {l : Launch} (hX : Ok G X cX13_rests RX13) (hN : xn X = 5) {P0 : (Int32 × Mem) → Prop} (hr : Rt G X l yX13_rests (some .int) rm_X13_rests (pmI P0)) (h : Mem)  (v0 : Nat) (v1 : Int32) {P : ((Int32 × Int32) ⊕ Int32) → Prop} (hc : ∀ s, P (.inl s) → AW G X 26 [(0, vR v0), (1, vI v1), (3, vI s.1), (4, vI s.2)] [] h 0 0) (he0 : ∀ e, P (.inr e) → AW G X 64 [(0, vR v0), (3, vI e)] [] h 0 0) (v4 : Int32) (s0 : Int32) (s1 : Int32) (hy : OK (f_X13_rests_56 h v0 v1 v4 s0 s1) P) : AW G X 56 [(0, vR v0), (1, vI v1), (4, vI v4)] [vI s1, vI s0] h 0 0 := by
  unfold f_X13_rests_56 at hy
  refine aw_iadd (pc := 56) hX dX13_rests_56 ?_
  refine aw_istoren (pc := 57) hX [(3, vI (s0 + s1)), (0, vR v0), (1, vI v1), (4, vI v4)] rfl (lt_n hN (by decide)) dX13_rests_57 ?_
  refine aw_iinc (pc := 58) hX 1 (by decide) 3 rfl [(4, vI (v4 + 1)), (3, vI (s0 + s1)), (0, vR v0), (1, vI v1)] rfl (lt_n hN (by decide)) dX13_rests_58 ?_
  refine aw_goto (pc := 61) hX 26 (by decide) dX13_rests_61 ?_
  refine AW.sub [2, 3, 1, 0] rfl ?_
  exact hc ((s0 + s1), (v4 + 1)) hy.s
def b_X13_rests_26 (h : Mem) (v0 : Nat) (v1 : Int32) (v3 : Int32) (v4 : Int32) : Option ((Int32 × Int32) ⊕ Int32) :=
  (if 100 ≤ v4 then some (.inr v3) else (idv v4 10).bind fun x3 => (irm v4 10).bind fun x4 => (f_X13_isRest h v1 x3 x4).bind fun x5 => (if x5 = 0 then f_X13_rests_56 h v0 v1 v4 v3 0 else f_X13_rests_56 h v0 v1 v4 v3 1))
set_option maxRecDepth 100000 in
set_option maxHeartbeats 4000000 in
theorem wb_X13_rests_26 {G : GE} {X : CX} {l : Launch} (hX : Ok G X cX13_rests RX13) (hN : xn X = 5) {P0 : (Int32 × Mem) → Prop} (hr : Rt G X l yX13_rests (some .int) rm_X13_rests (pmI P0)) (h : Mem)  (v0 : Nat) (v1 : Int32) {P : ((Int32 × Int32) ⊕ Int32) → Prop} (hc : ∀ s, P (.inl s) → AW G X 26 [(0, vR v0), (1, vI v1), (3, vI s.1), (4, vI s.2)] [] h 0 0) (he0 : ∀ e, P (.inr e) → AW G X 64 [(0, vR v0), (3, vI e)] [] h 0 0) (v3 : Int32) (v4 : Int32) (hy : OK (b_X13_rests_26 h v0 v1 v3 v4) P) : AW G X 26 [(0, vR v0), (1, vI v1), (3, vI v3), (4, vI v4)] [] h 0 0 := by
  unfold b_X13_rests_26 at hy
  refine aw_iload (pc := 26) hX 3 rfl dX13_rests_26 ?_
  refine aw_bipush (pc := 28) hX 100 (by decide) dX13_rests_28 ?_
  refine aw_ic_ge (pc := 30) hX 64 (by decide) dX13_rests_30 (fun hc9 => ?_) (fun hc9 => ?_)
  · have hy := hy.t hc9
    refine AW.sub [0, 2] rfl ?_
    exact he0 v3 hy.s
  · have hy := hy.f hc9
    refine aw_iloadn (pc := 33) hX 2 rfl dX13_rests_33 ?_
    refine aw_iloadn (pc := 34) hX 1 rfl dX13_rests_34 ?_
    refine aw_iload (pc := 35) hX 3 rfl dX13_rests_35 ?_
    refine aw_bipush (pc := 37) hX 10 (by decide) dX13_rests_37 ?_
    refine aw_idiv (pc := 39) hX hy dX13_rests_39 (fun x3 hy => ?_)
    refine aw_iload (pc := 40) hX 3 rfl dX13_rests_40 ?_
    refine aw_bipush (pc := 42) hX 10 (by decide) dX13_rests_42 ?_
    refine aw_irem (pc := 44) hX hy dX13_rests_44 (fun x4 hy => ?_)
    refine aw_callS (pc := 45) (st := [vI v3]) hX [vI v1, vI x3, vI x4] (con_X13_isRest _ G _ v1 x3 x4 hy.bd) mc_X13_isRest ml_X13_506 st_X13_isRest rfl (rm_of hr (by decide)) (Nat.le_of_ble_eq_true rfl) rfl dX13_rests_45 (kpI rfl rfl (fun x5 hy => ?_))
    refine aw_if_eq (pc := 48) hX 55 (by decide) dX13_rests_48 (fun hc9 => ?_) (fun hc9 => ?_)
    · have hy := hy.t hc9
      refine aw_iconst (pc := 55) hX 0 (by decide) dX13_rests_55 ?_
      refine AW.sub [0, 1, 3] rfl ?_
      exact w_X13_rests_56 hX hN hr _ _ _ hc he0 v4 v3 0 hy
    · have hy := hy.f hc9
      refine aw_iconst (pc := 51) hX 1 (by decide) dX13_rests_51 ?_
      refine aw_goto (pc := 52) hX 56 (by decide) dX13_rests_52 ?_
      refine AW.sub [0, 1, 3] rfl ?_
      exact w_X13_rests_56 hX hN hr _ _ _ hc he0 v4 v3 1 hy
theorem wl_X13_rests_26 {G : GE} {X : CX} {l : Launch} (hX : Ok G X cX13_rests RX13) (hN : xn X = 5) {P0 : (Int32 × Mem) → Prop} (hr : Rt G X l yX13_rests (some .int) rm_X13_rests (pmI P0)) (h : Mem) (v0 : Nat) (v1 : Int32) {P : (Int32) → Prop} (he0 : ∀ e, P e → AW G X 64 [(0, vR v0), (3, vI e)] [] h 0 0) : ∀ (n : Nat) (s : Int32 × Int32), OK (iter (fun (s : Int32 × Int32) => b_X13_rests_26 h v0 v1 s.1 s.2) n s) P → AW G X 26 [(0, vR v0), (1, vI v1), (3, vI s.1), (4, vI s.2)] [] h 0 0 := by
  intro n
  induction n with
  | zero => exact fun s hy => hy.it0.elim
  | succ n ih =>
    intro s hy
    exact wb_X13_rests_26 hX hN hr h v0 v1 (fun s hs => ih s hs) (fun e hs => he0 e hs) s.1 s.2 hy.it
def f_X13_rests (h : Mem) (v0 : Nat) (v1 : Int32) : Option (Int32 × Mem) :=
  (ck h v0 11).bind fun _ => (pI h v0 0 11 0).bind fun h1 => (f_X13_refusesMany h1 v0 v1).bind fun x2 => (if x2 ≤ 0 then (iter (fun (s : Int32 × Int32) => b_X13_rests_26 h1 v0 v1 s.1 s.2) FU (0, 0)).bind (fun q6 => (f_X13_good h1 v0 q6).bind fun q9 => some (q9.1, q9.2)) else (f_X13_refused h1 v0 x2).bind fun q12 => some (q12.1, q12.2))
set_option maxRecDepth 100000 in
set_option maxHeartbeats 4000000 in
theorem w_X13_rests {G : GE} {X : CX} {l : Launch} (hX : Ok G X cX13_rests RX13) (hN : xn X = 5) {P : (Int32 × Mem) → Prop} (hr : Rt G X l yX13_rests (some .int) rm_X13_rests (pmI P)) (h : Mem) (v0 : Nat) (v1 : Int32) (hy : OK (f_X13_rests h v0 v1) P) : AW G X 0 [(0, vR v0), (1, vI v1)] [] h 0 0 := by
  unfold f_X13_rests at hy
  have hkd := hy.kd
  have hy := hy.kb
  refine aw_aloadn (pc := 0) hX 0 rfl dX13_rests_0 ?_
  refine aw_iconst (pc := 1) hX 0 (by decide) dX13_rests_1 ?_
  refine aw_pI (pc := 2) hX hy fl_X13_51 rfl (Or.inl rfl) dX13_rests_2 (fun h1 hy => ?_)
  refine aw_aloadn (pc := 5) hX 0 rfl dX13_rests_5 ?_
  refine aw_iloadn (pc := 6) hX 1 rfl dX13_rests_6 ?_
  refine aw_callV (pc := 7) (st := []) (a := v0) hX [vI v1] (con_X13_refusesMany _ G _ v0 v1 hy.bd) mc_X13_refusesMany ml_X13_496 im_X13_refusesMany se_X13_refusesMany (by decide) hy.bd.kd rfl (rm_of hr (by decide)) (Nat.le_of_ble_eq_true rfl) rfl dX13_rests_7 (kpI rfl rfl (fun x2 hy => ?_))
  refine aw_istoren (pc := 10) hX [(2, vI x2), (0, vR v0), (1, vI v1)] rfl (lt_n hN (by decide)) dX13_rests_10 ?_
  refine aw_iloadn (pc := 11) hX 0 rfl dX13_rests_11 ?_
  refine aw_if_le (pc := 12) hX 21 (by decide) dX13_rests_12 (fun hc9 => ?_) (fun hc9 => ?_)
  · have hy := hy.t hc9
    refine aw_iconst (pc := 21) hX 0 (by decide) dX13_rests_21 ?_
    refine aw_istoren (pc := 22) hX [(3, vI 0), (2, vI x2), (0, vR v0), (1, vI v1)] rfl (lt_n hN (by decide)) dX13_rests_22 ?_
    refine aw_iconst (pc := 23) hX 0 (by decide) dX13_rests_23 ?_
    refine aw_istore (pc := 24) hX [(4, vI 0), (3, vI 0), (2, vI x2), (0, vR v0), (1, vI v1)] rfl (lt_n hN (by decide)) dX13_rests_24 ?_
    refine AW.sub [3, 4, 1, 0] rfl ?_
    refine wl_X13_rests_26 hX hN hr _ v0 v1 ?_ FU (0, 0) hy.bd
    · intro q6 hy
      refine aw_aloadn (pc := 64) hX 0 rfl dX13_rests_64 ?_
      refine aw_iloadn (pc := 65) hX 1 rfl dX13_rests_65 ?_
      refine aw_callV (pc := 66) (st := []) (a := v0) hX [vI q6] (con_X13_good _ G _ v0 q6 hy.bd) mc_X13_good ml_X13_61 im_X13_good se_X13_good (by decide) hy.bd.kd rfl (rm_of hr (by decide)) (Nat.le_of_ble_eq_true rfl) rfl dX13_rests_66 (kmI rfl rfl (fun q9 hy => ?_))
      exact aw_iret (pc := 69) hX hr (by decide) (by decide) dX13_rests_69 ⟨_, rfl, hy.s⟩
  · have hy := hy.f hc9
    refine aw_aloadn (pc := 15) hX 1 rfl dX13_rests_15 ?_
    refine aw_iloadn (pc := 16) hX 0 rfl dX13_rests_16 ?_
    refine aw_callV (pc := 17) (st := []) (a := v0) hX [vI x2] (con_X13_refused _ G _ v0 x2 hy.bd) mc_X13_refused ml_X13_57 im_X13_refused se_X13_refused (by decide) hy.bd.kd rfl (rm_of hr (by decide)) (Nat.le_of_ble_eq_true rfl) rfl dX13_rests_17 (kmI rfl rfl (fun q12 hy => ?_))
    exact aw_iret (pc := 20) hX hr (by decide) (by decide) dX13_rests_20 ⟨_, rfl, hy.s⟩
theorem con_X13_rests (l : Launch) (G : GE) (h : Mem) (v0 : Nat) (v1 : Int32) {P : (Int32 × Mem) → Prop} (hy : OK (f_X13_rests h v0 v1) P) : Con l G yX13_rests cX13_rests 5 (some .int) rm_X13_rests [vR v0, vI v1] h (pmI P) := Con.of (by decide) (Nat.le_of_ble_eq_true rfl) (fun X hX hr hN => w_X13_rests hX hN hr h v0 v1 hy)
/-! X13_rest -/
theorem dX13_rest_0 : decode cX13_rest 0 = .ok (.aload_n 0, 1) := by decide +kernel
theorem dX13_rest_1 : decode cX13_rest 1 = .ok (.iconst 0, 1) := by decide +kernel
theorem dX13_rest_2 : decode cX13_rest 2 = .ok (.putfield 51, 3) := by decide +kernel
theorem dX13_rest_5 : decode cX13_rest 5 = .ok (.aload_n 0, 1) := by decide +kernel
theorem dX13_rest_6 : decode cX13_rest 6 = .ok (.iload_n 1, 1) := by decide +kernel
theorem dX13_rest_7 : decode cX13_rest 7 = .ok (.invokevirtual 496, 3) := by decide +kernel
theorem dX13_rest_10 : decode cX13_rest 10 = .ok (.istore_n 2, 1) := by decide +kernel
theorem dX13_rest_11 : decode cX13_rest 11 = .ok (.iload_n 2, 1) := by decide +kernel
theorem dX13_rest_12 : decode cX13_rest 12 = .ok (.ifCond .le 9, 3) := by decide +kernel
theorem dX13_rest_15 : decode cX13_rest 15 = .ok (.aload_n 0, 1) := by decide +kernel
theorem dX13_rest_16 : decode cX13_rest 16 = .ok (.iload_n 2, 1) := by decide +kernel
theorem dX13_rest_17 : decode cX13_rest 17 = .ok (.invokevirtual 57, 3) := by decide +kernel
theorem dX13_rest_20 : decode cX13_rest 20 = .ok (.ireturn, 1) := by decide +kernel
theorem dX13_rest_21 : decode cX13_rest 21 = .ok (.iconst 0, 1) := by decide +kernel
theorem dX13_rest_22 : decode cX13_rest 22 = .ok (.istore_n 3, 1) := by decide +kernel
theorem dX13_rest_23 : decode cX13_rest 23 = .ok (.iload_n 3, 1) := by decide +kernel
theorem dX13_rest_24 : decode cX13_rest 24 = .ok (.bipush 100, 2) := by decide +kernel
theorem dX13_rest_26 : decode cX13_rest 26 = .ok (.if_icmp .ge 30, 3) := by decide +kernel
theorem dX13_rest_29 : decode cX13_rest 29 = .ok (.iload_n 1, 1) := by decide +kernel
theorem dX13_rest_30 : decode cX13_rest 30 = .ok (.iload_n 3, 1) := by decide +kernel
theorem dX13_rest_31 : decode cX13_rest 31 = .ok (.bipush 10, 2) := by decide +kernel
theorem dX13_rest_33 : decode cX13_rest 33 = .ok (.idiv, 1) := by decide +kernel
theorem dX13_rest_34 : decode cX13_rest 34 = .ok (.iload_n 3, 1) := by decide +kernel
theorem dX13_rest_35 : decode cX13_rest 35 = .ok (.bipush 10, 2) := by decide +kernel
theorem dX13_rest_37 : decode cX13_rest 37 = .ok (.irem, 1) := by decide +kernel
theorem dX13_rest_38 : decode cX13_rest 38 = .ok (.invokestatic 506, 3) := by decide +kernel
theorem dX13_rest_41 : decode cX13_rest 41 = .ok (.ifCond .eq 9, 3) := by decide +kernel
theorem dX13_rest_44 : decode cX13_rest 44 = .ok (.aload_n 0, 1) := by decide +kernel
theorem dX13_rest_45 : decode cX13_rest 45 = .ok (.iload_n 3, 1) := by decide +kernel
theorem dX13_rest_46 : decode cX13_rest 46 = .ok (.invokevirtual 61, 3) := by decide +kernel
theorem dX13_rest_49 : decode cX13_rest 49 = .ok (.ireturn, 1) := by decide +kernel
theorem dX13_rest_50 : decode cX13_rest 50 = .ok (.iinc 3 1, 3) := by decide +kernel
theorem dX13_rest_53 : decode cX13_rest 53 = .ok (.goto (-30), 3) := by decide +kernel
theorem dX13_rest_56 : decode cX13_rest 56 = .ok (.aload_n 0, 1) := by decide +kernel
theorem dX13_rest_57 : decode cX13_rest 57 = .ok (.bipush (-2), 2) := by decide +kernel
theorem dX13_rest_59 : decode cX13_rest 59 = .ok (.invokevirtual 61, 3) := by decide +kernel
theorem dX13_rest_62 : decode cX13_rest 62 = .ok (.ireturn, 1) := by decide +kernel
abbrev rm_X13_rest : Room := { frames := 2, cells := 0, slots := 0, locals := 45 }
def b_X13_rest_23 (h : Mem) (v0 : Nat) (v1 : Int32) (v3 : Int32) : Option (Int32 ⊕ (Int32 ⊕ Unit)) :=
  (if 100 ≤ v3 then some (.inr (.inr ())) else (idv v3 10).bind fun x3 => (irm v3 10).bind fun x4 => (f_X13_isRest h v1 x3 x4).bind fun x5 => (if x5 = 0 then some (.inl (v3 + 1)) else some (.inr (.inl v3))))
set_option maxRecDepth 100000 in
set_option maxHeartbeats 4000000 in
theorem wb_X13_rest_23 {G : GE} {X : CX} {l : Launch} (hX : Ok G X cX13_rest RX13) (hN : xn X = 4) {P0 : (Int32 × Mem) → Prop} (hr : Rt G X l yX13_rest (some .int) rm_X13_rest (pmI P0)) (h : Mem)  (v0 : Nat) (v1 : Int32) {P : (Int32 ⊕ (Int32 ⊕ Unit)) → Prop} (hc : ∀ s, P (.inl s) → AW G X 23 [(0, vR v0), (1, vI v1), (3, vI s)] [] h 0 0) (he0 : ∀ e, P (.inr (.inl e)) → AW G X 44 [(0, vR v0), (3, vI e)] [] h 0 0) (he1 : ∀ e, P (.inr (.inr e)) → AW G X 56 [(0, vR v0)] [] h 0 0) (v3 : Int32) (hy : OK (b_X13_rest_23 h v0 v1 v3) P) : AW G X 23 [(0, vR v0), (1, vI v1), (3, vI v3)] [] h 0 0 := by
  unfold b_X13_rest_23 at hy
  refine aw_iloadn (pc := 23) hX 2 rfl dX13_rest_23 ?_
  refine aw_bipush (pc := 24) hX 100 (by decide) dX13_rest_24 ?_
  refine aw_ic_ge (pc := 26) hX 56 (by decide) dX13_rest_26 (fun hc9 => ?_) (fun hc9 => ?_)
  · have hy := hy.t hc9
    refine AW.sub [0] rfl ?_
    exact he1 () hy.s
  · have hy := hy.f hc9
    refine aw_iloadn (pc := 29) hX 1 rfl dX13_rest_29 ?_
    refine aw_iloadn (pc := 30) hX 2 rfl dX13_rest_30 ?_
    refine aw_bipush (pc := 31) hX 10 (by decide) dX13_rest_31 ?_
    refine aw_idiv (pc := 33) hX hy dX13_rest_33 (fun x3 hy => ?_)
    refine aw_iloadn (pc := 34) hX 2 rfl dX13_rest_34 ?_
    refine aw_bipush (pc := 35) hX 10 (by decide) dX13_rest_35 ?_
    refine aw_irem (pc := 37) hX hy dX13_rest_37 (fun x4 hy => ?_)
    refine aw_callS (pc := 38) (st := []) hX [vI v1, vI x3, vI x4] (con_X13_isRest _ G _ v1 x3 x4 hy.bd) mc_X13_isRest ml_X13_506 st_X13_isRest rfl (rm_of hr (by decide)) (Nat.le_of_ble_eq_true rfl) rfl dX13_rest_38 (kpI rfl rfl (fun x5 hy => ?_))
    refine aw_if_eq (pc := 41) hX 50 (by decide) dX13_rest_41 (fun hc9 => ?_) (fun hc9 => ?_)
    · have hy := hy.t hc9
      refine aw_iinc (pc := 50) hX 1 (by decide) 2 rfl [(3, vI (v3 + 1)), (0, vR v0), (1, vI v1)] rfl (lt_n hN (by decide)) dX13_rest_50 ?_
      refine aw_goto (pc := 53) hX 23 (by decide) dX13_rest_53 ?_
      refine AW.sub [1, 2, 0] rfl ?_
      exact hc (v3 + 1) hy.s
    · have hy := hy.f hc9
      refine AW.sub [0, 2] rfl ?_
      exact he0 v3 hy.s
theorem wl_X13_rest_23 {G : GE} {X : CX} {l : Launch} (hX : Ok G X cX13_rest RX13) (hN : xn X = 4) {P0 : (Int32 × Mem) → Prop} (hr : Rt G X l yX13_rest (some .int) rm_X13_rest (pmI P0)) (h : Mem) (v0 : Nat) (v1 : Int32) {P : (Int32 ⊕ Unit) → Prop} (he0 : ∀ e, P (.inl e) → AW G X 44 [(0, vR v0), (3, vI e)] [] h 0 0) (he1 : ∀ e, P (.inr e) → AW G X 56 [(0, vR v0)] [] h 0 0) : ∀ (n : Nat) (s : Int32), OK (iter (fun (s : Int32) => b_X13_rest_23 h v0 v1 s) n s) P → AW G X 23 [(0, vR v0), (1, vI v1), (3, vI s)] [] h 0 0 := by
  intro n
  induction n with
  | zero => exact fun s hy => hy.it0.elim
  | succ n ih =>
    intro s hy
    exact wb_X13_rest_23 hX hN hr h v0 v1 (fun s hs => ih s hs) (fun e hs => he0 e hs) (fun e hs => he1 e hs) s hy.it
def f_X13_rest (h : Mem) (v0 : Nat) (v1 : Int32) : Option (Int32 × Mem) :=
  (ck h v0 11).bind fun _ => (pI h v0 0 11 0).bind fun h1 => (f_X13_refusesMany h1 v0 v1).bind fun x2 => (if x2 ≤ 0 then (iter (fun (s : Int32) => b_X13_rest_23 h1 v0 v1 s) FU 0).bind (Sum.elim (fun e7 => (f_X13_good h1 v0 e7).bind fun q10 => some (q10.1, q10.2)) (fun e11 => (f_X13_good h1 v0 (-2)).bind fun q14 => some (q14.1, q14.2))) else (f_X13_refused h1 v0 x2).bind fun q17 => some (q17.1, q17.2))
set_option maxRecDepth 100000 in
set_option maxHeartbeats 4000000 in
theorem w_X13_rest {G : GE} {X : CX} {l : Launch} (hX : Ok G X cX13_rest RX13) (hN : xn X = 4) {P : (Int32 × Mem) → Prop} (hr : Rt G X l yX13_rest (some .int) rm_X13_rest (pmI P)) (h : Mem) (v0 : Nat) (v1 : Int32) (hy : OK (f_X13_rest h v0 v1) P) : AW G X 0 [(0, vR v0), (1, vI v1)] [] h 0 0 := by
  unfold f_X13_rest at hy
  have hkd := hy.kd
  have hy := hy.kb
  refine aw_aloadn (pc := 0) hX 0 rfl dX13_rest_0 ?_
  refine aw_iconst (pc := 1) hX 0 (by decide) dX13_rest_1 ?_
  refine aw_pI (pc := 2) hX hy fl_X13_51 rfl (Or.inl rfl) dX13_rest_2 (fun h1 hy => ?_)
  refine aw_aloadn (pc := 5) hX 0 rfl dX13_rest_5 ?_
  refine aw_iloadn (pc := 6) hX 1 rfl dX13_rest_6 ?_
  refine aw_callV (pc := 7) (st := []) (a := v0) hX [vI v1] (con_X13_refusesMany _ G _ v0 v1 hy.bd) mc_X13_refusesMany ml_X13_496 im_X13_refusesMany se_X13_refusesMany (by decide) hy.bd.kd rfl (rm_of hr (by decide)) (Nat.le_of_ble_eq_true rfl) rfl dX13_rest_7 (kpI rfl rfl (fun x2 hy => ?_))
  refine aw_istoren (pc := 10) hX [(2, vI x2), (0, vR v0), (1, vI v1)] rfl (lt_n hN (by decide)) dX13_rest_10 ?_
  refine aw_iloadn (pc := 11) hX 0 rfl dX13_rest_11 ?_
  refine aw_if_le (pc := 12) hX 21 (by decide) dX13_rest_12 (fun hc9 => ?_) (fun hc9 => ?_)
  · have hy := hy.t hc9
    refine aw_iconst (pc := 21) hX 0 (by decide) dX13_rest_21 ?_
    refine aw_istoren (pc := 22) hX [(3, vI 0), (2, vI x2), (0, vR v0), (1, vI v1)] rfl (lt_n hN (by decide)) dX13_rest_22 ?_
    refine AW.sub [2, 3, 0] rfl ?_
    refine wl_X13_rest_23 hX hN hr _ v0 v1 ?_ ?_ FU 0 hy.bd
    · intro e7 hy
      refine aw_aloadn (pc := 44) hX 0 rfl dX13_rest_44 ?_
      refine aw_iloadn (pc := 45) hX 1 rfl dX13_rest_45 ?_
      refine aw_callV (pc := 46) (st := []) (a := v0) hX [vI e7] (con_X13_good _ G _ v0 e7 hy.bd) mc_X13_good ml_X13_61 im_X13_good se_X13_good (by decide) hy.bd.kd rfl (rm_of hr (by decide)) (Nat.le_of_ble_eq_true rfl) rfl dX13_rest_46 (kmI rfl rfl (fun q10 hy => ?_))
      exact aw_iret (pc := 49) hX hr (by decide) (by decide) dX13_rest_49 ⟨_, rfl, hy.s⟩
    · intro e11 hy
      refine aw_aloadn (pc := 56) hX 0 rfl dX13_rest_56 ?_
      refine aw_bipush (pc := 57) hX (-2) (by decide) dX13_rest_57 ?_
      refine aw_callV (pc := 59) (st := []) (a := v0) hX [vI (-2)] (con_X13_good _ G _ v0 (-2) hy.bd) mc_X13_good ml_X13_61 im_X13_good se_X13_good (by decide) hy.bd.kd rfl (rm_of hr (by decide)) (Nat.le_of_ble_eq_true rfl) rfl dX13_rest_59 (kmI rfl rfl (fun q14 hy => ?_))
      exact aw_iret (pc := 62) hX hr (by decide) (by decide) dX13_rest_62 ⟨_, rfl, hy.s⟩
  · have hy := hy.f hc9
    refine aw_aloadn (pc := 15) hX 1 rfl dX13_rest_15 ?_
    refine aw_iloadn (pc := 16) hX 0 rfl dX13_rest_16 ?_
    refine aw_callV (pc := 17) (st := []) (a := v0) hX [vI x2] (con_X13_refused _ G _ v0 x2 hy.bd) mc_X13_refused ml_X13_57 im_X13_refused se_X13_refused (by decide) hy.bd.kd rfl (rm_of hr (by decide)) (Nat.le_of_ble_eq_true rfl) rfl dX13_rest_17 (kmI rfl rfl (fun q17 hy => ?_))
    exact aw_iret (pc := 20) hX hr (by decide) (by decide) dX13_rest_20 ⟨_, rfl, hy.s⟩
theorem con_X13_rest (l : Launch) (G : GE) (h : Mem) (v0 : Nat) (v1 : Int32) {P : (Int32 × Mem) → Prop} (hy : OK (f_X13_rest h v0 v1) P) : Con l G yX13_rest cX13_rest 4 (some .int) rm_X13_rest [vR v0, vI v1] h (pmI P) := Con.of (by decide) (Nat.le_of_ble_eq_true rfl) (fun X hX hr hN => w_X13_rest hX hN hr h v0 v1 hy)
/-! X13_refusesDays -/
theorem dX13_refusesDays_0 : decode cX13_refusesDays 0 = .ok (.iload_n 1, 1) := by decide +kernel
theorem dX13_refusesDays_1 : decode cX13_refusesDays 1 = .ok (.ifCond .ne 5, 3) := by decide +kernel
theorem dX13_refusesDays_4 : decode cX13_refusesDays 4 = .ok (.iconst 1, 1) := by decide +kernel
theorem dX13_refusesDays_5 : decode cX13_refusesDays 5 = .ok (.ireturn, 1) := by decide +kernel
theorem dX13_refusesDays_6 : decode cX13_refusesDays 6 = .ok (.iload_n 2, 1) := by decide +kernel
theorem dX13_refusesDays_7 : decode cX13_refusesDays 7 = .ok (.iconst 0, 1) := by decide +kernel
theorem dX13_refusesDays_8 : decode cX13_refusesDays 8 = .ok (.ldc_w 509, 3) := by decide +kernel
theorem dX13_refusesDays_11 : decode cX13_refusesDays 11 = .ok (.invokestatic 129, 3) := by decide +kernel
theorem dX13_refusesDays_14 : decode cX13_refusesDays 14 = .ok (.ifCond .eq 13, 3) := by decide +kernel
theorem dX13_refusesDays_17 : decode cX13_refusesDays 17 = .ok (.iload_n 3, 1) := by decide +kernel
theorem dX13_refusesDays_18 : decode cX13_refusesDays 18 = .ok (.iconst 0, 1) := by decide +kernel
theorem dX13_refusesDays_19 : decode cX13_refusesDays 19 = .ok (.bipush 90, 2) := by decide +kernel
theorem dX13_refusesDays_21 : decode cX13_refusesDays 21 = .ok (.invokestatic 129, 3) := by decide +kernel
theorem dX13_refusesDays_24 : decode cX13_refusesDays 24 = .ok (.ifCond .ne 5, 3) := by decide +kernel
theorem dX13_refusesDays_27 : decode cX13_refusesDays 27 = .ok (.iconst 2, 1) := by decide +kernel
theorem dX13_refusesDays_28 : decode cX13_refusesDays 28 = .ok (.ireturn, 1) := by decide +kernel
theorem dX13_refusesDays_29 : decode cX13_refusesDays 29 = .ok (.aload_n 0, 1) := by decide +kernel
theorem dX13_refusesDays_30 : decode cX13_refusesDays 30 = .ok (.getfield 338, 3) := by decide +kernel
theorem dX13_refusesDays_33 : decode cX13_refusesDays 33 = .ok (.getfield 256, 3) := by decide +kernel
theorem dX13_refusesDays_36 : decode cX13_refusesDays 36 = .ok (.ifCond .ne 8, 3) := by decide +kernel
theorem dX13_refusesDays_39 : decode cX13_refusesDays 39 = .ok (.bipush 6, 2) := by decide +kernel
theorem dX13_refusesDays_41 : decode cX13_refusesDays 41 = .ok (.goto 4, 3) := by decide +kernel
theorem dX13_refusesDays_44 : decode cX13_refusesDays 44 = .ok (.iconst 0, 1) := by decide +kernel
theorem dX13_refusesDays_45 : decode cX13_refusesDays 45 = .ok (.ireturn, 1) := by decide +kernel
abbrev rm_X13_refusesDays : Room := { frames := 1, cells := 0, slots := 0, locals := 22 }
def f_X13_refusesDays (h : Mem) (v0 : Nat) (v1 : Int32) (v2 : Int32) (v3 : Int32) : Option Int32 :=
  (ck h v0 11).bind fun _ => (if v1 = 0 then some 1 else (f_X13_in h v2 0 65536).bind fun x1 => (if x1 = 0 then some 2 else (f_X13_in h v3 0 90).bind fun x2 => (if x2 = 0 then some 2 else (gR h v0 3 11).bind fun r3 => (gI h r3 3 10).bind fun x4 => (if x4 = 0 then some 6 else some 0))))
set_option maxRecDepth 100000 in
set_option maxHeartbeats 4000000 in
theorem w_X13_refusesDays {G : GE} {X : CX} {l : Launch} (hX : Ok G X cX13_refusesDays RX13) (hN : xn X = 4) (h : Mem) {P : Int32 → Prop} (hr : Rt G X l yX13_refusesDays (some .int) rm_X13_refusesDays (ppI h P)) (v0 : Nat) (v1 : Int32) (v2 : Int32) (v3 : Int32) (hy : OK (f_X13_refusesDays h v0 v1 v2 v3) P) : AW G X 0 [(0, vR v0), (1, vI v1), (2, vI v2), (3, vI v3)] [] h 0 0 := by
  unfold f_X13_refusesDays at hy
  have hkd := hy.kd
  have hy := hy.kb
  refine aw_iloadn (pc := 0) hX 1 rfl dX13_refusesDays_0 ?_
  refine aw_if_ne (pc := 1) hX 6 (by decide) dX13_refusesDays_1 (fun hc9 => ?_) (fun hc9 => ?_)
  · have hy := hy.f hc9
    refine aw_iloadn (pc := 6) hX 2 rfl dX13_refusesDays_6 ?_
    refine aw_iconst (pc := 7) hX 0 (by decide) dX13_refusesDays_7 ?_
    refine aw_ldcw (pc := 8) hX kc_X13_509 dX13_refusesDays_8 ?_
    refine aw_callS (pc := 11) (st := []) hX [vI v2, vI 0, vI 65536] (con_X13_in _ G _ v2 0 65536 hy.bd) mc_X13_in ml_X13_129 st_X13_in rfl (rm_of hr (by decide)) (Nat.le_of_ble_eq_true rfl) rfl dX13_refusesDays_11 (kpI rfl rfl (fun x1 hy => ?_))
    refine aw_if_eq (pc := 14) hX 27 (by decide) dX13_refusesDays_14 (fun hc9 => ?_) (fun hc9 => ?_)
    · have hy := hy.t hc9
      refine aw_iconst (pc := 27) hX 2 (by decide) dX13_refusesDays_27 ?_
      exact aw_iret (pc := 28) hX hr (by decide) (by decide) dX13_refusesDays_28 ⟨rfl, _, rfl, hy.s⟩
    · have hy := hy.f hc9
      refine aw_iloadn (pc := 17) hX 3 rfl dX13_refusesDays_17 ?_
      refine aw_iconst (pc := 18) hX 0 (by decide) dX13_refusesDays_18 ?_
      refine aw_bipush (pc := 19) hX 90 (by decide) dX13_refusesDays_19 ?_
      refine aw_callS (pc := 21) (st := []) hX [vI v3, vI 0, vI 90] (con_X13_in _ G _ v3 0 90 hy.bd) mc_X13_in ml_X13_129 st_X13_in rfl (rm_of hr (by decide)) (Nat.le_of_ble_eq_true rfl) rfl dX13_refusesDays_21 (kpI rfl rfl (fun x2 hy => ?_))
      refine aw_if_ne (pc := 24) hX 29 (by decide) dX13_refusesDays_24 (fun hc9 => ?_) (fun hc9 => ?_)
      · have hy := hy.f hc9
        refine aw_aloadn (pc := 29) hX 0 rfl dX13_refusesDays_29 ?_
        refine aw_gR (pc := 30) hX hy fl_X13_338 (fun _ _ => rfl) dX13_refusesDays_30 (fun r3 hy => ?_)
        refine aw_gI (pc := 33) hX hy fl_X13_256 (fun _ _ => rfl) dX13_refusesDays_33 (fun x4 hy => ?_)
        refine aw_if_ne (pc := 36) hX 44 (by decide) dX13_refusesDays_36 (fun hc9 => ?_) (fun hc9 => ?_)
        · have hy := hy.f hc9
          refine aw_iconst (pc := 44) hX 0 (by decide) dX13_refusesDays_44 ?_
          exact aw_iret (pc := 45) hX hr (by decide) (by decide) dX13_refusesDays_45 ⟨rfl, _, rfl, hy.s⟩
        · have hy := hy.t hc9
          refine aw_bipush (pc := 39) hX 6 (by decide) dX13_refusesDays_39 ?_
          refine aw_goto (pc := 41) hX 45 (by decide) dX13_refusesDays_41 ?_
          exact aw_iret (pc := 45) hX hr (by decide) (by decide) dX13_refusesDays_45 ⟨rfl, _, rfl, hy.s⟩
      · have hy := hy.t hc9
        refine aw_iconst (pc := 27) hX 2 (by decide) dX13_refusesDays_27 ?_
        exact aw_iret (pc := 28) hX hr (by decide) (by decide) dX13_refusesDays_28 ⟨rfl, _, rfl, hy.s⟩
  · have hy := hy.t hc9
    refine aw_iconst (pc := 4) hX 1 (by decide) dX13_refusesDays_4 ?_
    exact aw_iret (pc := 5) hX hr (by decide) (by decide) dX13_refusesDays_5 ⟨rfl, _, rfl, hy.s⟩
theorem con_X13_refusesDays (l : Launch) (G : GE) (h : Mem) (v0 : Nat) (v1 : Int32) (v2 : Int32) (v3 : Int32) {P : Int32 → Prop} (hy : OK (f_X13_refusesDays h v0 v1 v2 v3) P) : Con l G yX13_refusesDays cX13_refusesDays 4 (some .int) rm_X13_refusesDays [vR v0, vI v1, vI v2, vI v3] h (ppI h P) := Con.of (by decide) (Nat.le_of_ble_eq_true rfl) (fun X hX hr hN => w_X13_refusesDays hX hN h hr v0 v1 v2 v3 hy)
/-! X13_drawn -/
theorem dX13_drawn_0 : decode cX13_drawn 0 = .ok (.ldc2_w 510, 3) := by decide +kernel
theorem dX13_drawn_3 : decode cX13_drawn 3 = .ok (.iload_n 0, 1) := by decide +kernel
theorem dX13_drawn_4 : decode cX13_drawn 4 = .ok (.i2l, 1) := by decide +kernel
theorem dX13_drawn_5 : decode cX13_drawn 5 = .ok (.lmul, 1) := by decide +kernel
theorem dX13_drawn_6 : decode cX13_drawn 6 = .ok (.ldc2_w 512, 3) := by decide +kernel
theorem dX13_drawn_9 : decode cX13_drawn 9 = .ok (.ladd, 1) := by decide +kernel
theorem dX13_drawn_10 : decode cX13_drawn 10 = .ok (.ldc2_w 514, 3) := by decide +kernel
theorem dX13_drawn_13 : decode cX13_drawn 13 = .ok (.lrem, 1) := by decide +kernel
theorem dX13_drawn_14 : decode cX13_drawn 14 = .ok (.l2i, 1) := by decide +kernel
theorem dX13_drawn_15 : decode cX13_drawn 15 = .ok (.ireturn, 1) := by decide +kernel
abbrev rm_X13_drawn : Room := { frames := 0, cells := 0, slots := 0, locals := 0 }
def f_X13_drawn (h : Mem) (v0 : Int32) : Option Int32 :=
  some (((((75 * ((v0 : Int32).toInt64)) + 74) - ((75 * ((v0 : Int32).toInt64)) + 74) / 65537 * 65537) : Int64).toInt32)
set_option maxRecDepth 100000 in
set_option maxHeartbeats 4000000 in
theorem w_X13_drawn {G : GE} {X : CX} {l : Launch} (hX : Ok G X cX13_drawn RX13) (hN : xn X = 1) (h : Mem) {P : Int32 → Prop} (hr : Rt G X l yX13_drawn (some .int) rm_X13_drawn (ppI h P)) (v0 : Int32) (hy : OK (f_X13_drawn h v0) P) : AW G X 0 [(0, vI v0)] [] h 0 0 := by
  unfold f_X13_drawn at hy
  refine aw_ldc2 (pc := 0) hX kc_X13_510 dX13_drawn_0 ?_
  refine aw_iloadn (pc := 3) hX 0 rfl dX13_drawn_3 ?_
  refine aw_i2l (pc := 4) hX dX13_drawn_4 ?_
  refine aw_lmul (pc := 5) hX dX13_drawn_5 ?_
  refine aw_ldc2 (pc := 6) hX kc_X13_512 dX13_drawn_6 ?_
  refine aw_ladd (pc := 9) hX dX13_drawn_9 ?_
  refine aw_ldc2 (pc := 10) hX kc_X13_514 dX13_drawn_10 ?_
  refine aw_lrem (pc := 13) hX (by decide) dX13_drawn_13 ?_
  refine aw_l2i (pc := 14) hX dX13_drawn_14 ?_
  exact aw_iret (pc := 15) hX hr (by decide) (by decide) dX13_drawn_15 ⟨rfl, _, rfl, hy.s⟩
theorem con_X13_drawn (l : Launch) (G : GE) (h : Mem) (v0 : Int32) {P : Int32 → Prop} (hy : OK (f_X13_drawn h v0) P) : Con l G yX13_drawn cX13_drawn 1 (some .int) rm_X13_drawn [vI v0] h (ppI h P) := Con.of (by decide) (Nat.le_of_ble_eq_true rfl) (fun X hX hr hN => w_X13_drawn hX hN h hr v0 hy)
/-! X13_roamsBy -/
theorem dX13_roamsBy_0 : decode cX13_roamsBy 0 = .ok (.aload_n 0, 1) := by decide +kernel
theorem dX13_roamsBy_1 : decode cX13_roamsBy 1 = .ok (.aload_n 0, 1) := by decide +kernel
theorem dX13_roamsBy_2 : decode cX13_roamsBy 2 = .ok (.getfield 17, 3) := by decide +kernel
theorem dX13_roamsBy_5 : decode cX13_roamsBy 5 = .ok (.iconst 0, 1) := by decide +kernel
theorem dX13_roamsBy_6 : decode cX13_roamsBy 6 = .ok (.iload_n 1, 1) := by decide +kernel
theorem dX13_roamsBy_7 : decode cX13_roamsBy 7 = .ok (.iadd, 1) := by decide +kernel
theorem dX13_roamsBy_8 : decode cX13_roamsBy 8 = .ok (.iaload, 1) := by decide +kernel
theorem dX13_roamsBy_9 : decode cX13_roamsBy 9 = .ok (.putfield 516, 3) := by decide +kernel
theorem dX13_roamsBy_12 : decode cX13_roamsBy 12 = .ok (.aload_n 0, 1) := by decide +kernel
theorem dX13_roamsBy_13 : decode cX13_roamsBy 13 = .ok (.iconst 0, 1) := by decide +kernel
theorem dX13_roamsBy_14 : decode cX13_roamsBy 14 = .ok (.putfield 519, 3) := by decide +kernel
theorem dX13_roamsBy_17 : decode cX13_roamsBy 17 = .ok (.aload_n 0, 1) := by decide +kernel
theorem dX13_roamsBy_18 : decode cX13_roamsBy 18 = .ok (.iconst 0, 1) := by decide +kernel
theorem dX13_roamsBy_19 : decode cX13_roamsBy 19 = .ok (.putfield 522, 3) := by decide +kernel
theorem dX13_roamsBy_22 : decode cX13_roamsBy 22 = .ok (.iload_n 2, 1) := by decide +kernel
theorem dX13_roamsBy_23 : decode cX13_roamsBy 23 = .ok (.istore 5, 2) := by decide +kernel
theorem dX13_roamsBy_25 : decode cX13_roamsBy 25 = .ok (.iconst 1, 1) := by decide +kernel
theorem dX13_roamsBy_26 : decode cX13_roamsBy 26 = .ok (.istore 6, 2) := by decide +kernel
theorem dX13_roamsBy_28 : decode cX13_roamsBy 28 = .ok (.iload 6, 2) := by decide +kernel
theorem dX13_roamsBy_30 : decode cX13_roamsBy 30 = .ok (.iload_n 3, 1) := by decide +kernel
theorem dX13_roamsBy_31 : decode cX13_roamsBy 31 = .ok (.if_icmp .gt 186, 3) := by decide +kernel
theorem dX13_roamsBy_34 : decode cX13_roamsBy 34 = .ok (.iload 5, 2) := by decide +kernel
theorem dX13_roamsBy_36 : decode cX13_roamsBy 36 = .ok (.invokestatic 525, 3) := by decide +kernel
theorem dX13_roamsBy_39 : decode cX13_roamsBy 39 = .ok (.istore 5, 2) := by decide +kernel
theorem dX13_roamsBy_41 : decode cX13_roamsBy 41 = .ok (.iload 5, 2) := by decide +kernel
theorem dX13_roamsBy_43 : decode cX13_roamsBy 43 = .ok (.bipush 100, 2) := by decide +kernel
theorem dX13_roamsBy_45 : decode cX13_roamsBy 45 = .ok (.irem, 1) := by decide +kernel
theorem dX13_roamsBy_46 : decode cX13_roamsBy 46 = .ok (.aload_n 0, 1) := by decide +kernel
theorem dX13_roamsBy_47 : decode cX13_roamsBy 47 = .ok (.getfield 338, 3) := by decide +kernel
theorem dX13_roamsBy_50 : decode cX13_roamsBy 50 = .ok (.getfield 162, 3) := by decide +kernel
theorem dX13_roamsBy_53 : decode cX13_roamsBy 53 = .ok (.if_icmp .ge 7, 3) := by decide +kernel
theorem dX13_roamsBy_56 : decode cX13_roamsBy 56 = .ok (.iconst 1, 1) := by decide +kernel
theorem dX13_roamsBy_57 : decode cX13_roamsBy 57 = .ok (.goto 4, 3) := by decide +kernel
theorem dX13_roamsBy_60 : decode cX13_roamsBy 60 = .ok (.iconst 0, 1) := by decide +kernel
theorem dX13_roamsBy_61 : decode cX13_roamsBy 61 = .ok (.istore 7, 2) := by decide +kernel
theorem dX13_roamsBy_63 : decode cX13_roamsBy 63 = .ok (.iload 5, 2) := by decide +kernel
theorem dX13_roamsBy_65 : decode cX13_roamsBy 65 = .ok (.invokestatic 525, 3) := by decide +kernel
theorem dX13_roamsBy_68 : decode cX13_roamsBy 68 = .ok (.istore 5, 2) := by decide +kernel
theorem dX13_roamsBy_70 : decode cX13_roamsBy 70 = .ok (.aload_n 0, 1) := by decide +kernel
theorem dX13_roamsBy_71 : decode cX13_roamsBy 71 = .ok (.getfield 338, 3) := by decide +kernel
theorem dX13_roamsBy_74 : decode cX13_roamsBy 74 = .ok (.getfield 266, 3) := by decide +kernel
theorem dX13_roamsBy_77 : decode cX13_roamsBy 77 = .ok (.iload 5, 2) := by decide +kernel
theorem dX13_roamsBy_79 : decode cX13_roamsBy 79 = .ok (.aload_n 0, 1) := by decide +kernel
theorem dX13_roamsBy_80 : decode cX13_roamsBy 80 = .ok (.getfield 338, 3) := by decide +kernel
theorem dX13_roamsBy_83 : decode cX13_roamsBy 83 = .ok (.getfield 256, 3) := by decide +kernel
theorem dX13_roamsBy_86 : decode cX13_roamsBy 86 = .ok (.irem, 1) := by decide +kernel
theorem dX13_roamsBy_87 : decode cX13_roamsBy 87 = .ok (.iaload, 1) := by decide +kernel
theorem dX13_roamsBy_88 : decode cX13_roamsBy 88 = .ok (.istore 8, 2) := by decide +kernel
theorem dX13_roamsBy_90 : decode cX13_roamsBy 90 = .ok (.aload_n 0, 1) := by decide +kernel
theorem dX13_roamsBy_91 : decode cX13_roamsBy 91 = .ok (.getfield 338, 3) := by decide +kernel
theorem dX13_roamsBy_94 : decode cX13_roamsBy 94 = .ok (.getfield 269, 3) := by decide +kernel
theorem dX13_roamsBy_97 : decode cX13_roamsBy 97 = .ok (.iload 5, 2) := by decide +kernel
theorem dX13_roamsBy_99 : decode cX13_roamsBy 99 = .ok (.aload_n 0, 1) := by decide +kernel
theorem dX13_roamsBy_100 : decode cX13_roamsBy 100 = .ok (.getfield 338, 3) := by decide +kernel
theorem dX13_roamsBy_103 : decode cX13_roamsBy 103 = .ok (.getfield 256, 3) := by decide +kernel
theorem dX13_roamsBy_106 : decode cX13_roamsBy 106 = .ok (.irem, 1) := by decide +kernel
theorem dX13_roamsBy_107 : decode cX13_roamsBy 107 = .ok (.iaload, 1) := by decide +kernel
theorem dX13_roamsBy_108 : decode cX13_roamsBy 108 = .ok (.istore 9, 2) := by decide +kernel
theorem dX13_roamsBy_110 : decode cX13_roamsBy 110 = .ok (.aload_n 0, 1) := by decide +kernel
theorem dX13_roamsBy_111 : decode cX13_roamsBy 111 = .ok (.getfield 516, 3) := by decide +kernel
theorem dX13_roamsBy_114 : decode cX13_roamsBy 114 = .ok (.iload 8, 2) := by decide +kernel
theorem dX13_roamsBy_116 : decode cX13_roamsBy 116 = .ok (.if_icmp .eq 12, 3) := by decide +kernel
theorem dX13_roamsBy_119 : decode cX13_roamsBy 119 = .ok (.aload_n 0, 1) := by decide +kernel
theorem dX13_roamsBy_120 : decode cX13_roamsBy 120 = .ok (.getfield 516, 3) := by decide +kernel
theorem dX13_roamsBy_123 : decode cX13_roamsBy 123 = .ok (.iload 9, 2) := by decide +kernel
theorem dX13_roamsBy_125 : decode cX13_roamsBy 125 = .ok (.if_icmp .ne 64, 3) := by decide +kernel
theorem dX13_roamsBy_128 : decode cX13_roamsBy 128 = .ok (.aload_n 0, 1) := by decide +kernel
theorem dX13_roamsBy_129 : decode cX13_roamsBy 129 = .ok (.aload_n 0, 1) := by decide +kernel
theorem dX13_roamsBy_130 : decode cX13_roamsBy 130 = .ok (.getfield 17, 3) := by decide +kernel
theorem dX13_roamsBy_133 : decode cX13_roamsBy 133 = .ok (.bipush 8, 2) := by decide +kernel
theorem dX13_roamsBy_135 : decode cX13_roamsBy 135 = .ok (.iload_n 1, 1) := by decide +kernel
theorem dX13_roamsBy_136 : decode cX13_roamsBy 136 = .ok (.iadd, 1) := by decide +kernel
theorem dX13_roamsBy_137 : decode cX13_roamsBy 137 = .ok (.iaload, 1) := by decide +kernel
theorem dX13_roamsBy_138 : decode cX13_roamsBy 138 = .ok (.aload_n 0, 1) := by decide +kernel
theorem dX13_roamsBy_139 : decode cX13_roamsBy 139 = .ok (.getfield 17, 3) := by decide +kernel
theorem dX13_roamsBy_142 : decode cX13_roamsBy 142 = .ok (.bipush 12, 2) := by decide +kernel
theorem dX13_roamsBy_144 : decode cX13_roamsBy 144 = .ok (.iload_n 1, 1) := by decide +kernel
theorem dX13_roamsBy_145 : decode cX13_roamsBy 145 = .ok (.iadd, 1) := by decide +kernel
theorem dX13_roamsBy_146 : decode cX13_roamsBy 146 = .ok (.iaload, 1) := by decide +kernel
theorem dX13_roamsBy_147 : decode cX13_roamsBy 147 = .ok (.iload 8, 2) := by decide +kernel
theorem dX13_roamsBy_149 : decode cX13_roamsBy 149 = .ok (.iload 9, 2) := by decide +kernel
theorem dX13_roamsBy_151 : decode cX13_roamsBy 151 = .ok (.iload 7, 2) := by decide +kernel
theorem dX13_roamsBy_153 : decode cX13_roamsBy 153 = .ok (.invokevirtual 379, 3) := by decide +kernel
theorem dX13_roamsBy_156 : decode cX13_roamsBy 156 = .ok (.ifCond .eq 33, 3) := by decide +kernel
theorem dX13_roamsBy_159 : decode cX13_roamsBy 159 = .ok (.aload_n 0, 1) := by decide +kernel
theorem dX13_roamsBy_160 : decode cX13_roamsBy 160 = .ok (.aload_n 0, 1) := by decide +kernel
theorem dX13_roamsBy_161 : decode cX13_roamsBy 161 = .ok (.getfield 516, 3) := by decide +kernel
theorem dX13_roamsBy_164 : decode cX13_roamsBy 164 = .ok (.iload 8, 2) := by decide +kernel
theorem dX13_roamsBy_166 : decode cX13_roamsBy 166 = .ok (.if_icmp .ne 8, 3) := by decide +kernel
theorem dX13_roamsBy_169 : decode cX13_roamsBy 169 = .ok (.iload 9, 2) := by decide +kernel
theorem dX13_roamsBy_171 : decode cX13_roamsBy 171 = .ok (.goto 5, 3) := by decide +kernel
theorem dX13_roamsBy_174 : decode cX13_roamsBy 174 = .ok (.iload 8, 2) := by decide +kernel
theorem dX13_roamsBy_176 : decode cX13_roamsBy 176 = .ok (.putfield 516, 3) := by decide +kernel
theorem dX13_roamsBy_179 : decode cX13_roamsBy 179 = .ok (.aload_n 0, 1) := by decide +kernel
theorem dX13_roamsBy_180 : decode cX13_roamsBy 180 = .ok (.dup, 1) := by decide +kernel
theorem dX13_roamsBy_181 : decode cX13_roamsBy 181 = .ok (.getfield 519, 3) := by decide +kernel
theorem dX13_roamsBy_184 : decode cX13_roamsBy 184 = .ok (.iconst 1, 1) := by decide +kernel
theorem dX13_roamsBy_185 : decode cX13_roamsBy 185 = .ok (.iadd, 1) := by decide +kernel
theorem dX13_roamsBy_186 : decode cX13_roamsBy 186 = .ok (.putfield 519, 3) := by decide +kernel
theorem dX13_roamsBy_189 : decode cX13_roamsBy 189 = .ok (.aload_n 0, 1) := by decide +kernel
theorem dX13_roamsBy_190 : decode cX13_roamsBy 190 = .ok (.getfield 522, 3) := by decide +kernel
theorem dX13_roamsBy_193 : decode cX13_roamsBy 193 = .ok (.ifCond .ne 18, 3) := by decide +kernel
theorem dX13_roamsBy_196 : decode cX13_roamsBy 196 = .ok (.aload_n 0, 1) := by decide +kernel
theorem dX13_roamsBy_197 : decode cX13_roamsBy 197 = .ok (.getfield 516, 3) := by decide +kernel
theorem dX13_roamsBy_200 : decode cX13_roamsBy 200 = .ok (.iload 4, 2) := by decide +kernel
theorem dX13_roamsBy_202 : decode cX13_roamsBy 202 = .ok (.if_icmp .ne 9, 3) := by decide +kernel
theorem dX13_roamsBy_205 : decode cX13_roamsBy 205 = .ok (.aload_n 0, 1) := by decide +kernel
theorem dX13_roamsBy_206 : decode cX13_roamsBy 206 = .ok (.iload 6, 2) := by decide +kernel
theorem dX13_roamsBy_208 : decode cX13_roamsBy 208 = .ok (.putfield 522, 3) := by decide +kernel
theorem dX13_roamsBy_211 : decode cX13_roamsBy 211 = .ok (.iinc 6 1, 3) := by decide +kernel
theorem dX13_roamsBy_214 : decode cX13_roamsBy 214 = .ok (.goto (-186), 3) := by decide +kernel
theorem dX13_roamsBy_217 : decode cX13_roamsBy 217 = .ok (.return_, 1) := by decide +kernel
abbrev rm_X13_roamsBy : Room := { frames := 4, cells := 0, slots := 0, locals := 102 }
def f_X13_roamsBy_211 (h : Mem) (v0 : Nat) (v1 : Int32) (v3 : Int32) (v4 : Int32) (v5 : Int32) (v6 : Int32) : Option ((Int32 × Int32 × Mem) ⊕ Mem) :=
  some (.inl (v5, (v6 + 1), h))
set_option maxRecDepth 100000 in
set_option maxHeartbeats 4000000 in
theorem w_X13_roamsBy_211 {G : GE} {X : CX} {l : Launch} (hX : Ok G X cX13_roamsBy RX13) (hN : xn X = 10) {P0 : Mem → Prop} (hr : Rt G X l yX13_roamsBy none rm_X13_roamsBy (pmV P0))  (v0 : Nat) (v1 : Int32) (v3 : Int32) (v4 : Int32) {P : ((Int32 × Int32 × Mem) ⊕ Mem) → Prop} (hc : ∀ s, P (.inl s) → AW G X 28 [(0, vR v0), (1, vI v1), (3, vI v3), (4, vI v4), (5, vI s.1), (6, vI s.2.1)] [] s.2.2 0 0) (he0 : ∀ e, P (.inr e) → AW G X 217 [] [] e 0 0) (h : Mem) (v5 : Int32) (v6 : Int32) (hy : OK (f_X13_roamsBy_211 h v0 v1 v3 v4 v5 v6) P) : AW G X 211 [(0, vR v0), (1, vI v1), (3, vI v3), (4, vI v4), (5, vI v5), (6, vI v6)] [] h 0 0 := by
  unfold f_X13_roamsBy_211 at hy
  refine aw_iinc (pc := 211) hX 1 (by decide) 5 rfl [(6, vI (v6 + 1)), (0, vR v0), (1, vI v1), (3, vI v3), (4, vI v4), (5, vI v5)] rfl (lt_n hN (by decide)) dX13_roamsBy_211 ?_
  refine aw_goto (pc := 214) hX 28 (by decide) dX13_roamsBy_214 ?_
  refine AW.sub [1, 2, 3, 4, 5, 0] rfl ?_
  exact hc (v5, (v6 + 1), h) hy.s
def f_X13_roamsBy_189 (h : Mem) (v0 : Nat) (v1 : Int32) (v3 : Int32) (v4 : Int32) (v5 : Int32) (v6 : Int32) : Option ((Int32 × Int32 × Mem) ⊕ Mem) :=
  (gI h v0 39 11).bind fun x29 => (if x29 = 0 then (gI h v0 37 11).bind fun x30 => (if x30 = v4 then (pI h v0 39 11 v6).bind fun h31 => f_X13_roamsBy_211 h31 v0 v1 v3 v4 v5 v6 else f_X13_roamsBy_211 h v0 v1 v3 v4 v5 v6) else f_X13_roamsBy_211 h v0 v1 v3 v4 v5 v6)
set_option maxRecDepth 100000 in
set_option maxHeartbeats 4000000 in
theorem w_X13_roamsBy_189 {G : GE} {X : CX} {l : Launch} (hX : Ok G X cX13_roamsBy RX13) (hN : xn X = 10) {P0 : Mem → Prop} (hr : Rt G X l yX13_roamsBy none rm_X13_roamsBy (pmV P0))  (v0 : Nat) (v1 : Int32) (v3 : Int32) (v4 : Int32) {P : ((Int32 × Int32 × Mem) ⊕ Mem) → Prop} (hc : ∀ s, P (.inl s) → AW G X 28 [(0, vR v0), (1, vI v1), (3, vI v3), (4, vI v4), (5, vI s.1), (6, vI s.2.1)] [] s.2.2 0 0) (he0 : ∀ e, P (.inr e) → AW G X 217 [] [] e 0 0) (h : Mem) (v5 : Int32) (v6 : Int32) (hy : OK (f_X13_roamsBy_189 h v0 v1 v3 v4 v5 v6) P) : AW G X 189 [(0, vR v0), (1, vI v1), (3, vI v3), (4, vI v4), (5, vI v5), (6, vI v6)] [] h 0 0 := by
  unfold f_X13_roamsBy_189 at hy
  refine aw_aloadn (pc := 189) hX 0 rfl dX13_roamsBy_189 ?_
  refine aw_gI (pc := 190) hX hy fl_X13_522 (fun _ _ => rfl) dX13_roamsBy_190 (fun x29 hy => ?_)
  refine aw_if_ne (pc := 193) hX 211 (by decide) dX13_roamsBy_193 (fun hc9 => ?_) (fun hc9 => ?_)
  · have hy := hy.f hc9
    exact w_X13_roamsBy_211 hX hN hr _ _ _ _ hc he0 h v5 v6 hy
  · have hy := hy.t hc9
    refine aw_aloadn (pc := 196) hX 0 rfl dX13_roamsBy_196 ?_
    refine aw_gI (pc := 197) hX hy fl_X13_516 (fun _ _ => rfl) dX13_roamsBy_197 (fun x30 hy => ?_)
    refine aw_iload (pc := 200) hX 3 rfl dX13_roamsBy_200 ?_
    refine aw_ic_ne (pc := 202) hX 211 (by decide) dX13_roamsBy_202 (fun hc9 => ?_) (fun hc9 => ?_)
    · have hy := hy.f hc9
      exact w_X13_roamsBy_211 hX hN hr _ _ _ _ hc he0 h v5 v6 hy
    · have hy := hy.t hc9
      refine aw_aloadn (pc := 205) hX 0 rfl dX13_roamsBy_205 ?_
      refine aw_iload (pc := 206) hX 5 rfl dX13_roamsBy_206 ?_
      refine aw_pI (pc := 208) hX hy fl_X13_522 rfl (Or.inl rfl) dX13_roamsBy_208 (fun h31 hy => ?_)
      exact w_X13_roamsBy_211 hX hN hr _ _ _ _ hc he0 h31 v5 v6 hy
def f_X13_roamsBy_176 (h : Mem) (v0 : Nat) (v1 : Int32) (v3 : Int32) (v4 : Int32) (v5 : Int32) (v6 : Int32) (s0 : Nat) (s1 : Int32) : Option ((Int32 × Int32 × Mem) ⊕ Mem) :=
  (pI h s0 37 11 s1).bind fun h33 => (gI h33 v0 38 11).bind fun x34 => (pI h33 v0 38 11 (x34 + 1)).bind fun h35 => f_X13_roamsBy_189 h35 v0 v1 v3 v4 v5 v6
set_option maxRecDepth 100000 in
set_option maxHeartbeats 4000000 in
theorem w_X13_roamsBy_176 {G : GE} {X : CX} {l : Launch} (hX : Ok G X cX13_roamsBy RX13) (hN : xn X = 10) {P0 : Mem → Prop} (hr : Rt G X l yX13_roamsBy none rm_X13_roamsBy (pmV P0))  (v0 : Nat) (v1 : Int32) (v3 : Int32) (v4 : Int32) {P : ((Int32 × Int32 × Mem) ⊕ Mem) → Prop} (hc : ∀ s, P (.inl s) → AW G X 28 [(0, vR v0), (1, vI v1), (3, vI v3), (4, vI v4), (5, vI s.1), (6, vI s.2.1)] [] s.2.2 0 0) (he0 : ∀ e, P (.inr e) → AW G X 217 [] [] e 0 0) (h : Mem) (v5 : Int32) (v6 : Int32) (s0 : Nat) (s1 : Int32) (hy : OK (f_X13_roamsBy_176 h v0 v1 v3 v4 v5 v6 s0 s1) P) : AW G X 176 [(0, vR v0), (1, vI v1), (3, vI v3), (4, vI v4), (5, vI v5), (6, vI v6)] [vI s1, vR s0] h 0 0 := by
  unfold f_X13_roamsBy_176 at hy
  refine aw_pI (pc := 176) hX hy fl_X13_516 rfl (Or.inl rfl) dX13_roamsBy_176 (fun h33 hy => ?_)
  refine aw_aloadn (pc := 179) hX 0 rfl dX13_roamsBy_179 ?_
  refine aw_dup (pc := 180) hX rfl dX13_roamsBy_180 ?_
  refine aw_gI (pc := 181) hX hy fl_X13_519 (fun _ _ => rfl) dX13_roamsBy_181 (fun x34 hy => ?_)
  refine aw_iconst (pc := 184) hX 1 (by decide) dX13_roamsBy_184 ?_
  refine aw_iadd (pc := 185) hX dX13_roamsBy_185 ?_
  refine aw_pI (pc := 186) hX hy fl_X13_519 rfl (Or.inl rfl) dX13_roamsBy_186 (fun h35 hy => ?_)
  exact w_X13_roamsBy_189 hX hN hr _ _ _ _ hc he0 h35 v5 v6 hy
def f_X13_roamsBy_128 (h : Mem) (v0 : Nat) (v1 : Int32) (v3 : Int32) (v4 : Int32) (v5 : Int32) (v6 : Int32) (v7 : Int32) (v8 : Int32) (v9 : Int32) : Option ((Int32 × Int32 × Mem) ⊕ Mem) :=
  (gR h v0 16 11).bind fun r24 => (aI h r24 (8 + v1)).bind fun x25 => (gR h v0 16 11).bind fun r26 => (aI h r26 (12 + v1)).bind fun x27 => (f_X13_passesBy h v0 x25 x27 v8 v9 v7).bind fun x28 => (if x28 = 0 then f_X13_roamsBy_189 h v0 v1 v3 v4 v5 v6 else (gI h v0 37 11).bind fun x32 => (if x32 = v8 then f_X13_roamsBy_176 h v0 v1 v3 v4 v5 v6 v0 v9 else f_X13_roamsBy_176 h v0 v1 v3 v4 v5 v6 v0 v8))
set_option maxRecDepth 100000 in
set_option maxHeartbeats 4000000 in
theorem w_X13_roamsBy_128 {G : GE} {X : CX} {l : Launch} (hX : Ok G X cX13_roamsBy RX13) (hN : xn X = 10) {P0 : Mem → Prop} (hr : Rt G X l yX13_roamsBy none rm_X13_roamsBy (pmV P0))  (v0 : Nat) (v1 : Int32) (v3 : Int32) (v4 : Int32) {P : ((Int32 × Int32 × Mem) ⊕ Mem) → Prop} (hc : ∀ s, P (.inl s) → AW G X 28 [(0, vR v0), (1, vI v1), (3, vI v3), (4, vI v4), (5, vI s.1), (6, vI s.2.1)] [] s.2.2 0 0) (he0 : ∀ e, P (.inr e) → AW G X 217 [] [] e 0 0) (h : Mem) (v5 : Int32) (v6 : Int32) (v7 : Int32) (v8 : Int32) (v9 : Int32) (hy : OK (f_X13_roamsBy_128 h v0 v1 v3 v4 v5 v6 v7 v8 v9) P) : AW G X 128 [(0, vR v0), (1, vI v1), (3, vI v3), (4, vI v4), (5, vI v5), (6, vI v6), (7, vI v7), (8, vI v8), (9, vI v9)] [] h 0 0 := by
  unfold f_X13_roamsBy_128 at hy
  refine aw_aloadn (pc := 128) hX 0 rfl dX13_roamsBy_128 ?_
  refine aw_aloadn (pc := 129) hX 0 rfl dX13_roamsBy_129 ?_
  refine aw_gR (pc := 130) hX hy fl_X13_17 (fun _ _ => rfl) dX13_roamsBy_130 (fun r24 hy => ?_)
  refine aw_bipush (pc := 133) hX 8 (by decide) dX13_roamsBy_133 ?_
  refine aw_iloadn (pc := 135) hX 1 rfl dX13_roamsBy_135 ?_
  refine aw_iadd (pc := 136) hX dX13_roamsBy_136 ?_
  refine aw_aI (pc := 137) hX hy dX13_roamsBy_137 (fun x25 hy => ?_)
  refine aw_aloadn (pc := 138) hX 0 rfl dX13_roamsBy_138 ?_
  refine aw_gR (pc := 139) hX hy fl_X13_17 (fun _ _ => rfl) dX13_roamsBy_139 (fun r26 hy => ?_)
  refine aw_bipush (pc := 142) hX 12 (by decide) dX13_roamsBy_142 ?_
  refine aw_iloadn (pc := 144) hX 1 rfl dX13_roamsBy_144 ?_
  refine aw_iadd (pc := 145) hX dX13_roamsBy_145 ?_
  refine aw_aI (pc := 146) hX hy dX13_roamsBy_146 (fun x27 hy => ?_)
  refine aw_iload (pc := 147) hX 7 rfl dX13_roamsBy_147 ?_
  refine aw_iload (pc := 149) hX 8 rfl dX13_roamsBy_149 ?_
  refine aw_iload (pc := 151) hX 6 rfl dX13_roamsBy_151 ?_
  refine aw_callV (pc := 153) (st := []) (a := v0) hX [vI x25, vI x27, vI v8, vI v9, vI v7] (con_X13_passesBy _ G _ v0 x25 x27 v8 v9 v7 hy.bd) mc_X13_passesBy ml_X13_379 im_X13_passesBy se_X13_passesBy (by decide) hy.bd.kd rfl (rm_of hr (by decide)) (Nat.le_of_ble_eq_true rfl) rfl dX13_roamsBy_153 (kpI rfl rfl (fun x28 hy => ?_))
  refine aw_if_eq (pc := 156) hX 189 (by decide) dX13_roamsBy_156 (fun hc9 => ?_) (fun hc9 => ?_)
  · have hy := hy.t hc9
    refine AW.sub [0, 1, 2, 3, 4, 5] rfl ?_
    exact w_X13_roamsBy_189 hX hN hr _ _ _ _ hc he0 h v5 v6 hy
  · have hy := hy.f hc9
    refine aw_aloadn (pc := 159) hX 0 rfl dX13_roamsBy_159 ?_
    refine aw_aloadn (pc := 160) hX 0 rfl dX13_roamsBy_160 ?_
    refine aw_gI (pc := 161) hX hy fl_X13_516 (fun _ _ => rfl) dX13_roamsBy_161 (fun x32 hy => ?_)
    refine aw_iload (pc := 164) hX 7 rfl dX13_roamsBy_164 ?_
    refine aw_ic_ne (pc := 166) hX 174 (by decide) dX13_roamsBy_166 (fun hc9 => ?_) (fun hc9 => ?_)
    · have hy := hy.f hc9
      refine aw_iload (pc := 174) hX 7 rfl dX13_roamsBy_174 ?_
      refine AW.sub [0, 1, 2, 3, 4, 5] rfl ?_
      exact w_X13_roamsBy_176 hX hN hr _ _ _ _ hc he0 h v5 v6 v0 v8 hy
    · have hy := hy.t hc9
      refine aw_iload (pc := 169) hX 8 rfl dX13_roamsBy_169 ?_
      refine aw_goto (pc := 171) hX 176 (by decide) dX13_roamsBy_171 ?_
      refine AW.sub [0, 1, 2, 3, 4, 5] rfl ?_
      exact w_X13_roamsBy_176 hX hN hr _ _ _ _ hc he0 h v5 v6 v0 v9 hy
def f_X13_roamsBy_61 (h : Mem) (v0 : Nat) (v1 : Int32) (v3 : Int32) (v4 : Int32) (v5 : Int32) (v6 : Int32) (s0 : Int32) : Option ((Int32 × Int32 × Mem) ⊕ Mem) :=
  (f_X13_drawn h v5).bind fun x10 => (gR h v0 3 11).bind fun r11 => (gR h r11 15 10).bind fun r12 => (gR h v0 3 11).bind fun r13 => (gI h r13 3 10).bind fun x14 => (irm x10 x14).bind fun x15 => (aI h r12 x15).bind fun x16 => (gR h v0 3 11).bind fun r17 => (gR h r17 16 10).bind fun r18 => (gR h v0 3 11).bind fun r19 => (gI h r19 3 10).bind fun x20 => (irm x10 x20).bind fun x21 => (aI h r18 x21).bind fun x22 => (gI h v0 37 11).bind fun x23 => (if x23 = x16 then f_X13_roamsBy_128 h v0 v1 v3 v4 x10 v6 s0 x16 x22 else (gI h v0 37 11).bind fun x36 => (if x36 = x22 then f_X13_roamsBy_128 h v0 v1 v3 v4 x10 v6 s0 x16 x22 else f_X13_roamsBy_189 h v0 v1 v3 v4 x10 v6))
set_option maxRecDepth 100000 in
set_option maxHeartbeats 4000000 in
theorem w_X13_roamsBy_61 {G : GE} {X : CX} {l : Launch} (hX : Ok G X cX13_roamsBy RX13) (hN : xn X = 10) {P0 : Mem → Prop} (hr : Rt G X l yX13_roamsBy none rm_X13_roamsBy (pmV P0))  (v0 : Nat) (v1 : Int32) (v3 : Int32) (v4 : Int32) {P : ((Int32 × Int32 × Mem) ⊕ Mem) → Prop} (hc : ∀ s, P (.inl s) → AW G X 28 [(0, vR v0), (1, vI v1), (3, vI v3), (4, vI v4), (5, vI s.1), (6, vI s.2.1)] [] s.2.2 0 0) (he0 : ∀ e, P (.inr e) → AW G X 217 [] [] e 0 0) (h : Mem) (v5 : Int32) (v6 : Int32) (s0 : Int32) (hy : OK (f_X13_roamsBy_61 h v0 v1 v3 v4 v5 v6 s0) P) : AW G X 61 [(0, vR v0), (1, vI v1), (3, vI v3), (4, vI v4), (5, vI v5), (6, vI v6)] [vI s0] h 0 0 := by
  unfold f_X13_roamsBy_61 at hy
  refine aw_istore (pc := 61) hX [(7, vI s0), (0, vR v0), (1, vI v1), (3, vI v3), (4, vI v4), (5, vI v5), (6, vI v6)] rfl (lt_n hN (by decide)) dX13_roamsBy_61 ?_
  refine aw_iload (pc := 63) hX 5 rfl dX13_roamsBy_63 ?_
  refine aw_callS (pc := 65) (st := []) hX [vI v5] (con_X13_drawn _ G _ v5 hy.bd) mc_X13_drawn ml_X13_525 st_X13_drawn rfl (rm_of hr (by decide)) (Nat.le_of_ble_eq_true rfl) rfl dX13_roamsBy_65 (kpI rfl rfl (fun x10 hy => ?_))
  refine aw_istore (pc := 68) hX [(5, vI x10), (7, vI s0), (0, vR v0), (1, vI v1), (3, vI v3), (4, vI v4), (6, vI v6)] rfl (lt_n hN (by decide)) dX13_roamsBy_68 ?_
  refine aw_aloadn (pc := 70) hX 2 rfl dX13_roamsBy_70 ?_
  refine aw_gR (pc := 71) hX hy fl_X13_338 (fun _ _ => rfl) dX13_roamsBy_71 (fun r11 hy => ?_)
  refine aw_gR (pc := 74) hX hy fl_X13_266 (fun _ _ => rfl) dX13_roamsBy_74 (fun r12 hy => ?_)
  refine aw_iload (pc := 77) hX 0 rfl dX13_roamsBy_77 ?_
  refine aw_aloadn (pc := 79) hX 2 rfl dX13_roamsBy_79 ?_
  refine aw_gR (pc := 80) hX hy fl_X13_338 (fun _ _ => rfl) dX13_roamsBy_80 (fun r13 hy => ?_)
  refine aw_gI (pc := 83) hX hy fl_X13_256 (fun _ _ => rfl) dX13_roamsBy_83 (fun x14 hy => ?_)
  refine aw_irem (pc := 86) hX hy dX13_roamsBy_86 (fun x15 hy => ?_)
  refine aw_aI (pc := 87) hX hy dX13_roamsBy_87 (fun x16 hy => ?_)
  refine aw_istore (pc := 88) hX [(8, vI x16), (5, vI x10), (7, vI s0), (0, vR v0), (1, vI v1), (3, vI v3), (4, vI v4), (6, vI v6)] rfl (lt_n hN (by decide)) dX13_roamsBy_88 ?_
  refine aw_aloadn (pc := 90) hX 3 rfl dX13_roamsBy_90 ?_
  refine aw_gR (pc := 91) hX hy fl_X13_338 (fun _ _ => rfl) dX13_roamsBy_91 (fun r17 hy => ?_)
  refine aw_gR (pc := 94) hX hy fl_X13_269 (fun _ _ => rfl) dX13_roamsBy_94 (fun r18 hy => ?_)
  refine aw_iload (pc := 97) hX 1 rfl dX13_roamsBy_97 ?_
  refine aw_aloadn (pc := 99) hX 3 rfl dX13_roamsBy_99 ?_
  refine aw_gR (pc := 100) hX hy fl_X13_338 (fun _ _ => rfl) dX13_roamsBy_100 (fun r19 hy => ?_)
  refine aw_gI (pc := 103) hX hy fl_X13_256 (fun _ _ => rfl) dX13_roamsBy_103 (fun x20 hy => ?_)
  refine aw_irem (pc := 106) hX hy dX13_roamsBy_106 (fun x21 hy => ?_)
  refine aw_aI (pc := 107) hX hy dX13_roamsBy_107 (fun x22 hy => ?_)
  refine aw_istore (pc := 108) hX [(9, vI x22), (8, vI x16), (5, vI x10), (7, vI s0), (0, vR v0), (1, vI v1), (3, vI v3), (4, vI v4), (6, vI v6)] rfl (lt_n hN (by decide)) dX13_roamsBy_108 ?_
  refine aw_aloadn (pc := 110) hX 4 rfl dX13_roamsBy_110 ?_
  refine aw_gI (pc := 111) hX hy fl_X13_516 (fun _ _ => rfl) dX13_roamsBy_111 (fun x23 hy => ?_)
  refine aw_iload (pc := 114) hX 1 rfl dX13_roamsBy_114 ?_
  refine aw_ic_eq (pc := 116) hX 128 (by decide) dX13_roamsBy_116 (fun hc9 => ?_) (fun hc9 => ?_)
  · have hy := hy.t hc9
    refine AW.sub [4, 5, 6, 7, 2, 8, 3, 1, 0] rfl ?_
    exact w_X13_roamsBy_128 hX hN hr _ _ _ _ hc he0 h x10 v6 s0 x16 x22 hy
  · have hy := hy.f hc9
    refine aw_aloadn (pc := 119) hX 4 rfl dX13_roamsBy_119 ?_
    refine aw_gI (pc := 120) hX hy fl_X13_516 (fun _ _ => rfl) dX13_roamsBy_120 (fun x36 hy => ?_)
    refine aw_iload (pc := 123) hX 0 rfl dX13_roamsBy_123 ?_
    refine aw_ic_ne (pc := 125) hX 189 (by decide) dX13_roamsBy_125 (fun hc9 => ?_) (fun hc9 => ?_)
    · have hy := hy.f hc9
      refine AW.sub [4, 5, 6, 7, 2, 8] rfl ?_
      exact w_X13_roamsBy_189 hX hN hr _ _ _ _ hc he0 h x10 v6 hy
    · have hy := hy.t hc9
      refine AW.sub [4, 5, 6, 7, 2, 8, 3, 1, 0] rfl ?_
      exact w_X13_roamsBy_128 hX hN hr _ _ _ _ hc he0 h x10 v6 s0 x16 x22 hy
def b_X13_roamsBy_28 (h : Mem) (v0 : Nat) (v1 : Int32) (v3 : Int32) (v4 : Int32) (v5 : Int32) (v6 : Int32) : Option ((Int32 × Int32 × Mem) ⊕ Mem) :=
  (if v3 < v6 then some (.inr h) else (f_X13_drawn h v5).bind fun x6 => (irm x6 100).bind fun x7 => (gR h v0 3 11).bind fun r8 => (gI h r8 0 10).bind fun x9 => (if x9 ≤ x7 then f_X13_roamsBy_61 h v0 v1 v3 v4 x6 v6 0 else f_X13_roamsBy_61 h v0 v1 v3 v4 x6 v6 1))
set_option maxRecDepth 100000 in
set_option maxHeartbeats 4000000 in
theorem wb_X13_roamsBy_28 {G : GE} {X : CX} {l : Launch} (hX : Ok G X cX13_roamsBy RX13) (hN : xn X = 10) {P0 : Mem → Prop} (hr : Rt G X l yX13_roamsBy none rm_X13_roamsBy (pmV P0))  (v0 : Nat) (v1 : Int32) (v3 : Int32) (v4 : Int32) {P : ((Int32 × Int32 × Mem) ⊕ Mem) → Prop} (hc : ∀ s, P (.inl s) → AW G X 28 [(0, vR v0), (1, vI v1), (3, vI v3), (4, vI v4), (5, vI s.1), (6, vI s.2.1)] [] s.2.2 0 0) (he0 : ∀ e, P (.inr e) → AW G X 217 [] [] e 0 0) (h : Mem) (v5 : Int32) (v6 : Int32) (hy : OK (b_X13_roamsBy_28 h v0 v1 v3 v4 v5 v6) P) : AW G X 28 [(0, vR v0), (1, vI v1), (3, vI v3), (4, vI v4), (5, vI v5), (6, vI v6)] [] h 0 0 := by
  unfold b_X13_roamsBy_28 at hy
  refine aw_iload (pc := 28) hX 5 rfl dX13_roamsBy_28 ?_
  refine aw_iloadn (pc := 30) hX 2 rfl dX13_roamsBy_30 ?_
  refine aw_ic_gt (pc := 31) hX 217 (by decide) dX13_roamsBy_31 (fun hc9 => ?_) (fun hc9 => ?_)
  · have hy := hy.t hc9
    refine AW.sub [] rfl ?_
    exact he0 h hy.s
  · have hy := hy.f hc9
    refine aw_iload (pc := 34) hX 4 rfl dX13_roamsBy_34 ?_
    refine aw_callS (pc := 36) (st := []) hX [vI v5] (con_X13_drawn _ G _ v5 hy.bd) mc_X13_drawn ml_X13_525 st_X13_drawn rfl (rm_of hr (by decide)) (Nat.le_of_ble_eq_true rfl) rfl dX13_roamsBy_36 (kpI rfl rfl (fun x6 hy => ?_))
    refine aw_istore (pc := 39) hX [(5, vI x6), (0, vR v0), (1, vI v1), (3, vI v3), (4, vI v4), (6, vI v6)] rfl (lt_n hN (by decide)) dX13_roamsBy_39 ?_
    refine aw_iload (pc := 41) hX 0 rfl dX13_roamsBy_41 ?_
    refine aw_bipush (pc := 43) hX 100 (by decide) dX13_roamsBy_43 ?_
    refine aw_irem (pc := 45) hX hy dX13_roamsBy_45 (fun x7 hy => ?_)
    refine aw_aloadn (pc := 46) hX 1 rfl dX13_roamsBy_46 ?_
    refine aw_gR (pc := 47) hX hy fl_X13_338 (fun _ _ => rfl) dX13_roamsBy_47 (fun r8 hy => ?_)
    refine aw_gI (pc := 50) hX hy fl_X13_162 (fun _ _ => rfl) dX13_roamsBy_50 (fun x9 hy => ?_)
    refine aw_ic_ge (pc := 53) hX 60 (by decide) dX13_roamsBy_53 (fun hc9 => ?_) (fun hc9 => ?_)
    · have hy := hy.t hc9
      refine aw_iconst (pc := 60) hX 0 (by decide) dX13_roamsBy_60 ?_
      refine AW.sub [1, 2, 3, 4, 0, 5] rfl ?_
      exact w_X13_roamsBy_61 hX hN hr _ _ _ _ hc he0 h x6 v6 0 hy
    · have hy := hy.f hc9
      refine aw_iconst (pc := 56) hX 1 (by decide) dX13_roamsBy_56 ?_
      refine aw_goto (pc := 57) hX 61 (by decide) dX13_roamsBy_57 ?_
      refine AW.sub [1, 2, 3, 4, 0, 5] rfl ?_
      exact w_X13_roamsBy_61 hX hN hr _ _ _ _ hc he0 h x6 v6 1 hy
theorem wl_X13_roamsBy_28 {G : GE} {X : CX} {l : Launch} (hX : Ok G X cX13_roamsBy RX13) (hN : xn X = 10) {P0 : Mem → Prop} (hr : Rt G X l yX13_roamsBy none rm_X13_roamsBy (pmV P0)) (v0 : Nat) (v1 : Int32) (v3 : Int32) (v4 : Int32) {P : (Mem) → Prop} (he0 : ∀ e, P e → AW G X 217 [] [] e 0 0) : ∀ (n : Nat) (s : Int32 × Int32 × Mem), OK (iter (fun (s : Int32 × Int32 × Mem) => b_X13_roamsBy_28 s.2.2 v0 v1 v3 v4 s.1 s.2.1) n s) P → AW G X 28 [(0, vR v0), (1, vI v1), (3, vI v3), (4, vI v4), (5, vI s.1), (6, vI s.2.1)] [] s.2.2 0 0 := by
  intro n
  induction n with
  | zero => exact fun s hy => hy.it0.elim
  | succ n ih =>
    intro s hy
    exact wb_X13_roamsBy_28 hX hN hr v0 v1 v3 v4 (fun s hs => ih s hs) (fun e hs => he0 e hs) s.2.2 s.1 s.2.1 hy.it
def f_X13_roamsBy (h : Mem) (v0 : Nat) (v1 : Int32) (v2 : Int32) (v3 : Int32) (v4 : Int32) : Option Mem :=
  (ck h v0 11).bind fun _ => (gR h v0 16 11).bind fun r1 => (aI h r1 (0 + v1)).bind fun x2 => (pI h v0 37 11 x2).bind fun h3 => (pI h3 v0 38 11 0).bind fun h4 => (pI h4 v0 39 11 0).bind fun h5 => (iter (fun (s : Int32 × Int32 × Mem) => b_X13_roamsBy_28 s.2.2 v0 v1 v3 v4 s.1 s.2.1) FU (v2, 1, h5)).bind (fun q37 => some q37)
set_option maxRecDepth 100000 in
set_option maxHeartbeats 4000000 in
theorem w_X13_roamsBy {G : GE} {X : CX} {l : Launch} (hX : Ok G X cX13_roamsBy RX13) (hN : xn X = 10) {P : Mem → Prop} (hr : Rt G X l yX13_roamsBy none rm_X13_roamsBy (pmV P)) (h : Mem) (v0 : Nat) (v1 : Int32) (v2 : Int32) (v3 : Int32) (v4 : Int32) (hy : OK (f_X13_roamsBy h v0 v1 v2 v3 v4) P) : AW G X 0 [(0, vR v0), (1, vI v1), (2, vI v2), (3, vI v3), (4, vI v4)] [] h 0 0 := by
  unfold f_X13_roamsBy at hy
  have hkd := hy.kd
  have hy := hy.kb
  refine aw_aloadn (pc := 0) hX 0 rfl dX13_roamsBy_0 ?_
  refine aw_aloadn (pc := 1) hX 0 rfl dX13_roamsBy_1 ?_
  refine aw_gR (pc := 2) hX hy fl_X13_17 (fun _ _ => rfl) dX13_roamsBy_2 (fun r1 hy => ?_)
  refine aw_iconst (pc := 5) hX 0 (by decide) dX13_roamsBy_5 ?_
  refine aw_iloadn (pc := 6) hX 1 rfl dX13_roamsBy_6 ?_
  refine aw_iadd (pc := 7) hX dX13_roamsBy_7 ?_
  refine aw_aI (pc := 8) hX hy dX13_roamsBy_8 (fun x2 hy => ?_)
  refine aw_pI (pc := 9) hX hy fl_X13_516 rfl (Or.inl rfl) dX13_roamsBy_9 (fun h3 hy => ?_)
  refine aw_aloadn (pc := 12) hX 0 rfl dX13_roamsBy_12 ?_
  refine aw_iconst (pc := 13) hX 0 (by decide) dX13_roamsBy_13 ?_
  refine aw_pI (pc := 14) hX hy fl_X13_519 rfl (Or.inl rfl) dX13_roamsBy_14 (fun h4 hy => ?_)
  refine aw_aloadn (pc := 17) hX 0 rfl dX13_roamsBy_17 ?_
  refine aw_iconst (pc := 18) hX 0 (by decide) dX13_roamsBy_18 ?_
  refine aw_pI (pc := 19) hX hy fl_X13_522 rfl (Or.inl rfl) dX13_roamsBy_19 (fun h5 hy => ?_)
  refine aw_iloadn (pc := 22) hX 2 rfl dX13_roamsBy_22 ?_
  refine aw_istore (pc := 23) hX [(5, vI v2), (0, vR v0), (1, vI v1), (2, vI v2), (3, vI v3), (4, vI v4)] rfl (lt_n hN (by decide)) dX13_roamsBy_23 ?_
  refine aw_iconst (pc := 25) hX 1 (by decide) dX13_roamsBy_25 ?_
  refine aw_istore (pc := 26) hX [(6, vI 1), (5, vI v2), (0, vR v0), (1, vI v1), (2, vI v2), (3, vI v3), (4, vI v4)] rfl (lt_n hN (by decide)) dX13_roamsBy_26 ?_
  refine AW.sub [2, 3, 5, 6, 1, 0] rfl ?_
  refine wl_X13_roamsBy_28 hX hN hr v0 v1 v3 v4 ?_ FU (v2, 1, h5) hy.bd
  · intro q37 hy
    exact aw_vret (pc := 217) hX hr (by decide) (by decide) dX13_roamsBy_217 ⟨rfl, hy.s⟩
theorem con_X13_roamsBy (l : Launch) (G : GE) (h : Mem) (v0 : Nat) (v1 : Int32) (v2 : Int32) (v3 : Int32) (v4 : Int32) {P : Mem → Prop} (hy : OK (f_X13_roamsBy h v0 v1 v2 v3 v4) P) : Con l G yX13_roamsBy cX13_roamsBy 10 none rm_X13_roamsBy [vR v0, vI v1, vI v2, vI v3, vI v4] h (pmV P) := Con.of (by decide) (Nat.le_of_ble_eq_true rfl) (fun X hX hr hN => w_X13_roamsBy hX hN hr h v0 v1 v2 v3 v4 hy)
/-! X13_roams -/
theorem dX13_roams_0 : decode cX13_roams 0 = .ok (.aload_n 0, 1) := by decide +kernel
theorem dX13_roams_1 : decode cX13_roams 1 = .ok (.iconst 0, 1) := by decide +kernel
theorem dX13_roams_2 : decode cX13_roams 2 = .ok (.putfield 51, 3) := by decide +kernel
theorem dX13_roams_5 : decode cX13_roams 5 = .ok (.aload_n 0, 1) := by decide +kernel
theorem dX13_roams_6 : decode cX13_roams 6 = .ok (.aload_n 0, 1) := by decide +kernel
theorem dX13_roams_7 : decode cX13_roams 7 = .ok (.iload_n 1, 1) := by decide +kernel
theorem dX13_roams_8 : decode cX13_roams 8 = .ok (.invokevirtual 373, 3) := by decide +kernel
theorem dX13_roams_11 : decode cX13_roams 11 = .ok (.iload_n 2, 1) := by decide +kernel
theorem dX13_roams_12 : decode cX13_roams 12 = .ok (.iload_n 3, 1) := by decide +kernel
theorem dX13_roams_13 : decode cX13_roams 13 = .ok (.invokevirtual 528, 3) := by decide +kernel
theorem dX13_roams_16 : decode cX13_roams 16 = .ok (.istore 4, 2) := by decide +kernel
theorem dX13_roams_18 : decode cX13_roams 18 = .ok (.iload 4, 2) := by decide +kernel
theorem dX13_roams_20 : decode cX13_roams 20 = .ok (.ifCond .le 10, 3) := by decide +kernel
theorem dX13_roams_23 : decode cX13_roams 23 = .ok (.aload_n 0, 1) := by decide +kernel
theorem dX13_roams_24 : decode cX13_roams 24 = .ok (.iload 4, 2) := by decide +kernel
theorem dX13_roams_26 : decode cX13_roams 26 = .ok (.invokevirtual 57, 3) := by decide +kernel
theorem dX13_roams_29 : decode cX13_roams 29 = .ok (.ireturn, 1) := by decide +kernel
theorem dX13_roams_30 : decode cX13_roams 30 = .ok (.aload_n 0, 1) := by decide +kernel
theorem dX13_roams_31 : decode cX13_roams 31 = .ok (.iload_n 1, 1) := by decide +kernel
theorem dX13_roams_32 : decode cX13_roams 32 = .ok (.iload_n 2, 1) := by decide +kernel
theorem dX13_roams_33 : decode cX13_roams 33 = .ok (.iload_n 3, 1) := by decide +kernel
theorem dX13_roams_34 : decode cX13_roams 34 = .ok (.iconst 0, 1) := by decide +kernel
theorem dX13_roams_35 : decode cX13_roams 35 = .ok (.invokevirtual 532, 3) := by decide +kernel
theorem dX13_roams_38 : decode cX13_roams 38 = .ok (.aload_n 0, 1) := by decide +kernel
theorem dX13_roams_39 : decode cX13_roams 39 = .ok (.aload_n 0, 1) := by decide +kernel
theorem dX13_roams_40 : decode cX13_roams 40 = .ok (.getfield 516, 3) := by decide +kernel
theorem dX13_roams_43 : decode cX13_roams 43 = .ok (.invokevirtual 61, 3) := by decide +kernel
theorem dX13_roams_46 : decode cX13_roams 46 = .ok (.ireturn, 1) := by decide +kernel
abbrev rm_X13_roams : Room := { frames := 5, cells := 0, slots := 0, locals := 131 }
def f_X13_roams (h : Mem) (v0 : Nat) (v1 : Int32) (v2 : Int32) (v3 : Int32) : Option (Int32 × Mem) :=
  (ck h v0 11).bind fun _ => (pI h v0 0 11 0).bind fun h1 => (f_X13_isPerson h1 v0 v1).bind fun x2 => (f_X13_refusesDays h1 v0 x2 v2 v3).bind fun x3 => (if x3 ≤ 0 then (f_X13_roamsBy h1 v0 v1 v2 v3 0).bind fun h4 => (gI h4 v0 37 11).bind fun x5 => (f_X13_good h4 v0 x5).bind fun q8 => some (q8.1, q8.2) else (f_X13_refused h1 v0 x3).bind fun q11 => some (q11.1, q11.2))
set_option maxRecDepth 100000 in
set_option maxHeartbeats 4000000 in
theorem w_X13_roams {G : GE} {X : CX} {l : Launch} (hX : Ok G X cX13_roams RX13) (hN : xn X = 5) {P : (Int32 × Mem) → Prop} (hr : Rt G X l yX13_roams (some .int) rm_X13_roams (pmI P)) (h : Mem) (v0 : Nat) (v1 : Int32) (v2 : Int32) (v3 : Int32) (hy : OK (f_X13_roams h v0 v1 v2 v3) P) : AW G X 0 [(0, vR v0), (1, vI v1), (2, vI v2), (3, vI v3)] [] h 0 0 := by
  unfold f_X13_roams at hy
  have hkd := hy.kd
  have hy := hy.kb
  refine aw_aloadn (pc := 0) hX 0 rfl dX13_roams_0 ?_
  refine aw_iconst (pc := 1) hX 0 (by decide) dX13_roams_1 ?_
  refine aw_pI (pc := 2) hX hy fl_X13_51 rfl (Or.inl rfl) dX13_roams_2 (fun h1 hy => ?_)
  refine aw_aloadn (pc := 5) hX 0 rfl dX13_roams_5 ?_
  refine aw_aloadn (pc := 6) hX 0 rfl dX13_roams_6 ?_
  refine aw_iloadn (pc := 7) hX 1 rfl dX13_roams_7 ?_
  refine aw_callV (pc := 8) (st := [vR v0]) (a := v0) hX [vI v1] (con_X13_isPerson _ G _ v0 v1 hy.bd) mc_X13_isPerson ml_X13_373 im_X13_isPerson se_X13_isPerson (by decide) hy.bd.kd rfl (rm_of hr (by decide)) (Nat.le_of_ble_eq_true rfl) rfl dX13_roams_8 (kpI rfl rfl (fun x2 hy => ?_))
  refine aw_iloadn (pc := 11) hX 2 rfl dX13_roams_11 ?_
  refine aw_iloadn (pc := 12) hX 3 rfl dX13_roams_12 ?_
  refine aw_callV (pc := 13) (st := []) (a := v0) hX [vI x2, vI v2, vI v3] (con_X13_refusesDays _ G _ v0 x2 v2 v3 hy.bd) mc_X13_refusesDays ml_X13_528 im_X13_refusesDays se_X13_refusesDays (by decide) hy.bd.kd rfl (rm_of hr (by decide)) (Nat.le_of_ble_eq_true rfl) rfl dX13_roams_13 (kpI rfl rfl (fun x3 hy => ?_))
  refine aw_istore (pc := 16) hX [(4, vI x3), (0, vR v0), (1, vI v1), (2, vI v2), (3, vI v3)] rfl (lt_n hN (by decide)) dX13_roams_16 ?_
  refine aw_iload (pc := 18) hX 0 rfl dX13_roams_18 ?_
  refine aw_if_le (pc := 20) hX 30 (by decide) dX13_roams_20 (fun hc9 => ?_) (fun hc9 => ?_)
  · have hy := hy.t hc9
    refine aw_aloadn (pc := 30) hX 1 rfl dX13_roams_30 ?_
    refine aw_iloadn (pc := 31) hX 2 rfl dX13_roams_31 ?_
    refine aw_iloadn (pc := 32) hX 3 rfl dX13_roams_32 ?_
    refine aw_iloadn (pc := 33) hX 4 rfl dX13_roams_33 ?_
    refine aw_iconst (pc := 34) hX 0 (by decide) dX13_roams_34 ?_
    refine aw_callV (pc := 35) (st := []) (a := v0) hX [vI v1, vI v2, vI v3, vI 0] (con_X13_roamsBy _ G _ v0 v1 v2 v3 0 hy.bd) mc_X13_roamsBy ml_X13_532 im_X13_roamsBy se_X13_roamsBy (by decide) hy.bd.kd rfl (rm_of hr (by decide)) (Nat.le_of_ble_eq_true rfl) rfl dX13_roams_35 (kmV rfl rfl (fun h4 hy => ?_))
    refine aw_aloadn (pc := 38) hX 1 rfl dX13_roams_38 ?_
    refine aw_aloadn (pc := 39) hX 1 rfl dX13_roams_39 ?_
    refine aw_gI (pc := 40) hX hy fl_X13_516 (fun _ _ => rfl) dX13_roams_40 (fun x5 hy => ?_)
    refine aw_callV (pc := 43) (st := []) (a := v0) hX [vI x5] (con_X13_good _ G _ v0 x5 hy.bd) mc_X13_good ml_X13_61 im_X13_good se_X13_good (by decide) hy.bd.kd rfl (rm_of hr (by decide)) (Nat.le_of_ble_eq_true rfl) rfl dX13_roams_43 (kmI rfl rfl (fun q8 hy => ?_))
    exact aw_iret (pc := 46) hX hr (by decide) (by decide) dX13_roams_46 ⟨_, rfl, hy.s⟩
  · have hy := hy.f hc9
    refine aw_aloadn (pc := 23) hX 1 rfl dX13_roams_23 ?_
    refine aw_iload (pc := 24) hX 0 rfl dX13_roams_24 ?_
    refine aw_callV (pc := 26) (st := []) (a := v0) hX [vI x3] (con_X13_refused _ G _ v0 x3 hy.bd) mc_X13_refused ml_X13_57 im_X13_refused se_X13_refused (by decide) hy.bd.kd rfl (rm_of hr (by decide)) (Nat.le_of_ble_eq_true rfl) rfl dX13_roams_26 (kmI rfl rfl (fun q11 hy => ?_))
    exact aw_iret (pc := 29) hX hr (by decide) (by decide) dX13_roams_29 ⟨_, rfl, hy.s⟩
theorem con_X13_roams (l : Launch) (G : GE) (h : Mem) (v0 : Nat) (v1 : Int32) (v2 : Int32) (v3 : Int32) {P : (Int32 × Mem) → Prop} (hy : OK (f_X13_roams h v0 v1 v2 v3) P) : Con l G yX13_roams cX13_roams 5 (some .int) rm_X13_roams [vR v0, vI v1, vI v2, vI v3] h (pmI P) := Con.of (by decide) (Nat.le_of_ble_eq_true rfl) (fun X hX hr hN => w_X13_roams hX hN hr h v0 v1 v2 v3 hy)
/-! X13_roamed -/
theorem dX13_roamed_0 : decode cX13_roamed 0 = .ok (.aload_n 0, 1) := by decide +kernel
theorem dX13_roamed_1 : decode cX13_roamed 1 = .ok (.iconst 0, 1) := by decide +kernel
theorem dX13_roamed_2 : decode cX13_roamed 2 = .ok (.putfield 51, 3) := by decide +kernel
theorem dX13_roamed_5 : decode cX13_roamed 5 = .ok (.aload_n 0, 1) := by decide +kernel
theorem dX13_roamed_6 : decode cX13_roamed 6 = .ok (.aload_n 0, 1) := by decide +kernel
theorem dX13_roamed_7 : decode cX13_roamed 7 = .ok (.iload_n 1, 1) := by decide +kernel
theorem dX13_roamed_8 : decode cX13_roamed 8 = .ok (.invokevirtual 373, 3) := by decide +kernel
theorem dX13_roamed_11 : decode cX13_roamed 11 = .ok (.iload_n 2, 1) := by decide +kernel
theorem dX13_roamed_12 : decode cX13_roamed 12 = .ok (.iload_n 3, 1) := by decide +kernel
theorem dX13_roamed_13 : decode cX13_roamed 13 = .ok (.invokevirtual 528, 3) := by decide +kernel
theorem dX13_roamed_16 : decode cX13_roamed 16 = .ok (.istore 4, 2) := by decide +kernel
theorem dX13_roamed_18 : decode cX13_roamed 18 = .ok (.iload 4, 2) := by decide +kernel
theorem dX13_roamed_20 : decode cX13_roamed 20 = .ok (.ifCond .le 10, 3) := by decide +kernel
theorem dX13_roamed_23 : decode cX13_roamed 23 = .ok (.aload_n 0, 1) := by decide +kernel
theorem dX13_roamed_24 : decode cX13_roamed 24 = .ok (.iload 4, 2) := by decide +kernel
theorem dX13_roamed_26 : decode cX13_roamed 26 = .ok (.invokevirtual 57, 3) := by decide +kernel
theorem dX13_roamed_29 : decode cX13_roamed 29 = .ok (.ireturn, 1) := by decide +kernel
theorem dX13_roamed_30 : decode cX13_roamed 30 = .ok (.aload_n 0, 1) := by decide +kernel
theorem dX13_roamed_31 : decode cX13_roamed 31 = .ok (.iload_n 1, 1) := by decide +kernel
theorem dX13_roamed_32 : decode cX13_roamed 32 = .ok (.iload_n 2, 1) := by decide +kernel
theorem dX13_roamed_33 : decode cX13_roamed 33 = .ok (.iload_n 3, 1) := by decide +kernel
theorem dX13_roamed_34 : decode cX13_roamed 34 = .ok (.iconst 0, 1) := by decide +kernel
theorem dX13_roamed_35 : decode cX13_roamed 35 = .ok (.invokevirtual 532, 3) := by decide +kernel
theorem dX13_roamed_38 : decode cX13_roamed 38 = .ok (.aload_n 0, 1) := by decide +kernel
theorem dX13_roamed_39 : decode cX13_roamed 39 = .ok (.aload_n 0, 1) := by decide +kernel
theorem dX13_roamed_40 : decode cX13_roamed 40 = .ok (.getfield 519, 3) := by decide +kernel
theorem dX13_roamed_43 : decode cX13_roamed 43 = .ok (.invokevirtual 61, 3) := by decide +kernel
theorem dX13_roamed_46 : decode cX13_roamed 46 = .ok (.ireturn, 1) := by decide +kernel
abbrev rm_X13_roamed : Room := { frames := 5, cells := 0, slots := 0, locals := 131 }
def f_X13_roamed (h : Mem) (v0 : Nat) (v1 : Int32) (v2 : Int32) (v3 : Int32) : Option (Int32 × Mem) :=
  (ck h v0 11).bind fun _ => (pI h v0 0 11 0).bind fun h1 => (f_X13_isPerson h1 v0 v1).bind fun x2 => (f_X13_refusesDays h1 v0 x2 v2 v3).bind fun x3 => (if x3 ≤ 0 then (f_X13_roamsBy h1 v0 v1 v2 v3 0).bind fun h4 => (gI h4 v0 38 11).bind fun x5 => (f_X13_good h4 v0 x5).bind fun q8 => some (q8.1, q8.2) else (f_X13_refused h1 v0 x3).bind fun q11 => some (q11.1, q11.2))
set_option maxRecDepth 100000 in
set_option maxHeartbeats 4000000 in
theorem w_X13_roamed {G : GE} {X : CX} {l : Launch} (hX : Ok G X cX13_roamed RX13) (hN : xn X = 5) {P : (Int32 × Mem) → Prop} (hr : Rt G X l yX13_roamed (some .int) rm_X13_roamed (pmI P)) (h : Mem) (v0 : Nat) (v1 : Int32) (v2 : Int32) (v3 : Int32) (hy : OK (f_X13_roamed h v0 v1 v2 v3) P) : AW G X 0 [(0, vR v0), (1, vI v1), (2, vI v2), (3, vI v3)] [] h 0 0 := by
  unfold f_X13_roamed at hy
  have hkd := hy.kd
  have hy := hy.kb
  refine aw_aloadn (pc := 0) hX 0 rfl dX13_roamed_0 ?_
  refine aw_iconst (pc := 1) hX 0 (by decide) dX13_roamed_1 ?_
  refine aw_pI (pc := 2) hX hy fl_X13_51 rfl (Or.inl rfl) dX13_roamed_2 (fun h1 hy => ?_)
  refine aw_aloadn (pc := 5) hX 0 rfl dX13_roamed_5 ?_
  refine aw_aloadn (pc := 6) hX 0 rfl dX13_roamed_6 ?_
  refine aw_iloadn (pc := 7) hX 1 rfl dX13_roamed_7 ?_
  refine aw_callV (pc := 8) (st := [vR v0]) (a := v0) hX [vI v1] (con_X13_isPerson _ G _ v0 v1 hy.bd) mc_X13_isPerson ml_X13_373 im_X13_isPerson se_X13_isPerson (by decide) hy.bd.kd rfl (rm_of hr (by decide)) (Nat.le_of_ble_eq_true rfl) rfl dX13_roamed_8 (kpI rfl rfl (fun x2 hy => ?_))
  refine aw_iloadn (pc := 11) hX 2 rfl dX13_roamed_11 ?_
  refine aw_iloadn (pc := 12) hX 3 rfl dX13_roamed_12 ?_
  refine aw_callV (pc := 13) (st := []) (a := v0) hX [vI x2, vI v2, vI v3] (con_X13_refusesDays _ G _ v0 x2 v2 v3 hy.bd) mc_X13_refusesDays ml_X13_528 im_X13_refusesDays se_X13_refusesDays (by decide) hy.bd.kd rfl (rm_of hr (by decide)) (Nat.le_of_ble_eq_true rfl) rfl dX13_roamed_13 (kpI rfl rfl (fun x3 hy => ?_))
  refine aw_istore (pc := 16) hX [(4, vI x3), (0, vR v0), (1, vI v1), (2, vI v2), (3, vI v3)] rfl (lt_n hN (by decide)) dX13_roamed_16 ?_
  refine aw_iload (pc := 18) hX 0 rfl dX13_roamed_18 ?_
  refine aw_if_le (pc := 20) hX 30 (by decide) dX13_roamed_20 (fun hc9 => ?_) (fun hc9 => ?_)
  · have hy := hy.t hc9
    refine aw_aloadn (pc := 30) hX 1 rfl dX13_roamed_30 ?_
    refine aw_iloadn (pc := 31) hX 2 rfl dX13_roamed_31 ?_
    refine aw_iloadn (pc := 32) hX 3 rfl dX13_roamed_32 ?_
    refine aw_iloadn (pc := 33) hX 4 rfl dX13_roamed_33 ?_
    refine aw_iconst (pc := 34) hX 0 (by decide) dX13_roamed_34 ?_
    refine aw_callV (pc := 35) (st := []) (a := v0) hX [vI v1, vI v2, vI v3, vI 0] (con_X13_roamsBy _ G _ v0 v1 v2 v3 0 hy.bd) mc_X13_roamsBy ml_X13_532 im_X13_roamsBy se_X13_roamsBy (by decide) hy.bd.kd rfl (rm_of hr (by decide)) (Nat.le_of_ble_eq_true rfl) rfl dX13_roamed_35 (kmV rfl rfl (fun h4 hy => ?_))
    refine aw_aloadn (pc := 38) hX 1 rfl dX13_roamed_38 ?_
    refine aw_aloadn (pc := 39) hX 1 rfl dX13_roamed_39 ?_
    refine aw_gI (pc := 40) hX hy fl_X13_519 (fun _ _ => rfl) dX13_roamed_40 (fun x5 hy => ?_)
    refine aw_callV (pc := 43) (st := []) (a := v0) hX [vI x5] (con_X13_good _ G _ v0 x5 hy.bd) mc_X13_good ml_X13_61 im_X13_good se_X13_good (by decide) hy.bd.kd rfl (rm_of hr (by decide)) (Nat.le_of_ble_eq_true rfl) rfl dX13_roamed_43 (kmI rfl rfl (fun q8 hy => ?_))
    exact aw_iret (pc := 46) hX hr (by decide) (by decide) dX13_roamed_46 ⟨_, rfl, hy.s⟩
  · have hy := hy.f hc9
    refine aw_aloadn (pc := 23) hX 1 rfl dX13_roamed_23 ?_
    refine aw_iload (pc := 24) hX 0 rfl dX13_roamed_24 ?_
    refine aw_callV (pc := 26) (st := []) (a := v0) hX [vI x3] (con_X13_refused _ G _ v0 x3 hy.bd) mc_X13_refused ml_X13_57 im_X13_refused se_X13_refused (by decide) hy.bd.kd rfl (rm_of hr (by decide)) (Nat.le_of_ble_eq_true rfl) rfl dX13_roamed_26 (kmI rfl rfl (fun q11 hy => ?_))
    exact aw_iret (pc := 29) hX hr (by decide) (by decide) dX13_roamed_29 ⟨_, rfl, hy.s⟩
theorem con_X13_roamed (l : Launch) (G : GE) (h : Mem) (v0 : Nat) (v1 : Int32) (v2 : Int32) (v3 : Int32) {P : (Int32 × Mem) → Prop} (hy : OK (f_X13_roamed h v0 v1 v2 v3) P) : Con l G yX13_roamed cX13_roamed 5 (some .int) rm_X13_roamed [vR v0, vI v1, vI v2, vI v3] h (pmI P) := Con.of (by decide) (Nat.le_of_ble_eq_true rfl) (fun X hX hr hN => w_X13_roamed hX hN hr h v0 v1 v2 v3 hy)
/-! X13_roamsTo -/
theorem dX13_roamsTo_0 : decode cX13_roamsTo 0 = .ok (.aload_n 0, 1) := by decide +kernel
theorem dX13_roamsTo_1 : decode cX13_roamsTo 1 = .ok (.iconst 0, 1) := by decide +kernel
theorem dX13_roamsTo_2 : decode cX13_roamsTo 2 = .ok (.putfield 51, 3) := by decide +kernel
theorem dX13_roamsTo_5 : decode cX13_roamsTo 5 = .ok (.aload_n 0, 1) := by decide +kernel
theorem dX13_roamsTo_6 : decode cX13_roamsTo 6 = .ok (.aload_n 0, 1) := by decide +kernel
theorem dX13_roamsTo_7 : decode cX13_roamsTo 7 = .ok (.iload_n 1, 1) := by decide +kernel
theorem dX13_roamsTo_8 : decode cX13_roamsTo 8 = .ok (.invokevirtual 373, 3) := by decide +kernel
theorem dX13_roamsTo_11 : decode cX13_roamsTo 11 = .ok (.ifCond .eq 15, 3) := by decide +kernel
theorem dX13_roamsTo_14 : decode cX13_roamsTo 14 = .ok (.aload_n 0, 1) := by decide +kernel
theorem dX13_roamsTo_15 : decode cX13_roamsTo 15 = .ok (.iload_n 2, 1) := by decide +kernel
theorem dX13_roamsTo_16 : decode cX13_roamsTo 16 = .ok (.invokevirtual 347, 3) := by decide +kernel
theorem dX13_roamsTo_19 : decode cX13_roamsTo 19 = .ok (.ifCond .eq 7, 3) := by decide +kernel
theorem dX13_roamsTo_22 : decode cX13_roamsTo 22 = .ok (.iconst 1, 1) := by decide +kernel
theorem dX13_roamsTo_23 : decode cX13_roamsTo 23 = .ok (.goto 4, 3) := by decide +kernel
theorem dX13_roamsTo_26 : decode cX13_roamsTo 26 = .ok (.iconst 0, 1) := by decide +kernel
theorem dX13_roamsTo_27 : decode cX13_roamsTo 27 = .ok (.iload_n 3, 1) := by decide +kernel
theorem dX13_roamsTo_28 : decode cX13_roamsTo 28 = .ok (.iload 4, 2) := by decide +kernel
theorem dX13_roamsTo_30 : decode cX13_roamsTo 30 = .ok (.invokevirtual 528, 3) := by decide +kernel
theorem dX13_roamsTo_33 : decode cX13_roamsTo 33 = .ok (.istore 5, 2) := by decide +kernel
theorem dX13_roamsTo_35 : decode cX13_roamsTo 35 = .ok (.iload 5, 2) := by decide +kernel
theorem dX13_roamsTo_37 : decode cX13_roamsTo 37 = .ok (.ifCond .le 10, 3) := by decide +kernel
theorem dX13_roamsTo_40 : decode cX13_roamsTo 40 = .ok (.aload_n 0, 1) := by decide +kernel
theorem dX13_roamsTo_41 : decode cX13_roamsTo 41 = .ok (.iload 5, 2) := by decide +kernel
theorem dX13_roamsTo_43 : decode cX13_roamsTo 43 = .ok (.invokevirtual 57, 3) := by decide +kernel
theorem dX13_roamsTo_46 : decode cX13_roamsTo 46 = .ok (.ireturn, 1) := by decide +kernel
theorem dX13_roamsTo_47 : decode cX13_roamsTo 47 = .ok (.aload_n 0, 1) := by decide +kernel
theorem dX13_roamsTo_48 : decode cX13_roamsTo 48 = .ok (.iload_n 1, 1) := by decide +kernel
theorem dX13_roamsTo_49 : decode cX13_roamsTo 49 = .ok (.iload_n 3, 1) := by decide +kernel
theorem dX13_roamsTo_50 : decode cX13_roamsTo 50 = .ok (.iload 4, 2) := by decide +kernel
theorem dX13_roamsTo_52 : decode cX13_roamsTo 52 = .ok (.iload_n 2, 1) := by decide +kernel
theorem dX13_roamsTo_53 : decode cX13_roamsTo 53 = .ok (.invokevirtual 532, 3) := by decide +kernel
theorem dX13_roamsTo_56 : decode cX13_roamsTo 56 = .ok (.aload_n 0, 1) := by decide +kernel
theorem dX13_roamsTo_57 : decode cX13_roamsTo 57 = .ok (.aload_n 0, 1) := by decide +kernel
theorem dX13_roamsTo_58 : decode cX13_roamsTo 58 = .ok (.getfield 522, 3) := by decide +kernel
theorem dX13_roamsTo_61 : decode cX13_roamsTo 61 = .ok (.invokevirtual 61, 3) := by decide +kernel
theorem dX13_roamsTo_64 : decode cX13_roamsTo 64 = .ok (.ireturn, 1) := by decide +kernel
abbrev rm_X13_roamsTo : Room := { frames := 5, cells := 0, slots := 0, locals := 131 }
def f_X13_roamsTo_27 (h : Mem) (v0 : Nat) (v1 : Int32) (v2 : Int32) (v3 : Int32) (v4 : Int32) (s0 : Nat) (s1 : Int32) : Option (Int32 × Mem) :=
  (f_X13_refusesDays h s0 s1 v3 v4).bind fun x3 => (if x3 ≤ 0 then (f_X13_roamsBy h v0 v1 v3 v4 v2).bind fun h4 => (gI h4 v0 39 11).bind fun x5 => (f_X13_good h4 v0 x5).bind fun q8 => some (q8.1, q8.2) else (f_X13_refused h v0 x3).bind fun q11 => some (q11.1, q11.2))
set_option maxRecDepth 100000 in
set_option maxHeartbeats 4000000 in
theorem w_X13_roamsTo_27 {G : GE} {X : CX} {l : Launch} (hX : Ok G X cX13_roamsTo RX13) (hN : xn X = 6) {P : (Int32 × Mem) → Prop} (hr : Rt G X l yX13_roamsTo (some .int) rm_X13_roamsTo (pmI P)) (h : Mem) (v0 : Nat) (v1 : Int32) (v2 : Int32) (v3 : Int32) (v4 : Int32) (s0 : Nat) (s1 : Int32) (hy : OK (f_X13_roamsTo_27 h v0 v1 v2 v3 v4 s0 s1) P) : AW G X 27 [(0, vR v0), (1, vI v1), (2, vI v2), (3, vI v3), (4, vI v4)] [vI s1, vR s0] h 0 0 := by
  unfold f_X13_roamsTo_27 at hy
  refine aw_iloadn (pc := 27) hX 3 rfl dX13_roamsTo_27 ?_
  refine aw_iload (pc := 28) hX 4 rfl dX13_roamsTo_28 ?_
  refine aw_callV (pc := 30) (st := []) (a := s0) hX [vI s1, vI v3, vI v4] (con_X13_refusesDays _ G _ s0 s1 v3 v4 hy.bd) mc_X13_refusesDays ml_X13_528 im_X13_refusesDays se_X13_refusesDays (by decide) hy.bd.kd rfl (rm_of hr (by decide)) (Nat.le_of_ble_eq_true rfl) rfl dX13_roamsTo_30 (kpI rfl rfl (fun x3 hy => ?_))
  refine aw_istore (pc := 33) hX [(5, vI x3), (0, vR v0), (1, vI v1), (2, vI v2), (3, vI v3), (4, vI v4)] rfl (lt_n hN (by decide)) dX13_roamsTo_33 ?_
  refine aw_iload (pc := 35) hX 0 rfl dX13_roamsTo_35 ?_
  refine aw_if_le (pc := 37) hX 47 (by decide) dX13_roamsTo_37 (fun hc9 => ?_) (fun hc9 => ?_)
  · have hy := hy.t hc9
    refine aw_aloadn (pc := 47) hX 1 rfl dX13_roamsTo_47 ?_
    refine aw_iloadn (pc := 48) hX 2 rfl dX13_roamsTo_48 ?_
    refine aw_iloadn (pc := 49) hX 4 rfl dX13_roamsTo_49 ?_
    refine aw_iload (pc := 50) hX 5 rfl dX13_roamsTo_50 ?_
    refine aw_iloadn (pc := 52) hX 3 rfl dX13_roamsTo_52 ?_
    refine aw_callV (pc := 53) (st := []) (a := v0) hX [vI v1, vI v3, vI v4, vI v2] (con_X13_roamsBy _ G _ v0 v1 v3 v4 v2 hy.bd) mc_X13_roamsBy ml_X13_532 im_X13_roamsBy se_X13_roamsBy (by decide) hy.bd.kd rfl (rm_of hr (by decide)) (Nat.le_of_ble_eq_true rfl) rfl dX13_roamsTo_53 (kmV rfl rfl (fun h4 hy => ?_))
    refine aw_aloadn (pc := 56) hX 1 rfl dX13_roamsTo_56 ?_
    refine aw_aloadn (pc := 57) hX 1 rfl dX13_roamsTo_57 ?_
    refine aw_gI (pc := 58) hX hy fl_X13_522 (fun _ _ => rfl) dX13_roamsTo_58 (fun x5 hy => ?_)
    refine aw_callV (pc := 61) (st := []) (a := v0) hX [vI x5] (con_X13_good _ G _ v0 x5 hy.bd) mc_X13_good ml_X13_61 im_X13_good se_X13_good (by decide) hy.bd.kd rfl (rm_of hr (by decide)) (Nat.le_of_ble_eq_true rfl) rfl dX13_roamsTo_61 (kmI rfl rfl (fun q8 hy => ?_))
    exact aw_iret (pc := 64) hX hr (by decide) (by decide) dX13_roamsTo_64 ⟨_, rfl, hy.s⟩
  · have hy := hy.f hc9
    refine aw_aloadn (pc := 40) hX 1 rfl dX13_roamsTo_40 ?_
    refine aw_iload (pc := 41) hX 0 rfl dX13_roamsTo_41 ?_
    refine aw_callV (pc := 43) (st := []) (a := v0) hX [vI x3] (con_X13_refused _ G _ v0 x3 hy.bd) mc_X13_refused ml_X13_57 im_X13_refused se_X13_refused (by decide) hy.bd.kd rfl (rm_of hr (by decide)) (Nat.le_of_ble_eq_true rfl) rfl dX13_roamsTo_43 (kmI rfl rfl (fun q11 hy => ?_))
    exact aw_iret (pc := 46) hX hr (by decide) (by decide) dX13_roamsTo_46 ⟨_, rfl, hy.s⟩
def f_X13_roamsTo_26 (h : Mem) (v0 : Nat) (v1 : Int32) (v2 : Int32) (v3 : Int32) (v4 : Int32) (s0 : Nat) : Option (Int32 × Mem) :=
  f_X13_roamsTo_27 h v0 v1 v2 v3 v4 s0 0
set_option maxRecDepth 100000 in
set_option maxHeartbeats 4000000 in
theorem w_X13_roamsTo_26 {G : GE} {X : CX} {l : Launch} (hX : Ok G X cX13_roamsTo RX13) (hN : xn X = 6) {P : (Int32 × Mem) → Prop} (hr : Rt G X l yX13_roamsTo (some .int) rm_X13_roamsTo (pmI P)) (h : Mem) (v0 : Nat) (v1 : Int32) (v2 : Int32) (v3 : Int32) (v4 : Int32) (s0 : Nat) (hy : OK (f_X13_roamsTo_26 h v0 v1 v2 v3 v4 s0) P) : AW G X 26 [(0, vR v0), (1, vI v1), (2, vI v2), (3, vI v3), (4, vI v4)] [vR s0] h 0 0 := by
  unfold f_X13_roamsTo_26 at hy
  refine aw_iconst (pc := 26) hX 0 (by decide) dX13_roamsTo_26 ?_
  exact w_X13_roamsTo_27 hX hN hr h v0 v1 v2 v3 v4 s0 0 hy
def f_X13_roamsTo (h : Mem) (v0 : Nat) (v1 : Int32) (v2 : Int32) (v3 : Int32) (v4 : Int32) : Option (Int32 × Mem) :=
  (ck h v0 11).bind fun _ => (pI h v0 0 11 0).bind fun h1 => (f_X13_isPerson h1 v0 v1).bind fun x2 => (if x2 = 0 then f_X13_roamsTo_26 h1 v0 v1 v2 v3 v4 v0 else (f_X13_isPlace h1 v0 v2).bind fun x12 => (if x12 = 0 then f_X13_roamsTo_26 h1 v0 v1 v2 v3 v4 v0 else f_X13_roamsTo_27 h1 v0 v1 v2 v3 v4 v0 1))
set_option maxRecDepth 100000 in
set_option maxHeartbeats 4000000 in
theorem w_X13_roamsTo {G : GE} {X : CX} {l : Launch} (hX : Ok G X cX13_roamsTo RX13) (hN : xn X = 6) {P : (Int32 × Mem) → Prop} (hr : Rt G X l yX13_roamsTo (some .int) rm_X13_roamsTo (pmI P)) (h : Mem) (v0 : Nat) (v1 : Int32) (v2 : Int32) (v3 : Int32) (v4 : Int32) (hy : OK (f_X13_roamsTo h v0 v1 v2 v3 v4) P) : AW G X 0 [(0, vR v0), (1, vI v1), (2, vI v2), (3, vI v3), (4, vI v4)] [] h 0 0 := by
  unfold f_X13_roamsTo at hy
  have hkd := hy.kd
  have hy := hy.kb
  refine aw_aloadn (pc := 0) hX 0 rfl dX13_roamsTo_0 ?_
  refine aw_iconst (pc := 1) hX 0 (by decide) dX13_roamsTo_1 ?_
  refine aw_pI (pc := 2) hX hy fl_X13_51 rfl (Or.inl rfl) dX13_roamsTo_2 (fun h1 hy => ?_)
  refine aw_aloadn (pc := 5) hX 0 rfl dX13_roamsTo_5 ?_
  refine aw_aloadn (pc := 6) hX 0 rfl dX13_roamsTo_6 ?_
  refine aw_iloadn (pc := 7) hX 1 rfl dX13_roamsTo_7 ?_
  refine aw_callV (pc := 8) (st := [vR v0]) (a := v0) hX [vI v1] (con_X13_isPerson _ G _ v0 v1 hy.bd) mc_X13_isPerson ml_X13_373 im_X13_isPerson se_X13_isPerson (by decide) hy.bd.kd rfl (rm_of hr (by decide)) (Nat.le_of_ble_eq_true rfl) rfl dX13_roamsTo_8 (kpI rfl rfl (fun x2 hy => ?_))
  refine aw_if_eq (pc := 11) hX 26 (by decide) dX13_roamsTo_11 (fun hc9 => ?_) (fun hc9 => ?_)
  · have hy := hy.t hc9
    exact w_X13_roamsTo_26 hX hN hr h1 v0 v1 v2 v3 v4 v0 hy
  · have hy := hy.f hc9
    refine aw_aloadn (pc := 14) hX 0 rfl dX13_roamsTo_14 ?_
    refine aw_iloadn (pc := 15) hX 2 rfl dX13_roamsTo_15 ?_
    refine aw_callV (pc := 16) (st := [vR v0]) (a := v0) hX [vI v2] (con_X13_isPlace _ G _ v0 v2 hy.bd) mc_X13_isPlace ml_X13_347 im_X13_isPlace se_X13_isPlace (by decide) hy.bd.kd rfl (rm_of hr (by decide)) (Nat.le_of_ble_eq_true rfl) rfl dX13_roamsTo_16 (kpI rfl rfl (fun x12 hy => ?_))
    refine aw_if_eq (pc := 19) hX 26 (by decide) dX13_roamsTo_19 (fun hc9 => ?_) (fun hc9 => ?_)
    · have hy := hy.t hc9
      exact w_X13_roamsTo_26 hX hN hr h1 v0 v1 v2 v3 v4 v0 hy
    · have hy := hy.f hc9
      refine aw_iconst (pc := 22) hX 1 (by decide) dX13_roamsTo_22 ?_
      refine aw_goto (pc := 23) hX 27 (by decide) dX13_roamsTo_23 ?_
      exact w_X13_roamsTo_27 hX hN hr h1 v0 v1 v2 v3 v4 v0 1 hy
theorem con_X13_roamsTo (l : Launch) (G : GE) (h : Mem) (v0 : Nat) (v1 : Int32) (v2 : Int32) (v3 : Int32) (v4 : Int32) {P : (Int32 × Mem) → Prop} (hy : OK (f_X13_roamsTo h v0 v1 v2 v3 v4) P) : Con l G yX13_roamsTo cX13_roamsTo 6 (some .int) rm_X13_roamsTo [vR v0, vI v1, vI v2, vI v3, vI v4] h (pmI P) := Con.of (by decide) (Nat.le_of_ble_eq_true rfl) (fun X hX hr hN => w_X13_roamsTo hX hN hr h v0 v1 v2 v3 v4 hy)
/-! X13_remembers -/
theorem dX13_remembers_0 : decode cX13_remembers 0 = .ok (.aload_n 0, 1) := by decide +kernel
theorem dX13_remembers_1 : decode cX13_remembers 1 = .ok (.getfield 341, 3) := by decide +kernel
theorem dX13_remembers_4 : decode cX13_remembers 4 = .ok (.bipush 16, 2) := by decide +kernel
theorem dX13_remembers_6 : decode cX13_remembers 6 = .ok (.if_icmp .ne 43, 3) := by decide +kernel
theorem dX13_remembers_9 : decode cX13_remembers 9 = .ok (.iconst 0, 1) := by decide +kernel
theorem dX13_remembers_10 : decode cX13_remembers 10 = .ok (.istore_n 1, 1) := by decide +kernel
theorem dX13_remembers_11 : decode cX13_remembers 11 = .ok (.iload_n 1, 1) := by decide +kernel
theorem dX13_remembers_12 : decode cX13_remembers 12 = .ok (.sipush 315, 3) := by decide +kernel
theorem dX13_remembers_15 : decode cX13_remembers 15 = .ok (.if_icmp .ge 24, 3) := by decide +kernel
theorem dX13_remembers_18 : decode cX13_remembers 18 = .ok (.aload_n 0, 1) := by decide +kernel
theorem dX13_remembers_19 : decode cX13_remembers 19 = .ok (.getfield 21, 3) := by decide +kernel
theorem dX13_remembers_22 : decode cX13_remembers 22 = .ok (.iload_n 1, 1) := by decide +kernel
theorem dX13_remembers_23 : decode cX13_remembers 23 = .ok (.aload_n 0, 1) := by decide +kernel
theorem dX13_remembers_24 : decode cX13_remembers 24 = .ok (.getfield 21, 3) := by decide +kernel
theorem dX13_remembers_27 : decode cX13_remembers 27 = .ok (.iload_n 1, 1) := by decide +kernel
theorem dX13_remembers_28 : decode cX13_remembers 28 = .ok (.bipush 21, 2) := by decide +kernel
theorem dX13_remembers_30 : decode cX13_remembers 30 = .ok (.iadd, 1) := by decide +kernel
theorem dX13_remembers_31 : decode cX13_remembers 31 = .ok (.iaload, 1) := by decide +kernel
theorem dX13_remembers_32 : decode cX13_remembers 32 = .ok (.iastore, 1) := by decide +kernel
theorem dX13_remembers_33 : decode cX13_remembers 33 = .ok (.iinc 1 1, 3) := by decide +kernel
theorem dX13_remembers_36 : decode cX13_remembers 36 = .ok (.goto (-25), 3) := by decide +kernel
theorem dX13_remembers_39 : decode cX13_remembers 39 = .ok (.aload_n 0, 1) := by decide +kernel
theorem dX13_remembers_40 : decode cX13_remembers 40 = .ok (.dup, 1) := by decide +kernel
theorem dX13_remembers_41 : decode cX13_remembers 41 = .ok (.getfield 341, 3) := by decide +kernel
theorem dX13_remembers_44 : decode cX13_remembers 44 = .ok (.iconst 1, 1) := by decide +kernel
theorem dX13_remembers_45 : decode cX13_remembers 45 = .ok (.isub, 1) := by decide +kernel
theorem dX13_remembers_46 : decode cX13_remembers 46 = .ok (.putfield 341, 3) := by decide +kernel
theorem dX13_remembers_49 : decode cX13_remembers 49 = .ok (.iconst 0, 1) := by decide +kernel
theorem dX13_remembers_50 : decode cX13_remembers 50 = .ok (.istore_n 1, 1) := by decide +kernel
theorem dX13_remembers_51 : decode cX13_remembers 51 = .ok (.iload_n 1, 1) := by decide +kernel
theorem dX13_remembers_52 : decode cX13_remembers 52 = .ok (.bipush 21, 2) := by decide +kernel
theorem dX13_remembers_54 : decode cX13_remembers 54 = .ok (.if_icmp .ge 29, 3) := by decide +kernel
theorem dX13_remembers_57 : decode cX13_remembers 57 = .ok (.aload_n 0, 1) := by decide +kernel
theorem dX13_remembers_58 : decode cX13_remembers 58 = .ok (.getfield 21, 3) := by decide +kernel
theorem dX13_remembers_61 : decode cX13_remembers 61 = .ok (.bipush 21, 2) := by decide +kernel
theorem dX13_remembers_63 : decode cX13_remembers 63 = .ok (.aload_n 0, 1) := by decide +kernel
theorem dX13_remembers_64 : decode cX13_remembers 64 = .ok (.getfield 341, 3) := by decide +kernel
theorem dX13_remembers_67 : decode cX13_remembers 67 = .ok (.imul, 1) := by decide +kernel
theorem dX13_remembers_68 : decode cX13_remembers 68 = .ok (.iload_n 1, 1) := by decide +kernel
theorem dX13_remembers_69 : decode cX13_remembers 69 = .ok (.iadd, 1) := by decide +kernel
theorem dX13_remembers_70 : decode cX13_remembers 70 = .ok (.aload_n 0, 1) := by decide +kernel
theorem dX13_remembers_71 : decode cX13_remembers 71 = .ok (.getfield 17, 3) := by decide +kernel
theorem dX13_remembers_74 : decode cX13_remembers 74 = .ok (.iload_n 1, 1) := by decide +kernel
theorem dX13_remembers_75 : decode cX13_remembers 75 = .ok (.iaload, 1) := by decide +kernel
theorem dX13_remembers_76 : decode cX13_remembers 76 = .ok (.iastore, 1) := by decide +kernel
theorem dX13_remembers_77 : decode cX13_remembers 77 = .ok (.iinc 1 1, 3) := by decide +kernel
theorem dX13_remembers_80 : decode cX13_remembers 80 = .ok (.goto (-29), 3) := by decide +kernel
theorem dX13_remembers_83 : decode cX13_remembers 83 = .ok (.aload_n 0, 1) := by decide +kernel
theorem dX13_remembers_84 : decode cX13_remembers 84 = .ok (.dup, 1) := by decide +kernel
theorem dX13_remembers_85 : decode cX13_remembers 85 = .ok (.getfield 341, 3) := by decide +kernel
theorem dX13_remembers_88 : decode cX13_remembers 88 = .ok (.iconst 1, 1) := by decide +kernel
theorem dX13_remembers_89 : decode cX13_remembers 89 = .ok (.iadd, 1) := by decide +kernel
theorem dX13_remembers_90 : decode cX13_remembers 90 = .ok (.putfield 341, 3) := by decide +kernel
theorem dX13_remembers_93 : decode cX13_remembers 93 = .ok (.return_, 1) := by decide +kernel
abbrev rm_X13_remembers : Room := { frames := 0, cells := 0, slots := 0, locals := 0 }
def b_X13_remembers_51 (h : Mem) (v0 : Nat) (v1 : Int32) : Option ((Int32 × Mem) ⊕ Mem) :=
  (if 21 ≤ v1 then some (.inr h) else (gR h v0 17 11).bind fun r2 => (gI h v0 19 11).bind fun x3 => (gR h v0 16 11).bind fun r4 => (aI h r4 v1).bind fun x5 => (sI h r2 ((21 * x3) + v1) x5).bind fun h6 => some (.inl ((v1 + 1), h6)))
set_option maxRecDepth 100000 in
set_option maxHeartbeats 4000000 in
theorem wb_X13_remembers_51 {G : GE} {X : CX} {l : Launch} (hX : Ok G X cX13_remembers RX13) (hN : xn X = 2) {P0 : Mem → Prop} (hr : Rt G X l yX13_remembers none rm_X13_remembers (pmV P0))  (v0 : Nat) {P : ((Int32 × Mem) ⊕ Mem) → Prop} (hc : ∀ s, P (.inl s) → AW G X 51 [(0, vR v0), (1, vI s.1)] [] s.2 0 0) (he0 : ∀ e, P (.inr e) → AW G X 83 [(0, vR v0)] [] e 0 0) (h : Mem) (v1 : Int32) (hy : OK (b_X13_remembers_51 h v0 v1) P) : AW G X 51 [(0, vR v0), (1, vI v1)] [] h 0 0 := by
  unfold b_X13_remembers_51 at hy
  refine aw_iloadn (pc := 51) hX 1 rfl dX13_remembers_51 ?_
  refine aw_bipush (pc := 52) hX 21 (by decide) dX13_remembers_52 ?_
  refine aw_ic_ge (pc := 54) hX 83 (by decide) dX13_remembers_54 (fun hc9 => ?_) (fun hc9 => ?_)
  · have hy := hy.t hc9
    refine AW.sub [0] rfl ?_
    exact he0 h hy.s
  · have hy := hy.f hc9
    refine aw_aloadn (pc := 57) hX 0 rfl dX13_remembers_57 ?_
    refine aw_gR (pc := 58) hX hy fl_X13_21 (fun _ _ => rfl) dX13_remembers_58 (fun r2 hy => ?_)
    refine aw_bipush (pc := 61) hX 21 (by decide) dX13_remembers_61 ?_
    refine aw_aloadn (pc := 63) hX 0 rfl dX13_remembers_63 ?_
    refine aw_gI (pc := 64) hX hy fl_X13_341 (fun _ _ => rfl) dX13_remembers_64 (fun x3 hy => ?_)
    refine aw_imul (pc := 67) hX dX13_remembers_67 ?_
    refine aw_iloadn (pc := 68) hX 1 rfl dX13_remembers_68 ?_
    refine aw_iadd (pc := 69) hX dX13_remembers_69 ?_
    refine aw_aloadn (pc := 70) hX 0 rfl dX13_remembers_70 ?_
    refine aw_gR (pc := 71) hX hy fl_X13_17 (fun _ _ => rfl) dX13_remembers_71 (fun r4 hy => ?_)
    refine aw_iloadn (pc := 74) hX 1 rfl dX13_remembers_74 ?_
    refine aw_aI (pc := 75) hX hy dX13_remembers_75 (fun x5 hy => ?_)
    refine aw_sI (pc := 76) hX hy dX13_remembers_76 (fun h6 hy => ?_)
    refine aw_iinc (pc := 77) hX 1 (by decide) 1 rfl [(1, vI (v1 + 1)), (0, vR v0)] rfl (lt_n hN (by decide)) dX13_remembers_77 ?_
    refine aw_goto (pc := 80) hX 51 (by decide) dX13_remembers_80 ?_
    refine AW.sub [1, 0] rfl ?_
    exact hc ((v1 + 1), h6) hy.s
theorem wl_X13_remembers_51 {G : GE} {X : CX} {l : Launch} (hX : Ok G X cX13_remembers RX13) (hN : xn X = 2) {P0 : Mem → Prop} (hr : Rt G X l yX13_remembers none rm_X13_remembers (pmV P0)) (v0 : Nat) {P : (Mem) → Prop} (he0 : ∀ e, P e → AW G X 83 [(0, vR v0)] [] e 0 0) : ∀ (n : Nat) (s : Int32 × Mem), OK (iter (fun (s : Int32 × Mem) => b_X13_remembers_51 s.2 v0 s.1) n s) P → AW G X 51 [(0, vR v0), (1, vI s.1)] [] s.2 0 0 := by
  intro n
  induction n with
  | zero => exact fun s hy => hy.it0.elim
  | succ n ih =>
    intro s hy
    exact wb_X13_remembers_51 hX hN hr v0 (fun s hs => ih s hs) (fun e hs => he0 e hs) s.2 s.1 hy.it
def f_X13_remembers_49 (h : Mem) (v0 : Nat) : Option Mem :=
  (iter (fun (s : Int32 × Mem) => b_X13_remembers_51 s.2 v0 s.1) FU (0, h)).bind (fun q7 => (gI q7 v0 19 11).bind fun x8 => (pI q7 v0 19 11 (x8 + 1)).bind fun h9 => some h9)
set_option maxRecDepth 100000 in
set_option maxHeartbeats 4000000 in
theorem w_X13_remembers_49 {G : GE} {X : CX} {l : Launch} (hX : Ok G X cX13_remembers RX13) (hN : xn X = 2) {P : Mem → Prop} (hr : Rt G X l yX13_remembers none rm_X13_remembers (pmV P)) (h : Mem) (v0 : Nat) (hy : OK (f_X13_remembers_49 h v0) P) : AW G X 49 [(0, vR v0)] [] h 0 0 := by
  unfold f_X13_remembers_49 at hy
  refine aw_iconst (pc := 49) hX 0 (by decide) dX13_remembers_49 ?_
  refine aw_istoren (pc := 50) hX [(1, vI 0), (0, vR v0)] rfl (lt_n hN (by decide)) dX13_remembers_50 ?_
  refine AW.sub [1, 0] rfl ?_
  refine wl_X13_remembers_51 hX hN hr v0 ?_ FU (0, h) hy.bd
  · intro q7 hy
    refine aw_aloadn (pc := 83) hX 0 rfl dX13_remembers_83 ?_
    refine aw_dup (pc := 84) hX rfl dX13_remembers_84 ?_
    refine aw_gI (pc := 85) hX hy fl_X13_341 (fun _ _ => rfl) dX13_remembers_85 (fun x8 hy => ?_)
    refine aw_iconst (pc := 88) hX 1 (by decide) dX13_remembers_88 ?_
    refine aw_iadd (pc := 89) hX dX13_remembers_89 ?_
    refine aw_pI (pc := 90) hX hy fl_X13_341 rfl (Or.inl rfl) dX13_remembers_90 (fun h9 hy => ?_)
    exact aw_vret (pc := 93) hX hr (by decide) (by decide) dX13_remembers_93 ⟨rfl, hy.s⟩
def b_X13_remembers_11 (h : Mem) (v0 : Nat) (v1 : Int32) : Option ((Int32 × Mem) ⊕ Mem) :=
  (if 315 ≤ v1 then some (.inr h) else (gR h v0 17 11).bind fun r10 => (gR h v0 17 11).bind fun r11 => (aI h r11 (v1 + 21)).bind fun x12 => (sI h r10 v1 x12).bind fun h13 => some (.inl ((v1 + 1), h13)))
set_option maxRecDepth 100000 in
set_option maxHeartbeats 4000000 in
theorem wb_X13_remembers_11 {G : GE} {X : CX} {l : Launch} (hX : Ok G X cX13_remembers RX13) (hN : xn X = 2) {P0 : Mem → Prop} (hr : Rt G X l yX13_remembers none rm_X13_remembers (pmV P0))  (v0 : Nat) {P : ((Int32 × Mem) ⊕ Mem) → Prop} (hc : ∀ s, P (.inl s) → AW G X 11 [(0, vR v0), (1, vI s.1)] [] s.2 0 0) (he0 : ∀ e, P (.inr e) → AW G X 39 [(0, vR v0)] [] e 0 0) (h : Mem) (v1 : Int32) (hy : OK (b_X13_remembers_11 h v0 v1) P) : AW G X 11 [(0, vR v0), (1, vI v1)] [] h 0 0 := by
  unfold b_X13_remembers_11 at hy
  refine aw_iloadn (pc := 11) hX 1 rfl dX13_remembers_11 ?_
  refine aw_sipush (pc := 12) hX 315 (by decide) dX13_remembers_12 ?_
  refine aw_ic_ge (pc := 15) hX 39 (by decide) dX13_remembers_15 (fun hc9 => ?_) (fun hc9 => ?_)
  · have hy := hy.t hc9
    refine AW.sub [0] rfl ?_
    exact he0 h hy.s
  · have hy := hy.f hc9
    refine aw_aloadn (pc := 18) hX 0 rfl dX13_remembers_18 ?_
    refine aw_gR (pc := 19) hX hy fl_X13_21 (fun _ _ => rfl) dX13_remembers_19 (fun r10 hy => ?_)
    refine aw_iloadn (pc := 22) hX 1 rfl dX13_remembers_22 ?_
    refine aw_aloadn (pc := 23) hX 0 rfl dX13_remembers_23 ?_
    refine aw_gR (pc := 24) hX hy fl_X13_21 (fun _ _ => rfl) dX13_remembers_24 (fun r11 hy => ?_)
    refine aw_iloadn (pc := 27) hX 1 rfl dX13_remembers_27 ?_
    refine aw_bipush (pc := 28) hX 21 (by decide) dX13_remembers_28 ?_
    refine aw_iadd (pc := 30) hX dX13_remembers_30 ?_
    refine aw_aI (pc := 31) hX hy dX13_remembers_31 (fun x12 hy => ?_)
    refine aw_sI (pc := 32) hX hy dX13_remembers_32 (fun h13 hy => ?_)
    refine aw_iinc (pc := 33) hX 1 (by decide) 1 rfl [(1, vI (v1 + 1)), (0, vR v0)] rfl (lt_n hN (by decide)) dX13_remembers_33 ?_
    refine aw_goto (pc := 36) hX 11 (by decide) dX13_remembers_36 ?_
    refine AW.sub [1, 0] rfl ?_
    exact hc ((v1 + 1), h13) hy.s
theorem wl_X13_remembers_11 {G : GE} {X : CX} {l : Launch} (hX : Ok G X cX13_remembers RX13) (hN : xn X = 2) {P0 : Mem → Prop} (hr : Rt G X l yX13_remembers none rm_X13_remembers (pmV P0)) (v0 : Nat) {P : (Mem) → Prop} (he0 : ∀ e, P e → AW G X 39 [(0, vR v0)] [] e 0 0) : ∀ (n : Nat) (s : Int32 × Mem), OK (iter (fun (s : Int32 × Mem) => b_X13_remembers_11 s.2 v0 s.1) n s) P → AW G X 11 [(0, vR v0), (1, vI s.1)] [] s.2 0 0 := by
  intro n
  induction n with
  | zero => exact fun s hy => hy.it0.elim
  | succ n ih =>
    intro s hy
    exact wb_X13_remembers_11 hX hN hr v0 (fun s hs => ih s hs) (fun e hs => he0 e hs) s.2 s.1 hy.it
def f_X13_remembers (h : Mem) (v0 : Nat) : Option Mem :=
  (ck h v0 11).bind fun _ => (gI h v0 19 11).bind fun x1 => (if x1 = 16 then (iter (fun (s : Int32 × Mem) => b_X13_remembers_11 s.2 v0 s.1) FU (0, h)).bind (fun q14 => (gI q14 v0 19 11).bind fun x15 => (pI q14 v0 19 11 (x15 - 1)).bind fun h16 => f_X13_remembers_49 h16 v0) else f_X13_remembers_49 h v0)
set_option maxRecDepth 100000 in
set_option maxHeartbeats 4000000 in
theorem w_X13_remembers {G : GE} {X : CX} {l : Launch} (hX : Ok G X cX13_remembers RX13) (hN : xn X = 2) {P : Mem → Prop} (hr : Rt G X l yX13_remembers none rm_X13_remembers (pmV P)) (h : Mem) (v0 : Nat) (hy : OK (f_X13_remembers h v0) P) : AW G X 0 [(0, vR v0)] [] h 0 0 := by
  unfold f_X13_remembers at hy
  have hkd := hy.kd
  have hy := hy.kb
  refine aw_aloadn (pc := 0) hX 0 rfl dX13_remembers_0 ?_
  refine aw_gI (pc := 1) hX hy fl_X13_341 (fun _ _ => rfl) dX13_remembers_1 (fun x1 hy => ?_)
  refine aw_bipush (pc := 4) hX 16 (by decide) dX13_remembers_4 ?_
  refine aw_ic_ne (pc := 6) hX 49 (by decide) dX13_remembers_6 (fun hc9 => ?_) (fun hc9 => ?_)
  · have hy := hy.f hc9
    exact w_X13_remembers_49 hX hN hr h v0 hy
  · have hy := hy.t hc9
    refine aw_iconst (pc := 9) hX 0 (by decide) dX13_remembers_9 ?_
    refine aw_istoren (pc := 10) hX [(1, vI 0), (0, vR v0)] rfl (lt_n hN (by decide)) dX13_remembers_10 ?_
    refine AW.sub [1, 0] rfl ?_
    refine wl_X13_remembers_11 hX hN hr v0 ?_ FU (0, h) hy.bd
    · intro q14 hy
      refine aw_aloadn (pc := 39) hX 0 rfl dX13_remembers_39 ?_
      refine aw_dup (pc := 40) hX rfl dX13_remembers_40 ?_
      refine aw_gI (pc := 41) hX hy fl_X13_341 (fun _ _ => rfl) dX13_remembers_41 (fun x15 hy => ?_)
      refine aw_iconst (pc := 44) hX 1 (by decide) dX13_remembers_44 ?_
      refine aw_isub (pc := 45) hX dX13_remembers_45 ?_
      refine aw_pI (pc := 46) hX hy fl_X13_341 rfl (Or.inl rfl) dX13_remembers_46 (fun h16 hy => ?_)
      exact w_X13_remembers_49 hX hN hr h16 v0 hy
theorem con_X13_remembers (l : Launch) (G : GE) (h : Mem) (v0 : Nat) {P : Mem → Prop} (hy : OK (f_X13_remembers h v0) P) : Con l G yX13_remembers cX13_remembers 2 none rm_X13_remembers [vR v0] h (pmV P) := Con.of (by decide) (Nat.le_of_ble_eq_true rfl) (fun X hX hr hN => w_X13_remembers hX hN hr h v0 hy)
/-! X13_go -/
theorem dX13_go_0 : decode cX13_go 0 = .ok (.aload_n 0, 1) := by decide +kernel
theorem dX13_go_1 : decode cX13_go 1 = .ok (.iconst 0, 1) := by decide +kernel
theorem dX13_go_2 : decode cX13_go 2 = .ok (.putfield 51, 3) := by decide +kernel
theorem dX13_go_5 : decode cX13_go 5 = .ok (.aload_n 0, 1) := by decide +kernel
theorem dX13_go_6 : decode cX13_go 6 = .ok (.iload_n 1, 1) := by decide +kernel
theorem dX13_go_7 : decode cX13_go 7 = .ok (.invokevirtual 373, 3) := by decide +kernel
theorem dX13_go_10 : decode cX13_go 10 = .ok (.ifCond .eq 11, 3) := by decide +kernel
theorem dX13_go_13 : decode cX13_go 13 = .ok (.aload_n 0, 1) := by decide +kernel
theorem dX13_go_14 : decode cX13_go 14 = .ok (.iload_n 2, 1) := by decide +kernel
theorem dX13_go_15 : decode cX13_go 15 = .ok (.invokevirtual 347, 3) := by decide +kernel
theorem dX13_go_18 : decode cX13_go 18 = .ok (.ifCond .ne 9, 3) := by decide +kernel
theorem dX13_go_21 : decode cX13_go 21 = .ok (.aload_n 0, 1) := by decide +kernel
theorem dX13_go_22 : decode cX13_go 22 = .ok (.iconst 1, 1) := by decide +kernel
theorem dX13_go_23 : decode cX13_go 23 = .ok (.invokevirtual 57, 3) := by decide +kernel
theorem dX13_go_26 : decode cX13_go 26 = .ok (.ireturn, 1) := by decide +kernel
theorem dX13_go_27 : decode cX13_go 27 = .ok (.aload_n 0, 1) := by decide +kernel
theorem dX13_go_28 : decode cX13_go 28 = .ok (.getfield 17, 3) := by decide +kernel
theorem dX13_go_31 : decode cX13_go 31 = .ok (.iconst 0, 1) := by decide +kernel
theorem dX13_go_32 : decode cX13_go 32 = .ok (.iload_n 1, 1) := by decide +kernel
theorem dX13_go_33 : decode cX13_go 33 = .ok (.iadd, 1) := by decide +kernel
theorem dX13_go_34 : decode cX13_go 34 = .ok (.iaload, 1) := by decide +kernel
theorem dX13_go_35 : decode cX13_go 35 = .ok (.istore_n 3, 1) := by decide +kernel
theorem dX13_go_36 : decode cX13_go 36 = .ok (.iload_n 3, 1) := by decide +kernel
theorem dX13_go_37 : decode cX13_go 37 = .ok (.iload_n 2, 1) := by decide +kernel
theorem dX13_go_38 : decode cX13_go 38 = .ok (.if_icmp .eq 34, 3) := by decide +kernel
theorem dX13_go_41 : decode cX13_go 41 = .ok (.aload_n 0, 1) := by decide +kernel
theorem dX13_go_42 : decode cX13_go 42 = .ok (.aload_n 0, 1) := by decide +kernel
theorem dX13_go_43 : decode cX13_go 43 = .ok (.getfield 17, 3) := by decide +kernel
theorem dX13_go_46 : decode cX13_go 46 = .ok (.bipush 8, 2) := by decide +kernel
theorem dX13_go_48 : decode cX13_go 48 = .ok (.iload_n 1, 1) := by decide +kernel
theorem dX13_go_49 : decode cX13_go 49 = .ok (.iadd, 1) := by decide +kernel
theorem dX13_go_50 : decode cX13_go 50 = .ok (.iaload, 1) := by decide +kernel
theorem dX13_go_51 : decode cX13_go 51 = .ok (.aload_n 0, 1) := by decide +kernel
theorem dX13_go_52 : decode cX13_go 52 = .ok (.getfield 17, 3) := by decide +kernel
theorem dX13_go_55 : decode cX13_go 55 = .ok (.bipush 12, 2) := by decide +kernel
theorem dX13_go_57 : decode cX13_go 57 = .ok (.iload_n 1, 1) := by decide +kernel
theorem dX13_go_58 : decode cX13_go 58 = .ok (.iadd, 1) := by decide +kernel
theorem dX13_go_59 : decode cX13_go 59 = .ok (.iaload, 1) := by decide +kernel
theorem dX13_go_60 : decode cX13_go 60 = .ok (.iload_n 3, 1) := by decide +kernel
theorem dX13_go_61 : decode cX13_go 61 = .ok (.iload_n 2, 1) := by decide +kernel
theorem dX13_go_62 : decode cX13_go 62 = .ok (.aload_n 0, 1) := by decide +kernel
theorem dX13_go_63 : decode cX13_go 63 = .ok (.invokevirtual 367, 3) := by decide +kernel
theorem dX13_go_66 : decode cX13_go 66 = .ok (.invokevirtual 379, 3) := by decide +kernel
theorem dX13_go_69 : decode cX13_go 69 = .ok (.ifCond .ne 9, 3) := by decide +kernel
theorem dX13_go_72 : decode cX13_go 72 = .ok (.aload_n 0, 1) := by decide +kernel
theorem dX13_go_73 : decode cX13_go 73 = .ok (.iconst 5, 1) := by decide +kernel
theorem dX13_go_74 : decode cX13_go 74 = .ok (.invokevirtual 57, 3) := by decide +kernel
theorem dX13_go_77 : decode cX13_go 77 = .ok (.ireturn, 1) := by decide +kernel
theorem dX13_go_78 : decode cX13_go 78 = .ok (.aload_n 0, 1) := by decide +kernel
theorem dX13_go_79 : decode cX13_go 79 = .ok (.invokevirtual 536, 3) := by decide +kernel
theorem dX13_go_82 : decode cX13_go 82 = .ok (.aload_n 0, 1) := by decide +kernel
theorem dX13_go_83 : decode cX13_go 83 = .ok (.getfield 17, 3) := by decide +kernel
theorem dX13_go_86 : decode cX13_go 86 = .ok (.iconst 0, 1) := by decide +kernel
theorem dX13_go_87 : decode cX13_go 87 = .ok (.iload_n 1, 1) := by decide +kernel
theorem dX13_go_88 : decode cX13_go 88 = .ok (.iadd, 1) := by decide +kernel
theorem dX13_go_89 : decode cX13_go 89 = .ok (.iload_n 2, 1) := by decide +kernel
theorem dX13_go_90 : decode cX13_go 90 = .ok (.iastore, 1) := by decide +kernel
theorem dX13_go_91 : decode cX13_go 91 = .ok (.aload_n 0, 1) := by decide +kernel
theorem dX13_go_92 : decode cX13_go 92 = .ok (.getfield 17, 3) := by decide +kernel
theorem dX13_go_95 : decode cX13_go 95 = .ok (.bipush 16, 2) := by decide +kernel
theorem dX13_go_97 : decode cX13_go 97 = .ok (.iload_n 1, 1) := by decide +kernel
theorem dX13_go_98 : decode cX13_go 98 = .ok (.iadd, 1) := by decide +kernel
theorem dX13_go_99 : decode cX13_go 99 = .ok (.dup2, 1) := by decide +kernel
theorem dX13_go_100 : decode cX13_go 100 = .ok (.iaload, 1) := by decide +kernel
theorem dX13_go_101 : decode cX13_go 101 = .ok (.iload_n 3, 1) := by decide +kernel
theorem dX13_go_102 : decode cX13_go 102 = .ok (.iload_n 2, 1) := by decide +kernel
theorem dX13_go_103 : decode cX13_go 103 = .ok (.aload_n 0, 1) := by decide +kernel
theorem dX13_go_104 : decode cX13_go 104 = .ok (.getfield 338, 3) := by decide +kernel
theorem dX13_go_107 : decode cX13_go 107 = .ok (.getfield 262, 3) := by decide +kernel
theorem dX13_go_110 : decode cX13_go 110 = .ok (.invokestatic 352, 3) := by decide +kernel
theorem dX13_go_113 : decode cX13_go 113 = .ok (.iadd, 1) := by decide +kernel
theorem dX13_go_114 : decode cX13_go 114 = .ok (.iastore, 1) := by decide +kernel
theorem dX13_go_115 : decode cX13_go 115 = .ok (.aload_n 0, 1) := by decide +kernel
theorem dX13_go_116 : decode cX13_go 116 = .ok (.aload_n 0, 1) := by decide +kernel
theorem dX13_go_117 : decode cX13_go 117 = .ok (.getfield 17, 3) := by decide +kernel
theorem dX13_go_120 : decode cX13_go 120 = .ok (.bipush 16, 2) := by decide +kernel
theorem dX13_go_122 : decode cX13_go 122 = .ok (.iload_n 1, 1) := by decide +kernel
theorem dX13_go_123 : decode cX13_go 123 = .ok (.iadd, 1) := by decide +kernel
theorem dX13_go_124 : decode cX13_go 124 = .ok (.iaload, 1) := by decide +kernel
theorem dX13_go_125 : decode cX13_go 125 = .ok (.invokevirtual 61, 3) := by decide +kernel
theorem dX13_go_128 : decode cX13_go 128 = .ok (.ireturn, 1) := by decide +kernel
abbrev rm_X13_go : Room := { frames := 4, cells := 0, slots := 0, locals := 102 }
def f_X13_go_21 (h : Mem) (v0 : Nat) : Option (Int32 × Mem) :=
  (f_X13_refused h v0 1).bind fun q5 => some (q5.1, q5.2)
set_option maxRecDepth 100000 in
set_option maxHeartbeats 4000000 in
theorem w_X13_go_21 {G : GE} {X : CX} {l : Launch} (hX : Ok G X cX13_go RX13) (hN : xn X = 4) {P : (Int32 × Mem) → Prop} (hr : Rt G X l yX13_go (some .int) rm_X13_go (pmI P)) (h : Mem) (v0 : Nat) (hy : OK (f_X13_go_21 h v0) P) : AW G X 21 [(0, vR v0)] [] h 0 0 := by
  unfold f_X13_go_21 at hy
  refine aw_aloadn (pc := 21) hX 0 rfl dX13_go_21 ?_
  refine aw_iconst (pc := 22) hX 1 (by decide) dX13_go_22 ?_
  refine aw_callV (pc := 23) (st := []) (a := v0) hX [vI 1] (con_X13_refused _ G _ v0 1 hy.bd) mc_X13_refused ml_X13_57 im_X13_refused se_X13_refused (by decide) hy.bd.kd rfl (rm_of hr (by decide)) (Nat.le_of_ble_eq_true rfl) rfl dX13_go_23 (kmI rfl rfl (fun q5 hy => ?_))
  exact aw_iret (pc := 26) hX hr (by decide) (by decide) dX13_go_26 ⟨_, rfl, hy.s⟩
def f_X13_go_72 (h : Mem) (v0 : Nat) : Option (Int32 × Mem) :=
  (f_X13_refused h v0 5).bind fun q11 => some (q11.1, q11.2)
set_option maxRecDepth 100000 in
set_option maxHeartbeats 4000000 in
theorem w_X13_go_72 {G : GE} {X : CX} {l : Launch} (hX : Ok G X cX13_go RX13) (hN : xn X = 4) {P : (Int32 × Mem) → Prop} (hr : Rt G X l yX13_go (some .int) rm_X13_go (pmI P)) (h : Mem) (v0 : Nat) (hy : OK (f_X13_go_72 h v0) P) : AW G X 72 [(0, vR v0)] [] h 0 0 := by
  unfold f_X13_go_72 at hy
  refine aw_aloadn (pc := 72) hX 0 rfl dX13_go_72 ?_
  refine aw_iconst (pc := 73) hX 5 (by decide) dX13_go_73 ?_
  refine aw_callV (pc := 74) (st := []) (a := v0) hX [vI 5] (con_X13_refused _ G _ v0 5 hy.bd) mc_X13_refused ml_X13_57 im_X13_refused se_X13_refused (by decide) hy.bd.kd rfl (rm_of hr (by decide)) (Nat.le_of_ble_eq_true rfl) rfl dX13_go_74 (kmI rfl rfl (fun q11 hy => ?_))
  exact aw_iret (pc := 77) hX hr (by decide) (by decide) dX13_go_77 ⟨_, rfl, hy.s⟩
def f_X13_go (h : Mem) (v0 : Nat) (v1 : Int32) (v2 : Int32) : Option (Int32 × Mem) :=
  (ck h v0 11).bind fun _ => (pI h v0 0 11 0).bind fun h1 => (f_X13_isPerson h1 v0 v1).bind fun x2 => (if x2 = 0 then f_X13_go_21 h1 v0 else (f_X13_isPlace h1 v0 v2).bind fun x6 => (if x6 = 0 then f_X13_go_21 h1 v0 else (gR h1 v0 16 11).bind fun r7 => (aI h1 r7 (0 + v1)).bind fun x8 => (if x8 = v2 then f_X13_go_72 h1 v0 else (gR h1 v0 16 11).bind fun r12 => (aI h1 r12 (8 + v1)).bind fun x13 => (gR h1 v0 16 11).bind fun r14 => (aI h1 r14 (12 + v1)).bind fun x15 => (f_X13_rains h1 v0).bind fun x16 => (f_X13_passesBy h1 v0 x13 x15 x8 v2 x16).bind fun x17 => (if x17 = 0 then f_X13_go_72 h1 v0 else (f_X13_remembers h1 v0).bind fun h18 => (gR h18 v0 16 11).bind fun r19 => (sI h18 r19 (0 + v1) v2).bind fun h20 => (gR h20 v0 16 11).bind fun r21 => (aI h20 r21 (16 + v1)).bind fun x22 => (gR h20 v0 3 11).bind fun r23 => (gR h20 r23 12 10).bind fun r24 => (f_X13_of h20 x8 v2 r24).bind fun x25 => (sI h20 r21 (16 + v1) (x22 + x25)).bind fun h26 => (gR h26 v0 16 11).bind fun r27 => (aI h26 r27 (16 + v1)).bind fun x28 => (f_X13_good h26 v0 x28).bind fun q31 => some (q31.1, q31.2)))))
set_option maxRecDepth 100000 in
set_option maxHeartbeats 4000000 in
theorem w_X13_go {G : GE} {X : CX} {l : Launch} (hX : Ok G X cX13_go RX13) (hN : xn X = 4) {P : (Int32 × Mem) → Prop} (hr : Rt G X l yX13_go (some .int) rm_X13_go (pmI P)) (h : Mem) (v0 : Nat) (v1 : Int32) (v2 : Int32) (hy : OK (f_X13_go h v0 v1 v2) P) : AW G X 0 [(0, vR v0), (1, vI v1), (2, vI v2)] [] h 0 0 := by
  unfold f_X13_go at hy
  have hkd := hy.kd
  have hy := hy.kb
  refine aw_aloadn (pc := 0) hX 0 rfl dX13_go_0 ?_
  refine aw_iconst (pc := 1) hX 0 (by decide) dX13_go_1 ?_
  refine aw_pI (pc := 2) hX hy fl_X13_51 rfl (Or.inl rfl) dX13_go_2 (fun h1 hy => ?_)
  refine aw_aloadn (pc := 5) hX 0 rfl dX13_go_5 ?_
  refine aw_iloadn (pc := 6) hX 1 rfl dX13_go_6 ?_
  refine aw_callV (pc := 7) (st := []) (a := v0) hX [vI v1] (con_X13_isPerson _ G _ v0 v1 hy.bd) mc_X13_isPerson ml_X13_373 im_X13_isPerson se_X13_isPerson (by decide) hy.bd.kd rfl (rm_of hr (by decide)) (Nat.le_of_ble_eq_true rfl) rfl dX13_go_7 (kpI rfl rfl (fun x2 hy => ?_))
  refine aw_if_eq (pc := 10) hX 21 (by decide) dX13_go_10 (fun hc9 => ?_) (fun hc9 => ?_)
  · have hy := hy.t hc9
    refine AW.sub [0] rfl ?_
    exact w_X13_go_21 hX hN hr h1 v0 hy
  · have hy := hy.f hc9
    refine aw_aloadn (pc := 13) hX 0 rfl dX13_go_13 ?_
    refine aw_iloadn (pc := 14) hX 2 rfl dX13_go_14 ?_
    refine aw_callV (pc := 15) (st := []) (a := v0) hX [vI v2] (con_X13_isPlace _ G _ v0 v2 hy.bd) mc_X13_isPlace ml_X13_347 im_X13_isPlace se_X13_isPlace (by decide) hy.bd.kd rfl (rm_of hr (by decide)) (Nat.le_of_ble_eq_true rfl) rfl dX13_go_15 (kpI rfl rfl (fun x6 hy => ?_))
    refine aw_if_ne (pc := 18) hX 27 (by decide) dX13_go_18 (fun hc9 => ?_) (fun hc9 => ?_)
    · have hy := hy.f hc9
      refine aw_aloadn (pc := 27) hX 0 rfl dX13_go_27 ?_
      refine aw_gR (pc := 28) hX hy fl_X13_17 (fun _ _ => rfl) dX13_go_28 (fun r7 hy => ?_)
      refine aw_iconst (pc := 31) hX 0 (by decide) dX13_go_31 ?_
      refine aw_iloadn (pc := 32) hX 1 rfl dX13_go_32 ?_
      refine aw_iadd (pc := 33) hX dX13_go_33 ?_
      refine aw_aI (pc := 34) hX hy dX13_go_34 (fun x8 hy => ?_)
      refine aw_istoren (pc := 35) hX [(3, vI x8), (0, vR v0), (1, vI v1), (2, vI v2)] rfl (lt_n hN (by decide)) dX13_go_35 ?_
      refine aw_iloadn (pc := 36) hX 0 rfl dX13_go_36 ?_
      refine aw_iloadn (pc := 37) hX 3 rfl dX13_go_37 ?_
      refine aw_ic_eq (pc := 38) hX 72 (by decide) dX13_go_38 (fun hc9 => ?_) (fun hc9 => ?_)
      · have hy := hy.t hc9
        refine AW.sub [1] rfl ?_
        exact w_X13_go_72 hX hN hr h1 v0 hy
      · have hy := hy.f hc9
        refine aw_aloadn (pc := 41) hX 1 rfl dX13_go_41 ?_
        refine aw_aloadn (pc := 42) hX 1 rfl dX13_go_42 ?_
        refine aw_gR (pc := 43) hX hy fl_X13_17 (fun _ _ => rfl) dX13_go_43 (fun r12 hy => ?_)
        refine aw_bipush (pc := 46) hX 8 (by decide) dX13_go_46 ?_
        refine aw_iloadn (pc := 48) hX 2 rfl dX13_go_48 ?_
        refine aw_iadd (pc := 49) hX dX13_go_49 ?_
        refine aw_aI (pc := 50) hX hy dX13_go_50 (fun x13 hy => ?_)
        refine aw_aloadn (pc := 51) hX 1 rfl dX13_go_51 ?_
        refine aw_gR (pc := 52) hX hy fl_X13_17 (fun _ _ => rfl) dX13_go_52 (fun r14 hy => ?_)
        refine aw_bipush (pc := 55) hX 12 (by decide) dX13_go_55 ?_
        refine aw_iloadn (pc := 57) hX 2 rfl dX13_go_57 ?_
        refine aw_iadd (pc := 58) hX dX13_go_58 ?_
        refine aw_aI (pc := 59) hX hy dX13_go_59 (fun x15 hy => ?_)
        refine aw_iloadn (pc := 60) hX 0 rfl dX13_go_60 ?_
        refine aw_iloadn (pc := 61) hX 3 rfl dX13_go_61 ?_
        refine aw_aloadn (pc := 62) hX 1 rfl dX13_go_62 ?_
        refine aw_callV (pc := 63) (st := [vI v2, vI x8, vI x15, vI x13, vR v0]) (a := v0) hX [] (con_X13_rains _ G _ v0 hy.bd) mc_X13_rains ml_X13_367 im_X13_rains se_X13_rains (by decide) hy.bd.kd rfl (rm_of hr (by decide)) (Nat.le_of_ble_eq_true rfl) rfl dX13_go_63 (kpI rfl rfl (fun x16 hy => ?_))
        refine aw_callV (pc := 66) (st := []) (a := v0) hX [vI x13, vI x15, vI x8, vI v2, vI x16] (con_X13_passesBy _ G _ v0 x13 x15 x8 v2 x16 hy.bd) mc_X13_passesBy ml_X13_379 im_X13_passesBy se_X13_passesBy (by decide) hy.bd.kd rfl (rm_of hr (by decide)) (Nat.le_of_ble_eq_true rfl) rfl dX13_go_66 (kpI rfl rfl (fun x17 hy => ?_))
        refine aw_if_ne (pc := 69) hX 78 (by decide) dX13_go_69 (fun hc9 => ?_) (fun hc9 => ?_)
        · have hy := hy.f hc9
          refine aw_aloadn (pc := 78) hX 1 rfl dX13_go_78 ?_
          refine aw_callV (pc := 79) (st := []) (a := v0) hX [] (con_X13_remembers _ G _ v0 hy.bd) mc_X13_remembers ml_X13_536 im_X13_remembers se_X13_remembers (by decide) hy.bd.kd rfl (rm_of hr (by decide)) (Nat.le_of_ble_eq_true rfl) rfl dX13_go_79 (kmV rfl rfl (fun h18 hy => ?_))
          refine aw_aloadn (pc := 82) hX 1 rfl dX13_go_82 ?_
          refine aw_gR (pc := 83) hX hy fl_X13_17 (fun _ _ => rfl) dX13_go_83 (fun r19 hy => ?_)
          refine aw_iconst (pc := 86) hX 0 (by decide) dX13_go_86 ?_
          refine aw_iloadn (pc := 87) hX 2 rfl dX13_go_87 ?_
          refine aw_iadd (pc := 88) hX dX13_go_88 ?_
          refine aw_iloadn (pc := 89) hX 3 rfl dX13_go_89 ?_
          refine aw_sI (pc := 90) hX hy dX13_go_90 (fun h20 hy => ?_)
          refine aw_aloadn (pc := 91) hX 1 rfl dX13_go_91 ?_
          refine aw_gR (pc := 92) hX hy fl_X13_17 (fun _ _ => rfl) dX13_go_92 (fun r21 hy => ?_)
          refine aw_bipush (pc := 95) hX 16 (by decide) dX13_go_95 ?_
          refine aw_iloadn (pc := 97) hX 2 rfl dX13_go_97 ?_
          refine aw_iadd (pc := 98) hX dX13_go_98 ?_
          refine aw_dup2 (pc := 99) hX rfl rfl dX13_go_99 ?_
          refine aw_aI (pc := 100) hX hy dX13_go_100 (fun x22 hy => ?_)
          refine aw_iloadn (pc := 101) hX 0 rfl dX13_go_101 ?_
          refine aw_iloadn (pc := 102) hX 3 rfl dX13_go_102 ?_
          refine aw_aloadn (pc := 103) hX 1 rfl dX13_go_103 ?_
          refine aw_gR (pc := 104) hX hy fl_X13_338 (fun _ _ => rfl) dX13_go_104 (fun r23 hy => ?_)
          refine aw_gR (pc := 107) hX hy fl_X13_262 (fun _ _ => rfl) dX13_go_107 (fun r24 hy => ?_)
          refine aw_callS (pc := 110) (st := [vI x22, vI (16 + v1), vR r21]) hX [vI x8, vI v2, vR r24] (con_X13_of _ G _ x8 v2 r24 hy.bd) mc_X13_of ml_X13_352 st_X13_of rfl (rm_of hr (by decide)) (Nat.le_of_ble_eq_true rfl) rfl dX13_go_110 (kpI rfl rfl (fun x25 hy => ?_))
          refine aw_iadd (pc := 113) hX dX13_go_113 ?_
          refine aw_sI (pc := 114) hX hy dX13_go_114 (fun h26 hy => ?_)
          refine aw_aloadn (pc := 115) hX 1 rfl dX13_go_115 ?_
          refine aw_aloadn (pc := 116) hX 1 rfl dX13_go_116 ?_
          refine aw_gR (pc := 117) hX hy fl_X13_17 (fun _ _ => rfl) dX13_go_117 (fun r27 hy => ?_)
          refine aw_bipush (pc := 120) hX 16 (by decide) dX13_go_120 ?_
          refine aw_iloadn (pc := 122) hX 2 rfl dX13_go_122 ?_
          refine aw_iadd (pc := 123) hX dX13_go_123 ?_
          refine aw_aI (pc := 124) hX hy dX13_go_124 (fun x28 hy => ?_)
          refine aw_callV (pc := 125) (st := []) (a := v0) hX [vI x28] (con_X13_good _ G _ v0 x28 hy.bd) mc_X13_good ml_X13_61 im_X13_good se_X13_good (by decide) hy.bd.kd rfl (rm_of hr (by decide)) (Nat.le_of_ble_eq_true rfl) rfl dX13_go_125 (kmI rfl rfl (fun q31 hy => ?_))
          exact aw_iret (pc := 128) hX hr (by decide) (by decide) dX13_go_128 ⟨_, rfl, hy.s⟩
        · have hy := hy.t hc9
          refine AW.sub [1] rfl ?_
          exact w_X13_go_72 hX hN hr h1 v0 hy
    · have hy := hy.t hc9
      refine AW.sub [0] rfl ?_
      exact w_X13_go_21 hX hN hr h1 v0 hy
theorem con_X13_go (l : Launch) (G : GE) (h : Mem) (v0 : Nat) (v1 : Int32) (v2 : Int32) {P : (Int32 × Mem) → Prop} (hy : OK (f_X13_go h v0 v1 v2) P) : Con l G yX13_go cX13_go 4 (some .int) rm_X13_go [vR v0, vI v1, vI v2] h (pmI P) := Con.of (by decide) (Nat.le_of_ble_eq_true rfl) (fun X hX hr hN => w_X13_go hX hN hr h v0 v1 v2 hy)
