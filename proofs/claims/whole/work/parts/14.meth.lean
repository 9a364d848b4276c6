/-! X9_share -/
theorem dX9_share_0 : decode cX9_share 0 = .ok (.iload_n 1, 1) := by decide +kernel
theorem dX9_share_1 : decode cX9_share 1 = .ok (.iload_n 2, 1) := by decide +kernel
theorem dX9_share_2 : decode cX9_share 2 = .ok (.if_icmp .le 5, 3) := by decide +kernel
theorem dX9_share_5 : decode cX9_share 5 = .ok (.iconst 0, 1) := by decide +kernel
theorem dX9_share_6 : decode cX9_share 6 = .ok (.ireturn, 1) := by decide +kernel
theorem dX9_share_7 : decode cX9_share 7 = .ok (.iload_n 1, 1) := by decide +kernel
theorem dX9_share_8 : decode cX9_share 8 = .ok (.iload_n 2, 1) := by decide +kernel
theorem dX9_share_9 : decode cX9_share 9 = .ok (.if_icmp .ne 9, 3) := by decide +kernel
theorem dX9_share_12 : decode cX9_share 12 = .ok (.iload_n 0, 1) := by decide +kernel
theorem dX9_share_13 : decode cX9_share 13 = .ok (.iconst 2, 1) := by decide +kernel
theorem dX9_share_14 : decode cX9_share 14 = .ok (.idiv, 1) := by decide +kernel
theorem dX9_share_15 : decode cX9_share 15 = .ok (.goto 4, 3) := by decide +kernel
theorem dX9_share_18 : decode cX9_share 18 = .ok (.iload_n 0, 1) := by decide +kernel
theorem dX9_share_19 : decode cX9_share 19 = .ok (.istore_n 3, 1) := by decide +kernel
theorem dX9_share_20 : decode cX9_share 20 = .ok (.iload_n 3, 1) := by decide +kernel
theorem dX9_share_21 : decode cX9_share 21 = .ok (.iload_n 1, 1) := by decide +kernel
theorem dX9_share_22 : decode cX9_share 22 = .ok (.iconst 2, 1) := by decide +kernel
theorem dX9_share_23 : decode cX9_share 23 = .ok (.isub, 1) := by decide +kernel
theorem dX9_share_24 : decode cX9_share 24 = .ok (.imul, 1) := by decide +kernel
theorem dX9_share_25 : decode cX9_share 25 = .ok (.ireturn, 1) := by decide +kernel
abbrev rm_X9_share : Room := { frames := 0, cells := 0, slots := 0, locals := 0 }
def f_X9_share_19 (h : Mem) (v1 : Int32) (s0 : Int32) : Option Int32 :=
  some (s0 * (v1 - 2))
set_option maxRecDepth 100000 in
set_option maxHeartbeats 4000000 in
theorem w_X9_share_19 {G : GE} {X : CX} {l : Launch} (hX : Ok G X cX9_share RX9) (hN : xn X = 4) (h : Mem) {P : Int32 → Prop} (hr : Rt G X l yX9_share (some .int) rm_X9_share (ppI h P)) (v1 : Int32) (s0 : Int32) (hy : OK (f_X9_share_19 h v1 s0) P) : AW G X 19 [(1, vI v1)] [vI s0] h 0 0 := by
  unfold f_X9_share_19 at hy
  refine aw_istoren (pc := 19) hX [(3, vI s0), (1, vI v1)] rfl (lt_n hN (by decide)) dX9_share_19 ?_
  refine aw_iloadn (pc := 20) hX 0 rfl dX9_share_20 ?_
  refine aw_iloadn (pc := 21) hX 1 rfl dX9_share_21 ?_
  refine aw_iconst (pc := 22) hX 2 (by decide) dX9_share_22 ?_
  refine aw_isub (pc := 23) hX dX9_share_23 ?_
  refine aw_imul (pc := 24) hX dX9_share_24 ?_
  exact aw_iret (pc := 25) hX hr (by decide) (by decide) dX9_share_25 ⟨rfl, _, rfl, hy.s⟩
def f_X9_share (h : Mem) (v0 : Int32) (v1 : Int32) (v2 : Int32) : Option Int32 :=
  (if v1 ≤ v2 then (if v1 = v2 then (idv v0 2).bind fun x1 => f_X9_share_19 h v1 x1 else f_X9_share_19 h v1 v0) else some 0)
set_option maxRecDepth 100000 in
set_option maxHeartbeats 4000000 in
theorem w_X9_share {G : GE} {X : CX} {l : Launch} (hX : Ok G X cX9_share RX9) (hN : xn X = 4) (h : Mem) {P : Int32 → Prop} (hr : Rt G X l yX9_share (some .int) rm_X9_share (ppI h P)) (v0 : Int32) (v1 : Int32) (v2 : Int32) (hy : OK (f_X9_share h v0 v1 v2) P) : AW G X 0 [(0, vI v0), (1, vI v1), (2, vI v2)] [] h 0 0 := by
  unfold f_X9_share at hy
  refine aw_iloadn (pc := 0) hX 1 rfl dX9_share_0 ?_
  refine aw_iloadn (pc := 1) hX 2 rfl dX9_share_1 ?_
  refine aw_ic_le (pc := 2) hX 7 (by decide) dX9_share_2 (fun hc9 => ?_) (fun hc9 => ?_)
  · have hy := hy.t hc9
    refine aw_iloadn (pc := 7) hX 1 rfl dX9_share_7 ?_
    refine aw_iloadn (pc := 8) hX 2 rfl dX9_share_8 ?_
    refine aw_ic_ne (pc := 9) hX 18 (by decide) dX9_share_9 (fun hc9 => ?_) (fun hc9 => ?_)
    · have hy := hy.f hc9
      refine aw_iloadn (pc := 18) hX 0 rfl dX9_share_18 ?_
      refine AW.sub [1] rfl ?_
      exact w_X9_share_19 hX hN _ hr v1 v0 hy
    · have hy := hy.t hc9
      refine aw_iloadn (pc := 12) hX 0 rfl dX9_share_12 ?_
      refine aw_iconst (pc := 13) hX 2 (by decide) dX9_share_13 ?_
      refine aw_idiv (pc := 14) hX hy dX9_share_14 (fun x1 hy => ?_)
      refine aw_goto (pc := 15) hX 19 (by decide) dX9_share_15 ?_
      refine AW.sub [1] rfl ?_
      exact w_X9_share_19 hX hN _ hr v1 x1 hy
  · have hy := hy.f hc9
    refine aw_iconst (pc := 5) hX 0 (by decide) dX9_share_5 ?_
    exact aw_iret (pc := 6) hX hr (by decide) (by decide) dX9_share_6 ⟨rfl, _, rfl, hy.s⟩
theorem con_X9_share (l : Launch) (G : GE) (h : Mem) (v0 : Int32) (v1 : Int32) (v2 : Int32) {P : Int32 → Prop} (hy : OK (f_X9_share h v0 v1 v2) P) : Con l G yX9_share cX9_share 4 (some .int) rm_X9_share [vI v0, vI v1, vI v2] h (ppI h P) := Con.of (by decide) (Nat.le_of_ble_eq_true rfl) (fun X hX hr hN => w_X9_share hX hN h hr v0 v1 v2 hy)
/-! X9_isRest -/
theorem dX9_isRest_0 : decode cX9_isRest 0 = .ok (.iload_n 0, 1) := by decide +kernel
theorem dX9_isRest_1 : decode cX9_isRest 1 = .ok (.iload_n 1, 1) := by decide +kernel
theorem dX9_isRest_2 : decode cX9_isRest 2 = .ok (.iload_n 2, 1) := by decide +kernel
theorem dX9_isRest_3 : decode cX9_isRest 3 = .ok (.invokestatic 15, 3) := by decide +kernel
theorem dX9_isRest_6 : decode cX9_isRest 6 = .ok (.istore_n 3, 1) := by decide +kernel
theorem dX9_isRest_7 : decode cX9_isRest 7 = .ok (.iload_n 0, 1) := by decide +kernel
theorem dX9_isRest_8 : decode cX9_isRest 8 = .ok (.iload_n 2, 1) := by decide +kernel
theorem dX9_isRest_9 : decode cX9_isRest 9 = .ok (.iload_n 1, 1) := by decide +kernel
theorem dX9_isRest_10 : decode cX9_isRest 10 = .ok (.invokestatic 15, 3) := by decide +kernel
theorem dX9_isRest_13 : decode cX9_isRest 13 = .ok (.istore 4, 2) := by decide +kernel
theorem dX9_isRest_15 : decode cX9_isRest 15 = .ok (.iconst 0, 1) := by decide +kernel
theorem dX9_isRest_16 : decode cX9_isRest 16 = .ok (.istore 5, 2) := by decide +kernel
theorem dX9_isRest_18 : decode cX9_isRest 18 = .ok (.iload 5, 2) := by decide +kernel
theorem dX9_isRest_20 : decode cX9_isRest 20 = .ok (.bipush 10, 2) := by decide +kernel
theorem dX9_isRest_22 : decode cX9_isRest 22 = .ok (.if_icmp .ge 34, 3) := by decide +kernel
theorem dX9_isRest_25 : decode cX9_isRest 25 = .ok (.iload_n 0, 1) := by decide +kernel
theorem dX9_isRest_26 : decode cX9_isRest 26 = .ok (.iload 5, 2) := by decide +kernel
theorem dX9_isRest_28 : decode cX9_isRest 28 = .ok (.iload_n 2, 1) := by decide +kernel
theorem dX9_isRest_29 : decode cX9_isRest 29 = .ok (.invokestatic 15, 3) := by decide +kernel
theorem dX9_isRest_32 : decode cX9_isRest 32 = .ok (.iload_n 3, 1) := by decide +kernel
theorem dX9_isRest_33 : decode cX9_isRest 33 = .ok (.if_icmp .gt 15, 3) := by decide +kernel
theorem dX9_isRest_36 : decode cX9_isRest 36 = .ok (.iload_n 0, 1) := by decide +kernel
theorem dX9_isRest_37 : decode cX9_isRest 37 = .ok (.iload 5, 2) := by decide +kernel
theorem dX9_isRest_39 : decode cX9_isRest 39 = .ok (.iload_n 1, 1) := by decide +kernel
theorem dX9_isRest_40 : decode cX9_isRest 40 = .ok (.invokestatic 15, 3) := by decide +kernel
theorem dX9_isRest_43 : decode cX9_isRest 43 = .ok (.iload 4, 2) := by decide +kernel
theorem dX9_isRest_45 : decode cX9_isRest 45 = .ok (.if_icmp .le 5, 3) := by decide +kernel
theorem dX9_isRest_48 : decode cX9_isRest 48 = .ok (.iconst 0, 1) := by decide +kernel
theorem dX9_isRest_49 : decode cX9_isRest 49 = .ok (.ireturn, 1) := by decide +kernel
theorem dX9_isRest_50 : decode cX9_isRest 50 = .ok (.iinc 5 1, 3) := by decide +kernel
theorem dX9_isRest_53 : decode cX9_isRest 53 = .ok (.goto (-35), 3) := by decide +kernel
theorem dX9_isRest_56 : decode cX9_isRest 56 = .ok (.iconst 1, 1) := by decide +kernel
theorem dX9_isRest_57 : decode cX9_isRest 57 = .ok (.ireturn, 1) := by decide +kernel
abbrev rm_X9_isRest : Room := { frames := 1, cells := 0, slots := 0, locals := 23 }
def b_X9_isRest_18 (h : Mem) (v0 : Int32) (v1 : Int32) (v2 : Int32) (v3 : Int32) (v4 : Int32) (v5 : Int32) : Option (Int32 ⊕ (Unit ⊕ Unit)) :=
  (if 10 ≤ v5 then some (.inr (.inr ())) else (f_X9_share h v0 v5 v2).bind fun x3 => (if v3 < x3 then some (.inr (.inl ())) else (f_X9_share h v0 v5 v1).bind fun x4 => (if x4 ≤ v4 then some (.inl (v5 + 1)) else some (.inr (.inl ())))))
set_option maxRecDepth 100000 in
set_option maxHeartbeats 4000000 in
theorem wb_X9_isRest_18 {G : GE} {X : CX} {l : Launch} (hX : Ok G X cX9_isRest RX9) (hN : xn X = 6) (h : Mem) {P0 : Int32 → Prop} (hr : Rt G X l yX9_isRest (some .boolean) rm_X9_isRest (ppI h P0))  (v0 : Int32) (v1 : Int32) (v2 : Int32) (v3 : Int32) (v4 : Int32) {P : (Int32 ⊕ (Unit ⊕ Unit)) → Prop} (hc : ∀ s, P (.inl s) → AW G X 18 [(0, vI v0), (1, vI v1), (2, vI v2), (3, vI v3), (4, vI v4), (5, vI s)] [] h 0 0) (he0 : ∀ e, P (.inr (.inl e)) → AW G X 48 [] [] h 0 0) (he1 : ∀ e, P (.inr (.inr e)) → AW G X 56 [] [] h 0 0) (v5 : Int32) (hy : OK (b_X9_isRest_18 h v0 v1 v2 v3 v4 v5) P) : AW G X 18 [(0, vI v0), (1, vI v1), (2, vI v2), (3, vI v3), (4, vI v4), (5, vI v5)] [] h 0 0 := by
  unfold b_X9_isRest_18 at hy
  refine aw_iload (pc := 18) hX 5 rfl dX9_isRest_18 ?_
  refine aw_bipush (pc := 20) hX 10 (by decide) dX9_isRest_20 ?_
  refine aw_ic_ge (pc := 22) hX 56 (by decide) dX9_isRest_22 (fun hc9 => ?_) (fun hc9 => ?_)
  · have hy := hy.t hc9
    refine AW.sub [] rfl ?_
    exact he1 () hy.s
  · have hy := hy.f hc9
    refine aw_iloadn (pc := 25) hX 0 rfl dX9_isRest_25 ?_
    refine aw_iload (pc := 26) hX 5 rfl dX9_isRest_26 ?_
    refine aw_iloadn (pc := 28) hX 2 rfl dX9_isRest_28 ?_
    refine aw_callS (pc := 29) (st := []) hX [vI v0, vI v5, vI v2] (con_X9_share _ G _ v0 v5 v2 hy.bd) mc_X9_share ml_X9_15 st_X9_share rfl (rm_of hr (by decide)) (Nat.le_of_ble_eq_true rfl) rfl dX9_isRest_29 (kpI rfl rfl (fun x3 hy => ?_))
    refine aw_iloadn (pc := 32) hX 3 rfl dX9_isRest_32 ?_
    refine aw_ic_gt (pc := 33) hX 48 (by decide) dX9_isRest_33 (fun hc9 => ?_) (fun hc9 => ?_)
    · have hy := hy.t hc9
      refine AW.sub [] rfl ?_
      exact he0 () hy.s
    · have hy := hy.f hc9
      refine aw_iloadn (pc := 36) hX 0 rfl dX9_isRest_36 ?_
      refine aw_iload (pc := 37) hX 5 rfl dX9_isRest_37 ?_
      refine aw_iloadn (pc := 39) hX 1 rfl dX9_isRest_39 ?_
      refine aw_callS (pc := 40) (st := []) hX [vI v0, vI v5, vI v1] (con_X9_share _ G _ v0 v5 v1 hy.bd) mc_X9_share ml_X9_15 st_X9_share rfl (rm_of hr (by decide)) (Nat.le_of_ble_eq_true rfl) rfl dX9_isRest_40 (kpI rfl rfl (fun x4 hy => ?_))
      refine aw_iload (pc := 43) hX 4 rfl dX9_isRest_43 ?_
      refine aw_ic_le (pc := 45) hX 50 (by decide) dX9_isRest_45 (fun hc9 => ?_) (fun hc9 => ?_)
      · have hy := hy.t hc9
        refine aw_iinc (pc := 50) hX 1 (by decide) 5 rfl [(5, vI (v5 + 1)), (0, vI v0), (1, vI v1), (2, vI v2), (3, vI v3), (4, vI v4)] rfl (lt_n hN (by decide)) dX9_isRest_50 ?_
        refine aw_goto (pc := 53) hX 18 (by decide) dX9_isRest_53 ?_
        refine AW.sub [1, 2, 3, 4, 5, 0] rfl ?_
        exact hc (v5 + 1) hy.s
      · have hy := hy.f hc9
        refine AW.sub [] rfl ?_
        exact he0 () hy.s
theorem wl_X9_isRest_18 {G : GE} {X : CX} {l : Launch} (hX : Ok G X cX9_isRest RX9) (hN : xn X = 6) (h : Mem) {P0 : Int32 → Prop} (hr : Rt G X l yX9_isRest (some .boolean) rm_X9_isRest (ppI h P0)) (v0 : Int32) (v1 : Int32) (v2 : Int32) (v3 : Int32) (v4 : Int32) {P : (Unit ⊕ Unit) → Prop} (he0 : ∀ e, P (.inl e) → AW G X 48 [] [] h 0 0) (he1 : ∀ e, P (.inr e) → AW G X 56 [] [] h 0 0) : ∀ (n : Nat) (s : Int32), OK (iter (fun (s : Int32) => b_X9_isRest_18 h v0 v1 v2 v3 v4 s) n s) P → AW G X 18 [(0, vI v0), (1, vI v1), (2, vI v2), (3, vI v3), (4, vI v4), (5, vI s)] [] h 0 0 := by
  intro n
  induction n with
  | zero => exact fun s hy => hy.it0.elim
  | succ n ih =>
    intro s hy
    exact wb_X9_isRest_18 hX hN h hr v0 v1 v2 v3 v4 (fun s hs => ih s hs) (fun e hs => he0 e hs) (fun e hs => he1 e hs) s hy.it
def f_X9_isRest (h : Mem) (v0 : Int32) (v1 : Int32) (v2 : Int32) : Option Int32 :=
  (f_X9_share h v0 v1 v2).bind fun x1 => (f_X9_share h v0 v2 v1).bind fun x2 => (iter (fun (s : Int32) => b_X9_isRest_18 h v0 v1 v2 x1 x2 s) FU 0).bind (Sum.elim (fun e6 => some 0) (fun e7 => some 1))
set_option maxRecDepth 100000 in
set_option maxHeartbeats 4000000 in
theorem w_X9_isRest {G : GE} {X : CX} {l : Launch} (hX : Ok G X cX9_isRest RX9) (hN : xn X = 6) (h : Mem) {P : Int32 → Prop} (hr : Rt G X l yX9_isRest (some .boolean) rm_X9_isRest (ppI h P)) (v0 : Int32) (v1 : Int32) (v2 : Int32) (hy : OK (f_X9_isRest h v0 v1 v2) P) : AW G X 0 [(0, vI v0), (1, vI v1), (2, vI v2)] [] h 0 0 := by
  unfold f_X9_isRest at hy
  refine aw_iloadn (pc := 0) hX 0 rfl dX9_isRest_0 ?_
  refine aw_iloadn (pc := 1) hX 1 rfl dX9_isRest_1 ?_
  refine aw_iloadn (pc := 2) hX 2 rfl dX9_isRest_2 ?_
  refine aw_callS (pc := 3) (st := []) hX [vI v0, vI v1, vI v2] (con_X9_share _ G _ v0 v1 v2 hy.bd) mc_X9_share ml_X9_15 st_X9_share rfl (rm_of hr (by decide)) (Nat.le_of_ble_eq_true rfl) rfl dX9_isRest_3 (kpI rfl rfl (fun x1 hy => ?_))
  refine aw_istoren (pc := 6) hX [(3, vI x1), (0, vI v0), (1, vI v1), (2, vI v2)] rfl (lt_n hN (by decide)) dX9_isRest_6 ?_
  refine aw_iloadn (pc := 7) hX 1 rfl dX9_isRest_7 ?_
  refine aw_iloadn (pc := 8) hX 3 rfl dX9_isRest_8 ?_
  refine aw_iloadn (pc := 9) hX 2 rfl dX9_isRest_9 ?_
  refine aw_callS (pc := 10) (st := []) hX [vI v0, vI v2, vI v1] (con_X9_share _ G _ v0 v2 v1 hy.bd) mc_X9_share ml_X9_15 st_X9_share rfl (rm_of hr (by decide)) (Nat.le_of_ble_eq_true rfl) rfl dX9_isRest_10 (kpI rfl rfl (fun x2 hy => ?_))
  refine aw_istore (pc := 13) hX [(4, vI x2), (3, vI x1), (0, vI v0), (1, vI v1), (2, vI v2)] rfl (lt_n hN (by decide)) dX9_isRest_13 ?_
  refine aw_iconst (pc := 15) hX 0 (by decide) dX9_isRest_15 ?_
  refine aw_istore (pc := 16) hX [(5, vI 0), (4, vI x2), (3, vI x1), (0, vI v0), (1, vI v1), (2, vI v2)] rfl (lt_n hN (by decide)) dX9_isRest_16 ?_
  refine AW.sub [3, 4, 5, 2, 1, 0] rfl ?_
  refine wl_X9_isRest_18 hX hN _ hr v0 v1 v2 x1 x2 ?_ ?_ FU 0 hy.bd
  · intro e6 hy
    refine aw_iconst (pc := 48) hX 0 (by decide) dX9_isRest_48 ?_
    exact aw_zret (pc := 49) hX hr (by decide) (by decide) dX9_isRest_49 (Or.inl rfl) ⟨rfl, _, rfl, hy.s⟩
  · intro e7 hy
    refine aw_iconst (pc := 56) hX 1 (by decide) dX9_isRest_56 ?_
    exact aw_zret (pc := 57) hX hr (by decide) (by decide) dX9_isRest_57 (Or.inr rfl) ⟨rfl, _, rfl, hy.s⟩
theorem con_X9_isRest (l : Launch) (G : GE) (h : Mem) (v0 : Int32) (v1 : Int32) (v2 : Int32) {P : Int32 → Prop} (hy : OK (f_X9_isRest h v0 v1 v2) P) : Con l G yX9_isRest cX9_isRest 6 (some .boolean) rm_X9_isRest [vI v0, vI v1, vI v2] h (ppI h P) := Con.of (by decide) (Nat.le_of_ble_eq_true rfl) (fun X hX hr hN => w_X9_isRest hX hN h hr v0 v1 v2 hy)
/-! X9_countRests -/
theorem dX9_countRests_0 : decode cX9_countRests 0 = .ok (.iconst 0, 1) := by decide +kernel
theorem dX9_countRests_1 : decode cX9_countRests 1 = .ok (.istore_n 1, 1) := by decide +kernel
theorem dX9_countRests_2 : decode cX9_countRests 2 = .ok (.iconst 0, 1) := by decide +kernel
theorem dX9_countRests_3 : decode cX9_countRests 3 = .ok (.istore_n 2, 1) := by decide +kernel
theorem dX9_countRests_4 : decode cX9_countRests 4 = .ok (.iload_n 2, 1) := by decide +kernel
theorem dX9_countRests_5 : decode cX9_countRests 5 = .ok (.bipush 100, 2) := by decide +kernel
theorem dX9_countRests_7 : decode cX9_countRests 7 = .ok (.if_icmp .ge 27, 3) := by decide +kernel
theorem dX9_countRests_10 : decode cX9_countRests 10 = .ok (.iload_n 0, 1) := by decide +kernel
theorem dX9_countRests_11 : decode cX9_countRests 11 = .ok (.iload_n 2, 1) := by decide +kernel
theorem dX9_countRests_12 : decode cX9_countRests 12 = .ok (.bipush 10, 2) := by decide +kernel
theorem dX9_countRests_14 : decode cX9_countRests 14 = .ok (.idiv, 1) := by decide +kernel
theorem dX9_countRests_15 : decode cX9_countRests 15 = .ok (.iload_n 2, 1) := by decide +kernel
theorem dX9_countRests_16 : decode cX9_countRests 16 = .ok (.bipush 10, 2) := by decide +kernel
theorem dX9_countRests_18 : decode cX9_countRests 18 = .ok (.irem, 1) := by decide +kernel
theorem dX9_countRests_19 : decode cX9_countRests 19 = .ok (.invokestatic 11, 3) := by decide +kernel
theorem dX9_countRests_22 : decode cX9_countRests 22 = .ok (.ifCond .eq 6, 3) := by decide +kernel
theorem dX9_countRests_25 : decode cX9_countRests 25 = .ok (.iinc 1 1, 3) := by decide +kernel
theorem dX9_countRests_28 : decode cX9_countRests 28 = .ok (.iinc 2 1, 3) := by decide +kernel
theorem dX9_countRests_31 : decode cX9_countRests 31 = .ok (.goto (-27), 3) := by decide +kernel
theorem dX9_countRests_34 : decode cX9_countRests 34 = .ok (.iload_n 1, 1) := by decide +kernel
theorem dX9_countRests_35 : decode cX9_countRests 35 = .ok (.ireturn, 1) := by decide +kernel
abbrev rm_X9_countRests : Room := { frames := 2, cells := 0, slots := 0, locals := 48 }
def f_X9_countRests_28 (h : Mem) (v0 : Int32) (v1 : Int32) (v2 : Int32) : Option ((Int32 × Int32) ⊕ Int32) :=
  some (.inl (v1, (v2 + 1)))
set_option maxRecDepth 100000 in
set_option maxHeartbeats 4000000 in
theorem w_X9_countRests_28 {G : GE} {X : CX} {l : Launch} (hX : Ok G X cX9_countRests RX9) (hN : xn X = 3) (h : Mem) {P0 : Int32 → Prop} (hr : Rt G X l yX9_countRests (some .int) rm_X9_countRests (ppI h P0))  (v0 : Int32) {P : ((Int32 × Int32) ⊕ Int32) → Prop} (hc : ∀ s, P (.inl s) → AW G X 4 [(0, vI v0), (1, vI s.1), (2, vI s.2)] [] h 0 0) (he0 : ∀ e, P (.inr e) → AW G X 34 [(1, vI e)] [] h 0 0) (v1 : Int32) (v2 : Int32) (hy : OK (f_X9_countRests_28 h v0 v1 v2) P) : AW G X 28 [(0, vI v0), (1, vI v1), (2, vI v2)] [] h 0 0 := by
  unfold f_X9_countRests_28 at hy
  refine aw_iinc (pc := 28) hX 1 (by decide) 2 rfl [(2, vI (v2 + 1)), (0, vI v0), (1, vI v1)] rfl (lt_n hN (by decide)) dX9_countRests_28 ?_
  refine aw_goto (pc := 31) hX 4 (by decide) dX9_countRests_31 ?_
  refine AW.sub [1, 2, 0] rfl ?_
  exact hc (v1, (v2 + 1)) hy.s
def b_X9_countRests_4 (h : Mem) (v0 : Int32) (v1 : Int32) (v2 : Int32) : Option ((Int32 × Int32) ⊕ Int32) :=
  (if 100 ≤ v2 then some (.inr v1) else (idv v2 10).bind fun x1 => (irm v2 10).bind fun x2 => (f_X9_isRest h v0 x1 x2).bind fun x3 => (if x3 = 0 then f_X9_countRests_28 h v0 v1 v2 else f_X9_countRests_28 h v0 (v1 + 1) v2))
set_option maxRecDepth 100000 in
set_option maxHeartbeats 4000000 in
theorem wb_X9_countRests_4 {G : GE} {X : CX} {l : Launch} (hX : Ok G X cX9_countRests RX9) (hN : xn X = 3) (h : Mem) {P0 : Int32 → Prop} (hr : Rt G X l yX9_countRests (some .int) rm_X9_countRests (ppI h P0))  (v0 : Int32) {P : ((Int32 × Int32) ⊕ Int32) → Prop} (hc : ∀ s, P (.inl s) → AW G X 4 [(0, vI v0), (1, vI s.1), (2, vI s.2)] [] h 0 0) (he0 : ∀ e, P (.inr e) → AW G X 34 [(1, vI e)] [] h 0 0) (v1 : Int32) (v2 : Int32) (hy : OK (b_X9_countRests_4 h v0 v1 v2) P) : AW G X 4 [(0, vI v0), (1, vI v1), (2, vI v2)] [] h 0 0 := by
  unfold b_X9_countRests_4 at hy
  refine aw_iloadn (pc := 4) hX 2 rfl dX9_countRests_4 ?_
  refine aw_bipush (pc := 5) hX 100 (by decide) dX9_countRests_5 ?_
  refine aw_ic_ge (pc := 7) hX 34 (by decide) dX9_countRests_7 (fun hc9 => ?_) (fun hc9 => ?_)
  · have hy := hy.t hc9
    refine AW.sub [1] rfl ?_
    exact he0 v1 hy.s
  · have hy := hy.f hc9
    refine aw_iloadn (pc := 10) hX 0 rfl dX9_countRests_10 ?_
    refine aw_iloadn (pc := 11) hX 2 rfl dX9_countRests_11 ?_
    refine aw_bipush (pc := 12) hX 10 (by decide) dX9_countRests_12 ?_
    refine aw_idiv (pc := 14) hX hy dX9_countRests_14 (fun x1 hy => ?_)
    refine aw_iloadn (pc := 15) hX 2 rfl dX9_countRests_15 ?_
    refine aw_bipush (pc := 16) hX 10 (by decide) dX9_countRests_16 ?_
    refine aw_irem (pc := 18) hX hy dX9_countRests_18 (fun x2 hy => ?_)
    refine aw_callS (pc := 19) (st := []) hX [vI v0, vI x1, vI x2] (con_X9_isRest _ G _ v0 x1 x2 hy.bd) mc_X9_isRest ml_X9_11 st_X9_isRest rfl (rm_of hr (by decide)) (Nat.le_of_ble_eq_true rfl) rfl dX9_countRests_19 (kpI rfl rfl (fun x3 hy => ?_))
    refine aw_if_eq (pc := 22) hX 28 (by decide) dX9_countRests_22 (fun hc9 => ?_) (fun hc9 => ?_)
    · have hy := hy.t hc9
      exact w_X9_countRests_28 hX hN _ hr _ hc he0 v1 v2 hy
    · have hy := hy.f hc9
      refine aw_iinc (pc := 25) hX 1 (by decide) 1 rfl [(1, vI (v1 + 1)), (0, vI v0), (2, vI v2)] rfl (lt_n hN (by decide)) dX9_countRests_25 ?_
      refine AW.sub [1, 0, 2] rfl ?_
      exact w_X9_countRests_28 hX hN _ hr _ hc he0 (v1 + 1) v2 hy
theorem wl_X9_countRests_4 {G : GE} {X : CX} {l : Launch} (hX : Ok G X cX9_countRests RX9) (hN : xn X = 3) (h : Mem) {P0 : Int32 → Prop} (hr : Rt G X l yX9_countRests (some .int) rm_X9_countRests (ppI h P0)) (v0 : Int32) {P : (Int32) → Prop} (he0 : ∀ e, P e → AW G X 34 [(1, vI e)] [] h 0 0) : ∀ (n : Nat) (s : Int32 × Int32), OK (iter (fun (s : Int32 × Int32) => b_X9_countRests_4 h v0 s.1 s.2) n s) P → AW G X 4 [(0, vI v0), (1, vI s.1), (2, vI s.2)] [] h 0 0 := by
  intro n
  induction n with
  | zero => exact fun s hy => hy.it0.elim
  | succ n ih =>
    intro s hy
    exact wb_X9_countRests_4 hX hN h hr v0 (fun s hs => ih s hs) (fun e hs => he0 e hs) s.1 s.2 hy.it
def f_X9_countRests (h : Mem) (v0 : Int32) : Option Int32 :=
  (iter (fun (s : Int32 × Int32) => b_X9_countRests_4 h v0 s.1 s.2) FU (0, 0)).bind (fun q4 => some q4)
set_option maxRecDepth 100000 in
set_option maxHeartbeats 4000000 in
theorem w_X9_countRests {G : GE} {X : CX} {l : Launch} (hX : Ok G X cX9_countRests RX9) (hN : xn X = 3) (h : Mem) {P : Int32 → Prop} (hr : Rt G X l yX9_countRests (some .int) rm_X9_countRests (ppI h P)) (v0 : Int32) (hy : OK (f_X9_countRests h v0) P) : AW G X 0 [(0, vI v0)] [] h 0 0 := by
  unfold f_X9_countRests at hy
  refine aw_iconst (pc := 0) hX 0 (by decide) dX9_countRests_0 ?_
  refine aw_istoren (pc := 1) hX [(1, vI 0), (0, vI v0)] rfl (lt_n hN (by decide)) dX9_countRests_1 ?_
  refine aw_iconst (pc := 2) hX 0 (by decide) dX9_countRests_2 ?_
  refine aw_istoren (pc := 3) hX [(2, vI 0), (1, vI 0), (0, vI v0)] rfl (lt_n hN (by decide)) dX9_countRests_3 ?_
  refine AW.sub [2, 1, 0] rfl ?_
  refine wl_X9_countRests_4 hX hN _ hr v0 ?_ FU (0, 0) hy.bd
  · intro q4 hy
    refine aw_iloadn (pc := 34) hX 0 rfl dX9_countRests_34 ?_
    exact aw_iret (pc := 35) hX hr (by decide) (by decide) dX9_countRests_35 ⟨rfl, _, rfl, hy.s⟩
theorem con_X9_countRests (l : Launch) (G : GE) (h : Mem) (v0 : Int32) {P : Int32 → Prop} (hy : OK (f_X9_countRests h v0) P) : Con l G yX9_countRests cX9_countRests 3 (some .int) rm_X9_countRests [vI v0] h (ppI h P) := Con.of (by decide) (Nat.le_of_ble_eq_true rfl) (fun X hX hr hN => w_X9_countRests hX hN h hr v0 hy)
/-! X9_firstRest -/
theorem dX9_firstRest_0 : decode cX9_firstRest 0 = .ok (.iconst 0, 1) := by decide +kernel
theorem dX9_firstRest_1 : decode cX9_firstRest 1 = .ok (.istore_n 1, 1) := by decide +kernel
theorem dX9_firstRest_2 : decode cX9_firstRest 2 = .ok (.iload_n 1, 1) := by decide +kernel
theorem dX9_firstRest_3 : decode cX9_firstRest 3 = .ok (.bipush 100, 2) := by decide +kernel
theorem dX9_firstRest_5 : decode cX9_firstRest 5 = .ok (.if_icmp .ge 26, 3) := by decide +kernel
theorem dX9_firstRest_8 : decode cX9_firstRest 8 = .ok (.iload_n 0, 1) := by decide +kernel
theorem dX9_firstRest_9 : decode cX9_firstRest 9 = .ok (.iload_n 1, 1) := by decide +kernel
theorem dX9_firstRest_10 : decode cX9_firstRest 10 = .ok (.bipush 10, 2) := by decide +kernel
theorem dX9_firstRest_12 : decode cX9_firstRest 12 = .ok (.idiv, 1) := by decide +kernel
theorem dX9_firstRest_13 : decode cX9_firstRest 13 = .ok (.iload_n 1, 1) := by decide +kernel
theorem dX9_firstRest_14 : decode cX9_firstRest 14 = .ok (.bipush 10, 2) := by decide +kernel
theorem dX9_firstRest_16 : decode cX9_firstRest 16 = .ok (.irem, 1) := by decide +kernel
theorem dX9_firstRest_17 : decode cX9_firstRest 17 = .ok (.invokestatic 11, 3) := by decide +kernel
theorem dX9_firstRest_20 : decode cX9_firstRest 20 = .ok (.ifCond .eq 5, 3) := by decide +kernel
theorem dX9_firstRest_23 : decode cX9_firstRest 23 = .ok (.iload_n 1, 1) := by decide +kernel
theorem dX9_firstRest_24 : decode cX9_firstRest 24 = .ok (.ireturn, 1) := by decide +kernel
theorem dX9_firstRest_25 : decode cX9_firstRest 25 = .ok (.iinc 1 1, 3) := by decide +kernel
theorem dX9_firstRest_28 : decode cX9_firstRest 28 = .ok (.goto (-26), 3) := by decide +kernel
theorem dX9_firstRest_31 : decode cX9_firstRest 31 = .ok (.bipush (-2), 2) := by decide +kernel
theorem dX9_firstRest_33 : decode cX9_firstRest 33 = .ok (.ireturn, 1) := by decide +kernel
abbrev rm_X9_firstRest : Room := { frames := 2, cells := 0, slots := 0, locals := 48 }
def b_X9_firstRest_2 (h : Mem) (v0 : Int32) (v1 : Int32) : Option (Int32 ⊕ (Int32 ⊕ Unit)) :=
  (if 100 ≤ v1 then some (.inr (.inr ())) else (idv v1 10).bind fun x1 => (irm v1 10).bind fun x2 => (f_X9_isRest h v0 x1 x2).bind fun x3 => (if x3 = 0 then some (.inl (v1 + 1)) else some (.inr (.inl v1))))
set_option maxRecDepth 100000 in
set_option maxHeartbeats 4000000 in
theorem wb_X9_firstRest_2 {G : GE} {X : CX} {l : Launch} (hX : Ok G X cX9_firstRest RX9) (hN : xn X = 2) (h : Mem) {P0 : Int32 → Prop} (hr : Rt G X l yX9_firstRest (some .int) rm_X9_firstRest (ppI h P0))  (v0 : Int32) {P : (Int32 ⊕ (Int32 ⊕ Unit)) → Prop} (hc : ∀ s, P (.inl s) → AW G X 2 [(0, vI v0), (1, vI s)] [] h 0 0) (he0 : ∀ e, P (.inr (.inl e)) → AW G X 23 [(1, vI e)] [] h 0 0) (he1 : ∀ e, P (.inr (.inr e)) → AW G X 31 [] [] h 0 0) (v1 : Int32) (hy : OK (b_X9_firstRest_2 h v0 v1) P) : AW G X 2 [(0, vI v0), (1, vI v1)] [] h 0 0 := by
  unfold b_X9_firstRest_2 at hy
  refine aw_iloadn (pc := 2) hX 1 rfl dX9_firstRest_2 ?_
  refine aw_bipush (pc := 3) hX 100 (by decide) dX9_firstRest_3 ?_
  refine aw_ic_ge (pc := 5) hX 31 (by decide) dX9_firstRest_5 (fun hc9 => ?_) (fun hc9 => ?_)
  · have hy := hy.t hc9
    refine AW.sub [] rfl ?_
    exact he1 () hy.s
  · have hy := hy.f hc9
    refine aw_iloadn (pc := 8) hX 0 rfl dX9_firstRest_8 ?_
    refine aw_iloadn (pc := 9) hX 1 rfl dX9_firstRest_9 ?_
    refine aw_bipush (pc := 10) hX 10 (by decide) dX9_firstRest_10 ?_
    refine aw_idiv (pc := 12) hX hy dX9_firstRest_12 (fun x1 hy => ?_)
    refine aw_iloadn (pc := 13) hX 1 rfl dX9_firstRest_13 ?_
    refine aw_bipush (pc := 14) hX 10 (by decide) dX9_firstRest_14 ?_
    refine aw_irem (pc := 16) hX hy dX9_firstRest_16 (fun x2 hy => ?_)
    refine aw_callS (pc := 17) (st := []) hX [vI v0, vI x1, vI x2] (con_X9_isRest _ G _ v0 x1 x2 hy.bd) mc_X9_isRest ml_X9_11 st_X9_isRest rfl (rm_of hr (by decide)) (Nat.le_of_ble_eq_true rfl) rfl dX9_firstRest_17 (kpI rfl rfl (fun x3 hy => ?_))
    refine aw_if_eq (pc := 20) hX 25 (by decide) dX9_firstRest_20 (fun hc9 => ?_) (fun hc9 => ?_)
    · have hy := hy.t hc9
      refine aw_iinc (pc := 25) hX 1 (by decide) 1 rfl [(1, vI (v1 + 1)), (0, vI v0)] rfl (lt_n hN (by decide)) dX9_firstRest_25 ?_
      refine aw_goto (pc := 28) hX 2 (by decide) dX9_firstRest_28 ?_
      refine AW.sub [1, 0] rfl ?_
      exact hc (v1 + 1) hy.s
    · have hy := hy.f hc9
      refine AW.sub [1] rfl ?_
      exact he0 v1 hy.s
theorem wl_X9_firstRest_2 {G : GE} {X : CX} {l : Launch} (hX : Ok G X cX9_firstRest RX9) (hN : xn X = 2) (h : Mem) {P0 : Int32 → Prop} (hr : Rt G X l yX9_firstRest (some .int) rm_X9_firstRest (ppI h P0)) (v0 : Int32) {P : (Int32 ⊕ Unit) → Prop} (he0 : ∀ e, P (.inl e) → AW G X 23 [(1, vI e)] [] h 0 0) (he1 : ∀ e, P (.inr e) → AW G X 31 [] [] h 0 0) : ∀ (n : Nat) (s : Int32), OK (iter (fun (s : Int32) => b_X9_firstRest_2 h v0 s) n s) P → AW G X 2 [(0, vI v0), (1, vI s)] [] h 0 0 := by
  intro n
  induction n with
  | zero => exact fun s hy => hy.it0.elim
  | succ n ih =>
    intro s hy
    exact wb_X9_firstRest_2 hX hN h hr v0 (fun s hs => ih s hs) (fun e hs => he0 e hs) (fun e hs => he1 e hs) s hy.it
def f_X9_firstRest (h : Mem) (v0 : Int32) : Option Int32 :=
  (iter (fun (s : Int32) => b_X9_firstRest_2 h v0 s) FU 0).bind (Sum.elim (fun e5 => some e5) (fun e6 => some (-2)))
set_option maxRecDepth 100000 in
set_option maxHeartbeats 4000000 in
theorem w_X9_firstRest {G : GE} {X : CX} {l : Launch} (hX : Ok G X cX9_firstRest RX9) (hN : xn X = 2) (h : Mem) {P : Int32 → Prop} (hr : Rt G X l yX9_firstRest (some .int) rm_X9_firstRest (ppI h P)) (v0 : Int32) (hy : OK (f_X9_firstRest h v0) P) : AW G X 0 [(0, vI v0)] [] h 0 0 := by
  unfold f_X9_firstRest at hy
  refine aw_iconst (pc := 0) hX 0 (by decide) dX9_firstRest_0 ?_
  refine aw_istoren (pc := 1) hX [(1, vI 0), (0, vI v0)] rfl (lt_n hN (by decide)) dX9_firstRest_1 ?_
  refine AW.sub [1, 0] rfl ?_
  refine wl_X9_firstRest_2 hX hN _ hr v0 ?_ ?_ FU 0 hy.bd
  · intro e5 hy
    refine aw_iloadn (pc := 23) hX 0 rfl dX9_firstRest_23 ?_
    exact aw_iret (pc := 24) hX hr (by decide) (by decide) dX9_firstRest_24 ⟨rfl, _, rfl, hy.s⟩
  · intro e6 hy
    refine aw_bipush (pc := 31) hX (-2) (by decide) dX9_firstRest_31 ?_
    exact aw_iret (pc := 33) hX hr (by decide) (by decide) dX9_firstRest_33 ⟨rfl, _, rfl, hy.s⟩
theorem con_X9_firstRest (l : Launch) (G : GE) (h : Mem) (v0 : Int32) {P : Int32 → Prop} (hy : OK (f_X9_firstRest h v0) P) : Con l G yX9_firstRest cX9_firstRest 2 (some .int) rm_X9_firstRest [vI v0] h (ppI h P) := Con.of (by decide) (Nat.le_of_ble_eq_true rfl) (fun X hX hr hN => w_X9_firstRest hX hN h hr v0 hy)
/-! X10_init -/
theorem dX10_init_0 : decode cX10_init 0 = .ok (.aload_n 0, 1) := by decide +kernel
theorem dX10_init_1 : decode cX10_init 1 = .ok (.invokespecial 3, 3) := by decide +kernel
theorem dX10_init_4 : decode cX10_init 4 = .ok (.aload_n 0, 1) := by decide +kernel
theorem dX10_init_5 : decode cX10_init 5 = .ok (.bipush 7, 2) := by decide +kernel
theorem dX10_init_7 : decode cX10_init 7 = .ok (.newarray .int, 2) := by decide +kernel
theorem dX10_init_9 : decode cX10_init 9 = .ok (.putfield 11, 3) := by decide +kernel
theorem dX10_init_12 : decode cX10_init 12 = .ok (.return_, 1) := by decide +kernel
abbrev rm_X10_init : Room := { frames := 1, cells := 1, slots := 7, locals := 20 }
def f_X10_init (h : Mem) (v0 : Nat) : Option Mem :=
  (ck h v0 8).bind fun _ => (pR (mNew h 100 7) v0 0 8 (mN h)).bind fun h1 => some h1
set_option maxRecDepth 100000 in
set_option maxHeartbeats 4000000 in
theorem w_X10_init {G : GE} {X : CX} {l : Launch} (hX : Ok G X cX10_init RX10) (hN : xn X = 1) {P : Mem → Prop} (hr : Rt G X l yX10_init none rm_X10_init (pmV P)) (h : Mem) (v0 : Nat) (hy : OK (f_X10_init h v0) P) : AW G X 0 [(0, vR v0)] [] h 0 0 := by
  unfold f_X10_init at hy
  have hkd := hy.kd
  have hy := hy.kb
  refine aw_aloadn (pc := 0) hX 0 rfl dX10_init_0 ?_
  refine aw_objInit0 (pc := 1) hX hkd oi_X10_3 oi_i oi_c (by decide) (Nat.le_of_ble_eq_true rfl) (le_f hr (by decide)) (le_l hr (by decide)) dX10_init_1 ?_
  refine aw_aloadn (pc := 4) hX 0 rfl dX10_init_4 ?_
  refine aw_bipush (pc := 5) hX 7 (by decide) dX10_init_5 ?_
  refine aw_newi (pc := 7) hX 7 7 (by decide) (by decide) (by decide) ar_int (le_c hr (by decide)) (le_s hr (by decide)) dX10_init_7 ?_
  refine AW.eqa (ce' := 1) (sl' := 7) rfl rfl ?_
  refine aw_pR (pc := 9) hX hy fl_X10_11 rfl (Or.inr ⟨rfl, hr.2.2.2.1, rfl, fw_X10_11⟩) dX10_init_9 (fun h1 hy => ?_)
  exact aw_vret (pc := 12) hX hr (by decide) (by decide) dX10_init_12 ⟨rfl, hy.s⟩
theorem con_X10_init (l : Launch) (G : GE) (h : Mem) (v0 : Nat) {P : Mem → Prop} (hy : OK (f_X10_init h v0) P) : Con l G yX10_init cX10_init 1 none rm_X10_init [vR v0] h (pmV P) := Con.of (by decide) (Nat.le_of_ble_eq_true rfl) (fun X hX hr hN => w_X10_init hX hN hr h v0 hy)
/-! X10_shorten -/
theorem dX10_shorten_0 : decode cX10_shorten 0 = .ok (.aload_n 0, 1) := by decide +kernel
theorem dX10_shorten_1 : decode cX10_shorten 1 = .ok (.getfield 11, 3) := by decide +kernel
theorem dX10_shorten_4 : decode cX10_shorten 4 = .ok (.iload_n 2, 1) := by decide +kernel
theorem dX10_shorten_5 : decode cX10_shorten 5 = .ok (.iaload, 1) := by decide +kernel
theorem dX10_shorten_6 : decode cX10_shorten 6 = .ok (.iload_n 3, 1) := by decide +kernel
theorem dX10_shorten_7 : decode cX10_shorten 7 = .ok (.iadd, 1) := by decide +kernel
theorem dX10_shorten_8 : decode cX10_shorten 8 = .ok (.aload_n 0, 1) := by decide +kernel
theorem dX10_shorten_9 : decode cX10_shorten 9 = .ok (.getfield 11, 3) := by decide +kernel
theorem dX10_shorten_12 : decode cX10_shorten 12 = .ok (.iload_n 1, 1) := by decide +kernel
theorem dX10_shorten_13 : decode cX10_shorten 13 = .ok (.iaload, 1) := by decide +kernel
theorem dX10_shorten_14 : decode cX10_shorten 14 = .ok (.if_icmp .ge 17, 3) := by decide +kernel
theorem dX10_shorten_17 : decode cX10_shorten 17 = .ok (.aload_n 0, 1) := by decide +kernel
theorem dX10_shorten_18 : decode cX10_shorten 18 = .ok (.getfield 11, 3) := by decide +kernel
theorem dX10_shorten_21 : decode cX10_shorten 21 = .ok (.iload_n 1, 1) := by decide +kernel
theorem dX10_shorten_22 : decode cX10_shorten 22 = .ok (.aload_n 0, 1) := by decide +kernel
theorem dX10_shorten_23 : decode cX10_shorten 23 = .ok (.getfield 11, 3) := by decide +kernel
theorem dX10_shorten_26 : decode cX10_shorten 26 = .ok (.iload_n 2, 1) := by decide +kernel
theorem dX10_shorten_27 : decode cX10_shorten 27 = .ok (.iaload, 1) := by decide +kernel
theorem dX10_shorten_28 : decode cX10_shorten 28 = .ok (.iload_n 3, 1) := by decide +kernel
theorem dX10_shorten_29 : decode cX10_shorten 29 = .ok (.iadd, 1) := by decide +kernel
theorem dX10_shorten_30 : decode cX10_shorten 30 = .ok (.iastore, 1) := by decide +kernel
theorem dX10_shorten_31 : decode cX10_shorten 31 = .ok (.return_, 1) := by decide +kernel
abbrev rm_X10_shorten : Room := { frames := 0, cells := 0, slots := 0, locals := 0 }
def f_X10_shorten (h : Mem) (v0 : Nat) (v1 : Int32) (v2 : Int32) (v3 : Int32) : Option Mem :=
  (ck h v0 8).bind fun _ => (gR h v0 0 8).bind fun r1 => (aI h r1 v2).bind fun x2 => (gR h v0 0 8).bind fun r3 => (aI h r3 v1).bind fun x4 => (if x4 ≤ (x2 + v3) then some h else (gR h v0 0 8).bind fun r5 => (gR h v0 0 8).bind fun r6 => (aI h r6 v2).bind fun x7 => (sI h r5 v1 (x7 + v3)).bind fun h8 => some h8)
set_option maxRecDepth 100000 in
set_option maxHeartbeats 4000000 in
theorem w_X10_shorten {G : GE} {X : CX} {l : Launch} (hX : Ok G X cX10_shorten RX10) (hN : xn X = 4) {P : Mem → Prop} (hr : Rt G X l yX10_shorten none rm_X10_shorten (pmV P)) (h : Mem) (v0 : Nat) (v1 : Int32) (v2 : Int32) (v3 : Int32) (hy : OK (f_X10_shorten h v0 v1 v2 v3) P) : AW G X 0 [(0, vR v0), (1, vI v1), (2, vI v2), (3, vI v3)] [] h 0 0 := by
  unfold f_X10_shorten at hy
  have hkd := hy.kd
  have hy := hy.kb
  refine aw_aloadn (pc := 0) hX 0 rfl dX10_shorten_0 ?_
  refine aw_gR (pc := 1) hX hy fl_X10_11 (fun _ _ => rfl) dX10_shorten_1 (fun r1 hy => ?_)
  refine aw_iloadn (pc := 4) hX 2 rfl dX10_shorten_4 ?_
  refine aw_aI (pc := 5) hX hy dX10_shorten_5 (fun x2 hy => ?_)
  refine aw_iloadn (pc := 6) hX 3 rfl dX10_shorten_6 ?_
  refine aw_iadd (pc := 7) hX dX10_shorten_7 ?_
  refine aw_aloadn (pc := 8) hX 0 rfl dX10_shorten_8 ?_
  refine aw_gR (pc := 9) hX hy fl_X10_11 (fun _ _ => rfl) dX10_shorten_9 (fun r3 hy => ?_)
  refine aw_iloadn (pc := 12) hX 1 rfl dX10_shorten_12 ?_
  refine aw_aI (pc := 13) hX hy dX10_shorten_13 (fun x4 hy => ?_)
  refine aw_ic_ge (pc := 14) hX 31 (by decide) dX10_shorten_14 (fun hc9 => ?_) (fun hc9 => ?_)
  · have hy := hy.t hc9
    exact aw_vret (pc := 31) hX hr (by decide) (by decide) dX10_shorten_31 ⟨rfl, hy.s⟩
  · have hy := hy.f hc9
    refine aw_aloadn (pc := 17) hX 0 rfl dX10_shorten_17 ?_
    refine aw_gR (pc := 18) hX hy fl_X10_11 (fun _ _ => rfl) dX10_shorten_18 (fun r5 hy => ?_)
    refine aw_iloadn (pc := 21) hX 1 rfl dX10_shorten_21 ?_
    refine aw_aloadn (pc := 22) hX 0 rfl dX10_shorten_22 ?_
    refine aw_gR (pc := 23) hX hy fl_X10_11 (fun _ _ => rfl) dX10_shorten_23 (fun r6 hy => ?_)
    refine aw_iloadn (pc := 26) hX 2 rfl dX10_shorten_26 ?_
    refine aw_aI (pc := 27) hX hy dX10_shorten_27 (fun x7 hy => ?_)
    refine aw_iloadn (pc := 28) hX 3 rfl dX10_shorten_28 ?_
    refine aw_iadd (pc := 29) hX dX10_shorten_29 ?_
    refine aw_sI (pc := 30) hX hy dX10_shorten_30 (fun h8 hy => ?_)
    exact aw_vret (pc := 31) hX hr (by decide) (by decide) dX10_shorten_31 ⟨rfl, hy.s⟩
theorem con_X10_shorten (l : Launch) (G : GE) (h : Mem) (v0 : Nat) (v1 : Int32) (v2 : Int32) (v3 : Int32) {P : Mem → Prop} (hy : OK (f_X10_shorten h v0 v1 v2 v3) P) : Con l G yX10_shorten cX10_shorten 4 none rm_X10_shorten [vR v0, vI v1, vI v2, vI v3] h (pmV P) := Con.of (by decide) (Nat.le_of_ble_eq_true rfl) (fun X hX hr hN => w_X10_shorten hX hN hr h v0 v1 v2 v3 hy)
/-! X10_measure -/
theorem dX10_measure_0 : decode cX10_measure 0 = .ok (.aload_n 0, 1) := by decide +kernel
theorem dX10_measure_1 : decode cX10_measure 1 = .ok (.iload_n 3, 1) := by decide +kernel
theorem dX10_measure_2 : decode cX10_measure 2 = .ok (.putfield 37, 3) := by decide +kernel
theorem dX10_measure_5 : decode cX10_measure 5 = .ok (.aload_n 0, 1) := by decide +kernel
theorem dX10_measure_6 : decode cX10_measure 6 = .ok (.iload 4, 2) := by decide +kernel
theorem dX10_measure_8 : decode cX10_measure 8 = .ok (.putfield 40, 3) := by decide +kernel
theorem dX10_measure_11 : decode cX10_measure 11 = .ok (.aload_n 0, 1) := by decide +kernel
theorem dX10_measure_12 : decode cX10_measure 12 = .ok (.getfield 11, 3) := by decide +kernel
theorem dX10_measure_15 : decode cX10_measure 15 = .ok (.ldc 44, 2) := by decide +kernel
theorem dX10_measure_17 : decode cX10_measure 17 = .ok (.invokestatic 45, 3) := by decide +kernel
theorem dX10_measure_20 : decode cX10_measure 20 = .ok (.aload_n 0, 1) := by decide +kernel
theorem dX10_measure_21 : decode cX10_measure 21 = .ok (.getfield 11, 3) := by decide +kernel
theorem dX10_measure_24 : decode cX10_measure 24 = .ok (.iload_n 2, 1) := by decide +kernel
theorem dX10_measure_25 : decode cX10_measure 25 = .ok (.iconst 0, 1) := by decide +kernel
theorem dX10_measure_26 : decode cX10_measure 26 = .ok (.iastore, 1) := by decide +kernel
theorem dX10_measure_27 : decode cX10_measure 27 = .ok (.iconst 0, 1) := by decide +kernel
theorem dX10_measure_28 : decode cX10_measure 28 = .ok (.istore 5, 2) := by decide +kernel
theorem dX10_measure_30 : decode cX10_measure 30 = .ok (.iload 5, 2) := by decide +kernel
theorem dX10_measure_32 : decode cX10_measure 32 = .ok (.aload_n 1, 1) := by decide +kernel
theorem dX10_measure_33 : decode cX10_measure 33 = .ok (.getfield 17, 3) := by decide +kernel
theorem dX10_measure_36 : decode cX10_measure 36 = .ok (.if_icmp .ge 90, 3) := by decide +kernel
theorem dX10_measure_39 : decode cX10_measure 39 = .ok (.iconst 0, 1) := by decide +kernel
theorem dX10_measure_40 : decode cX10_measure 40 = .ok (.istore 6, 2) := by decide +kernel
theorem dX10_measure_42 : decode cX10_measure 42 = .ok (.iload 6, 2) := by decide +kernel
theorem dX10_measure_44 : decode cX10_measure 44 = .ok (.aload_n 1, 1) := by decide +kernel
theorem dX10_measure_45 : decode cX10_measure 45 = .ok (.getfield 21, 3) := by decide +kernel
theorem dX10_measure_48 : decode cX10_measure 48 = .ok (.if_icmp .ge 72, 3) := by decide +kernel
theorem dX10_measure_51 : decode cX10_measure 51 = .ok (.aload_n 1, 1) := by decide +kernel
theorem dX10_measure_52 : decode cX10_measure 52 = .ok (.iload 6, 2) := by decide +kernel
theorem dX10_measure_54 : decode cX10_measure 54 = .ok (.aload_n 0, 1) := by decide +kernel
theorem dX10_measure_55 : decode cX10_measure 55 = .ok (.getfield 37, 3) := by decide +kernel
theorem dX10_measure_58 : decode cX10_measure 58 = .ok (.aload_n 0, 1) := by decide +kernel
theorem dX10_measure_59 : decode cX10_measure 59 = .ok (.getfield 40, 3) := by decide +kernel
theorem dX10_measure_62 : decode cX10_measure 62 = .ok (.invokestatic 31, 3) := by decide +kernel
theorem dX10_measure_65 : decode cX10_measure 65 = .ok (.ifCond .eq 49, 3) := by decide +kernel
theorem dX10_measure_68 : decode cX10_measure 68 = .ok (.aload_n 0, 1) := by decide +kernel
theorem dX10_measure_69 : decode cX10_measure 69 = .ok (.aload_n 1, 1) := by decide +kernel
theorem dX10_measure_70 : decode cX10_measure 70 = .ok (.iload 6, 2) := by decide +kernel
theorem dX10_measure_72 : decode cX10_measure 72 = .ok (.invokevirtual 24, 3) := by decide +kernel
theorem dX10_measure_75 : decode cX10_measure 75 = .ok (.aload_n 1, 1) := by decide +kernel
theorem dX10_measure_76 : decode cX10_measure 76 = .ok (.iload 6, 2) := by decide +kernel
theorem dX10_measure_78 : decode cX10_measure 78 = .ok (.invokevirtual 28, 3) := by decide +kernel
theorem dX10_measure_81 : decode cX10_measure 81 = .ok (.aload_n 1, 1) := by decide +kernel
theorem dX10_measure_82 : decode cX10_measure 82 = .ok (.getfield 51, 3) := by decide +kernel
theorem dX10_measure_85 : decode cX10_measure 85 = .ok (.iload 6, 2) := by decide +kernel
theorem dX10_measure_87 : decode cX10_measure 87 = .ok (.iaload, 1) := by decide +kernel
theorem dX10_measure_88 : decode cX10_measure 88 = .ok (.invokevirtual 54, 3) := by decide +kernel
theorem dX10_measure_91 : decode cX10_measure 91 = .ok (.aload_n 0, 1) := by decide +kernel
theorem dX10_measure_92 : decode cX10_measure 92 = .ok (.aload_n 1, 1) := by decide +kernel
theorem dX10_measure_93 : decode cX10_measure 93 = .ok (.iload 6, 2) := by decide +kernel
theorem dX10_measure_95 : decode cX10_measure 95 = .ok (.invokevirtual 28, 3) := by decide +kernel
theorem dX10_measure_98 : decode cX10_measure 98 = .ok (.aload_n 1, 1) := by decide +kernel
theorem dX10_measure_99 : decode cX10_measure 99 = .ok (.iload 6, 2) := by decide +kernel
theorem dX10_measure_101 : decode cX10_measure 101 = .ok (.invokevirtual 24, 3) := by decide +kernel
theorem dX10_measure_104 : decode cX10_measure 104 = .ok (.aload_n 1, 1) := by decide +kernel
theorem dX10_measure_105 : decode cX10_measure 105 = .ok (.getfield 51, 3) := by decide +kernel
theorem dX10_measure_108 : decode cX10_measure 108 = .ok (.iload 6, 2) := by decide +kernel
theorem dX10_measure_110 : decode cX10_measure 110 = .ok (.iaload, 1) := by decide +kernel
theorem dX10_measure_111 : decode cX10_measure 111 = .ok (.invokevirtual 54, 3) := by decide +kernel
theorem dX10_measure_114 : decode cX10_measure 114 = .ok (.iinc 6 1, 3) := by decide +kernel
theorem dX10_measure_117 : decode cX10_measure 117 = .ok (.goto (-75), 3) := by decide +kernel
theorem dX10_measure_120 : decode cX10_measure 120 = .ok (.iinc 5 1, 3) := by decide +kernel
theorem dX10_measure_123 : decode cX10_measure 123 = .ok (.goto (-93), 3) := by decide +kernel
theorem dX10_measure_126 : decode cX10_measure 126 = .ok (.return_, 1) := by decide +kernel
abbrev rm_X10_measure : Room := { frames := 1, cells := 0, slots := 0, locals := 23 }
def f_X10_measure_114 (h : Mem) (v0 : Nat) (v1 : Nat) (v5 : Int32) (v6 : Int32) : Option ((Int32 × Mem) ⊕ Mem) :=
  some (.inl ((v6 + 1), h))
set_option maxRecDepth 100000 in
set_option maxHeartbeats 4000000 in
theorem w_X10_measure_114 {G : GE} {X : CX} {l : Launch} (hX : Ok G X cX10_measure RX10) (hN : xn X = 7) {P0 : Mem → Prop} (hr : Rt G X l yX10_measure none rm_X10_measure (pmV P0))  (v0 : Nat) (v1 : Nat) (v5 : Int32) {P : ((Int32 × Mem) ⊕ Mem) → Prop} (hc : ∀ s, P (.inl s) → AW G X 42 [(0, vR v0), (1, vR v1), (5, vI v5), (6, vI s.1)] [] s.2 0 0) (he0 : ∀ e, P (.inr e) → AW G X 120 [(0, vR v0), (1, vR v1), (5, vI v5)] [] e 0 0) (h : Mem) (v6 : Int32) (hy : OK (f_X10_measure_114 h v0 v1 v5 v6) P) : AW G X 114 [(0, vR v0), (1, vR v1), (5, vI v5), (6, vI v6)] [] h 0 0 := by
  unfold f_X10_measure_114 at hy
  refine aw_iinc (pc := 114) hX 1 (by decide) 3 rfl [(6, vI (v6 + 1)), (0, vR v0), (1, vR v1), (5, vI v5)] rfl (lt_n hN (by decide)) dX10_measure_114 ?_
  refine aw_goto (pc := 117) hX 42 (by decide) dX10_measure_117 ?_
  refine AW.sub [1, 2, 3, 0] rfl ?_
  exact hc ((v6 + 1), h) hy.s
def b_X10_measure_42 (h : Mem) (v0 : Nat) (v1 : Nat) (v5 : Int32) (v6 : Int32) : Option ((Int32 × Mem) ⊕ Mem) :=
  (gI h v1 3 4).bind fun x8 => (if x8 ≤ v6 then some (.inr h) else (gI h v0 1 8).bind fun x9 => (gI h v0 2 8).bind fun x10 => (f_X1_isOpen h v1 v6 x9 x10).bind fun x11 => (if x11 = 0 then f_X10_measure_114 h v0 v1 v5 v6 else (f_X5_oneEnd h v1 v6).bind fun x12 => (f_X5_otherEnd h v1 v6).bind fun x13 => (gR h v1 12 4).bind fun r14 => (aI h r14 v6).bind fun x15 => (f_X10_shorten h v0 x12 x13 x15).bind fun h16 => (f_X5_otherEnd h16 v1 v6).bind fun x17 => (f_X5_oneEnd h16 v1 v6).bind fun x18 => (gR h16 v1 12 4).bind fun r19 => (aI h16 r19 v6).bind fun x20 => (f_X10_shorten h16 v0 x17 x18 x20).bind fun h21 => f_X10_measure_114 h21 v0 v1 v5 v6))
set_option maxRecDepth 100000 in
set_option maxHeartbeats 4000000 in
theorem wb_X10_measure_42 {G : GE} {X : CX} {l : Launch} (hX : Ok G X cX10_measure RX10) (hN : xn X = 7) {P0 : Mem → Prop} (hr : Rt G X l yX10_measure none rm_X10_measure (pmV P0))  (v0 : Nat) (v1 : Nat) (v5 : Int32) {P : ((Int32 × Mem) ⊕ Mem) → Prop} (hc : ∀ s, P (.inl s) → AW G X 42 [(0, vR v0), (1, vR v1), (5, vI v5), (6, vI s.1)] [] s.2 0 0) (he0 : ∀ e, P (.inr e) → AW G X 120 [(0, vR v0), (1, vR v1), (5, vI v5)] [] e 0 0) (h : Mem) (v6 : Int32) (hy : OK (b_X10_measure_42 h v0 v1 v5 v6) P) : AW G X 42 [(0, vR v0), (1, vR v1), (5, vI v5), (6, vI v6)] [] h 0 0 := by
  unfold b_X10_measure_42 at hy
  refine aw_iload (pc := 42) hX 3 rfl dX10_measure_42 ?_
  refine aw_aloadn (pc := 44) hX 1 rfl dX10_measure_44 ?_
  refine aw_gI (pc := 45) hX hy fl_X10_21 (fun _ _ => rfl) dX10_measure_45 (fun x8 hy => ?_)
  refine aw_ic_ge (pc := 48) hX 120 (by decide) dX10_measure_48 (fun hc9 => ?_) (fun hc9 => ?_)
  · have hy := hy.t hc9
    refine AW.sub [0, 1, 2] rfl ?_
    exact he0 h hy.s
  · have hy := hy.f hc9
    refine aw_aloadn (pc := 51) hX 1 rfl dX10_measure_51 ?_
    refine aw_iload (pc := 52) hX 3 rfl dX10_measure_52 ?_
    refine aw_aloadn (pc := 54) hX 0 rfl dX10_measure_54 ?_
    refine aw_gI (pc := 55) hX hy fl_X10_37 (fun _ _ => rfl) dX10_measure_55 (fun x9 hy => ?_)
    refine aw_aloadn (pc := 58) hX 0 rfl dX10_measure_58 ?_
    refine aw_gI (pc := 59) hX hy fl_X10_40 (fun _ _ => rfl) dX10_measure_59 (fun x10 hy => ?_)
    refine aw_callS (pc := 62) (st := []) hX [vR v1, vI v6, vI x9, vI x10] (con_X1_isOpen _ G _ v1 v6 x9 x10 hy.bd) mc_X1_isOpen ml_X10_31 st_X1_isOpen rfl (rm_of hr (by decide)) (Nat.le_of_ble_eq_true rfl) rfl dX10_measure_62 (kpI rfl rfl (fun x11 hy => ?_))
    refine aw_if_eq (pc := 65) hX 114 (by decide) dX10_measure_65 (fun hc9 => ?_) (fun hc9 => ?_)
    · have hy := hy.t hc9
      exact w_X10_measure_114 hX hN hr _ _ _ hc he0 h v6 hy
    · have hy := hy.f hc9
      refine aw_aloadn (pc := 68) hX 0 rfl dX10_measure_68 ?_
      refine aw_aloadn (pc := 69) hX 1 rfl dX10_measure_69 ?_
      refine aw_iload (pc := 70) hX 3 rfl dX10_measure_70 ?_
      refine aw_callV (pc := 72) (st := [vR v0]) (a := v1) hX [vI v6] (con_X5_oneEnd _ G _ v1 v6 hy.bd) mc_X5_oneEnd ml_X10_24 im_X5_oneEnd se_X5_oneEnd (by decide) hy.bd.kd rfl (rm_of hr (by decide)) (Nat.le_of_ble_eq_true rfl) rfl dX10_measure_72 (kpI rfl rfl (fun x12 hy => ?_))
      refine aw_aloadn (pc := 75) hX 1 rfl dX10_measure_75 ?_
      refine aw_iload (pc := 76) hX 3 rfl dX10_measure_76 ?_
      refine aw_callV (pc := 78) (st := [vI x12, vR v0]) (a := v1) hX [vI v6] (con_X5_otherEnd _ G _ v1 v6 hy.bd) mc_X5_otherEnd ml_X10_28 im_X5_otherEnd se_X5_otherEnd (by decide) hy.bd.kd rfl (rm_of hr (by decide)) (Nat.le_of_ble_eq_true rfl) rfl dX10_measure_78 (kpI rfl rfl (fun x13 hy => ?_))
      refine aw_aloadn (pc := 81) hX 1 rfl dX10_measure_81 ?_
      refine aw_gR (pc := 82) hX hy fl_X10_51 (fun _ _ => rfl) dX10_measure_82 (fun r14 hy => ?_)
      refine aw_iload (pc := 85) hX 3 rfl dX10_measure_85 ?_
      refine aw_aI (pc := 87) hX hy dX10_measure_87 (fun x15 hy => ?_)
      refine aw_callV (pc := 88) (st := []) (a := v0) hX [vI x12, vI x13, vI x15] (con_X10_shorten _ G _ v0 x12 x13 x15 hy.bd) mc_X10_shorten ml_X10_54 im_X10_shorten se_X10_shorten (by decide) hy.bd.kd rfl (rm_of hr (by decide)) (Nat.le_of_ble_eq_true rfl) rfl dX10_measure_88 (kmV rfl rfl (fun h16 hy => ?_))
      refine aw_aloadn (pc := 91) hX 0 rfl dX10_measure_91 ?_
      refine aw_aloadn (pc := 92) hX 1 rfl dX10_measure_92 ?_
      refine aw_iload (pc := 93) hX 3 rfl dX10_measure_93 ?_
      refine aw_callV (pc := 95) (st := [vR v0]) (a := v1) hX [vI v6] (con_X5_otherEnd _ G _ v1 v6 hy.bd) mc_X5_otherEnd ml_X10_28 im_X5_otherEnd se_X5_otherEnd (by decide) hy.bd.kd rfl (rm_of hr (by decide)) (Nat.le_of_ble_eq_true rfl) rfl dX10_measure_95 (kpI rfl rfl (fun x17 hy => ?_))
      refine aw_aloadn (pc := 98) hX 1 rfl dX10_measure_98 ?_
      refine aw_iload (pc := 99) hX 3 rfl dX10_measure_99 ?_
      refine aw_callV (pc := 101) (st := [vI x17, vR v0]) (a := v1) hX [vI v6] (con_X5_oneEnd _ G _ v1 v6 hy.bd) mc_X5_oneEnd ml_X10_24 im_X5_oneEnd se_X5_oneEnd (by decide) hy.bd.kd rfl (rm_of hr (by decide)) (Nat.le_of_ble_eq_true rfl) rfl dX10_measure_101 (kpI rfl rfl (fun x18 hy => ?_))
      refine aw_aloadn (pc := 104) hX 1 rfl dX10_measure_104 ?_
      refine aw_gR (pc := 105) hX hy fl_X10_51 (fun _ _ => rfl) dX10_measure_105 (fun r19 hy => ?_)
      refine aw_iload (pc := 108) hX 3 rfl dX10_measure_108 ?_
      refine aw_aI (pc := 110) hX hy dX10_measure_110 (fun x20 hy => ?_)
      refine aw_callV (pc := 111) (st := []) (a := v0) hX [vI x17, vI x18, vI x20] (con_X10_shorten _ G _ v0 x17 x18 x20 hy.bd) mc_X10_shorten ml_X10_54 im_X10_shorten se_X10_shorten (by decide) hy.bd.kd rfl (rm_of hr (by decide)) (Nat.le_of_ble_eq_true rfl) rfl dX10_measure_111 (kmV rfl rfl (fun h21 hy => ?_))
      exact w_X10_measure_114 hX hN hr _ _ _ hc he0 h21 v6 hy
theorem wl_X10_measure_42 {G : GE} {X : CX} {l : Launch} (hX : Ok G X cX10_measure RX10) (hN : xn X = 7) {P0 : Mem → Prop} (hr : Rt G X l yX10_measure none rm_X10_measure (pmV P0)) (v0 : Nat) (v1 : Nat) (v5 : Int32) {P : (Mem) → Prop} (he0 : ∀ e, P e → AW G X 120 [(0, vR v0), (1, vR v1), (5, vI v5)] [] e 0 0) : ∀ (n : Nat) (s : Int32 × Mem), OK (iter (fun (s : Int32 × Mem) => b_X10_measure_42 s.2 v0 v1 v5 s.1) n s) P → AW G X 42 [(0, vR v0), (1, vR v1), (5, vI v5), (6, vI s.1)] [] s.2 0 0 := by
  intro n
  induction n with
  | zero => exact fun s hy => hy.it0.elim
  | succ n ih =>
    intro s hy
    exact wb_X10_measure_42 hX hN hr v0 v1 v5 (fun s hs => ih s hs) (fun e hs => he0 e hs) s.2 s.1 hy.it
def b_X10_measure_30 (h : Mem) (v0 : Nat) (v1 : Nat) (v5 : Int32) : Option ((Int32 × Mem) ⊕ Mem) :=
  (gI h v1 2 4).bind fun x7 => (if x7 ≤ v5 then some (.inr h) else (iter (fun (s : Int32 × Mem) => b_X10_measure_42 s.2 v0 v1 v5 s.1) FU (0, h)).bind (fun q22 => some (.inl ((v5 + 1), q22))))
set_option maxRecDepth 100000 in
set_option maxHeartbeats 4000000 in
theorem wb_X10_measure_30 {G : GE} {X : CX} {l : Launch} (hX : Ok G X cX10_measure RX10) (hN : xn X = 7) {P0 : Mem → Prop} (hr : Rt G X l yX10_measure none rm_X10_measure (pmV P0))  (v0 : Nat) (v1 : Nat) {P : ((Int32 × Mem) ⊕ Mem) → Prop} (hc : ∀ s, P (.inl s) → AW G X 30 [(0, vR v0), (1, vR v1), (5, vI s.1)] [] s.2 0 0) (he0 : ∀ e, P (.inr e) → AW G X 126 [] [] e 0 0) (h : Mem) (v5 : Int32) (hy : OK (b_X10_measure_30 h v0 v1 v5) P) : AW G X 30 [(0, vR v0), (1, vR v1), (5, vI v5)] [] h 0 0 := by
  unfold b_X10_measure_30 at hy
  refine aw_iload (pc := 30) hX 2 rfl dX10_measure_30 ?_
  refine aw_aloadn (pc := 32) hX 1 rfl dX10_measure_32 ?_
  refine aw_gI (pc := 33) hX hy fl_X10_17 (fun _ _ => rfl) dX10_measure_33 (fun x7 hy => ?_)
  refine aw_ic_ge (pc := 36) hX 126 (by decide) dX10_measure_36 (fun hc9 => ?_) (fun hc9 => ?_)
  · have hy := hy.t hc9
    refine AW.sub [] rfl ?_
    exact he0 h hy.s
  · have hy := hy.f hc9
    refine aw_iconst (pc := 39) hX 0 (by decide) dX10_measure_39 ?_
    refine aw_istore (pc := 40) hX [(6, vI 0), (0, vR v0), (1, vR v1), (5, vI v5)] rfl (lt_n hN (by decide)) dX10_measure_40 ?_
    refine AW.sub [1, 2, 3, 0] rfl ?_
    refine wl_X10_measure_42 hX hN hr v0 v1 v5 ?_ FU (0, h) hy.bd
    · intro q22 hy
      refine aw_iinc (pc := 120) hX 1 (by decide) 2 rfl [(5, vI (v5 + 1)), (0, vR v0), (1, vR v1)] rfl (lt_n hN (by decide)) dX10_measure_120 ?_
      refine aw_goto (pc := 123) hX 30 (by decide) dX10_measure_123 ?_
      refine AW.sub [1, 2, 0] rfl ?_
      exact hc ((v5 + 1), q22) hy.s
theorem wl_X10_measure_30 {G : GE} {X : CX} {l : Launch} (hX : Ok G X cX10_measure RX10) (hN : xn X = 7) {P0 : Mem → Prop} (hr : Rt G X l yX10_measure none rm_X10_measure (pmV P0)) (v0 : Nat) (v1 : Nat) {P : (Mem) → Prop} (he0 : ∀ e, P e → AW G X 126 [] [] e 0 0) : ∀ (n : Nat) (s : Int32 × Mem), OK (iter (fun (s : Int32 × Mem) => b_X10_measure_30 s.2 v0 v1 s.1) n s) P → AW G X 30 [(0, vR v0), (1, vR v1), (5, vI s.1)] [] s.2 0 0 := by
  intro n
  induction n with
  | zero => exact fun s hy => hy.it0.elim
  | succ n ih =>
    intro s hy
    exact wb_X10_measure_30 hX hN hr v0 v1 (fun s hs => ih s hs) (fun e hs => he0 e hs) s.2 s.1 hy.it
def f_X10_measure (h : Mem) (v0 : Nat) (v1 : Nat) (v2 : Int32) (v3 : Int32) (v4 : Int32) : Option Mem :=
  (ck h v0 8).bind fun _ => (pI h v0 1 8 v3).bind fun h1 => (pZ h1 v0 2 8 v4).bind fun h2 => (gR h2 v0 0 8).bind fun r3 => (f_J7_fill_53178 h2 r3 1000000).bind fun h4 => (gR h4 v0 0 8).bind fun r5 => (sI h4 r5 v2 0).bind fun h6 => (iter (fun (s : Int32 × Mem) => b_X10_measure_30 s.2 v0 v1 s.1) FU (0, h6)).bind (fun q23 => some q23)
set_option maxRecDepth 100000 in
set_option maxHeartbeats 4000000 in
theorem w_X10_measure {G : GE} {X : CX} {l : Launch} (hX : Ok G X cX10_measure RX10) (hN : xn X = 7) {P : Mem → Prop} (hr : Rt G X l yX10_measure none rm_X10_measure (pmV P)) (h : Mem) (v0 : Nat) (v1 : Nat) (v2 : Int32) (v3 : Int32) (v4 : Int32) (hy : OK (f_X10_measure h v0 v1 v2 v3 v4) P) : AW G X 0 [(0, vR v0), (1, vR v1), (2, vI v2), (3, vI v3), (4, vI v4)] [] h 0 0 := by
  unfold f_X10_measure at hy
  have hkd := hy.kd
  have hy := hy.kb
  refine aw_aloadn (pc := 0) hX 0 rfl dX10_measure_0 ?_
  refine aw_iloadn (pc := 1) hX 3 rfl dX10_measure_1 ?_
  refine aw_pI (pc := 2) hX hy fl_X10_37 rfl (Or.inl rfl) dX10_measure_2 (fun h1 hy => ?_)
  refine aw_aloadn (pc := 5) hX 0 rfl dX10_measure_5 ?_
  refine aw_iload (pc := 6) hX 4 rfl dX10_measure_6 ?_
  refine aw_pZ (pc := 8) hX hy fl_X10_40 rfl (Or.inl rfl) dX10_measure_8 (fun h2 hy => ?_)
  refine aw_aloadn (pc := 11) hX 0 rfl dX10_measure_11 ?_
  refine aw_gR (pc := 12) hX hy fl_X10_11 (fun _ _ => rfl) dX10_measure_12 (fun r3 hy => ?_)
  refine aw_ldc (pc := 15) hX kc_X10_44 dX10_measure_15 ?_
  refine aw_callS (pc := 17) (st := []) hX [vR r3, vI 1000000] (con_J7_fill_53178 _ G _ r3 1000000 hy.bd) mc_J7_fill_53178 ml_X10_45 st_J7_fill_53178 rfl (rm_of hr (by decide)) (Nat.le_of_ble_eq_true rfl) rfl dX10_measure_17 (kmV rfl rfl (fun h4 hy => ?_))
  refine aw_aloadn (pc := 20) hX 0 rfl dX10_measure_20 ?_
  refine aw_gR (pc := 21) hX hy fl_X10_11 (fun _ _ => rfl) dX10_measure_21 (fun r5 hy => ?_)
  refine aw_iloadn (pc := 24) hX 2 rfl dX10_measure_24 ?_
  refine aw_iconst (pc := 25) hX 0 (by decide) dX10_measure_25 ?_
  refine aw_sI (pc := 26) hX hy dX10_measure_26 (fun h6 hy => ?_)
  refine aw_iconst (pc := 27) hX 0 (by decide) dX10_measure_27 ?_
  refine aw_istore (pc := 28) hX [(5, vI 0), (0, vR v0), (1, vR v1), (2, vI v2), (3, vI v3), (4, vI v4)] rfl (lt_n hN (by decide)) dX10_measure_28 ?_
  refine AW.sub [1, 2, 0] rfl ?_
  refine wl_X10_measure_30 hX hN hr v0 v1 ?_ FU (0, h6) hy.bd
  · intro q23 hy
    exact aw_vret (pc := 126) hX hr (by decide) (by decide) dX10_measure_126 ⟨rfl, hy.s⟩
theorem con_X10_measure (l : Launch) (G : GE) (h : Mem) (v0 : Nat) (v1 : Nat) (v2 : Int32) (v3 : Int32) (v4 : Int32) {P : Mem → Prop} (hy : OK (f_X10_measure h v0 v1 v2 v3 v4) P) : Con l G yX10_measure cX10_measure 7 none rm_X10_measure [vR v0, vR v1, vI v2, vI v3, vI v4] h (pmV P) := Con.of (by decide) (Nat.le_of_ble_eq_true rfl) (fun X hX hr hN => w_X10_measure hX hN hr h v0 v1 v2 v3 v4 hy)
/-! X10_minutesFrom -/
theorem dX10_minutesFrom_0 : decode cX10_minutesFrom 0 = .ok (.aload_n 0, 1) := by decide +kernel
theorem dX10_minutesFrom_1 : decode cX10_minutesFrom 1 = .ok (.getfield 11, 3) := by decide +kernel
theorem dX10_minutesFrom_4 : decode cX10_minutesFrom 4 = .ok (.iload_n 1, 1) := by decide +kernel
theorem dX10_minutesFrom_5 : decode cX10_minutesFrom 5 = .ok (.iaload, 1) := by decide +kernel
theorem dX10_minutesFrom_6 : decode cX10_minutesFrom 6 = .ok (.ireturn, 1) := by decide +kernel
abbrev rm_X10_minutesFrom : Room := { frames := 0, cells := 0, slots := 0, locals := 0 }
def f_X10_minutesFrom (h : Mem) (v0 : Nat) (v1 : Int32) : Option Int32 :=
  (ck h v0 8).bind fun _ => (gR h v0 0 8).bind fun r1 => (aI h r1 v1).bind fun x2 => some x2
set_option maxRecDepth 100000 in
set_option maxHeartbeats 4000000 in
theorem w_X10_minutesFrom {G : GE} {X : CX} {l : Launch} (hX : Ok G X cX10_minutesFrom RX10) (hN : xn X = 2) (h : Mem) {P : Int32 → Prop} (hr : Rt G X l yX10_minutesFrom (some .int) rm_X10_minutesFrom (ppI h P)) (v0 : Nat) (v1 : Int32) (hy : OK (f_X10_minutesFrom h v0 v1) P) : AW G X 0 [(0, vR v0), (1, vI v1)] [] h 0 0 := by
  unfold f_X10_minutesFrom at hy
  have hkd := hy.kd
  have hy := hy.kb
  refine aw_aloadn (pc := 0) hX 0 rfl dX10_minutesFrom_0 ?_
  refine aw_gR (pc := 1) hX hy fl_X10_11 (fun _ _ => rfl) dX10_minutesFrom_1 (fun r1 hy => ?_)
  refine aw_iloadn (pc := 4) hX 1 rfl dX10_minutesFrom_4 ?_
  refine aw_aI (pc := 5) hX hy dX10_minutesFrom_5 (fun x2 hy => ?_)
  exact aw_iret (pc := 6) hX hr (by decide) (by decide) dX10_minutesFrom_6 ⟨rfl, _, rfl, hy.s⟩
theorem con_X10_minutesFrom (l : Launch) (G : GE) (h : Mem) (v0 : Nat) (v1 : Int32) {P : Int32 → Prop} (hy : OK (f_X10_minutesFrom h v0 v1) P) : Con l G yX10_minutesFrom cX10_minutesFrom 2 (some .int) rm_X10_minutesFrom [vR v0, vI v1] h (ppI h P) := Con.of (by decide) (Nat.le_of_ble_eq_true rfl) (fun X hX hr hN => w_X10_minutesFrom hX hN h hr v0 v1 hy)
/-! X10_placeBehind -/
theorem dX10_placeBehind_0 : decode cX10_placeBehind 0 = .ok (.iconst 0, 1) := by decide +kernel
theorem dX10_placeBehind_1 : decode cX10_placeBehind 1 = .ok (.istore_n 3, 1) := by decide +kernel
theorem dX10_placeBehind_2 : decode cX10_placeBehind 2 = .ok (.iload_n 3, 1) := by decide +kernel
theorem dX10_placeBehind_3 : decode cX10_placeBehind 3 = .ok (.aload_n 1, 1) := by decide +kernel
theorem dX10_placeBehind_4 : decode cX10_placeBehind 4 = .ok (.getfield 17, 3) := by decide +kernel
theorem dX10_placeBehind_7 : decode cX10_placeBehind 7 = .ok (.if_icmp .ge 64, 3) := by decide +kernel
theorem dX10_placeBehind_10 : decode cX10_placeBehind 10 = .ok (.aload_n 1, 1) := by decide +kernel
theorem dX10_placeBehind_11 : decode cX10_placeBehind 11 = .ok (.iload_n 2, 1) := by decide +kernel
theorem dX10_placeBehind_12 : decode cX10_placeBehind 12 = .ok (.iload_n 3, 1) := by decide +kernel
theorem dX10_placeBehind_13 : decode cX10_placeBehind 13 = .ok (.invokevirtual 62, 3) := by decide +kernel
theorem dX10_placeBehind_16 : decode cX10_placeBehind 16 = .ok (.istore 4, 2) := by decide +kernel
theorem dX10_placeBehind_18 : decode cX10_placeBehind 18 = .ok (.iload 4, 2) := by decide +kernel
theorem dX10_placeBehind_20 : decode cX10_placeBehind 20 = .ok (.ifCond .lt 45, 3) := by decide +kernel
theorem dX10_placeBehind_23 : decode cX10_placeBehind 23 = .ok (.aload_n 1, 1) := by decide +kernel
theorem dX10_placeBehind_24 : decode cX10_placeBehind 24 = .ok (.getfield 51, 3) := by decide +kernel
theorem dX10_placeBehind_27 : decode cX10_placeBehind 27 = .ok (.iload 4, 2) := by decide +kernel
theorem dX10_placeBehind_29 : decode cX10_placeBehind 29 = .ok (.iaload, 1) := by decide +kernel
theorem dX10_placeBehind_30 : decode cX10_placeBehind 30 = .ok (.aload_n 0, 1) := by decide +kernel
theorem dX10_placeBehind_31 : decode cX10_placeBehind 31 = .ok (.getfield 11, 3) := by decide +kernel
theorem dX10_placeBehind_34 : decode cX10_placeBehind 34 = .ok (.iload_n 3, 1) := by decide +kernel
theorem dX10_placeBehind_35 : decode cX10_placeBehind 35 = .ok (.iaload, 1) := by decide +kernel
theorem dX10_placeBehind_36 : decode cX10_placeBehind 36 = .ok (.iadd, 1) := by decide +kernel
theorem dX10_placeBehind_37 : decode cX10_placeBehind 37 = .ok (.aload_n 0, 1) := by decide +kernel
theorem dX10_placeBehind_38 : decode cX10_placeBehind 38 = .ok (.getfield 11, 3) := by decide +kernel
theorem dX10_placeBehind_41 : decode cX10_placeBehind 41 = .ok (.iload_n 2, 1) := by decide +kernel
theorem dX10_placeBehind_42 : decode cX10_placeBehind 42 = .ok (.iaload, 1) := by decide +kernel
theorem dX10_placeBehind_43 : decode cX10_placeBehind 43 = .ok (.if_icmp .ne 22, 3) := by decide +kernel
theorem dX10_placeBehind_46 : decode cX10_placeBehind 46 = .ok (.aload_n 1, 1) := by decide +kernel
theorem dX10_placeBehind_47 : decode cX10_placeBehind 47 = .ok (.iload 4, 2) := by decide +kernel
theorem dX10_placeBehind_49 : decode cX10_placeBehind 49 = .ok (.aload_n 0, 1) := by decide +kernel
theorem dX10_placeBehind_50 : decode cX10_placeBehind 50 = .ok (.getfield 37, 3) := by decide +kernel
theorem dX10_placeBehind_53 : decode cX10_placeBehind 53 = .ok (.aload_n 0, 1) := by decide +kernel
theorem dX10_placeBehind_54 : decode cX10_placeBehind 54 = .ok (.getfield 40, 3) := by decide +kernel
theorem dX10_placeBehind_57 : decode cX10_placeBehind 57 = .ok (.invokestatic 31, 3) := by decide +kernel
theorem dX10_placeBehind_60 : decode cX10_placeBehind 60 = .ok (.ifCond .eq 5, 3) := by decide +kernel
theorem dX10_placeBehind_63 : decode cX10_placeBehind 63 = .ok (.iload_n 3, 1) := by decide +kernel
theorem dX10_placeBehind_64 : decode cX10_placeBehind 64 = .ok (.ireturn, 1) := by decide +kernel
theorem dX10_placeBehind_65 : decode cX10_placeBehind 65 = .ok (.iinc 3 1, 3) := by decide +kernel
theorem dX10_placeBehind_68 : decode cX10_placeBehind 68 = .ok (.goto (-66), 3) := by decide +kernel
theorem dX10_placeBehind_71 : decode cX10_placeBehind 71 = .ok (.iconst (-1), 1) := by decide +kernel
theorem dX10_placeBehind_72 : decode cX10_placeBehind 72 = .ok (.ireturn, 1) := by decide +kernel
abbrev rm_X10_placeBehind : Room := { frames := 1, cells := 0, slots := 0, locals := 23 }
def f_X10_placeBehind_65 (h : Mem) (v0 : Nat) (v1 : Nat) (v2 : Int32) (v3 : Int32) : Option (Int32 ⊕ (Int32 ⊕ Unit)) :=
  some (.inl (v3 + 1))
set_option maxRecDepth 100000 in
set_option maxHeartbeats 4000000 in
theorem w_X10_placeBehind_65 {G : GE} {X : CX} {l : Launch} (hX : Ok G X cX10_placeBehind RX10) (hN : xn X = 5) (h : Mem) {P0 : Int32 → Prop} (hr : Rt G X l yX10_placeBehind (some .int) rm_X10_placeBehind (ppI h P0))  (v0 : Nat) (v1 : Nat) (v2 : Int32) {P : (Int32 ⊕ (Int32 ⊕ Unit)) → Prop} (hc : ∀ s, P (.inl s) → AW G X 2 [(0, vR v0), (1, vR v1), (2, vI v2), (3, vI s)] [] h 0 0) (he0 : ∀ e, P (.inr (.inl e)) → AW G X 63 [(3, vI e)] [] h 0 0) (he1 : ∀ e, P (.inr (.inr e)) → AW G X 71 [] [] h 0 0) (v3 : Int32) (hy : OK (f_X10_placeBehind_65 h v0 v1 v2 v3) P) : AW G X 65 [(0, vR v0), (1, vR v1), (2, vI v2), (3, vI v3)] [] h 0 0 := by
  unfold f_X10_placeBehind_65 at hy
  refine aw_iinc (pc := 65) hX 1 (by decide) 3 rfl [(3, vI (v3 + 1)), (0, vR v0), (1, vR v1), (2, vI v2)] rfl (lt_n hN (by decide)) dX10_placeBehind_65 ?_
  refine aw_goto (pc := 68) hX 2 (by decide) dX10_placeBehind_68 ?_
  refine AW.sub [1, 2, 3, 0] rfl ?_
  exact hc (v3 + 1) hy.s
def b_X10_placeBehind_2 (h : Mem) (v0 : Nat) (v1 : Nat) (v2 : Int32) (v3 : Int32) : Option (Int32 ⊕ (Int32 ⊕ Unit)) :=
  (gI h v1 2 4).bind fun x1 => (if x1 ≤ v3 then some (.inr (.inr ())) else (f_X5_roadBetween h v1 v2 v3).bind fun x2 => (if x2 < 0 then f_X10_placeBehind_65 h v0 v1 v2 v3 else (gR h v1 12 4).bind fun r3 => (aI h r3 x2).bind fun x4 => (gR h v0 0 8).bind fun r5 => (aI h r5 v3).bind fun x6 => (gR h v0 0 8).bind fun r7 => (aI h r7 v2).bind fun x8 => (if (x4 + x6) = x8 then (gI h v0 1 8).bind fun x9 => (gI h v0 2 8).bind fun x10 => (f_X1_isOpen h v1 x2 x9 x10).bind fun x11 => (if x11 = 0 then f_X10_placeBehind_65 h v0 v1 v2 v3 else some (.inr (.inl v3))) else f_X10_placeBehind_65 h v0 v1 v2 v3)))
set_option maxRecDepth 100000 in
set_option maxHeartbeats 4000000 in
theorem wb_X10_placeBehind_2 {G : GE} {X : CX} {l : Launch} (hX : Ok G X cX10_placeBehind RX10) (hN : xn X = 5) (h : Mem) {P0 : Int32 → Prop} (hr : Rt G X l yX10_placeBehind (some .int) rm_X10_placeBehind (ppI h P0))  (v0 : Nat) (v1 : Nat) (v2 : Int32) {P : (Int32 ⊕ (Int32 ⊕ Unit)) → Prop} (hc : ∀ s, P (.inl s) → AW G X 2 [(0, vR v0), (1, vR v1), (2, vI v2), (3, vI s)] [] h 0 0) (he0 : ∀ e, P (.inr (.inl e)) → AW G X 63 [(3, vI e)] [] h 0 0) (he1 : ∀ e, P (.inr (.inr e)) → AW G X 71 [] [] h 0 0) (v3 : Int32) (hy : OK (b_X10_placeBehind_2 h v0 v1 v2 v3) P) : AW G X 2 [(0, vR v0), (1, vR v1), (2, vI v2), (3, vI v3)] [] h 0 0 := by
  unfold b_X10_placeBehind_2 at hy
  refine aw_iloadn (pc := 2) hX 3 rfl dX10_placeBehind_2 ?_
  refine aw_aloadn (pc := 3) hX 1 rfl dX10_placeBehind_3 ?_
  refine aw_gI (pc := 4) hX hy fl_X10_17 (fun _ _ => rfl) dX10_placeBehind_4 (fun x1 hy => ?_)
  refine aw_ic_ge (pc := 7) hX 71 (by decide) dX10_placeBehind_7 (fun hc9 => ?_) (fun hc9 => ?_)
  · have hy := hy.t hc9
    refine AW.sub [] rfl ?_
    exact he1 () hy.s
  · have hy := hy.f hc9
    refine aw_aloadn (pc := 10) hX 1 rfl dX10_placeBehind_10 ?_
    refine aw_iloadn (pc := 11) hX 2 rfl dX10_placeBehind_11 ?_
    refine aw_iloadn (pc := 12) hX 3 rfl dX10_placeBehind_12 ?_
    refine aw_callV (pc := 13) (st := []) (a := v1) hX [vI v2, vI v3] (con_X5_roadBetween _ G _ v1 v2 v3 hy.bd) mc_X5_roadBetween ml_X10_62 im_X5_roadBetween se_X5_roadBetween (by decide) hy.bd.kd rfl (rm_of hr (by decide)) (Nat.le_of_ble_eq_true rfl) rfl dX10_placeBehind_13 (kpI rfl rfl (fun x2 hy => ?_))
    refine aw_istore (pc := 16) hX [(4, vI x2), (0, vR v0), (1, vR v1), (2, vI v2), (3, vI v3)] rfl (lt_n hN (by decide)) dX10_placeBehind_16 ?_
    refine aw_iload (pc := 18) hX 0 rfl dX10_placeBehind_18 ?_
    refine aw_if_lt (pc := 20) hX 65 (by decide) dX10_placeBehind_20 (fun hc9 => ?_) (fun hc9 => ?_)
    · have hy := hy.t hc9
      refine AW.sub [1, 2, 3, 4] rfl ?_
      exact w_X10_placeBehind_65 hX hN _ hr _ _ _ hc he0 he1 v3 hy
    · have hy := hy.f hc9
      refine aw_aloadn (pc := 23) hX 2 rfl dX10_placeBehind_23 ?_
      refine aw_gR (pc := 24) hX hy fl_X10_51 (fun _ _ => rfl) dX10_placeBehind_24 (fun r3 hy => ?_)
      refine aw_iload (pc := 27) hX 0 rfl dX10_placeBehind_27 ?_
      refine aw_aI (pc := 29) hX hy dX10_placeBehind_29 (fun x4 hy => ?_)
      refine aw_aloadn (pc := 30) hX 1 rfl dX10_placeBehind_30 ?_
      refine aw_gR (pc := 31) hX hy fl_X10_11 (fun _ _ => rfl) dX10_placeBehind_31 (fun r5 hy => ?_)
      refine aw_iloadn (pc := 34) hX 4 rfl dX10_placeBehind_34 ?_
      refine aw_aI (pc := 35) hX hy dX10_placeBehind_35 (fun x6 hy => ?_)
      refine aw_iadd (pc := 36) hX dX10_placeBehind_36 ?_
      refine aw_aloadn (pc := 37) hX 1 rfl dX10_placeBehind_37 ?_
      refine aw_gR (pc := 38) hX hy fl_X10_11 (fun _ _ => rfl) dX10_placeBehind_38 (fun r7 hy => ?_)
      refine aw_iloadn (pc := 41) hX 3 rfl dX10_placeBehind_41 ?_
      refine aw_aI (pc := 42) hX hy dX10_placeBehind_42 (fun x8 hy => ?_)
      refine aw_ic_ne (pc := 43) hX 65 (by decide) dX10_placeBehind_43 (fun hc9 => ?_) (fun hc9 => ?_)
      · have hy := hy.f hc9
        refine AW.sub [1, 2, 3, 4] rfl ?_
        exact w_X10_placeBehind_65 hX hN _ hr _ _ _ hc he0 he1 v3 hy
      · have hy := hy.t hc9
        refine aw_aloadn (pc := 46) hX 2 rfl dX10_placeBehind_46 ?_
        refine aw_iload (pc := 47) hX 0 rfl dX10_placeBehind_47 ?_
        refine aw_aloadn (pc := 49) hX 1 rfl dX10_placeBehind_49 ?_
        refine aw_gI (pc := 50) hX hy fl_X10_37 (fun _ _ => rfl) dX10_placeBehind_50 (fun x9 hy => ?_)
        refine aw_aloadn (pc := 53) hX 1 rfl dX10_placeBehind_53 ?_
        refine aw_gI (pc := 54) hX hy fl_X10_40 (fun _ _ => rfl) dX10_placeBehind_54 (fun x10 hy => ?_)
        refine aw_callS (pc := 57) (st := []) hX [vR v1, vI x2, vI x9, vI x10] (con_X1_isOpen _ G _ v1 x2 x9 x10 hy.bd) mc_X1_isOpen ml_X10_31 st_X1_isOpen rfl (rm_of hr (by decide)) (Nat.le_of_ble_eq_true rfl) rfl dX10_placeBehind_57 (kpI rfl rfl (fun x11 hy => ?_))
        refine aw_if_eq (pc := 60) hX 65 (by decide) dX10_placeBehind_60 (fun hc9 => ?_) (fun hc9 => ?_)
        · have hy := hy.t hc9
          refine AW.sub [1, 2, 3, 4] rfl ?_
          exact w_X10_placeBehind_65 hX hN _ hr _ _ _ hc he0 he1 v3 hy
        · have hy := hy.f hc9
          refine AW.sub [4] rfl ?_
          exact he0 v3 hy.s
theorem wl_X10_placeBehind_2 {G : GE} {X : CX} {l : Launch} (hX : Ok G X cX10_placeBehind RX10) (hN : xn X = 5) (h : Mem) {P0 : Int32 → Prop} (hr : Rt G X l yX10_placeBehind (some .int) rm_X10_placeBehind (ppI h P0)) (v0 : Nat) (v1 : Nat) (v2 : Int32) {P : (Int32 ⊕ Unit) → Prop} (he0 : ∀ e, P (.inl e) → AW G X 63 [(3, vI e)] [] h 0 0) (he1 : ∀ e, P (.inr e) → AW G X 71 [] [] h 0 0) : ∀ (n : Nat) (s : Int32), OK (iter (fun (s : Int32) => b_X10_placeBehind_2 h v0 v1 v2 s) n s) P → AW G X 2 [(0, vR v0), (1, vR v1), (2, vI v2), (3, vI s)] [] h 0 0 := by
  intro n
  induction n with
  | zero => exact fun s hy => hy.it0.elim
  | succ n ih =>
    intro s hy
    exact wb_X10_placeBehind_2 hX hN h hr v0 v1 v2 (fun s hs => ih s hs) (fun e hs => he0 e hs) (fun e hs => he1 e hs) s hy.it
def f_X10_placeBehind (h : Mem) (v0 : Nat) (v1 : Nat) (v2 : Int32) : Option Int32 :=
  (ck h v0 8).bind fun _ => (iter (fun (s : Int32) => b_X10_placeBehind_2 h v0 v1 v2 s) FU 0).bind (Sum.elim (fun e13 => some e13) (fun e14 => some (-1)))
set_option maxRecDepth 100000 in
set_option maxHeartbeats 4000000 in
theorem w_X10_placeBehind {G : GE} {X : CX} {l : Launch} (hX : Ok G X cX10_placeBehind RX10) (hN : xn X = 5) (h : Mem) {P : Int32 → Prop} (hr : Rt G X l yX10_placeBehind (some .int) rm_X10_placeBehind (ppI h P)) (v0 : Nat) (v1 : Nat) (v2 : Int32) (hy : OK (f_X10_placeBehind h v0 v1 v2) P) : AW G X 0 [(0, vR v0), (1, vR v1), (2, vI v2)] [] h 0 0 := by
  unfold f_X10_placeBehind at hy
  have hkd := hy.kd
  have hy := hy.kb
  refine aw_iconst (pc := 0) hX 0 (by decide) dX10_placeBehind_0 ?_
  refine aw_istoren (pc := 1) hX [(3, vI 0), (0, vR v0), (1, vR v1), (2, vI v2)] rfl (lt_n hN (by decide)) dX10_placeBehind_1 ?_
  refine AW.sub [1, 2, 3, 0] rfl ?_
  refine wl_X10_placeBehind_2 hX hN _ hr v0 v1 v2 ?_ ?_ FU 0 hy.bd
  · intro e13 hy
    refine aw_iloadn (pc := 63) hX 0 rfl dX10_placeBehind_63 ?_
    exact aw_iret (pc := 64) hX hr (by decide) (by decide) dX10_placeBehind_64 ⟨rfl, _, rfl, hy.s⟩
  · intro e14 hy
    refine aw_iconst (pc := 71) hX (-1) (by decide) dX10_placeBehind_71 ?_
    exact aw_iret (pc := 72) hX hr (by decide) (by decide) dX10_placeBehind_72 ⟨rfl, _, rfl, hy.s⟩
theorem con_X10_placeBehind (l : Launch) (G : GE) (h : Mem) (v0 : Nat) (v1 : Nat) (v2 : Int32) {P : Int32 → Prop} (hy : OK (f_X10_placeBehind h v0 v1 v2) P) : Con l G yX10_placeBehind cX10_placeBehind 5 (some .int) rm_X10_placeBehind [vR v0, vR v1, vI v2] h (ppI h P) := Con.of (by decide) (Nat.le_of_ble_eq_true rfl) (fun X hX hr hN => w_X10_placeBehind hX hN h hr v0 v1 v2 hy)
/-! X10_placeOn -/
theorem dX10_placeOn_0 : decode cX10_placeOn 0 = .ok (.aload_n 0, 1) := by decide +kernel
theorem dX10_placeOn_1 : decode cX10_placeOn 1 = .ok (.getfield 11, 3) := by decide +kernel
theorem dX10_placeOn_4 : decode cX10_placeOn 4 = .ok (.iload_n 2, 1) := by decide +kernel
theorem dX10_placeOn_5 : decode cX10_placeOn 5 = .ok (.iaload, 1) := by decide +kernel
theorem dX10_placeOn_6 : decode cX10_placeOn 6 = .ok (.ldc 44, 2) := by decide +kernel
theorem dX10_placeOn_8 : decode cX10_placeOn 8 = .ok (.if_icmp .ge 17, 3) := by decide +kernel
theorem dX10_placeOn_11 : decode cX10_placeOn 11 = .ok (.iload 4, 2) := by decide +kernel
theorem dX10_placeOn_13 : decode cX10_placeOn 13 = .ok (.ifCond .lt 12, 3) := by decide +kernel
theorem dX10_placeOn_16 : decode cX10_placeOn 16 = .ok (.iload 4, 2) := by decide +kernel
theorem dX10_placeOn_18 : decode cX10_placeOn 18 = .ok (.aload_n 1, 1) := by decide +kernel
theorem dX10_placeOn_19 : decode cX10_placeOn 19 = .ok (.getfield 17, 3) := by decide +kernel
theorem dX10_placeOn_22 : decode cX10_placeOn 22 = .ok (.if_icmp .lt 5, 3) := by decide +kernel
theorem dX10_placeOn_25 : decode cX10_placeOn 25 = .ok (.iconst (-1), 1) := by decide +kernel
theorem dX10_placeOn_26 : decode cX10_placeOn 26 = .ok (.ireturn, 1) := by decide +kernel
theorem dX10_placeOn_27 : decode cX10_placeOn 27 = .ok (.iload_n 2, 1) := by decide +kernel
theorem dX10_placeOn_28 : decode cX10_placeOn 28 = .ok (.istore 5, 2) := by decide +kernel
theorem dX10_placeOn_30 : decode cX10_placeOn 30 = .ok (.iconst 0, 1) := by decide +kernel
theorem dX10_placeOn_31 : decode cX10_placeOn 31 = .ok (.istore 6, 2) := by decide +kernel
theorem dX10_placeOn_33 : decode cX10_placeOn 33 = .ok (.iload 6, 2) := by decide +kernel
theorem dX10_placeOn_35 : decode cX10_placeOn 35 = .ok (.iload 4, 2) := by decide +kernel
theorem dX10_placeOn_37 : decode cX10_placeOn 37 = .ok (.if_icmp .ge 31, 3) := by decide +kernel
theorem dX10_placeOn_40 : decode cX10_placeOn 40 = .ok (.iload 5, 2) := by decide +kernel
theorem dX10_placeOn_42 : decode cX10_placeOn 42 = .ok (.ifCond .lt 9, 3) := by decide +kernel
theorem dX10_placeOn_45 : decode cX10_placeOn 45 = .ok (.iload 5, 2) := by decide +kernel
theorem dX10_placeOn_47 : decode cX10_placeOn 47 = .ok (.iload_n 3, 1) := by decide +kernel
theorem dX10_placeOn_48 : decode cX10_placeOn 48 = .ok (.if_icmp .ne 5, 3) := by decide +kernel
theorem dX10_placeOn_51 : decode cX10_placeOn 51 = .ok (.iconst (-1), 1) := by decide +kernel
theorem dX10_placeOn_52 : decode cX10_placeOn 52 = .ok (.ireturn, 1) := by decide +kernel
theorem dX10_placeOn_53 : decode cX10_placeOn 53 = .ok (.aload_n 0, 1) := by decide +kernel
theorem dX10_placeOn_54 : decode cX10_placeOn 54 = .ok (.aload_n 1, 1) := by decide +kernel
theorem dX10_placeOn_55 : decode cX10_placeOn 55 = .ok (.iload 5, 2) := by decide +kernel
theorem dX10_placeOn_57 : decode cX10_placeOn 57 = .ok (.invokevirtual 58, 3) := by decide +kernel
theorem dX10_placeOn_60 : decode cX10_placeOn 60 = .ok (.istore 5, 2) := by decide +kernel
theorem dX10_placeOn_62 : decode cX10_placeOn 62 = .ok (.iinc 6 1, 3) := by decide +kernel
theorem dX10_placeOn_65 : decode cX10_placeOn 65 = .ok (.goto (-32), 3) := by decide +kernel
theorem dX10_placeOn_68 : decode cX10_placeOn 68 = .ok (.iload 5, 2) := by decide +kernel
theorem dX10_placeOn_70 : decode cX10_placeOn 70 = .ok (.ireturn, 1) := by decide +kernel
abbrev rm_X10_placeOn : Room := { frames := 2, cells := 0, slots := 0, locals := 47 }
def b_X10_placeOn_33 (h : Mem) (v0 : Nat) (v1 : Nat) (v3 : Int32) (v4 : Int32) (v5 : Int32) (v6 : Int32) : Option ((Int32 × Int32) ⊕ (Unit ⊕ Int32)) :=
  (if v4 ≤ v6 then some (.inr (.inr v5)) else (if v5 < 0 then some (.inr (.inl ())) else (if v5 = v3 then some (.inr (.inl ())) else (f_X10_placeBehind h v0 v1 v5).bind fun x4 => some (.inl (x4, (v6 + 1))))))
set_option maxRecDepth 100000 in
set_option maxHeartbeats 4000000 in
theorem wb_X10_placeOn_33 {G : GE} {X : CX} {l : Launch} (hX : Ok G X cX10_placeOn RX10) (hN : xn X = 7) (h : Mem) {P0 : Int32 → Prop} (hr : Rt G X l yX10_placeOn (some .int) rm_X10_placeOn (ppI h P0))  (v0 : Nat) (v1 : Nat) (v3 : Int32) (v4 : Int32) {P : ((Int32 × Int32) ⊕ (Unit ⊕ Int32)) → Prop} (hc : ∀ s, P (.inl s) → AW G X 33 [(0, vR v0), (1, vR v1), (3, vI v3), (4, vI v4), (5, vI s.1), (6, vI s.2)] [] h 0 0) (he0 : ∀ e, P (.inr (.inl e)) → AW G X 51 [] [] h 0 0) (he1 : ∀ e, P (.inr (.inr e)) → AW G X 68 [(5, vI e)] [] h 0 0) (v5 : Int32) (v6 : Int32) (hy : OK (b_X10_placeOn_33 h v0 v1 v3 v4 v5 v6) P) : AW G X 33 [(0, vR v0), (1, vR v1), (3, vI v3), (4, vI v4), (5, vI v5), (6, vI v6)] [] h 0 0 := by
  unfold b_X10_placeOn_33 at hy
  refine aw_iload (pc := 33) hX 5 rfl dX10_placeOn_33 ?_
  refine aw_iload (pc := 35) hX 3 rfl dX10_placeOn_35 ?_
  refine aw_ic_ge (pc := 37) hX 68 (by decide) dX10_placeOn_37 (fun hc9 => ?_) (fun hc9 => ?_)
  · have hy := hy.t hc9
    refine AW.sub [4] rfl ?_
    exact he1 v5 hy.s
  · have hy := hy.f hc9
    refine aw_iload (pc := 40) hX 4 rfl dX10_placeOn_40 ?_
    refine aw_if_lt (pc := 42) hX 51 (by decide) dX10_placeOn_42 (fun hc9 => ?_) (fun hc9 => ?_)
    · have hy := hy.t hc9
      refine AW.sub [] rfl ?_
      exact he0 () hy.s
    · have hy := hy.f hc9
      refine aw_iload (pc := 45) hX 4 rfl dX10_placeOn_45 ?_
      refine aw_iloadn (pc := 47) hX 2 rfl dX10_placeOn_47 ?_
      refine aw_ic_ne (pc := 48) hX 53 (by decide) dX10_placeOn_48 (fun hc9 => ?_) (fun hc9 => ?_)
      · have hy := hy.f hc9
        refine aw_aloadn (pc := 53) hX 0 rfl dX10_placeOn_53 ?_
        refine aw_aloadn (pc := 54) hX 1 rfl dX10_placeOn_54 ?_
        refine aw_iload (pc := 55) hX 4 rfl dX10_placeOn_55 ?_
        refine aw_callV (pc := 57) (st := []) (a := v0) hX [vR v1, vI v5] (con_X10_placeBehind _ G _ v0 v1 v5 hy.bd) mc_X10_placeBehind ml_X10_58 im_X10_placeBehind se_X10_placeBehind (by decide) hy.bd.kd rfl (rm_of hr (by decide)) (Nat.le_of_ble_eq_true rfl) rfl dX10_placeOn_57 (kpI rfl rfl (fun x4 hy => ?_))
        refine aw_istore (pc := 60) hX [(5, vI x4), (0, vR v0), (1, vR v1), (3, vI v3), (4, vI v4), (6, vI v6)] rfl (lt_n hN (by decide)) dX10_placeOn_60 ?_
        refine aw_iinc (pc := 62) hX 1 (by decide) 5 rfl [(6, vI (v6 + 1)), (5, vI x4), (0, vR v0), (1, vR v1), (3, vI v3), (4, vI v4)] rfl (lt_n hN (by decide)) dX10_placeOn_62 ?_
        refine aw_goto (pc := 65) hX 33 (by decide) dX10_placeOn_65 ?_
        refine AW.sub [2, 3, 4, 5, 1, 0] rfl ?_
        exact hc (x4, (v6 + 1)) hy.s
      · have hy := hy.t hc9
        refine AW.sub [] rfl ?_
        exact he0 () hy.s
theorem wl_X10_placeOn_33 {G : GE} {X : CX} {l : Launch} (hX : Ok G X cX10_placeOn RX10) (hN : xn X = 7) (h : Mem) {P0 : Int32 → Prop} (hr : Rt G X l yX10_placeOn (some .int) rm_X10_placeOn (ppI h P0)) (v0 : Nat) (v1 : Nat) (v3 : Int32) (v4 : Int32) {P : (Unit ⊕ Int32) → Prop} (he0 : ∀ e, P (.inl e) → AW G X 51 [] [] h 0 0) (he1 : ∀ e, P (.inr e) → AW G X 68 [(5, vI e)] [] h 0 0) : ∀ (n : Nat) (s : Int32 × Int32), OK (iter (fun (s : Int32 × Int32) => b_X10_placeOn_33 h v0 v1 v3 v4 s.1 s.2) n s) P → AW G X 33 [(0, vR v0), (1, vR v1), (3, vI v3), (4, vI v4), (5, vI s.1), (6, vI s.2)] [] h 0 0 := by
  intro n
  induction n with
  | zero => exact fun s hy => hy.it0.elim
  | succ n ih =>
    intro s hy
    exact wb_X10_placeOn_33 hX hN h hr v0 v1 v3 v4 (fun s hs => ih s hs) (fun e hs => he0 e hs) (fun e hs => he1 e hs) s.1 s.2 hy.it
def f_X10_placeOn (h : Mem) (v0 : Nat) (v1 : Nat) (v2 : Int32) (v3 : Int32) (v4 : Int32) : Option Int32 :=
  (ck h v0 8).bind fun _ => (gR h v0 0 8).bind fun r1 => (aI h r1 v2).bind fun x2 => (if 1000000 ≤ x2 then some (-1) else (if v4 < 0 then some (-1) else (gI h v1 2 4).bind fun x3 => (if v4 < x3 then (iter (fun (s : Int32 × Int32) => b_X10_placeOn_33 h v0 v1 v3 v4 s.1 s.2) FU (v2, 0)).bind (Sum.elim (fun e6 => some (-1)) (fun e7 => some e7)) else some (-1))))
set_option maxRecDepth 100000 in
set_option maxHeartbeats 4000000 in
theorem w_X10_placeOn {G : GE} {X : CX} {l : Launch} (hX : Ok G X cX10_placeOn RX10) (hN : xn X = 7) (h : Mem) {P : Int32 → Prop} (hr : Rt G X l yX10_placeOn (some .int) rm_X10_placeOn (ppI h P)) (v0 : Nat) (v1 : Nat) (v2 : Int32) (v3 : Int32) (v4 : Int32) (hy : OK (f_X10_placeOn h v0 v1 v2 v3 v4) P) : AW G X 0 [(0, vR v0), (1, vR v1), (2, vI v2), (3, vI v3), (4, vI v4)] [] h 0 0 := by
  unfold f_X10_placeOn at hy
  have hkd := hy.kd
  have hy := hy.kb
  refine aw_aloadn (pc := 0) hX 0 rfl dX10_placeOn_0 ?_
  refine aw_gR (pc := 1) hX hy fl_X10_11 (fun _ _ => rfl) dX10_placeOn_1 (fun r1 hy => ?_)
  refine aw_iloadn (pc := 4) hX 2 rfl dX10_placeOn_4 ?_
  refine aw_aI (pc := 5) hX hy dX10_placeOn_5 (fun x2 hy => ?_)
  refine aw_ldc (pc := 6) hX kc_X10_44 dX10_placeOn_6 ?_
  refine aw_ic_ge (pc := 8) hX 25 (by decide) dX10_placeOn_8 (fun hc9 => ?_) (fun hc9 => ?_)
  · have hy := hy.t hc9
    refine aw_iconst (pc := 25) hX (-1) (by decide) dX10_placeOn_25 ?_
    exact aw_iret (pc := 26) hX hr (by decide) (by decide) dX10_placeOn_26 ⟨rfl, _, rfl, hy.s⟩
  · have hy := hy.f hc9
    refine aw_iload (pc := 11) hX 4 rfl dX10_placeOn_11 ?_
    refine aw_if_lt (pc := 13) hX 25 (by decide) dX10_placeOn_13 (fun hc9 => ?_) (fun hc9 => ?_)
    · have hy := hy.t hc9
      refine aw_iconst (pc := 25) hX (-1) (by decide) dX10_placeOn_25 ?_
      exact aw_iret (pc := 26) hX hr (by decide) (by decide) dX10_placeOn_26 ⟨rfl, _, rfl, hy.s⟩
    · have hy := hy.f hc9
      refine aw_iload (pc := 16) hX 4 rfl dX10_placeOn_16 ?_
      refine aw_aloadn (pc := 18) hX 1 rfl dX10_placeOn_18 ?_
      refine aw_gI (pc := 19) hX hy fl_X10_17 (fun _ _ => rfl) dX10_placeOn_19 (fun x3 hy => ?_)
      refine aw_ic_lt (pc := 22) hX 27 (by decide) dX10_placeOn_22 (fun hc9 => ?_) (fun hc9 => ?_)
      · have hy := hy.t hc9
        refine aw_iloadn (pc := 27) hX 2 rfl dX10_placeOn_27 ?_
        refine aw_istore (pc := 28) hX [(5, vI v2), (0, vR v0), (1, vR v1), (2, vI v2), (3, vI v3), (4, vI v4)] rfl (lt_n hN (by decide)) dX10_placeOn_28 ?_
        refine aw_iconst (pc := 30) hX 0 (by decide) dX10_placeOn_30 ?_
        refine aw_istore (pc := 31) hX [(6, vI 0), (5, vI v2), (0, vR v0), (1, vR v1), (2, vI v2), (3, vI v3), (4, vI v4)] rfl (lt_n hN (by decide)) dX10_placeOn_31 ?_
        refine AW.sub [2, 3, 5, 6, 1, 0] rfl ?_
        refine wl_X10_placeOn_33 hX hN _ hr v0 v1 v3 v4 ?_ ?_ FU (v2, 0) hy.bd
        · intro e6 hy
          refine aw_iconst (pc := 51) hX (-1) (by decide) dX10_placeOn_51 ?_
          exact aw_iret (pc := 52) hX hr (by decide) (by decide) dX10_placeOn_52 ⟨rfl, _, rfl, hy.s⟩
        · intro e7 hy
          refine aw_iload (pc := 68) hX 0 rfl dX10_placeOn_68 ?_
          exact aw_iret (pc := 70) hX hr (by decide) (by decide) dX10_placeOn_70 ⟨rfl, _, rfl, hy.s⟩
      · have hy := hy.f hc9
        refine aw_iconst (pc := 25) hX (-1) (by decide) dX10_placeOn_25 ?_
        exact aw_iret (pc := 26) hX hr (by decide) (by decide) dX10_placeOn_26 ⟨rfl, _, rfl, hy.s⟩
theorem con_X10_placeOn (l : Launch) (G : GE) (h : Mem) (v0 : Nat) (v1 : Nat) (v2 : Int32) (v3 : Int32) (v4 : Int32) {P : Int32 → Prop} (hy : OK (f_X10_placeOn h v0 v1 v2 v3 v4) P) : Con l G yX10_placeOn cX10_placeOn 7 (some .int) rm_X10_placeOn [vR v0, vR v1, vI v2, vI v3, vI v4] h (ppI h P) := Con.of (by decide) (Nat.le_of_ble_eq_true rfl) (fun X hX hr hN => w_X10_placeOn hX hN h hr v0 v1 v2 v3 v4 hy)
/-! X11_init -/
theorem dX11_init_0 : decode cX11_init 0 = .ok (.aload_n 0, 1) := by decide +kernel
theorem dX11_init_1 : decode cX11_init 1 = .ok (.invokespecial 1, 3) := by decide +kernel
theorem dX11_init_4 : decode cX11_init 4 = .ok (.aload_n 0, 1) := by decide +kernel
theorem dX11_init_5 : decode cX11_init 5 = .ok (.new 7, 3) := by decide +kernel
theorem dX11_init_8 : decode cX11_init 8 = .ok (.dup, 1) := by decide +kernel
theorem dX11_init_9 : decode cX11_init 9 = .ok (.invokespecial 9, 3) := by decide +kernel
theorem dX11_init_12 : decode cX11_init 12 = .ok (.putfield 10, 3) := by decide +kernel
theorem dX11_init_15 : decode cX11_init 15 = .ok (.aload_n 0, 1) := by decide +kernel
theorem dX11_init_16 : decode cX11_init 16 = .ok (.new 16, 3) := by decide +kernel
theorem dX11_init_19 : decode cX11_init 19 = .ok (.dup, 1) := by decide +kernel
theorem dX11_init_20 : decode cX11_init 20 = .ok (.invokespecial 18, 3) := by decide +kernel
theorem dX11_init_23 : decode cX11_init 23 = .ok (.putfield 19, 3) := by decide +kernel
theorem dX11_init_26 : decode cX11_init 26 = .ok (.aload_n 0, 1) := by decide +kernel
theorem dX11_init_27 : decode cX11_init 27 = .ok (.new 23, 3) := by decide +kernel
theorem dX11_init_30 : decode cX11_init 30 = .ok (.dup, 1) := by decide +kernel
theorem dX11_init_31 : decode cX11_init 31 = .ok (.invokespecial 25, 3) := by decide +kernel
theorem dX11_init_34 : decode cX11_init 34 = .ok (.putfield 26, 3) := by decide +kernel
theorem dX11_init_37 : decode cX11_init 37 = .ok (.aload_n 0, 1) := by decide +kernel
theorem dX11_init_38 : decode cX11_init 38 = .ok (.new 30, 3) := by decide +kernel
theorem dX11_init_41 : decode cX11_init 41 = .ok (.dup, 1) := by decide +kernel
theorem dX11_init_42 : decode cX11_init 42 = .ok (.invokespecial 32, 3) := by decide +kernel
theorem dX11_init_45 : decode cX11_init 45 = .ok (.putfield 33, 3) := by decide +kernel
theorem dX11_init_48 : decode cX11_init 48 = .ok (.aload_n 0, 1) := by decide +kernel
theorem dX11_init_49 : decode cX11_init 49 = .ok (.new 37, 3) := by decide +kernel
theorem dX11_init_52 : decode cX11_init 52 = .ok (.dup, 1) := by decide +kernel
theorem dX11_init_53 : decode cX11_init 53 = .ok (.invokespecial 39, 3) := by decide +kernel
theorem dX11_init_56 : decode cX11_init 56 = .ok (.putfield 40, 3) := by decide +kernel
theorem dX11_init_59 : decode cX11_init 59 = .ok (.aload_n 0, 1) := by decide +kernel
theorem dX11_init_60 : decode cX11_init 60 = .ok (.new 44, 3) := by decide +kernel
theorem dX11_init_63 : decode cX11_init 63 = .ok (.dup, 1) := by decide +kernel
theorem dX11_init_64 : decode cX11_init 64 = .ok (.invokespecial 46, 3) := by decide +kernel
theorem dX11_init_67 : decode cX11_init 67 = .ok (.putfield 47, 3) := by decide +kernel
theorem dX11_init_70 : decode cX11_init 70 = .ok (.aload_n 0, 1) := by decide +kernel
theorem dX11_init_71 : decode cX11_init 71 = .ok (.new 51, 3) := by decide +kernel
theorem dX11_init_74 : decode cX11_init 74 = .ok (.dup, 1) := by decide +kernel
theorem dX11_init_75 : decode cX11_init 75 = .ok (.invokespecial 53, 3) := by decide +kernel
theorem dX11_init_78 : decode cX11_init 78 = .ok (.putfield 54, 3) := by decide +kernel
theorem dX11_init_81 : decode cX11_init 81 = .ok (.aload_n 0, 1) := by decide +kernel
theorem dX11_init_82 : decode cX11_init 82 = .ok (.new 58, 3) := by decide +kernel
theorem dX11_init_85 : decode cX11_init 85 = .ok (.dup, 1) := by decide +kernel
theorem dX11_init_86 : decode cX11_init 86 = .ok (.invokespecial 60, 3) := by decide +kernel
theorem dX11_init_89 : decode cX11_init 89 = .ok (.putfield 61, 3) := by decide +kernel
theorem dX11_init_92 : decode cX11_init 92 = .ok (.aload_n 0, 1) := by decide +kernel
theorem dX11_init_93 : decode cX11_init 93 = .ok (.new 65, 3) := by decide +kernel
theorem dX11_init_96 : decode cX11_init 96 = .ok (.dup, 1) := by decide +kernel
theorem dX11_init_97 : decode cX11_init 97 = .ok (.invokespecial 67, 3) := by decide +kernel
theorem dX11_init_100 : decode cX11_init 100 = .ok (.putfield 68, 3) := by decide +kernel
theorem dX11_init_103 : decode cX11_init 103 = .ok (.return_, 1) := by decide +kernel
abbrev rm_X11_init : Room := { frames := 6, cells := 53, slots := 3328, locals := 154 }
def f_X11_init (h : Mem) (v0 : Nat) : Option Mem :=
  (ck h v0 9).bind fun _ => (f_X5_init (mNew h 4 0) (mN h)).bind fun h2 => (pR h2 v0 1 9 (mN h)).bind fun h3 => (f_X4_init (mNew h3 3 0) (mN h3)).bind fun h5 => (pR h5 v0 2 9 (mN h3)).bind fun h6 => (f_X2_init (mNew h6 1 0) (mN h6)).bind fun h8 => (pR h8 v0 3 9 (mN h6)).bind fun h9 => (f_X10_init (mNew h9 8 0) (mN h9)).bind fun h11 => (pR h11 v0 4 9 (mN h9)).bind fun h12 => (f_X8_init (mNew h12 7 0) (mN h12)).bind fun h14 => (pR h14 v0 5 9 (mN h12)).bind fun h15 => (f_X6_init (mNew h15 5 0) (mN h15)).bind fun h17 => (pR h17 v0 6 9 (mN h15)).bind fun h18 => (f_X3_init (mNew h18 2 0) (mN h18)).bind fun h20 => (pR h20 v0 7 9 (mN h18)).bind fun h21 => (f_X7_init (mNew h21 6 0) (mN h21)).bind fun h23 => (pR h23 v0 8 9 (mN h21)).bind fun h24 => (f_X0_init (mNew h24 0 0) (mN h24)).bind fun _ => (pR (mNew h24 0 0) v0 9 9 (mN h24)).bind fun h26 => some h26
set_option maxRecDepth 100000 in
set_option maxHeartbeats 4000000 in
theorem w_X11_init {G : GE} {X : CX} {l : Launch} (hX : Ok G X cX11_init RX11) (hN : xn X = 1) {P : Mem → Prop} (hr : Rt G X l yX11_init none rm_X11_init (pmV P)) (h : Mem) (v0 : Nat) (hy : OK (f_X11_init h v0) P) : AW G X 0 [(0, vR v0)] [] h 0 0 := by
  unfold f_X11_init at hy
  have hkd := hy.kd
  have hy := hy.kb
  refine aw_aloadn (pc := 0) hX 0 rfl dX11_init_0 ?_
  refine aw_objInit0 (pc := 1) hX hkd oi_X11_1 oi_i oi_c (by decide) (Nat.le_of_ble_eq_true rfl) (le_f hr (by decide)) (le_l hr (by decide)) dX11_init_1 ?_
  refine aw_aloadn (pc := 4) hX 0 rfl dX11_init_4 ?_
  refine aw_new (pc := 5) hX (ci := 4) (by decide) cl_X11_7 ia_4 in_4 (le_c hr (by decide)) (le_s hr (by decide)) dX11_init_5 ?_
  refine AW.eqa (ce' := 1) (sl' := 20) rfl rfl ?_
  refine aw_dup (pc := 8) hX rfl dX11_init_8 ?_
  refine aw_callINk (pc := 9) (st := [vR (mN h), vR v0]) (a := (mN h)) hX [] (con_X5_init _ G _ (mN h) hy.bd) mc_X5_init ml_X11_9 im_X5_init rfl hy.bd.kd (by decide) rfl (rm_of hr (by decide)) (Nat.le_of_ble_eq_true rfl) rfl dX11_init_9 (kmVa (ce' := 12) (sl' := 243) rfl rfl (fun h2 hy => ?_))
  refine aw_pR (pc := 12) hX hy fl_X11_10 rfl (Or.inl rfl) dX11_init_12 (fun h3 hy => ?_)
  refine aw_aloadn (pc := 15) hX 0 rfl dX11_init_15 ?_
  refine aw_new (pc := 16) hX (ci := 3) (by decide) cl_X11_16 ia_3 in_3 (le_c hr (by decide)) (le_s hr (by decide)) dX11_init_16 ?_
  refine AW.eqa (ce' := 13) (sl' := 261) rfl rfl ?_
  refine aw_dup (pc := 19) hX rfl dX11_init_19 ?_
  refine aw_callIk (pc := 20) (st := [vR (mN h3), vR v0]) (a := (mN h3)) hX [] (con_X4_init _ G _ (mN h3) hy.bd) mc_X4_init ml_X11_18 im_X4_init rfl hy.bd.kd (by decide) rfl (rm_of hr (by decide)) (Nat.le_of_ble_eq_true rfl) rfl dX11_init_20 (kmVa (ce' := 31) (sl' := 1584) rfl rfl (fun h5 hy => ?_))
  refine aw_pR (pc := 23) hX hy fl_X11_19 rfl (Or.inr ⟨rfl, hr.2.2.2.1, rfl, fw_X11_19⟩) dX11_init_23 (fun h6 hy => ?_)
  refine aw_aloadn (pc := 26) hX 0 rfl dX11_init_26 ?_
  refine aw_new (pc := 27) hX (ci := 1) (by decide) cl_X11_23 ia_1 in_1 (le_c hr (by decide)) (le_s hr (by decide)) dX11_init_27 ?_
  refine AW.eqa (ce' := 32) (sl' := 1590) rfl rfl ?_
  refine aw_dup (pc := 30) hX rfl dX11_init_30 ?_
  refine aw_callINk (pc := 31) (st := [vR (mN h6), vR v0]) (a := (mN h6)) hX [] (con_X2_init _ G _ (mN h6) hy.bd) mc_X2_init ml_X11_25 im_X2_init rfl hy.bd.kd (by decide) rfl (rm_of hr (by decide)) (Nat.le_of_ble_eq_true rfl) rfl dX11_init_31 (kmVa (ce' := 35) (sl' := 2010) rfl rfl (fun h8 hy => ?_))
  refine aw_pR (pc := 34) hX hy fl_X11_26 rfl (Or.inr ⟨rfl, hr.2.2.2.1, rfl, fw_X11_26⟩) dX11_init_34 (fun h9 hy => ?_)
  refine aw_aloadn (pc := 37) hX 0 rfl dX11_init_37 ?_
  refine aw_new (pc := 38) hX (ci := 8) (by decide) cl_X11_30 ia_8 in_8 (le_c hr (by decide)) (le_s hr (by decide)) dX11_init_38 ?_
  refine AW.eqa (ce' := 36) (sl' := 2013) rfl rfl ?_
  refine aw_dup (pc := 41) hX rfl dX11_init_41 ?_
  refine aw_callINk (pc := 42) (st := [vR (mN h9), vR v0]) (a := (mN h9)) hX [] (con_X10_init _ G _ (mN h9) hy.bd) mc_X10_init ml_X11_32 im_X10_init rfl hy.bd.kd (by decide) rfl (rm_of hr (by decide)) (Nat.le_of_ble_eq_true rfl) rfl dX11_init_42 (kmVa (ce' := 37) (sl' := 2020) rfl rfl (fun h11 hy => ?_))
  refine aw_pR (pc := 45) hX hy fl_X11_33 rfl (Or.inr ⟨rfl, hr.2.2.2.1, rfl, fw_X11_33⟩) dX11_init_45 (fun h12 hy => ?_)
  refine aw_aloadn (pc := 48) hX 0 rfl dX11_init_48 ?_
  refine aw_new (pc := 49) hX (ci := 7) (by decide) cl_X11_37 ia_7 in_7 (le_c hr (by decide)) (le_s hr (by decide)) dX11_init_49 ?_
  refine AW.eqa (ce' := 38) (sl' := 2023) rfl rfl ?_
  refine aw_dup (pc := 52) hX rfl dX11_init_52 ?_
  refine aw_callINk (pc := 53) (st := [vR (mN h12), vR v0]) (a := (mN h12)) hX [] (con_X8_init _ G _ (mN h12) hy.bd) mc_X8_init ml_X11_39 im_X8_init rfl hy.bd.kd (by decide) rfl (rm_of hr (by decide)) (Nat.le_of_ble_eq_true rfl) rfl dX11_init_53 (kmVa (ce' := 41) (sl' := 2215) rfl rfl (fun h14 hy => ?_))
  refine aw_pR (pc := 56) hX hy fl_X11_40 rfl (Or.inr ⟨rfl, hr.2.2.2.1, rfl, fw_X11_40⟩) dX11_init_56 (fun h15 hy => ?_)
  refine aw_aloadn (pc := 59) hX 0 rfl dX11_init_59 ?_
  refine aw_new (pc := 60) hX (ci := 5) (by decide) cl_X11_44 ia_5 in_5 (le_c hr (by decide)) (le_s hr (by decide)) dX11_init_60 ?_
  refine AW.eqa (ce' := 42) (sl' := 2220) rfl rfl ?_
  refine aw_dup (pc := 63) hX rfl dX11_init_63 ?_
  refine aw_callINk (pc := 64) (st := [vR (mN h15), vR v0]) (a := (mN h15)) hX [] (con_X6_init _ G _ (mN h15) hy.bd) mc_X6_init ml_X11_46 im_X6_init rfl hy.bd.kd (by decide) rfl (rm_of hr (by decide)) (Nat.le_of_ble_eq_true rfl) rfl dX11_init_64 (kmVa (ce' := 45) (sl' := 3158) rfl rfl (fun h17 hy => ?_))
  refine aw_pR (pc := 67) hX hy fl_X11_47 rfl (Or.inr ⟨rfl, hr.2.2.2.1, rfl, fw_X11_47⟩) dX11_init_67 (fun h18 hy => ?_)
  refine aw_aloadn (pc := 70) hX 0 rfl dX11_init_70 ?_
  refine aw_new (pc := 71) hX (ci := 2) (by decide) cl_X11_51 ia_2 in_2 (le_c hr (by decide)) (le_s hr (by decide)) dX11_init_71 ?_
  refine AW.eqa (ce' := 46) (sl' := 3161) rfl rfl ?_
  refine aw_dup (pc := 74) hX rfl dX11_init_74 ?_
  refine aw_callINk (pc := 75) (st := [vR (mN h18), vR v0]) (a := (mN h18)) hX [] (con_X3_init _ G _ (mN h18) hy.bd) mc_X3_init ml_X11_53 im_X3_init rfl hy.bd.kd (by decide) rfl (rm_of hr (by decide)) (Nat.le_of_ble_eq_true rfl) rfl dX11_init_75 (kmVa (ce' := 49) (sl' := 3237) rfl rfl (fun h20 hy => ?_))
  refine aw_pR (pc := 78) hX hy fl_X11_54 rfl (Or.inr ⟨rfl, hr.2.2.2.1, rfl, fw_X11_54⟩) dX11_init_78 (fun h21 hy => ?_)
  refine aw_aloadn (pc := 81) hX 0 rfl dX11_init_81 ?_
  refine aw_new (pc := 82) hX (ci := 6) (by decide) cl_X11_58 ia_6 in_6 (le_c hr (by decide)) (le_s hr (by decide)) dX11_init_82 ?_
  refine AW.eqa (ce' := 50) (sl' := 3239) rfl rfl ?_
  refine aw_dup (pc := 85) hX rfl dX11_init_85 ?_
  refine aw_callINk (pc := 86) (st := [vR (mN h21), vR v0]) (a := (mN h21)) hX [] (con_X7_init _ G _ (mN h21) hy.bd) mc_X7_init ml_X11_60 im_X7_init rfl hy.bd.kd (by decide) rfl (rm_of hr (by decide)) (Nat.le_of_ble_eq_true rfl) rfl dX11_init_86 (kmVa (ce' := 52) (sl' := 3323) rfl rfl (fun h23 hy => ?_))
  refine aw_pR (pc := 89) hX hy fl_X11_61 rfl (Or.inr ⟨rfl, hr.2.2.2.1, rfl, fw_X11_61⟩) dX11_init_89 (fun h24 hy => ?_)
  refine aw_aloadn (pc := 92) hX 0 rfl dX11_init_92 ?_
  refine aw_new (pc := 93) hX (ci := 0) (by decide) cl_X11_65 ia_0 in_0 (le_c hr (by decide)) (le_s hr (by decide)) dX11_init_93 ?_
  refine AW.eqa (ce' := 53) (sl' := 3328) rfl rfl ?_
  refine aw_dup (pc := 96) hX rfl dX11_init_96 ?_
  refine aw_callINk (pc := 97) (st := [vR (mN h24), vR v0]) (a := (mN h24)) hX [] (con_X0_init _ G _ (mN h24) hy.bd) mc_X0_init ml_X11_67 im_X0_init rfl hy.bd.kd (by decide) rfl (rm_of hr (by decide)) (Nat.le_of_ble_eq_true rfl) rfl dX11_init_97 (kpV rfl rfl (fun _ hy => ?_))
  refine aw_pR (pc := 100) hX hy fl_X11_68 rfl (Or.inr ⟨rfl, hr.2.2.2.1, rfl, fw_X11_68⟩) dX11_init_100 (fun h26 hy => ?_)
  exact aw_vret (pc := 103) hX hr (by decide) (by decide) dX11_init_103 ⟨rfl, hy.s⟩
theorem con_X11_init (l : Launch) (G : GE) (h : Mem) (v0 : Nat) {P : Mem → Prop} (hy : OK (f_X11_init h v0) P) : Con l G yX11_init cX11_init 1 none rm_X11_init [vR v0] h (pmV P) := Con.of (by decide) (Nat.le_of_ble_eq_true rfl) (fun X hX hr hN => w_X11_init hX hN hr h v0 hy)
/-! X11_feed -/
theorem dX11_feed_0 : decode cX11_feed 0 = .ok (.aload_n 0, 1) := by decide +kernel
theorem dX11_feed_1 : decode cX11_feed 1 = .ok (.getfield 19, 3) := by decide +kernel
theorem dX11_feed_4 : decode cX11_feed 4 = .ok (.bipush 20, 2) := by decide +kernel
theorem dX11_feed_6 : decode cX11_feed 6 = .ok (.invokevirtual 72, 3) := by decide +kernel
theorem dX11_feed_9 : decode cX11_feed 9 = .ok (.ifCond .ne 5, 3) := by decide +kernel
theorem dX11_feed_12 : decode cX11_feed 12 = .ok (.iconst (-1), 1) := by decide +kernel
theorem dX11_feed_13 : decode cX11_feed 13 = .ok (.ireturn, 1) := by decide +kernel
theorem dX11_feed_14 : decode cX11_feed 14 = .ok (.aload_n 0, 1) := by decide +kernel
theorem dX11_feed_15 : decode cX11_feed 15 = .ok (.getfield 19, 3) := by decide +kernel
theorem dX11_feed_18 : decode cX11_feed 18 = .ok (.iload_n 1, 1) := by decide +kernel
theorem dX11_feed_19 : decode cX11_feed 19 = .ok (.invokevirtual 76, 3) := by decide +kernel
theorem dX11_feed_22 : decode cX11_feed 22 = .ok (.aload_n 0, 1) := by decide +kernel
theorem dX11_feed_23 : decode cX11_feed 23 = .ok (.getfield 19, 3) := by decide +kernel
theorem dX11_feed_26 : decode cX11_feed 26 = .ok (.iload_n 2, 1) := by decide +kernel
theorem dX11_feed_27 : decode cX11_feed 27 = .ok (.invokevirtual 76, 3) := by decide +kernel
theorem dX11_feed_30 : decode cX11_feed 30 = .ok (.aload_n 0, 1) := by decide +kernel
theorem dX11_feed_31 : decode cX11_feed 31 = .ok (.getfield 19, 3) := by decide +kernel
theorem dX11_feed_34 : decode cX11_feed 34 = .ok (.iload_n 3, 1) := by decide +kernel
theorem dX11_feed_35 : decode cX11_feed 35 = .ok (.invokevirtual 76, 3) := by decide +kernel
theorem dX11_feed_38 : decode cX11_feed 38 = .ok (.aload_n 0, 1) := by decide +kernel
theorem dX11_feed_39 : decode cX11_feed 39 = .ok (.getfield 19, 3) := by decide +kernel
theorem dX11_feed_42 : decode cX11_feed 42 = .ok (.iload 4, 2) := by decide +kernel
theorem dX11_feed_44 : decode cX11_feed 44 = .ok (.invokevirtual 76, 3) := by decide +kernel
theorem dX11_feed_47 : decode cX11_feed 47 = .ok (.aload_n 0, 1) := by decide +kernel
theorem dX11_feed_48 : decode cX11_feed 48 = .ok (.getfield 19, 3) := by decide +kernel
theorem dX11_feed_51 : decode cX11_feed 51 = .ok (.iload 5, 2) := by decide +kernel
theorem dX11_feed_53 : decode cX11_feed 53 = .ok (.invokevirtual 76, 3) := by decide +kernel
theorem dX11_feed_56 : decode cX11_feed 56 = .ok (.aload_n 0, 1) := by decide +kernel
theorem dX11_feed_57 : decode cX11_feed 57 = .ok (.getfield 19, 3) := by decide +kernel
theorem dX11_feed_60 : decode cX11_feed 60 = .ok (.getfield 80, 3) := by decide +kernel
theorem dX11_feed_63 : decode cX11_feed 63 = .ok (.ireturn, 1) := by decide +kernel
abbrev rm_X11_feed : Room := { frames := 1, cells := 0, slots := 0, locals := 22 }
def f_X11_feed (h : Mem) (v0 : Nat) (v1 : Int32) (v2 : Int32) (v3 : Int32) (v4 : Int32) (v5 : Int32) : Option (Int32 × Mem) :=
  (ck h v0 9).bind fun _ => (gR h v0 2 9).bind fun r1 => (f_X4_hasRoomFor h r1 20).bind fun x2 => (if x2 = 0 then some ((-1), h) else (gR h v0 2 9).bind fun r3 => (f_X4_append h r3 v1).bind fun h4 => (gR h4 v0 2 9).bind fun r5 => (f_X4_append h4 r5 v2).bind fun h6 => (gR h6 v0 2 9).bind fun r7 => (f_X4_append h6 r7 v3).bind fun h8 => (gR h8 v0 2 9).bind fun r9 => (f_X4_append h8 r9 v4).bind fun h10 => (gR h10 v0 2 9).bind fun r11 => (f_X4_append h10 r11 v5).bind fun h12 => (gR h12 v0 2 9).bind fun r13 => (gI h12 r13 15 3).bind fun x14 => some (x14, h12))
set_option maxRecDepth 100000 in
set_option maxHeartbeats 4000000 in
theorem w_X11_feed {G : GE} {X : CX} {l : Launch} (hX : Ok G X cX11_feed RX11) (hN : xn X = 6) {P : (Int32 × Mem) → Prop} (hr : Rt G X l yX11_feed (some .int) rm_X11_feed (pmI P)) (h : Mem) (v0 : Nat) (v1 : Int32) (v2 : Int32) (v3 : Int32) (v4 : Int32) (v5 : Int32) (hy : OK (f_X11_feed h v0 v1 v2 v3 v4 v5) P) : AW G X 0 [(0, vR v0), (1, vI v1), (2, vI v2), (3, vI v3), (4, vI v4), (5, vI v5)] [] h 0 0 := by
  unfold f_X11_feed at hy
  have hkd := hy.kd
  have hy := hy.kb
  refine aw_aloadn (pc := 0) hX 0 rfl dX11_feed_0 ?_
  refine aw_gR (pc := 1) hX hy fl_X11_19 (fun _ _ => rfl) dX11_feed_1 (fun r1 hy => ?_)
  refine aw_bipush (pc := 4) hX 20 (by decide) dX11_feed_4 ?_
  refine aw_callV (pc := 6) (st := []) (a := r1) hX [vI 20] (con_X4_hasRoomFor _ G _ r1 20 hy.bd) mc_X4_hasRoomFor ml_X11_72 im_X4_hasRoomFor se_X4_hasRoomFor (by decide) hy.bd.kd rfl (rm_of hr (by decide)) (Nat.le_of_ble_eq_true rfl) rfl dX11_feed_6 (kpI rfl rfl (fun x2 hy => ?_))
  refine aw_if_ne (pc := 9) hX 14 (by decide) dX11_feed_9 (fun hc9 => ?_) (fun hc9 => ?_)
  · have hy := hy.f hc9
    refine aw_aloadn (pc := 14) hX 0 rfl dX11_feed_14 ?_
    refine aw_gR (pc := 15) hX hy fl_X11_19 (fun _ _ => rfl) dX11_feed_15 (fun r3 hy => ?_)
    refine aw_iloadn (pc := 18) hX 1 rfl dX11_feed_18 ?_
    refine aw_callV (pc := 19) (st := []) (a := r3) hX [vI v1] (con_X4_append _ G _ r3 v1 hy.bd) mc_X4_append ml_X11_76 im_X4_append se_X4_append (by decide) hy.bd.kd rfl (rm_of hr (by decide)) (Nat.le_of_ble_eq_true rfl) rfl dX11_feed_19 (kmV rfl rfl (fun h4 hy => ?_))
    refine aw_aloadn (pc := 22) hX 0 rfl dX11_feed_22 ?_
    refine aw_gR (pc := 23) hX hy fl_X11_19 (fun _ _ => rfl) dX11_feed_23 (fun r5 hy => ?_)
    refine aw_iloadn (pc := 26) hX 2 rfl dX11_feed_26 ?_
    refine aw_callV (pc := 27) (st := []) (a := r5) hX [vI v2] (con_X4_append _ G _ r5 v2 hy.bd) mc_X4_append ml_X11_76 im_X4_append se_X4_append (by decide) hy.bd.kd rfl (rm_of hr (by decide)) (Nat.le_of_ble_eq_true rfl) rfl dX11_feed_27 (kmV rfl rfl (fun h6 hy => ?_))
    refine aw_aloadn (pc := 30) hX 0 rfl dX11_feed_30 ?_
    refine aw_gR (pc := 31) hX hy fl_X11_19 (fun _ _ => rfl) dX11_feed_31 (fun r7 hy => ?_)
    refine aw_iloadn (pc := 34) hX 3 rfl dX11_feed_34 ?_
    refine aw_callV (pc := 35) (st := []) (a := r7) hX [vI v3] (con_X4_append _ G _ r7 v3 hy.bd) mc_X4_append ml_X11_76 im_X4_append se_X4_append (by decide) hy.bd.kd rfl (rm_of hr (by decide)) (Nat.le_of_ble_eq_true rfl) rfl dX11_feed_35 (kmV rfl rfl (fun h8 hy => ?_))
    refine aw_aloadn (pc := 38) hX 0 rfl dX11_feed_38 ?_
    refine aw_gR (pc := 39) hX hy fl_X11_19 (fun _ _ => rfl) dX11_feed_39 (fun r9 hy => ?_)
    refine aw_iload (pc := 42) hX 4 rfl dX11_feed_42 ?_
    refine aw_callV (pc := 44) (st := []) (a := r9) hX [vI v4] (con_X4_append _ G _ r9 v4 hy.bd) mc_X4_append ml_X11_76 im_X4_append se_X4_append (by decide) hy.bd.kd rfl (rm_of hr (by decide)) (Nat.le_of_ble_eq_true rfl) rfl dX11_feed_44 (kmV rfl rfl (fun h10 hy => ?_))
    refine aw_aloadn (pc := 47) hX 0 rfl dX11_feed_47 ?_
    refine aw_gR (pc := 48) hX hy fl_X11_19 (fun _ _ => rfl) dX11_feed_48 (fun r11 hy => ?_)
    refine aw_iload (pc := 51) hX 5 rfl dX11_feed_51 ?_
    refine aw_callV (pc := 53) (st := []) (a := r11) hX [vI v5] (con_X4_append _ G _ r11 v5 hy.bd) mc_X4_append ml_X11_76 im_X4_append se_X4_append (by decide) hy.bd.kd rfl (rm_of hr (by decide)) (Nat.le_of_ble_eq_true rfl) rfl dX11_feed_53 (kmV rfl rfl (fun h12 hy => ?_))
    refine aw_aloadn (pc := 56) hX 0 rfl dX11_feed_56 ?_
    refine aw_gR (pc := 57) hX hy fl_X11_19 (fun _ _ => rfl) dX11_feed_57 (fun r13 hy => ?_)
    refine aw_gI (pc := 60) hX hy fl_X11_80 (fun _ _ => rfl) dX11_feed_60 (fun x14 hy => ?_)
    exact aw_iret (pc := 63) hX hr (by decide) (by decide) dX11_feed_63 ⟨_, rfl, hy.s⟩
  · have hy := hy.t hc9
    refine aw_iconst (pc := 12) hX (-1) (by decide) dX11_feed_12 ?_
    exact aw_iret (pc := 13) hX hr (by decide) (by decide) dX11_feed_13 ⟨_, rfl, hy.s⟩
theorem con_X11_feed (l : Launch) (G : GE) (h : Mem) (v0 : Nat) (v1 : Int32) (v2 : Int32) (v3 : Int32) (v4 : Int32) (v5 : Int32) {P : (Int32 × Mem) → Prop} (hy : OK (f_X11_feed h v0 v1 v2 v3 v4 v5) P) : Con l G yX11_feed cX11_feed 6 (some .int) rm_X11_feed [vR v0, vI v1, vI v2, vI v3, vI v4, vI v5] h (pmI P) := Con.of (by decide) (Nat.le_of_ble_eq_true rfl) (fun X hX hr hN => w_X11_feed hX hN hr h v0 v1 v2 v3 v4 v5 hy)
/-! X11_refuse -/
theorem dX11_refuse_0 : decode cX11_refuse 0 = .ok (.aload_n 0, 1) := by decide +kernel
theorem dX11_refuse_1 : decode cX11_refuse 1 = .ok (.iload_n 1, 1) := by decide +kernel
theorem dX11_refuse_2 : decode cX11_refuse 2 = .ok (.putfield 123, 3) := by decide +kernel
theorem dX11_refuse_5 : decode cX11_refuse 5 = .ok (.iconst (-1), 1) := by decide +kernel
theorem dX11_refuse_6 : decode cX11_refuse 6 = .ok (.ireturn, 1) := by decide +kernel
abbrev rm_X11_refuse : Room := { frames := 0, cells := 0, slots := 0, locals := 0 }
def f_X11_refuse (h : Mem) (v0 : Nat) (v1 : Int32) : Option (Int32 × Mem) :=
  (ck h v0 9).bind fun _ => (pI h v0 0 9 v1).bind fun h1 => some ((-1), h1)
set_option maxRecDepth 100000 in
set_option maxHeartbeats 4000000 in
theorem w_X11_refuse {G : GE} {X : CX} {l : Launch} (hX : Ok G X cX11_refuse RX11) (hN : xn X = 2) {P : (Int32 × Mem) → Prop} (hr : Rt G X l yX11_refuse (some .int) rm_X11_refuse (pmI P)) (h : Mem) (v0 : Nat) (v1 : Int32) (hy : OK (f_X11_refuse h v0 v1) P) : AW G X 0 [(0, vR v0), (1, vI v1)] [] h 0 0 := by
  unfold f_X11_refuse at hy
  have hkd := hy.kd
  have hy := hy.kb
  refine aw_aloadn (pc := 0) hX 0 rfl dX11_refuse_0 ?_
  refine aw_iloadn (pc := 1) hX 1 rfl dX11_refuse_1 ?_
  refine aw_pI (pc := 2) hX hy fl_X11_123 rfl (Or.inl rfl) dX11_refuse_2 (fun h1 hy => ?_)
  refine aw_iconst (pc := 5) hX (-1) (by decide) dX11_refuse_5 ?_
  exact aw_iret (pc := 6) hX hr (by decide) (by decide) dX11_refuse_6 ⟨_, rfl, hy.s⟩
theorem con_X11_refuse (l : Launch) (G : GE) (h : Mem) (v0 : Nat) (v1 : Int32) {P : (Int32 × Mem) → Prop} (hy : OK (f_X11_refuse h v0 v1) P) : Con l G yX11_refuse cX11_refuse 2 (some .int) rm_X11_refuse [vR v0, vI v1] h (pmI P) := Con.of (by decide) (Nat.le_of_ble_eq_true rfl) (fun X hX hr hN => w_X11_refuse hX hN hr h v0 v1 hy)
/-! X11_answer -/
theorem dX11_answer_0 : decode cX11_answer 0 = .ok (.aload_n 0, 1) := by decide +kernel
theorem dX11_answer_1 : decode cX11_answer 1 = .ok (.iconst 0, 1) := by decide +kernel
theorem dX11_answer_2 : decode cX11_answer 2 = .ok (.putfield 123, 3) := by decide +kernel
theorem dX11_answer_5 : decode cX11_answer 5 = .ok (.iload_n 1, 1) := by decide +kernel
theorem dX11_answer_6 : decode cX11_answer 6 = .ok (.ireturn, 1) := by decide +kernel
abbrev rm_X11_answer : Room := { frames := 0, cells := 0, slots := 0, locals := 0 }
def f_X11_answer (h : Mem) (v0 : Nat) (v1 : Int32) : Option (Int32 × Mem) :=
  (ck h v0 9).bind fun _ => (pI h v0 0 9 0).bind fun h1 => some (v1, h1)
set_option maxRecDepth 100000 in
set_option maxHeartbeats 4000000 in
theorem w_X11_answer {G : GE} {X : CX} {l : Launch} (hX : Ok G X cX11_answer RX11) (hN : xn X = 2) {P : (Int32 × Mem) → Prop} (hr : Rt G X l yX11_answer (some .int) rm_X11_answer (pmI P)) (h : Mem) (v0 : Nat) (v1 : Int32) (hy : OK (f_X11_answer h v0 v1) P) : AW G X 0 [(0, vR v0), (1, vI v1)] [] h 0 0 := by
  unfold f_X11_answer at hy
  have hkd := hy.kd
  have hy := hy.kb
  refine aw_aloadn (pc := 0) hX 0 rfl dX11_answer_0 ?_
  refine aw_iconst (pc := 1) hX 0 (by decide) dX11_answer_1 ?_
  refine aw_pI (pc := 2) hX hy fl_X11_123 rfl (Or.inl rfl) dX11_answer_2 (fun h1 hy => ?_)
  refine aw_iloadn (pc := 5) hX 1 rfl dX11_answer_5 ?_
  exact aw_iret (pc := 6) hX hr (by decide) (by decide) dX11_answer_6 ⟨_, rfl, hy.s⟩
theorem con_X11_answer (l : Launch) (G : GE) (h : Mem) (v0 : Nat) (v1 : Int32) {P : (Int32 × Mem) → Prop} (hy : OK (f_X11_answer h v0 v1) P) : Con l G yX11_answer cX11_answer 2 (some .int) rm_X11_answer [vR v0, vI v1] h (pmI P) := Con.of (by decide) (Nat.le_of_ble_eq_true rfl) (fun X hX hr hN => w_X11_answer hX hN hr h v0 v1 hy)
/-! X11_turnpike -/
theorem dX11_turnpike_0 : decode cX11_turnpike 0 = .ok (.iload_n 1, 1) := by decide +kernel
theorem dX11_turnpike_1 : decode cX11_turnpike 1 = .ok (.ifCond .lt 14, 3) := by decide +kernel
theorem dX11_turnpike_4 : decode cX11_turnpike 4 = .ok (.iload_n 1, 1) := by decide +kernel
theorem dX11_turnpike_5 : decode cX11_turnpike 5 = .ok (.aload_n 0, 1) := by decide +kernel
theorem dX11_turnpike_6 : decode cX11_turnpike 6 = .ok (.getfield 19, 3) := by decide +kernel
theorem dX11_turnpike_9 : decode cX11_turnpike 9 = .ok (.getfield 80, 3) := by decide +kernel
theorem dX11_turnpike_12 : decode cX11_turnpike 12 = .ok (.if_icmp .le 9, 3) := by decide +kernel
theorem dX11_turnpike_15 : decode cX11_turnpike 15 = .ok (.aload_n 0, 1) := by decide +kernel
theorem dX11_turnpike_16 : decode cX11_turnpike 16 = .ok (.iconst 2, 1) := by decide +kernel
theorem dX11_turnpike_17 : decode cX11_turnpike 17 = .ok (.invokevirtual 84, 3) := by decide +kernel
theorem dX11_turnpike_20 : decode cX11_turnpike 20 = .ok (.ireturn, 1) := by decide +kernel
theorem dX11_turnpike_21 : decode cX11_turnpike 21 = .ok (.aload_n 0, 1) := by decide +kernel
theorem dX11_turnpike_22 : decode cX11_turnpike 22 = .ok (.getfield 19, 3) := by decide +kernel
theorem dX11_turnpike_25 : decode cX11_turnpike 25 = .ok (.iload_n 1, 1) := by decide +kernel
theorem dX11_turnpike_26 : decode cX11_turnpike 26 = .ok (.invokevirtual 88, 3) := by decide +kernel
theorem dX11_turnpike_29 : decode cX11_turnpike 29 = .ok (.ifCond .ne 9, 3) := by decide +kernel
theorem dX11_turnpike_32 : decode cX11_turnpike 32 = .ok (.aload_n 0, 1) := by decide +kernel
theorem dX11_turnpike_33 : decode cX11_turnpike 33 = .ok (.iconst 4, 1) := by decide +kernel
theorem dX11_turnpike_34 : decode cX11_turnpike 34 = .ok (.invokevirtual 84, 3) := by decide +kernel
theorem dX11_turnpike_37 : decode cX11_turnpike 37 = .ok (.ireturn, 1) := by decide +kernel
theorem dX11_turnpike_38 : decode cX11_turnpike 38 = .ok (.aload_n 0, 1) := by decide +kernel
theorem dX11_turnpike_39 : decode cX11_turnpike 39 = .ok (.aload_n 0, 1) := by decide +kernel
theorem dX11_turnpike_40 : decode cX11_turnpike 40 = .ok (.getfield 19, 3) := by decide +kernel
theorem dX11_turnpike_43 : decode cX11_turnpike 43 = .ok (.aload_n 0, 1) := by decide +kernel
theorem dX11_turnpike_44 : decode cX11_turnpike 44 = .ok (.getfield 10, 3) := by decide +kernel
theorem dX11_turnpike_47 : decode cX11_turnpike 47 = .ok (.invokevirtual 91, 3) := by decide +kernel
theorem dX11_turnpike_50 : decode cX11_turnpike 50 = .ok (.putfield 10, 3) := by decide +kernel
theorem dX11_turnpike_53 : decode cX11_turnpike 53 = .ok (.aload_n 0, 1) := by decide +kernel
theorem dX11_turnpike_54 : decode cX11_turnpike 54 = .ok (.getfield 26, 3) := by decide +kernel
theorem dX11_turnpike_57 : decode cX11_turnpike 57 = .ok (.aload_n 0, 1) := by decide +kernel
theorem dX11_turnpike_58 : decode cX11_turnpike 58 = .ok (.getfield 10, 3) := by decide +kernel
theorem dX11_turnpike_61 : decode cX11_turnpike 61 = .ok (.getfield 95, 3) := by decide +kernel
theorem dX11_turnpike_64 : decode cX11_turnpike 64 = .ok (.invokevirtual 99, 3) := by decide +kernel
theorem dX11_turnpike_67 : decode cX11_turnpike 67 = .ok (.aload_n 0, 1) := by decide +kernel
theorem dX11_turnpike_68 : decode cX11_turnpike 68 = .ok (.getfield 10, 3) := by decide +kernel
theorem dX11_turnpike_71 : decode cX11_turnpike 71 = .ok (.invokestatic 103, 3) := by decide +kernel
theorem dX11_turnpike_74 : decode cX11_turnpike 74 = .ok (.aload_n 0, 1) := by decide +kernel
theorem dX11_turnpike_75 : decode cX11_turnpike 75 = .ok (.getfield 47, 3) := by decide +kernel
theorem dX11_turnpike_78 : decode cX11_turnpike 78 = .ok (.invokevirtual 109, 3) := by decide +kernel
theorem dX11_turnpike_81 : decode cX11_turnpike 81 = .ok (.aload_n 0, 1) := by decide +kernel
theorem dX11_turnpike_82 : decode cX11_turnpike 82 = .ok (.getfield 54, 3) := by decide +kernel
theorem dX11_turnpike_85 : decode cX11_turnpike 85 = .ok (.aload_n 0, 1) := by decide +kernel
theorem dX11_turnpike_86 : decode cX11_turnpike 86 = .ok (.getfield 10, 3) := by decide +kernel
theorem dX11_turnpike_89 : decode cX11_turnpike 89 = .ok (.invokevirtual 112, 3) := by decide +kernel
theorem dX11_turnpike_92 : decode cX11_turnpike 92 = .ok (.aload_n 0, 1) := by decide +kernel
theorem dX11_turnpike_93 : decode cX11_turnpike 93 = .ok (.getfield 61, 3) := by decide +kernel
theorem dX11_turnpike_96 : decode cX11_turnpike 96 = .ok (.aload_n 0, 1) := by decide +kernel
theorem dX11_turnpike_97 : decode cX11_turnpike 97 = .ok (.getfield 10, 3) := by decide +kernel
theorem dX11_turnpike_100 : decode cX11_turnpike 100 = .ok (.invokevirtual 113, 3) := by decide +kernel
theorem dX11_turnpike_103 : decode cX11_turnpike 103 = .ok (.aload_n 0, 1) := by decide +kernel
theorem dX11_turnpike_104 : decode cX11_turnpike 104 = .ok (.aload_n 0, 1) := by decide +kernel
theorem dX11_turnpike_105 : decode cX11_turnpike 105 = .ok (.getfield 10, 3) := by decide +kernel
theorem dX11_turnpike_108 : decode cX11_turnpike 108 = .ok (.getfield 114, 3) := by decide +kernel
theorem dX11_turnpike_111 : decode cX11_turnpike 111 = .ok (.invokevirtual 117, 3) := by decide +kernel
theorem dX11_turnpike_114 : decode cX11_turnpike 114 = .ok (.ireturn, 1) := by decide +kernel
abbrev rm_X11_turnpike : Room := { frames := 6, cells := 0, slots := 0, locals := 135 }
def f_X11_turnpike_15 (h : Mem) (v0 : Nat) : Option (Int32 × Mem) :=
  (f_X11_refuse h v0 2).bind fun q3 => some (q3.1, q3.2)
set_option maxRecDepth 100000 in
set_option maxHeartbeats 4000000 in
theorem w_X11_turnpike_15 {G : GE} {X : CX} {l : Launch} (hX : Ok G X cX11_turnpike RX11) (hN : xn X = 2) {P : (Int32 × Mem) → Prop} (hr : Rt G X l yX11_turnpike (some .int) rm_X11_turnpike (pmI P)) (h : Mem) (v0 : Nat) (hy : OK (f_X11_turnpike_15 h v0) P) : AW G X 15 [(0, vR v0)] [] h 0 0 := by
  unfold f_X11_turnpike_15 at hy
  refine aw_aloadn (pc := 15) hX 0 rfl dX11_turnpike_15 ?_
  refine aw_iconst (pc := 16) hX 2 (by decide) dX11_turnpike_16 ?_
  refine aw_callV (pc := 17) (st := []) (a := v0) hX [vI 2] (con_X11_refuse _ G _ v0 2 hy.bd) mc_X11_refuse ml_X11_84 im_X11_refuse se_X11_refuse (by decide) hy.bd.kd rfl (rm_of hr (by decide)) (Nat.le_of_ble_eq_true rfl) rfl dX11_turnpike_17 (kmI rfl rfl (fun q3 hy => ?_))
  exact aw_iret (pc := 20) hX hr (by decide) (by decide) dX11_turnpike_20 ⟨_, rfl, hy.s⟩
def f_X11_turnpike (h : Mem) (v0 : Nat) (v1 : Int32) : Option (Int32 × Mem) :=
  (ck h v0 9).bind fun _ => (if v1 < 0 then f_X11_turnpike_15 h v0 else (gR h v0 2 9).bind fun r4 => (gI h r4 15 3).bind fun x5 => (if v1 ≤ x5 then (gR h v0 2 9).bind fun r6 => (f_X4_read h r6 v1).bind fun q9 => (if q9.1 = 0 then (f_X11_refuse q9.2 v0 4).bind fun q37 => some (q37.1, q37.2) else (gR q9.2 v0 2 9).bind fun r10 => (gR q9.2 v0 1 9).bind fun r11 => (f_X4_exchange q9.2 r10 r11).bind fun q14 => (pR q14.2 v0 1 9 q14.1).bind fun h15 => (gR h15 v0 3 9).bind fun r16 => (gR h15 v0 1 9).bind fun r17 => (gR h15 r17 19 4).bind fun r18 => (f_X2_begin h15 r16 r18).bind fun h19 => (gR h19 v0 1 9).bind fun r20 => (f_X1_settle h19 r20).bind fun h21 => (gR h21 v0 6 9).bind fun r22 => (f_X6_forget h21 r22).bind fun h23 => (gR h23 v0 7 9).bind fun r24 => (gR h23 v0 1 9).bind fun r25 => (f_X3_settle h23 r24 r25).bind fun h26 => (gR h26 v0 8 9).bind fun r27 => (gR h26 v0 1 9).bind fun r28 => (f_X7_settle h26 r27 r28).bind fun h29 => (gR h29 v0 1 9).bind fun r30 => (gI h29 r30 2 4).bind fun x31 => (f_X11_answer h29 v0 x31).bind fun q34 => some (q34.1, q34.2)) else f_X11_turnpike_15 h v0))
set_option maxRecDepth 100000 in
set_option maxHeartbeats 4000000 in
theorem w_X11_turnpike {G : GE} {X : CX} {l : Launch} (hX : Ok G X cX11_turnpike RX11) (hN : xn X = 2) {P : (Int32 × Mem) → Prop} (hr : Rt G X l yX11_turnpike (some .int) rm_X11_turnpike (pmI P)) (h : Mem) (v0 : Nat) (v1 : Int32) (hy : OK (f_X11_turnpike h v0 v1) P) : AW G X 0 [(0, vR v0), (1, vI v1)] [] h 0 0 := by
  unfold f_X11_turnpike at hy
  have hkd := hy.kd
  have hy := hy.kb
  refine aw_iloadn (pc := 0) hX 1 rfl dX11_turnpike_0 ?_
  refine aw_if_lt (pc := 1) hX 15 (by decide) dX11_turnpike_1 (fun hc9 => ?_) (fun hc9 => ?_)
  · have hy := hy.t hc9
    refine AW.sub [0] rfl ?_
    exact w_X11_turnpike_15 hX hN hr h v0 hy
  · have hy := hy.f hc9
    refine aw_iloadn (pc := 4) hX 1 rfl dX11_turnpike_4 ?_
    refine aw_aloadn (pc := 5) hX 0 rfl dX11_turnpike_5 ?_
    refine aw_gR (pc := 6) hX hy fl_X11_19 (fun _ _ => rfl) dX11_turnpike_6 (fun r4 hy => ?_)
    refine aw_gI (pc := 9) hX hy fl_X11_80 (fun _ _ => rfl) dX11_turnpike_9 (fun x5 hy => ?_)
    refine aw_ic_le (pc := 12) hX 21 (by decide) dX11_turnpike_12 (fun hc9 => ?_) (fun hc9 => ?_)
    · have hy := hy.t hc9
      refine aw_aloadn (pc := 21) hX 0 rfl dX11_turnpike_21 ?_
      refine aw_gR (pc := 22) hX hy fl_X11_19 (fun _ _ => rfl) dX11_turnpike_22 (fun r6 hy => ?_)
      refine aw_iloadn (pc := 25) hX 1 rfl dX11_turnpike_25 ?_
      refine aw_callV (pc := 26) (st := []) (a := r6) hX [vI v1] (con_X4_read _ G _ r6 v1 hy.bd) mc_X4_read ml_X11_88 im_X4_read se_X4_read (by decide) hy.bd.kd rfl (rm_of hr (by decide)) (Nat.le_of_ble_eq_true rfl) rfl dX11_turnpike_26 (kmI rfl rfl (fun q9 hy => ?_))
      refine aw_if_ne (pc := 29) hX 38 (by decide) dX11_turnpike_29 (fun hc9 => ?_) (fun hc9 => ?_)
      · have hy := hy.f hc9
        refine aw_aloadn (pc := 38) hX 0 rfl dX11_turnpike_38 ?_
        refine aw_aloadn (pc := 39) hX 0 rfl dX11_turnpike_39 ?_
        refine aw_gR (pc := 40) hX hy fl_X11_19 (fun _ _ => rfl) dX11_turnpike_40 (fun r10 hy => ?_)
        refine aw_aloadn (pc := 43) hX 0 rfl dX11_turnpike_43 ?_
        refine aw_gR (pc := 44) hX hy fl_X11_10 (fun _ _ => rfl) dX11_turnpike_44 (fun r11 hy => ?_)
        refine aw_callV (pc := 47) (st := [vR v0]) (a := r10) hX [vR r11] (con_X4_exchange _ G _ r10 r11 hy.bd) mc_X4_exchange ml_X11_91 im_X4_exchange se_X4_exchange (by decide) hy.bd.kd rfl (rm_of hr (by decide)) (Nat.le_of_ble_eq_true rfl) rfl dX11_turnpike_47 (kmR rfl rfl (fun q14 hy => ?_))
        refine aw_pR (pc := 50) hX hy fl_X11_10 rfl (Or.inl rfl) dX11_turnpike_50 (fun h15 hy => ?_)
        refine aw_aloadn (pc := 53) hX 0 rfl dX11_turnpike_53 ?_
        refine aw_gR (pc := 54) hX hy fl_X11_26 (fun _ _ => rfl) dX11_turnpike_54 (fun r16 hy => ?_)
        refine aw_aloadn (pc := 57) hX 0 rfl dX11_turnpike_57 ?_
        refine aw_gR (pc := 58) hX hy fl_X11_10 (fun _ _ => rfl) dX11_turnpike_58 (fun r17 hy => ?_)
        refine aw_gR (pc := 61) hX hy fl_X11_95 (fun _ _ => rfl) dX11_turnpike_61 (fun r18 hy => ?_)
        refine aw_callV (pc := 64) (st := []) (a := r16) hX [vR r18] (con_X2_begin _ G _ r16 r18 hy.bd) mc_X2_begin ml_X11_99 im_X2_begin se_X2_begin (by decide) hy.bd.kd rfl (rm_of hr (by decide)) (Nat.le_of_ble_eq_true rfl) rfl dX11_turnpike_64 (kmV rfl rfl (fun h19 hy => ?_))
        refine aw_aloadn (pc := 67) hX 0 rfl dX11_turnpike_67 ?_
        refine aw_gR (pc := 68) hX hy fl_X11_10 (fun _ _ => rfl) dX11_turnpike_68 (fun r20 hy => ?_)
        refine aw_callS (pc := 71) (st := []) hX [vR r20] (con_X1_settle _ G _ r20 hy.bd) mc_X1_settle ml_X11_103 st_X1_settle rfl (rm_of hr (by decide)) (Nat.le_of_ble_eq_true rfl) rfl dX11_turnpike_71 (kmV rfl rfl (fun h21 hy => ?_))
        refine aw_aloadn (pc := 74) hX 0 rfl dX11_turnpike_74 ?_
        refine aw_gR (pc := 75) hX hy fl_X11_47 (fun _ _ => rfl) dX11_turnpike_75 (fun r22 hy => ?_)
        refine aw_callV (pc := 78) (st := []) (a := r22) hX [] (con_X6_forget _ G _ r22 hy.bd) mc_X6_forget ml_X11_109 im_X6_forget se_X6_forget (by decide) hy.bd.kd rfl (rm_of hr (by decide)) (Nat.le_of_ble_eq_true rfl) rfl dX11_turnpike_78 (kmV rfl rfl (fun h23 hy => ?_))
        refine aw_aloadn (pc := 81) hX 0 rfl dX11_turnpike_81 ?_
        refine aw_gR (pc := 82) hX hy fl_X11_54 (fun _ _ => rfl) dX11_turnpike_82 (fun r24 hy => ?_)
        refine aw_aloadn (pc := 85) hX 0 rfl dX11_turnpike_85 ?_
        refine aw_gR (pc := 86) hX hy fl_X11_10 (fun _ _ => rfl) dX11_turnpike_86 (fun r25 hy => ?_)
        refine aw_callV (pc := 89) (st := []) (a := r24) hX [vR r25] (con_X3_settle _ G _ r24 r25 hy.bd) mc_X3_settle ml_X11_112 im_X3_settle se_X3_settle (by decide) hy.bd.kd rfl (rm_of hr (by decide)) (Nat.le_of_ble_eq_true rfl) rfl dX11_turnpike_89 (kmV rfl rfl (fun h26 hy => ?_))
        refine aw_aloadn (pc := 92) hX 0 rfl dX11_turnpike_92 ?_
        refine aw_gR (pc := 93) hX hy fl_X11_61 (fun _ _ => rfl) dX11_turnpike_93 (fun r27 hy => ?_)
        refine aw_aloadn (pc := 96) hX 0 rfl dX11_turnpike_96 ?_
        refine aw_gR (pc := 97) hX hy fl_X11_10 (fun _ _ => rfl) dX11_turnpike_97 (fun r28 hy => ?_)
        refine aw_callV (pc := 100) (st := []) (a := r27) hX [vR r28] (con_X7_settle _ G _ r27 r28 hy.bd) mc_X7_settle ml_X11_113 im_X7_settle se_X7_settle (by decide) hy.bd.kd rfl (rm_of hr (by decide)) (Nat.le_of_ble_eq_true rfl) rfl dX11_turnpike_100 (kmV rfl rfl (fun h29 hy => ?_))
        refine aw_aloadn (pc := 103) hX 0 rfl dX11_turnpike_103 ?_
        refine aw_aloadn (pc := 104) hX 0 rfl dX11_turnpike_104 ?_
        refine aw_gR (pc := 105) hX hy fl_X11_10 (fun _ _ => rfl) dX11_turnpike_105 (fun r30 hy => ?_)
        refine aw_gI (pc := 108) hX hy fl_X11_114 (fun _ _ => rfl) dX11_turnpike_108 (fun x31 hy => ?_)
        refine aw_callV (pc := 111) (st := []) (a := v0) hX [vI x31] (con_X11_answer _ G _ v0 x31 hy.bd) mc_X11_answer ml_X11_117 im_X11_answer se_X11_answer (by decide) hy.bd.kd rfl (rm_of hr (by decide)) (Nat.le_of_ble_eq_true rfl) rfl dX11_turnpike_111 (kmI rfl rfl (fun q34 hy => ?_))
        exact aw_iret (pc := 114) hX hr (by decide) (by decide) dX11_turnpike_114 ⟨_, rfl, hy.s⟩
      · have hy := hy.t hc9
        refine aw_aloadn (pc := 32) hX 0 rfl dX11_turnpike_32 ?_
        refine aw_iconst (pc := 33) hX 4 (by decide) dX11_turnpike_33 ?_
        refine aw_callV (pc := 34) (st := []) (a := v0) hX [vI 4] (con_X11_refuse _ G _ v0 4 hy.bd) mc_X11_refuse ml_X11_84 im_X11_refuse se_X11_refuse (by decide) hy.bd.kd rfl (rm_of hr (by decide)) (Nat.le_of_ble_eq_true rfl) rfl dX11_turnpike_34 (kmI rfl rfl (fun q37 hy => ?_))
        exact aw_iret (pc := 37) hX hr (by decide) (by decide) dX11_turnpike_37 ⟨_, rfl, hy.s⟩
    · have hy := hy.f hc9
      refine AW.sub [0] rfl ?_
      exact w_X11_turnpike_15 hX hN hr h v0 hy
theorem con_X11_turnpike (l : Launch) (G : GE) (h : Mem) (v0 : Nat) (v1 : Int32) {P : (Int32 × Mem) → Prop} (hy : OK (f_X11_turnpike h v0 v1) P) : Con l G yX11_turnpike cX11_turnpike 2 (some .int) rm_X11_turnpike [vR v0, vI v1] h (pmI P) := Con.of (by decide) (Nat.le_of_ble_eq_true rfl) (fun X hX hr hN => w_X11_turnpike hX hN hr h v0 v1 hy)
/-! X11_fault -/
theorem dX11_fault_0 : decode cX11_fault 0 = .ok (.aload_n 0, 1) := by decide +kernel
theorem dX11_fault_1 : decode cX11_fault 1 = .ok (.getfield 19, 3) := by decide +kernel
theorem dX11_fault_4 : decode cX11_fault 4 = .ok (.getfield 120, 3) := by decide +kernel
theorem dX11_fault_7 : decode cX11_fault 7 = .ok (.ireturn, 1) := by decide +kernel
abbrev rm_X11_fault : Room := { frames := 0, cells := 0, slots := 0, locals := 0 }
def f_X11_fault (h : Mem) (v0 : Nat) : Option Int32 :=
  (ck h v0 9).bind fun _ => (gR h v0 2 9).bind fun r1 => (gI h r1 16 3).bind fun x2 => some x2
set_option maxRecDepth 100000 in
set_option maxHeartbeats 4000000 in
theorem w_X11_fault {G : GE} {X : CX} {l : Launch} (hX : Ok G X cX11_fault RX11) (hN : xn X = 1) (h : Mem) {P : Int32 → Prop} (hr : Rt G X l yX11_fault (some .int) rm_X11_fault (ppI h P)) (v0 : Nat) (hy : OK (f_X11_fault h v0) P) : AW G X 0 [(0, vR v0)] [] h 0 0 := by
  unfold f_X11_fault at hy
  have hkd := hy.kd
  have hy := hy.kb
  refine aw_aloadn (pc := 0) hX 0 rfl dX11_fault_0 ?_
  refine aw_gR (pc := 1) hX hy fl_X11_19 (fun _ _ => rfl) dX11_fault_1 (fun r1 hy => ?_)
  refine aw_gI (pc := 4) hX hy fl_X11_120 (fun _ _ => rfl) dX11_fault_4 (fun x2 hy => ?_)
  exact aw_iret (pc := 7) hX hr (by decide) (by decide) dX11_fault_7 ⟨rfl, _, rfl, hy.s⟩
theorem con_X11_fault (l : Launch) (G : GE) (h : Mem) (v0 : Nat) {P : Int32 → Prop} (hy : OK (f_X11_fault h v0) P) : Con l G yX11_fault cX11_fault 1 (some .int) rm_X11_fault [vR v0] h (ppI h P) := Con.of (by decide) (Nat.le_of_ble_eq_true rfl) (fun X hX hr hN => w_X11_fault hX hN h hr v0 hy)
/-! X11_where -/
theorem dX11_where_0 : decode cX11_where 0 = .ok (.aload_n 0, 1) := by decide +kernel
theorem dX11_where_1 : decode cX11_where 1 = .ok (.getfield 123, 3) := by decide +kernel
theorem dX11_where_4 : decode cX11_where 4 = .ok (.iconst 4, 1) := by decide +kernel
theorem dX11_where_5 : decode cX11_where 5 = .ok (.if_icmp .ne 13, 3) := by decide +kernel
theorem dX11_where_8 : decode cX11_where 8 = .ok (.aload_n 0, 1) := by decide +kernel
theorem dX11_where_9 : decode cX11_where 9 = .ok (.getfield 19, 3) := by decide +kernel
theorem dX11_where_12 : decode cX11_where 12 = .ok (.getfield 126, 3) := by decide +kernel
theorem dX11_where_15 : decode cX11_where 15 = .ok (.goto 4, 3) := by decide +kernel
theorem dX11_where_18 : decode cX11_where 18 = .ok (.iconst (-1), 1) := by decide +kernel
theorem dX11_where_19 : decode cX11_where 19 = .ok (.ireturn, 1) := by decide +kernel
abbrev rm_X11_where : Room := { frames := 0, cells := 0, slots := 0, locals := 0 }
def f_X11_where (h : Mem) (v0 : Nat) : Option Int32 :=
  (ck h v0 9).bind fun _ => (gI h v0 0 9).bind fun x1 => (if x1 = 4 then (gR h v0 2 9).bind fun r2 => (gI h r2 17 3).bind fun x3 => some x3 else some (-1))
set_option maxRecDepth 100000 in
set_option maxHeartbeats 4000000 in
theorem w_X11_where {G : GE} {X : CX} {l : Launch} (hX : Ok G X cX11_where RX11) (hN : xn X = 1) (h : Mem) {P : Int32 → Prop} (hr : Rt G X l yX11_where (some .int) rm_X11_where (ppI h P)) (v0 : Nat) (hy : OK (f_X11_where h v0) P) : AW G X 0 [(0, vR v0)] [] h 0 0 := by
  unfold f_X11_where at hy
  have hkd := hy.kd
  have hy := hy.kb
  refine aw_aloadn (pc := 0) hX 0 rfl dX11_where_0 ?_
  refine aw_gI (pc := 1) hX hy fl_X11_123 (fun _ _ => rfl) dX11_where_1 (fun x1 hy => ?_)
  refine aw_iconst (pc := 4) hX 4 (by decide) dX11_where_4 ?_
  refine aw_ic_ne (pc := 5) hX 18 (by decide) dX11_where_5 (fun hc9 => ?_) (fun hc9 => ?_)
  · have hy := hy.f hc9
    refine aw_iconst (pc := 18) hX (-1) (by decide) dX11_where_18 ?_
    exact aw_iret (pc := 19) hX hr (by decide) (by decide) dX11_where_19 ⟨rfl, _, rfl, hy.s⟩
  · have hy := hy.t hc9
    refine aw_aloadn (pc := 8) hX 0 rfl dX11_where_8 ?_
    refine aw_gR (pc := 9) hX hy fl_X11_19 (fun _ _ => rfl) dX11_where_9 (fun r2 hy => ?_)
    refine aw_gI (pc := 12) hX hy fl_X11_126 (fun _ _ => rfl) dX11_where_12 (fun x3 hy => ?_)
    refine aw_goto (pc := 15) hX 19 (by decide) dX11_where_15 ?_
    exact aw_iret (pc := 19) hX hr (by decide) (by decide) dX11_where_19 ⟨rfl, _, rfl, hy.s⟩
theorem con_X11_where (l : Launch) (G : GE) (h : Mem) (v0 : Nat) {P : Int32 → Prop} (hy : OK (f_X11_where h v0) P) : Con l G yX11_where cX11_where 1 (some .int) rm_X11_where [vR v0] h (ppI h P) := Con.of (by decide) (Nat.le_of_ble_eq_true rfl) (fun X hX hr hN => w_X11_where hX hN h hr v0 hy)
/-! X11_isTune -/
theorem dX11_isTune_0 : decode cX11_isTune 0 = .ok (.iload_n 1, 1) := by decide +kernel
theorem dX11_isTune_1 : decode cX11_isTune 1 = .ok (.ifCond .lt 18, 3) := by decide +kernel
theorem dX11_isTune_4 : decode cX11_isTune 4 = .ok (.iload_n 1, 1) := by decide +kernel
theorem dX11_isTune_5 : decode cX11_isTune 5 = .ok (.aload_n 0, 1) := by decide +kernel
theorem dX11_isTune_6 : decode cX11_isTune 6 = .ok (.getfield 10, 3) := by decide +kernel
theorem dX11_isTune_9 : decode cX11_isTune 9 = .ok (.getfield 224, 3) := by decide +kernel
theorem dX11_isTune_12 : decode cX11_isTune 12 = .ok (.if_icmp .ge 7, 3) := by decide +kernel
theorem dX11_isTune_15 : decode cX11_isTune 15 = .ok (.iconst 1, 1) := by decide +kernel
theorem dX11_isTune_16 : decode cX11_isTune 16 = .ok (.goto 4, 3) := by decide +kernel
theorem dX11_isTune_19 : decode cX11_isTune 19 = .ok (.iconst 0, 1) := by decide +kernel
theorem dX11_isTune_20 : decode cX11_isTune 20 = .ok (.ireturn, 1) := by decide +kernel
abbrev rm_X11_isTune : Room := { frames := 0, cells := 0, slots := 0, locals := 0 }
def f_X11_isTune_19 (h : Mem) : Option Int32 :=
  some 0
set_option maxRecDepth 100000 in
set_option maxHeartbeats 4000000 in
theorem w_X11_isTune_19 {G : GE} {X : CX} {l : Launch} (hX : Ok G X cX11_isTune RX11) (hN : xn X = 2) (h : Mem) {P : Int32 → Prop} (hr : Rt G X l yX11_isTune (some .boolean) rm_X11_isTune (ppI h P)) (hy : OK (f_X11_isTune_19 h) P) : AW G X 19 [] [] h 0 0 := by
  unfold f_X11_isTune_19 at hy
  refine aw_iconst (pc := 19) hX 0 (by decide) dX11_isTune_19 ?_
  exact aw_zret (pc := 20) hX hr (by decide) (by decide) dX11_isTune_20 (Or.inl rfl) ⟨rfl, _, rfl, hy.s⟩
def f_X11_isTune (h : Mem) (v0 : Nat) (v1 : Int32) : Option Int32 :=
  (ck h v0 9).bind fun _ => (if v1 < 0 then f_X11_isTune_19 h else (gR h v0 1 9).bind fun r1 => (gI h r1 1 4).bind fun x2 => (if x2 ≤ v1 then f_X11_isTune_19 h else some 1))
set_option maxRecDepth 100000 in
set_option maxHeartbeats 4000000 in
theorem w_X11_isTune {G : GE} {X : CX} {l : Launch} (hX : Ok G X cX11_isTune RX11) (hN : xn X = 2) (h : Mem) {P : Int32 → Prop} (hr : Rt G X l yX11_isTune (some .boolean) rm_X11_isTune (ppI h P)) (v0 : Nat) (v1 : Int32) (hy : OK (f_X11_isTune h v0 v1) P) : AW G X 0 [(0, vR v0), (1, vI v1)] [] h 0 0 := by
  unfold f_X11_isTune at hy
  have hkd := hy.kd
  have hy := hy.kb
  refine aw_iloadn (pc := 0) hX 1 rfl dX11_isTune_0 ?_
  refine aw_if_lt (pc := 1) hX 19 (by decide) dX11_isTune_1 (fun hc9 => ?_) (fun hc9 => ?_)
  · have hy := hy.t hc9
    refine AW.sub [] rfl ?_
    exact w_X11_isTune_19 hX hN _ hr hy
  · have hy := hy.f hc9
    refine aw_iloadn (pc := 4) hX 1 rfl dX11_isTune_4 ?_
    refine aw_aloadn (pc := 5) hX 0 rfl dX11_isTune_5 ?_
    refine aw_gR (pc := 6) hX hy fl_X11_10 (fun _ _ => rfl) dX11_isTune_6 (fun r1 hy => ?_)
    refine aw_gI (pc := 9) hX hy fl_X11_224 (fun _ _ => rfl) dX11_isTune_9 (fun x2 hy => ?_)
    refine aw_ic_ge (pc := 12) hX 19 (by decide) dX11_isTune_12 (fun hc9 => ?_) (fun hc9 => ?_)
    · have hy := hy.t hc9
      refine AW.sub [] rfl ?_
      exact w_X11_isTune_19 hX hN _ hr hy
    · have hy := hy.f hc9
      refine aw_iconst (pc := 15) hX 1 (by decide) dX11_isTune_15 ?_
      refine aw_goto (pc := 16) hX 20 (by decide) dX11_isTune_16 ?_
      exact aw_zret (pc := 20) hX hr (by decide) (by decide) dX11_isTune_20 (Or.inr rfl) ⟨rfl, _, rfl, hy.s⟩
theorem con_X11_isTune (l : Launch) (G : GE) (h : Mem) (v0 : Nat) (v1 : Int32) {P : Int32 → Prop} (hy : OK (f_X11_isTune h v0 v1) P) : Con l G yX11_isTune cX11_isTune 2 (some .boolean) rm_X11_isTune [vR v0, vI v1] h (ppI h P) := Con.of (by decide) (Nat.le_of_ble_eq_true rfl) (fun X hX hr hN => w_X11_isTune hX hN h hr v0 v1 hy)
/-! X11_length -/
theorem dX11_length_0 : decode cX11_length 0 = .ok (.aload_n 0, 1) := by decide +kernel
theorem dX11_length_1 : decode cX11_length 1 = .ok (.iload_n 1, 1) := by decide +kernel
theorem dX11_length_2 : decode cX11_length 2 = .ok (.invokevirtual 129, 3) := by decide +kernel
theorem dX11_length_5 : decode cX11_length 5 = .ok (.ifCond .eq 19, 3) := by decide +kernel
theorem dX11_length_8 : decode cX11_length 8 = .ok (.aload_n 0, 1) := by decide +kernel
theorem dX11_length_9 : decode cX11_length 9 = .ok (.aload_n 0, 1) := by decide +kernel
theorem dX11_length_10 : decode cX11_length 10 = .ok (.getfield 10, 3) := by decide +kernel
theorem dX11_length_13 : decode cX11_length 13 = .ok (.getfield 132, 3) := by decide +kernel
theorem dX11_length_16 : decode cX11_length 16 = .ok (.iload_n 1, 1) := by decide +kernel
theorem dX11_length_17 : decode cX11_length 17 = .ok (.iaload, 1) := by decide +kernel
theorem dX11_length_18 : decode cX11_length 18 = .ok (.invokevirtual 117, 3) := by decide +kernel
theorem dX11_length_21 : decode cX11_length 21 = .ok (.goto 8, 3) := by decide +kernel
theorem dX11_length_24 : decode cX11_length 24 = .ok (.aload_n 0, 1) := by decide +kernel
theorem dX11_length_25 : decode cX11_length 25 = .ok (.iconst 1, 1) := by decide +kernel
theorem dX11_length_26 : decode cX11_length 26 = .ok (.invokevirtual 84, 3) := by decide +kernel
theorem dX11_length_29 : decode cX11_length 29 = .ok (.ireturn, 1) := by decide +kernel
abbrev rm_X11_length : Room := { frames := 1, cells := 0, slots := 0, locals := 21 }
def f_X11_length (h : Mem) (v0 : Nat) (v1 : Int32) : Option (Int32 × Mem) :=
  (ck h v0 9).bind fun _ => (f_X11_isTune h v0 v1).bind fun x1 => (if x1 = 0 then (f_X11_refuse h v0 1).bind fun q4 => some (q4.1, q4.2) else (gR h v0 1 9).bind fun r5 => (gR h r5 9 4).bind fun r6 => (aI h r6 v1).bind fun x7 => (f_X11_answer h v0 x7).bind fun q10 => some (q10.1, q10.2))
set_option maxRecDepth 100000 in
set_option maxHeartbeats 4000000 in
theorem w_X11_length {G : GE} {X : CX} {l : Launch} (hX : Ok G X cX11_length RX11) (hN : xn X = 2) {P : (Int32 × Mem) → Prop} (hr : Rt G X l yX11_length (some .int) rm_X11_length (pmI P)) (h : Mem) (v0 : Nat) (v1 : Int32) (hy : OK (f_X11_length h v0 v1) P) : AW G X 0 [(0, vR v0), (1, vI v1)] [] h 0 0 := by
  unfold f_X11_length at hy
  have hkd := hy.kd
  have hy := hy.kb
  refine aw_aloadn (pc := 0) hX 0 rfl dX11_length_0 ?_
  refine aw_iloadn (pc := 1) hX 1 rfl dX11_length_1 ?_
  refine aw_callV (pc := 2) (st := []) (a := v0) hX [vI v1] (con_X11_isTune _ G _ v0 v1 hy.bd) mc_X11_isTune ml_X11_129 im_X11_isTune se_X11_isTune (by decide) hy.bd.kd rfl (rm_of hr (by decide)) (Nat.le_of_ble_eq_true rfl) rfl dX11_length_2 (kpI rfl rfl (fun x1 hy => ?_))
  refine aw_if_eq (pc := 5) hX 24 (by decide) dX11_length_5 (fun hc9 => ?_) (fun hc9 => ?_)
  · have hy := hy.t hc9
    refine aw_aloadn (pc := 24) hX 0 rfl dX11_length_24 ?_
    refine aw_iconst (pc := 25) hX 1 (by decide) dX11_length_25 ?_
    refine aw_callV (pc := 26) (st := []) (a := v0) hX [vI 1] (con_X11_refuse _ G _ v0 1 hy.bd) mc_X11_refuse ml_X11_84 im_X11_refuse se_X11_refuse (by decide) hy.bd.kd rfl (rm_of hr (by decide)) (Nat.le_of_ble_eq_true rfl) rfl dX11_length_26 (kmI rfl rfl (fun q4 hy => ?_))
    exact aw_iret (pc := 29) hX hr (by decide) (by decide) dX11_length_29 ⟨_, rfl, hy.s⟩
  · have hy := hy.f hc9
    refine aw_aloadn (pc := 8) hX 0 rfl dX11_length_8 ?_
    refine aw_aloadn (pc := 9) hX 0 rfl dX11_length_9 ?_
    refine aw_gR (pc := 10) hX hy fl_X11_10 (fun _ _ => rfl) dX11_length_10 (fun r5 hy => ?_)
    refine aw_gR (pc := 13) hX hy fl_X11_132 (fun _ _ => rfl) dX11_length_13 (fun r6 hy => ?_)
    refine aw_iloadn (pc := 16) hX 1 rfl dX11_length_16 ?_
    refine aw_aI (pc := 17) hX hy dX11_length_17 (fun x7 hy => ?_)
    refine aw_callV (pc := 18) (st := []) (a := v0) hX [vI x7] (con_X11_answer _ G _ v0 x7 hy.bd) mc_X11_answer ml_X11_117 im_X11_answer se_X11_answer (by decide) hy.bd.kd rfl (rm_of hr (by decide)) (Nat.le_of_ble_eq_true rfl) rfl dX11_length_18 (kmI rfl rfl (fun q10 hy => ?_))
    refine aw_goto (pc := 21) hX 29 (by decide) dX11_length_21 ?_
    exact aw_iret (pc := 29) hX hr (by decide) (by decide) dX11_length_29 ⟨_, rfl, hy.s⟩
theorem con_X11_length (l : Launch) (G : GE) (h : Mem) (v0 : Nat) (v1 : Int32) {P : (Int32 × Mem) → Prop} (hy : OK (f_X11_length h v0 v1) P) : Con l G yX11_length cX11_length 2 (some .int) rm_X11_length [vR v0, vI v1] h (pmI P) := Con.of (by decide) (Nat.le_of_ble_eq_true rfl) (fun X hX hr hN => w_X11_length hX hN hr h v0 v1 hy)
/-! X11_sung -/
theorem dX11_sung_0 : decode cX11_sung 0 = .ok (.aload_n 0, 1) := by decide +kernel
theorem dX11_sung_1 : decode cX11_sung 1 = .ok (.iload_n 1, 1) := by decide +kernel
theorem dX11_sung_2 : decode cX11_sung 2 = .ok (.invokevirtual 129, 3) := by decide +kernel
theorem dX11_sung_5 : decode cX11_sung 5 = .ok (.ifCond .eq 20, 3) := by decide +kernel
theorem dX11_sung_8 : decode cX11_sung 8 = .ok (.iload_n 2, 1) := by decide +kernel
theorem dX11_sung_9 : decode cX11_sung 9 = .ok (.ifCond .lt 16, 3) := by decide +kernel
theorem dX11_sung_12 : decode cX11_sung 12 = .ok (.iload_n 2, 1) := by decide +kernel
theorem dX11_sung_13 : decode cX11_sung 13 = .ok (.aload_n 0, 1) := by decide +kernel
theorem dX11_sung_14 : decode cX11_sung 14 = .ok (.getfield 10, 3) := by decide +kernel
theorem dX11_sung_17 : decode cX11_sung 17 = .ok (.getfield 132, 3) := by decide +kernel
theorem dX11_sung_20 : decode cX11_sung 20 = .ok (.iload_n 1, 1) := by decide +kernel
theorem dX11_sung_21 : decode cX11_sung 21 = .ok (.iaload, 1) := by decide +kernel
theorem dX11_sung_22 : decode cX11_sung 22 = .ok (.if_icmp .lt 9, 3) := by decide +kernel
theorem dX11_sung_25 : decode cX11_sung 25 = .ok (.aload_n 0, 1) := by decide +kernel
theorem dX11_sung_26 : decode cX11_sung 26 = .ok (.iconst 1, 1) := by decide +kernel
theorem dX11_sung_27 : decode cX11_sung 27 = .ok (.invokevirtual 84, 3) := by decide +kernel
theorem dX11_sung_30 : decode cX11_sung 30 = .ok (.ireturn, 1) := by decide +kernel
theorem dX11_sung_31 : decode cX11_sung 31 = .ok (.aload_n 0, 1) := by decide +kernel
theorem dX11_sung_32 : decode cX11_sung 32 = .ok (.aload_n 0, 1) := by decide +kernel
theorem dX11_sung_33 : decode cX11_sung 33 = .ok (.getfield 10, 3) := by decide +kernel
theorem dX11_sung_36 : decode cX11_sung 36 = .ok (.iload_n 1, 1) := by decide +kernel
theorem dX11_sung_37 : decode cX11_sung 37 = .ok (.iload_n 2, 1) := by decide +kernel
theorem dX11_sung_38 : decode cX11_sung 38 = .ok (.iload_n 3, 1) := by decide +kernel
theorem dX11_sung_39 : decode cX11_sung 39 = .ok (.aload_n 0, 1) := by decide +kernel
theorem dX11_sung_40 : decode cX11_sung 40 = .ok (.getfield 26, 3) := by decide +kernel
theorem dX11_sung_43 : decode cX11_sung 43 = .ok (.invokevirtual 135, 3) := by decide +kernel
theorem dX11_sung_46 : decode cX11_sung 46 = .ok (.invokestatic 139, 3) := by decide +kernel
theorem dX11_sung_49 : decode cX11_sung 49 = .ok (.invokevirtual 117, 3) := by decide +kernel
theorem dX11_sung_52 : decode cX11_sung 52 = .ok (.ireturn, 1) := by decide +kernel
abbrev rm_X11_sung : Room := { frames := 2, cells := 0, slots := 0, locals := 47 }
def f_X11_sung_25 (h : Mem) (v0 : Nat) : Option (Int32 × Mem) :=
  (f_X11_refuse h v0 1).bind fun q4 => some (q4.1, q4.2)
set_option maxRecDepth 100000 in
set_option maxHeartbeats 4000000 in
theorem w_X11_sung_25 {G : GE} {X : CX} {l : Launch} (hX : Ok G X cX11_sung RX11) (hN : xn X = 4) {P : (Int32 × Mem) → Prop} (hr : Rt G X l yX11_sung (some .int) rm_X11_sung (pmI P)) (h : Mem) (v0 : Nat) (hy : OK (f_X11_sung_25 h v0) P) : AW G X 25 [(0, vR v0)] [] h 0 0 := by
  unfold f_X11_sung_25 at hy
  refine aw_aloadn (pc := 25) hX 0 rfl dX11_sung_25 ?_
  refine aw_iconst (pc := 26) hX 1 (by decide) dX11_sung_26 ?_
  refine aw_callV (pc := 27) (st := []) (a := v0) hX [vI 1] (con_X11_refuse _ G _ v0 1 hy.bd) mc_X11_refuse ml_X11_84 im_X11_refuse se_X11_refuse (by decide) hy.bd.kd rfl (rm_of hr (by decide)) (Nat.le_of_ble_eq_true rfl) rfl dX11_sung_27 (kmI rfl rfl (fun q4 hy => ?_))
  exact aw_iret (pc := 30) hX hr (by decide) (by decide) dX11_sung_30 ⟨_, rfl, hy.s⟩
def f_X11_sung (h : Mem) (v0 : Nat) (v1 : Int32) (v2 : Int32) (v3 : Int32) : Option (Int32 × Mem) :=
  (ck h v0 9).bind fun _ => (f_X11_isTune h v0 v1).bind fun x1 => (if x1 = 0 then f_X11_sung_25 h v0 else (if v2 < 0 then f_X11_sung_25 h v0 else (gR h v0 1 9).bind fun r5 => (gR h r5 9 4).bind fun r6 => (aI h r6 v1).bind fun x7 => (if v2 < x7 then (gR h v0 1 9).bind fun r8 => (gR h v0 3 9).bind fun r9 => (f_X2_rains h r9).bind fun x10 => (f_X1_noteSung h r8 v1 v2 v3 x10).bind fun x11 => (f_X11_answer h v0 x11).bind fun q14 => some (q14.1, q14.2) else f_X11_sung_25 h v0)))
set_option maxRecDepth 100000 in
set_option maxHeartbeats 4000000 in
theorem w_X11_sung {G : GE} {X : CX} {l : Launch} (hX : Ok G X cX11_sung RX11) (hN : xn X = 4) {P : (Int32 × Mem) → Prop} (hr : Rt G X l yX11_sung (some .int) rm_X11_sung (pmI P)) (h : Mem) (v0 : Nat) (v1 : Int32) (v2 : Int32) (v3 : Int32) (hy : OK (f_X11_sung h v0 v1 v2 v3) P) : AW G X 0 [(0, vR v0), (1, vI v1), (2, vI v2), (3, vI v3)] [] h 0 0 := by
  unfold f_X11_sung at hy
  have hkd := hy.kd
  have hy := hy.kb
  refine aw_aloadn (pc := 0) hX 0 rfl dX11_sung_0 ?_
  refine aw_iloadn (pc := 1) hX 1 rfl dX11_sung_1 ?_
  refine aw_callV (pc := 2) (st := []) (a := v0) hX [vI v1] (con_X11_isTune _ G _ v0 v1 hy.bd) mc_X11_isTune ml_X11_129 im_X11_isTune se_X11_isTune (by decide) hy.bd.kd rfl (rm_of hr (by decide)) (Nat.le_of_ble_eq_true rfl) rfl dX11_sung_2 (kpI rfl rfl (fun x1 hy => ?_))
  refine aw_if_eq (pc := 5) hX 25 (by decide) dX11_sung_5 (fun hc9 => ?_) (fun hc9 => ?_)
  · have hy := hy.t hc9
    refine AW.sub [0] rfl ?_
    exact w_X11_sung_25 hX hN hr h v0 hy
  · have hy := hy.f hc9
    refine aw_iloadn (pc := 8) hX 2 rfl dX11_sung_8 ?_
    refine aw_if_lt (pc := 9) hX 25 (by decide) dX11_sung_9 (fun hc9 => ?_) (fun hc9 => ?_)
    · have hy := hy.t hc9
      refine AW.sub [0] rfl ?_
      exact w_X11_sung_25 hX hN hr h v0 hy
    · have hy := hy.f hc9
      refine aw_iloadn (pc := 12) hX 2 rfl dX11_sung_12 ?_
      refine aw_aloadn (pc := 13) hX 0 rfl dX11_sung_13 ?_
      refine aw_gR (pc := 14) hX hy fl_X11_10 (fun _ _ => rfl) dX11_sung_14 (fun r5 hy => ?_)
      refine aw_gR (pc := 17) hX hy fl_X11_132 (fun _ _ => rfl) dX11_sung_17 (fun r6 hy => ?_)
      refine aw_iloadn (pc := 20) hX 1 rfl dX11_sung_20 ?_
      refine aw_aI (pc := 21) hX hy dX11_sung_21 (fun x7 hy => ?_)
      refine aw_ic_lt (pc := 22) hX 31 (by decide) dX11_sung_22 (fun hc9 => ?_) (fun hc9 => ?_)
      · have hy := hy.t hc9
        refine aw_aloadn (pc := 31) hX 0 rfl dX11_sung_31 ?_
        refine aw_aloadn (pc := 32) hX 0 rfl dX11_sung_32 ?_
        refine aw_gR (pc := 33) hX hy fl_X11_10 (fun _ _ => rfl) dX11_sung_33 (fun r8 hy => ?_)
        refine aw_iloadn (pc := 36) hX 1 rfl dX11_sung_36 ?_
        refine aw_iloadn (pc := 37) hX 2 rfl dX11_sung_37 ?_
        refine aw_iloadn (pc := 38) hX 3 rfl dX11_sung_38 ?_
        refine aw_aloadn (pc := 39) hX 0 rfl dX11_sung_39 ?_
        refine aw_gR (pc := 40) hX hy fl_X11_26 (fun _ _ => rfl) dX11_sung_40 (fun r9 hy => ?_)
        refine aw_callV (pc := 43) (st := [vI v3, vI v2, vI v1, vR r8, vR v0]) (a := r9) hX [] (con_X2_rains _ G _ r9 hy.bd) mc_X2_rains ml_X11_135 im_X2_rains se_X2_rains (by decide) hy.bd.kd rfl (rm_of hr (by decide)) (Nat.le_of_ble_eq_true rfl) rfl dX11_sung_43 (kpI rfl rfl (fun x10 hy => ?_))
        refine aw_callS (pc := 46) (st := [vR v0]) hX [vR r8, vI v1, vI v2, vI v3, vI x10] (con_X1_noteSung _ G _ r8 v1 v2 v3 x10 hy.bd) mc_X1_noteSung ml_X11_139 st_X1_noteSung rfl (rm_of hr (by decide)) (Nat.le_of_ble_eq_true rfl) rfl dX11_sung_46 (kpI rfl rfl (fun x11 hy => ?_))
        refine aw_callV (pc := 49) (st := []) (a := v0) hX [vI x11] (con_X11_answer _ G _ v0 x11 hy.bd) mc_X11_answer ml_X11_117 im_X11_answer se_X11_answer (by decide) hy.bd.kd rfl (rm_of hr (by decide)) (Nat.le_of_ble_eq_true rfl) rfl dX11_sung_49 (kmI rfl rfl (fun q14 hy => ?_))
        exact aw_iret (pc := 52) hX hr (by decide) (by decide) dX11_sung_52 ⟨_, rfl, hy.s⟩
      · have hy := hy.f hc9
        refine AW.sub [0] rfl ?_
        exact w_X11_sung_25 hX hN hr h v0 hy
theorem con_X11_sung (l : Launch) (G : GE) (h : Mem) (v0 : Nat) (v1 : Int32) (v2 : Int32) (v3 : Int32) {P : (Int32 × Mem) → Prop} (hy : OK (f_X11_sung h v0 v1 v2 v3) P) : Con l G yX11_sung cX11_sung 4 (some .int) rm_X11_sung [vR v0, vI v1, vI v2, vI v3] h (pmI P) := Con.of (by decide) (Nat.le_of_ble_eq_true rfl) (fun X hX hr hN => w_X11_sung hX hN hr h v0 v1 v2 v3 hy)
/-! X11_isPlace -/
theorem dX11_isPlace_0 : decode cX11_isPlace 0 = .ok (.iload_n 1, 1) := by decide +kernel
theorem dX11_isPlace_1 : decode cX11_isPlace 1 = .ok (.ifCond .lt 18, 3) := by decide +kernel
theorem dX11_isPlace_4 : decode cX11_isPlace 4 = .ok (.iload_n 1, 1) := by decide +kernel
theorem dX11_isPlace_5 : decode cX11_isPlace 5 = .ok (.aload_n 0, 1) := by decide +kernel
theorem dX11_isPlace_6 : decode cX11_isPlace 6 = .ok (.getfield 10, 3) := by decide +kernel
theorem dX11_isPlace_9 : decode cX11_isPlace 9 = .ok (.getfield 114, 3) := by decide +kernel
theorem dX11_isPlace_12 : decode cX11_isPlace 12 = .ok (.if_icmp .ge 7, 3) := by decide +kernel
theorem dX11_isPlace_15 : decode cX11_isPlace 15 = .ok (.iconst 1, 1) := by decide +kernel
theorem dX11_isPlace_16 : decode cX11_isPlace 16 = .ok (.goto 4, 3) := by decide +kernel
theorem dX11_isPlace_19 : decode cX11_isPlace 19 = .ok (.iconst 0, 1) := by decide +kernel
theorem dX11_isPlace_20 : decode cX11_isPlace 20 = .ok (.ireturn, 1) := by decide +kernel
abbrev rm_X11_isPlace : Room := { frames := 0, cells := 0, slots := 0, locals := 0 }
def f_X11_isPlace_19 (h : Mem) : Option Int32 :=
  some 0
set_option maxRecDepth 100000 in
set_option maxHeartbeats 4000000 in
theorem w_X11_isPlace_19 {G : GE} {X : CX} {l : Launch} (hX : Ok G X cX11_isPlace RX11) (hN : xn X = 2) (h : Mem) {P : Int32 → Prop} (hr : Rt G X l yX11_isPlace (some .boolean) rm_X11_isPlace (ppI h P)) (hy : OK (f_X11_isPlace_19 h) P) : AW G X 19 [] [] h 0 0 := by
  unfold f_X11_isPlace_19 at hy
  refine aw_iconst (pc := 19) hX 0 (by decide) dX11_isPlace_19 ?_
  exact aw_zret (pc := 20) hX hr (by decide) (by decide) dX11_isPlace_20 (Or.inl rfl) ⟨rfl, _, rfl, hy.s⟩
def f_X11_isPlace (h : Mem) (v0 : Nat) (v1 : Int32) : Option Int32 :=
  (ck h v0 9).bind fun _ => (if v1 < 0 then f_X11_isPlace_19 h else (gR h v0 1 9).bind fun r1 => (gI h r1 2 4).bind fun x2 => (if x2 ≤ v1 then f_X11_isPlace_19 h else some 1))
set_option maxRecDepth 100000 in
set_option maxHeartbeats 4000000 in
theorem w_X11_isPlace {G : GE} {X : CX} {l : Launch} (hX : Ok G X cX11_isPlace RX11) (hN : xn X = 2) (h : Mem) {P : Int32 → Prop} (hr : Rt G X l yX11_isPlace (some .boolean) rm_X11_isPlace (ppI h P)) (v0 : Nat) (v1 : Int32) (hy : OK (f_X11_isPlace h v0 v1) P) : AW G X 0 [(0, vR v0), (1, vI v1)] [] h 0 0 := by
  unfold f_X11_isPlace at hy
  have hkd := hy.kd
  have hy := hy.kb
  refine aw_iloadn (pc := 0) hX 1 rfl dX11_isPlace_0 ?_
  refine aw_if_lt (pc := 1) hX 19 (by decide) dX11_isPlace_1 (fun hc9 => ?_) (fun hc9 => ?_)
  · have hy := hy.t hc9
    refine AW.sub [] rfl ?_
    exact w_X11_isPlace_19 hX hN _ hr hy
  · have hy := hy.f hc9
    refine aw_iloadn (pc := 4) hX 1 rfl dX11_isPlace_4 ?_
    refine aw_aloadn (pc := 5) hX 0 rfl dX11_isPlace_5 ?_
    refine aw_gR (pc := 6) hX hy fl_X11_10 (fun _ _ => rfl) dX11_isPlace_6 (fun r1 hy => ?_)
    refine aw_gI (pc := 9) hX hy fl_X11_114 (fun _ _ => rfl) dX11_isPlace_9 (fun x2 hy => ?_)
    refine aw_ic_ge (pc := 12) hX 19 (by decide) dX11_isPlace_12 (fun hc9 => ?_) (fun hc9 => ?_)
    · have hy := hy.t hc9
      refine AW.sub [] rfl ?_
      exact w_X11_isPlace_19 hX hN _ hr hy
    · have hy := hy.f hc9
      refine aw_iconst (pc := 15) hX 1 (by decide) dX11_isPlace_15 ?_
      refine aw_goto (pc := 16) hX 20 (by decide) dX11_isPlace_16 ?_
      exact aw_zret (pc := 20) hX hr (by decide) (by decide) dX11_isPlace_20 (Or.inr rfl) ⟨rfl, _, rfl, hy.s⟩
theorem con_X11_isPlace (l : Launch) (G : GE) (h : Mem) (v0 : Nat) (v1 : Int32) {P : Int32 → Prop} (hy : OK (f_X11_isPlace h v0 v1) P) : Con l G yX11_isPlace cX11_isPlace 2 (some .boolean) rm_X11_isPlace [vR v0, vI v1] h (ppI h P) := Con.of (by decide) (Nat.le_of_ble_eq_true rfl) (fun X hX hr hN => w_X11_isPlace hX hN h hr v0 v1 hy)
/-! X11_areTwoPlaces -/
theorem dX11_areTwoPlaces_0 : decode cX11_areTwoPlaces 0 = .ok (.aload_n 0, 1) := by decide +kernel
theorem dX11_areTwoPlaces_1 : decode cX11_areTwoPlaces 1 = .ok (.iload_n 1, 1) := by decide +kernel
theorem dX11_areTwoPlaces_2 : decode cX11_areTwoPlaces 2 = .ok (.invokevirtual 200, 3) := by decide +kernel
theorem dX11_areTwoPlaces_5 : decode cX11_areTwoPlaces 5 = .ok (.ifCond .eq 20, 3) := by decide +kernel
theorem dX11_areTwoPlaces_8 : decode cX11_areTwoPlaces 8 = .ok (.aload_n 0, 1) := by decide +kernel
theorem dX11_areTwoPlaces_9 : decode cX11_areTwoPlaces 9 = .ok (.iload_n 2, 1) := by decide +kernel
theorem dX11_areTwoPlaces_10 : decode cX11_areTwoPlaces 10 = .ok (.invokevirtual 200, 3) := by decide +kernel
theorem dX11_areTwoPlaces_13 : decode cX11_areTwoPlaces 13 = .ok (.ifCond .eq 12, 3) := by decide +kernel
theorem dX11_areTwoPlaces_16 : decode cX11_areTwoPlaces 16 = .ok (.iload_n 1, 1) := by decide +kernel
theorem dX11_areTwoPlaces_17 : decode cX11_areTwoPlaces 17 = .ok (.iload_n 2, 1) := by decide +kernel
theorem dX11_areTwoPlaces_18 : decode cX11_areTwoPlaces 18 = .ok (.if_icmp .eq 7, 3) := by decide +kernel
theorem dX11_areTwoPlaces_21 : decode cX11_areTwoPlaces 21 = .ok (.iconst 1, 1) := by decide +kernel
theorem dX11_areTwoPlaces_22 : decode cX11_areTwoPlaces 22 = .ok (.goto 4, 3) := by decide +kernel
theorem dX11_areTwoPlaces_25 : decode cX11_areTwoPlaces 25 = .ok (.iconst 0, 1) := by decide +kernel
theorem dX11_areTwoPlaces_26 : decode cX11_areTwoPlaces 26 = .ok (.ireturn, 1) := by decide +kernel
abbrev rm_X11_areTwoPlaces : Room := { frames := 1, cells := 0, slots := 0, locals := 21 }
def f_X11_areTwoPlaces_25 (h : Mem) : Option Int32 :=
  some 0
set_option maxRecDepth 100000 in
set_option maxHeartbeats 4000000 in
theorem w_X11_areTwoPlaces_25 {G : GE} {X : CX} {l : Launch} (hX : Ok G X cX11_areTwoPlaces RX11) (hN : xn X = 3) (h : Mem) {P : Int32 → Prop} (hr : Rt G X l yX11_areTwoPlaces (some .boolean) rm_X11_areTwoPlaces (ppI h P)) (hy : OK (f_X11_areTwoPlaces_25 h) P) : AW G X 25 [] [] h 0 0 := by
  unfold f_X11_areTwoPlaces_25 at hy
  refine aw_iconst (pc := 25) hX 0 (by decide) dX11_areTwoPlaces_25 ?_
  exact aw_zret (pc := 26) hX hr (by decide) (by decide) dX11_areTwoPlaces_26 (Or.inl rfl) ⟨rfl, _, rfl, hy.s⟩
def f_X11_areTwoPlaces (h : Mem) (v0 : Nat) (v1 : Int32) (v2 : Int32) : Option Int32 :=
  (ck h v0 9).bind fun _ => (f_X11_isPlace h v0 v1).bind fun x1 => (if x1 = 0 then f_X11_areTwoPlaces_25 h else (f_X11_isPlace h v0 v2).bind fun x2 => (if x2 = 0 then f_X11_areTwoPlaces_25 h else (if v1 = v2 then f_X11_areTwoPlaces_25 h else some 1)))
set_option maxRecDepth 100000 in
set_option maxHeartbeats 4000000 in
theorem w_X11_areTwoPlaces {G : GE} {X : CX} {l : Launch} (hX : Ok G X cX11_areTwoPlaces RX11) (hN : xn X = 3) (h : Mem) {P : Int32 → Prop} (hr : Rt G X l yX11_areTwoPlaces (some .boolean) rm_X11_areTwoPlaces (ppI h P)) (v0 : Nat) (v1 : Int32) (v2 : Int32) (hy : OK (f_X11_areTwoPlaces h v0 v1 v2) P) : AW G X 0 [(0, vR v0), (1, vI v1), (2, vI v2)] [] h 0 0 := by
  unfold f_X11_areTwoPlaces at hy
  have hkd := hy.kd
  have hy := hy.kb
  refine aw_aloadn (pc := 0) hX 0 rfl dX11_areTwoPlaces_0 ?_
  refine aw_iloadn (pc := 1) hX 1 rfl dX11_areTwoPlaces_1 ?_
  refine aw_callV (pc := 2) (st := []) (a := v0) hX [vI v1] (con_X11_isPlace _ G _ v0 v1 hy.bd) mc_X11_isPlace ml_X11_200 im_X11_isPlace se_X11_isPlace (by decide) hy.bd.kd rfl (rm_of hr (by decide)) (Nat.le_of_ble_eq_true rfl) rfl dX11_areTwoPlaces_2 (kpI rfl rfl (fun x1 hy => ?_))
  refine aw_if_eq (pc := 5) hX 25 (by decide) dX11_areTwoPlaces_5 (fun hc9 => ?_) (fun hc9 => ?_)
  · have hy := hy.t hc9
    refine AW.sub [] rfl ?_
    exact w_X11_areTwoPlaces_25 hX hN _ hr hy
  · have hy := hy.f hc9
    refine aw_aloadn (pc := 8) hX 0 rfl dX11_areTwoPlaces_8 ?_
    refine aw_iloadn (pc := 9) hX 2 rfl dX11_areTwoPlaces_9 ?_
    refine aw_callV (pc := 10) (st := []) (a := v0) hX [vI v2] (con_X11_isPlace _ G _ v0 v2 hy.bd) mc_X11_isPlace ml_X11_200 im_X11_isPlace se_X11_isPlace (by decide) hy.bd.kd rfl (rm_of hr (by decide)) (Nat.le_of_ble_eq_true rfl) rfl dX11_areTwoPlaces_10 (kpI rfl rfl (fun x2 hy => ?_))
    refine aw_if_eq (pc := 13) hX 25 (by decide) dX11_areTwoPlaces_13 (fun hc9 => ?_) (fun hc9 => ?_)
    · have hy := hy.t hc9
      refine AW.sub [] rfl ?_
      exact w_X11_areTwoPlaces_25 hX hN _ hr hy
    · have hy := hy.f hc9
      refine aw_iloadn (pc := 16) hX 1 rfl dX11_areTwoPlaces_16 ?_
      refine aw_iloadn (pc := 17) hX 2 rfl dX11_areTwoPlaces_17 ?_
      refine aw_ic_eq (pc := 18) hX 25 (by decide) dX11_areTwoPlaces_18 (fun hc9 => ?_) (fun hc9 => ?_)
      · have hy := hy.t hc9
        refine AW.sub [] rfl ?_
        exact w_X11_areTwoPlaces_25 hX hN _ hr hy
      · have hy := hy.f hc9
        refine aw_iconst (pc := 21) hX 1 (by decide) dX11_areTwoPlaces_21 ?_
        refine aw_goto (pc := 22) hX 26 (by decide) dX11_areTwoPlaces_22 ?_
        exact aw_zret (pc := 26) hX hr (by decide) (by decide) dX11_areTwoPlaces_26 (Or.inr rfl) ⟨rfl, _, rfl, hy.s⟩
theorem con_X11_areTwoPlaces (l : Launch) (G : GE) (h : Mem) (v0 : Nat) (v1 : Int32) (v2 : Int32) {P : Int32 → Prop} (hy : OK (f_X11_areTwoPlaces h v0 v1 v2) P) : Con l G yX11_areTwoPlaces cX11_areTwoPlaces 3 (some .boolean) rm_X11_areTwoPlaces [vR v0, vI v1, vI v2] h (ppI h P) := Con.of (by decide) (Nat.le_of_ble_eq_true rfl) (fun X hX hr hN => w_X11_areTwoPlaces hX hN h hr v0 v1 v2 hy)
/-! X11_road -/
theorem dX11_road_0 : decode cX11_road 0 = .ok (.aload_n 0, 1) := by decide +kernel
theorem dX11_road_1 : decode cX11_road 1 = .ok (.iload_n 1, 1) := by decide +kernel
theorem dX11_road_2 : decode cX11_road 2 = .ok (.iload_n 2, 1) := by decide +kernel
theorem dX11_road_3 : decode cX11_road 3 = .ok (.invokevirtual 143, 3) := by decide +kernel
theorem dX11_road_6 : decode cX11_road 6 = .ok (.ifCond .ne 9, 3) := by decide +kernel
theorem dX11_road_9 : decode cX11_road 9 = .ok (.aload_n 0, 1) := by decide +kernel
theorem dX11_road_10 : decode cX11_road 10 = .ok (.iconst 1, 1) := by decide +kernel
theorem dX11_road_11 : decode cX11_road 11 = .ok (.invokevirtual 84, 3) := by decide +kernel
theorem dX11_road_14 : decode cX11_road 14 = .ok (.ireturn, 1) := by decide +kernel
theorem dX11_road_15 : decode cX11_road 15 = .ok (.aload_n 0, 1) := by decide +kernel
theorem dX11_road_16 : decode cX11_road 16 = .ok (.getfield 10, 3) := by decide +kernel
theorem dX11_road_19 : decode cX11_road 19 = .ok (.iload_n 1, 1) := by decide +kernel
theorem dX11_road_20 : decode cX11_road 20 = .ok (.iload_n 2, 1) := by decide +kernel
theorem dX11_road_21 : decode cX11_road 21 = .ok (.invokevirtual 147, 3) := by decide +kernel
theorem dX11_road_24 : decode cX11_road 24 = .ok (.istore_n 3, 1) := by decide +kernel
theorem dX11_road_25 : decode cX11_road 25 = .ok (.aload_n 0, 1) := by decide +kernel
theorem dX11_road_26 : decode cX11_road 26 = .ok (.iload_n 3, 1) := by decide +kernel
theorem dX11_road_27 : decode cX11_road 27 = .ok (.ifCond .ge 8, 3) := by decide +kernel
theorem dX11_road_30 : decode cX11_road 30 = .ok (.bipush (-2), 2) := by decide +kernel
theorem dX11_road_32 : decode cX11_road 32 = .ok (.goto 12, 3) := by decide +kernel
theorem dX11_road_35 : decode cX11_road 35 = .ok (.aload_n 0, 1) := by decide +kernel
theorem dX11_road_36 : decode cX11_road 36 = .ok (.getfield 10, 3) := by decide +kernel
theorem dX11_road_39 : decode cX11_road 39 = .ok (.getfield 151, 3) := by decide +kernel
theorem dX11_road_42 : decode cX11_road 42 = .ok (.iload_n 3, 1) := by decide +kernel
theorem dX11_road_43 : decode cX11_road 43 = .ok (.iaload, 1) := by decide +kernel
theorem dX11_road_44 : decode cX11_road 44 = .ok (.invokevirtual 117, 3) := by decide +kernel
theorem dX11_road_47 : decode cX11_road 47 = .ok (.ireturn, 1) := by decide +kernel
abbrev rm_X11_road : Room := { frames := 2, cells := 0, slots := 0, locals := 43 }
def f_X11_road_44 (h : Mem) (s0 : Nat) (s1 : Int32) : Option (Int32 × Mem) :=
  (f_X11_answer h s0 s1).bind fun q9 => some (q9.1, q9.2)
set_option maxRecDepth 100000 in
set_option maxHeartbeats 4000000 in
theorem w_X11_road_44 {G : GE} {X : CX} {l : Launch} (hX : Ok G X cX11_road RX11) (hN : xn X = 4) {P : (Int32 × Mem) → Prop} (hr : Rt G X l yX11_road (some .int) rm_X11_road (pmI P)) (h : Mem) (s0 : Nat) (s1 : Int32) (hy : OK (f_X11_road_44 h s0 s1) P) : AW G X 44 [] [vI s1, vR s0] h 0 0 := by
  unfold f_X11_road_44 at hy
  refine aw_callV (pc := 44) (st := []) (a := s0) hX [vI s1] (con_X11_answer _ G _ s0 s1 hy.bd) mc_X11_answer ml_X11_117 im_X11_answer se_X11_answer (by decide) hy.bd.kd rfl (rm_of hr (by decide)) (Nat.le_of_ble_eq_true rfl) rfl dX11_road_44 (kmI rfl rfl (fun q9 hy => ?_))
  exact aw_iret (pc := 47) hX hr (by decide) (by decide) dX11_road_47 ⟨_, rfl, hy.s⟩
def f_X11_road (h : Mem) (v0 : Nat) (v1 : Int32) (v2 : Int32) : Option (Int32 × Mem) :=
  (ck h v0 9).bind fun _ => (f_X11_areTwoPlaces h v0 v1 v2).bind fun x1 => (if x1 = 0 then (f_X11_refuse h v0 1).bind fun q12 => some (q12.1, q12.2) else (gR h v0 1 9).bind fun r2 => (f_X5_roadBetween h r2 v1 v2).bind fun x3 => (if 0 ≤ x3 then (gR h v0 1 9).bind fun r4 => (gR h r4 12 4).bind fun r5 => (aI h r5 x3).bind fun x6 => f_X11_road_44 h v0 x6 else f_X11_road_44 h v0 (-2)))
set_option maxRecDepth 100000 in
set_option maxHeartbeats 4000000 in
theorem w_X11_road {G : GE} {X : CX} {l : Launch} (hX : Ok G X cX11_road RX11) (hN : xn X = 4) {P : (Int32 × Mem) → Prop} (hr : Rt G X l yX11_road (some .int) rm_X11_road (pmI P)) (h : Mem) (v0 : Nat) (v1 : Int32) (v2 : Int32) (hy : OK (f_X11_road h v0 v1 v2) P) : AW G X 0 [(0, vR v0), (1, vI v1), (2, vI v2)] [] h 0 0 := by
  unfold f_X11_road at hy
  have hkd := hy.kd
  have hy := hy.kb
  refine aw_aloadn (pc := 0) hX 0 rfl dX11_road_0 ?_
  refine aw_iloadn (pc := 1) hX 1 rfl dX11_road_1 ?_
  refine aw_iloadn (pc := 2) hX 2 rfl dX11_road_2 ?_
  refine aw_callV (pc := 3) (st := []) (a := v0) hX [vI v1, vI v2] (con_X11_areTwoPlaces _ G _ v0 v1 v2 hy.bd) mc_X11_areTwoPlaces ml_X11_143 im_X11_areTwoPlaces se_X11_areTwoPlaces (by decide) hy.bd.kd rfl (rm_of hr (by decide)) (Nat.le_of_ble_eq_true rfl) rfl dX11_road_3 (kpI rfl rfl (fun x1 hy => ?_))
  refine aw_if_ne (pc := 6) hX 15 (by decide) dX11_road_6 (fun hc9 => ?_) (fun hc9 => ?_)
  · have hy := hy.f hc9
    refine aw_aloadn (pc := 15) hX 0 rfl dX11_road_15 ?_
    refine aw_gR (pc := 16) hX hy fl_X11_10 (fun _ _ => rfl) dX11_road_16 (fun r2 hy => ?_)
    refine aw_iloadn (pc := 19) hX 1 rfl dX11_road_19 ?_
    refine aw_iloadn (pc := 20) hX 2 rfl dX11_road_20 ?_
    refine aw_callV (pc := 21) (st := []) (a := r2) hX [vI v1, vI v2] (con_X5_roadBetween _ G _ r2 v1 v2 hy.bd) mc_X5_roadBetween ml_X11_147 im_X5_roadBetween se_X5_roadBetween (by decide) hy.bd.kd rfl (rm_of hr (by decide)) (Nat.le_of_ble_eq_true rfl) rfl dX11_road_21 (kpI rfl rfl (fun x3 hy => ?_))
    refine aw_istoren (pc := 24) hX [(3, vI x3), (0, vR v0), (1, vI v1), (2, vI v2)] rfl (lt_n hN (by decide)) dX11_road_24 ?_
    refine aw_aloadn (pc := 25) hX 1 rfl dX11_road_25 ?_
    refine aw_iloadn (pc := 26) hX 0 rfl dX11_road_26 ?_
    refine aw_if_ge (pc := 27) hX 35 (by decide) dX11_road_27 (fun hc9 => ?_) (fun hc9 => ?_)
    · have hy := hy.t hc9
      refine aw_aloadn (pc := 35) hX 1 rfl dX11_road_35 ?_
      refine aw_gR (pc := 36) hX hy fl_X11_10 (fun _ _ => rfl) dX11_road_36 (fun r4 hy => ?_)
      refine aw_gR (pc := 39) hX hy fl_X11_151 (fun _ _ => rfl) dX11_road_39 (fun r5 hy => ?_)
      refine aw_iloadn (pc := 42) hX 0 rfl dX11_road_42 ?_
      refine aw_aI (pc := 43) hX hy dX11_road_43 (fun x6 hy => ?_)
      refine AW.sub [] rfl ?_
      exact w_X11_road_44 hX hN hr h v0 x6 hy
    · have hy := hy.f hc9
      refine aw_bipush (pc := 30) hX (-2) (by decide) dX11_road_30 ?_
      refine aw_goto (pc := 32) hX 44 (by decide) dX11_road_32 ?_
      refine AW.sub [] rfl ?_
      exact w_X11_road_44 hX hN hr h v0 (-2) hy
  · have hy := hy.t hc9
    refine aw_aloadn (pc := 9) hX 0 rfl dX11_road_9 ?_
    refine aw_iconst (pc := 10) hX 1 (by decide) dX11_road_10 ?_
    refine aw_callV (pc := 11) (st := []) (a := v0) hX [vI 1] (con_X11_refuse _ G _ v0 1 hy.bd) mc_X11_refuse ml_X11_84 im_X11_refuse se_X11_refuse (by decide) hy.bd.kd rfl (rm_of hr (by decide)) (Nat.le_of_ble_eq_true rfl) rfl dX11_road_11 (kmI rfl rfl (fun q12 hy => ?_))
    exact aw_iret (pc := 14) hX hr (by decide) (by decide) dX11_road_14 ⟨_, rfl, hy.s⟩
theorem con_X11_road (l : Launch) (G : GE) (h : Mem) (v0 : Nat) (v1 : Int32) (v2 : Int32) {P : (Int32 × Mem) → Prop} (hy : OK (f_X11_road h v0 v1 v2) P) : Con l G yX11_road cX11_road 4 (some .int) rm_X11_road [vR v0, vI v1, vI v2] h (pmI P) := Con.of (by decide) (Nat.le_of_ble_eq_true rfl) (fun X hX hr hN => w_X11_road hX hN hr h v0 v1 v2 hy)
/-! X11_gate -/
theorem dX11_gate_0 : decode cX11_gate 0 = .ok (.aload_n 0, 1) := by decide +kernel
theorem dX11_gate_1 : decode cX11_gate 1 = .ok (.iload_n 1, 1) := by decide +kernel
theorem dX11_gate_2 : decode cX11_gate 2 = .ok (.iload_n 2, 1) := by decide +kernel
theorem dX11_gate_3 : decode cX11_gate 3 = .ok (.invokevirtual 143, 3) := by decide +kernel
theorem dX11_gate_6 : decode cX11_gate 6 = .ok (.ifCond .eq 12, 3) := by decide +kernel
theorem dX11_gate_9 : decode cX11_gate 9 = .ok (.iload_n 3, 1) := by decide +kernel
theorem dX11_gate_10 : decode cX11_gate 10 = .ok (.ifCond .lt 8, 3) := by decide +kernel
theorem dX11_gate_13 : decode cX11_gate 13 = .ok (.iload_n 3, 1) := by decide +kernel
theorem dX11_gate_14 : decode cX11_gate 14 = .ok (.iconst 2, 1) := by decide +kernel
theorem dX11_gate_15 : decode cX11_gate 15 = .ok (.if_icmp .lt 9, 3) := by decide +kernel
theorem dX11_gate_18 : decode cX11_gate 18 = .ok (.aload_n 0, 1) := by decide +kernel
theorem dX11_gate_19 : decode cX11_gate 19 = .ok (.iconst 1, 1) := by decide +kernel
theorem dX11_gate_20 : decode cX11_gate 20 = .ok (.invokevirtual 84, 3) := by decide +kernel
theorem dX11_gate_23 : decode cX11_gate 23 = .ok (.ireturn, 1) := by decide +kernel
theorem dX11_gate_24 : decode cX11_gate 24 = .ok (.aload_n 0, 1) := by decide +kernel
theorem dX11_gate_25 : decode cX11_gate 25 = .ok (.getfield 10, 3) := by decide +kernel
theorem dX11_gate_28 : decode cX11_gate 28 = .ok (.iload_n 1, 1) := by decide +kernel
theorem dX11_gate_29 : decode cX11_gate 29 = .ok (.iload_n 2, 1) := by decide +kernel
theorem dX11_gate_30 : decode cX11_gate 30 = .ok (.invokevirtual 147, 3) := by decide +kernel
theorem dX11_gate_33 : decode cX11_gate 33 = .ok (.istore 4, 2) := by decide +kernel
theorem dX11_gate_35 : decode cX11_gate 35 = .ok (.iload 4, 2) := by decide +kernel
theorem dX11_gate_37 : decode cX11_gate 37 = .ok (.ifCond .lt 15, 3) := by decide +kernel
theorem dX11_gate_40 : decode cX11_gate 40 = .ok (.aload_n 0, 1) := by decide +kernel
theorem dX11_gate_41 : decode cX11_gate 41 = .ok (.getfield 10, 3) := by decide +kernel
theorem dX11_gate_44 : decode cX11_gate 44 = .ok (.iload 4, 2) := by decide +kernel
theorem dX11_gate_46 : decode cX11_gate 46 = .ok (.invokevirtual 154, 3) := by decide +kernel
theorem dX11_gate_49 : decode cX11_gate 49 = .ok (.ifCond .ne 10, 3) := by decide +kernel
theorem dX11_gate_52 : decode cX11_gate 52 = .ok (.aload_n 0, 1) := by decide +kernel
theorem dX11_gate_53 : decode cX11_gate 53 = .ok (.bipush (-2), 2) := by decide +kernel
theorem dX11_gate_55 : decode cX11_gate 55 = .ok (.invokevirtual 117, 3) := by decide +kernel
theorem dX11_gate_58 : decode cX11_gate 58 = .ok (.ireturn, 1) := by decide +kernel
theorem dX11_gate_59 : decode cX11_gate 59 = .ok (.aload_n 0, 1) := by decide +kernel
theorem dX11_gate_60 : decode cX11_gate 60 = .ok (.iload_n 3, 1) := by decide +kernel
theorem dX11_gate_61 : decode cX11_gate 61 = .ok (.ifCond .ne 16, 3) := by decide +kernel
theorem dX11_gate_64 : decode cX11_gate 64 = .ok (.aload_n 0, 1) := by decide +kernel
theorem dX11_gate_65 : decode cX11_gate 65 = .ok (.getfield 10, 3) := by decide +kernel
theorem dX11_gate_68 : decode cX11_gate 68 = .ok (.getfield 157, 3) := by decide +kernel
theorem dX11_gate_71 : decode cX11_gate 71 = .ok (.iload 4, 2) := by decide +kernel
theorem dX11_gate_73 : decode cX11_gate 73 = .ok (.iaload, 1) := by decide +kernel
theorem dX11_gate_74 : decode cX11_gate 74 = .ok (.goto 13, 3) := by decide +kernel
theorem dX11_gate_77 : decode cX11_gate 77 = .ok (.aload_n 0, 1) := by decide +kernel
theorem dX11_gate_78 : decode cX11_gate 78 = .ok (.getfield 10, 3) := by decide +kernel
theorem dX11_gate_81 : decode cX11_gate 81 = .ok (.getfield 160, 3) := by decide +kernel
theorem dX11_gate_84 : decode cX11_gate 84 = .ok (.iload 4, 2) := by decide +kernel
theorem dX11_gate_86 : decode cX11_gate 86 = .ok (.iaload, 1) := by decide +kernel
theorem dX11_gate_87 : decode cX11_gate 87 = .ok (.invokevirtual 117, 3) := by decide +kernel
theorem dX11_gate_90 : decode cX11_gate 90 = .ok (.ireturn, 1) := by decide +kernel
abbrev rm_X11_gate : Room := { frames := 2, cells := 0, slots := 0, locals := 43 }
def f_X11_gate_18 (h : Mem) (v0 : Nat) : Option (Int32 × Mem) :=
  (f_X11_refuse h v0 1).bind fun q4 => some (q4.1, q4.2)
set_option maxRecDepth 100000 in
set_option maxHeartbeats 4000000 in
theorem w_X11_gate_18 {G : GE} {X : CX} {l : Launch} (hX : Ok G X cX11_gate RX11) (hN : xn X = 5) {P : (Int32 × Mem) → Prop} (hr : Rt G X l yX11_gate (some .int) rm_X11_gate (pmI P)) (h : Mem) (v0 : Nat) (hy : OK (f_X11_gate_18 h v0) P) : AW G X 18 [(0, vR v0)] [] h 0 0 := by
  unfold f_X11_gate_18 at hy
  refine aw_aloadn (pc := 18) hX 0 rfl dX11_gate_18 ?_
  refine aw_iconst (pc := 19) hX 1 (by decide) dX11_gate_19 ?_
  refine aw_callV (pc := 20) (st := []) (a := v0) hX [vI 1] (con_X11_refuse _ G _ v0 1 hy.bd) mc_X11_refuse ml_X11_84 im_X11_refuse se_X11_refuse (by decide) hy.bd.kd rfl (rm_of hr (by decide)) (Nat.le_of_ble_eq_true rfl) rfl dX11_gate_20 (kmI rfl rfl (fun q4 hy => ?_))
  exact aw_iret (pc := 23) hX hr (by decide) (by decide) dX11_gate_23 ⟨_, rfl, hy.s⟩
def f_X11_gate_52 (h : Mem) (v0 : Nat) : Option (Int32 × Mem) :=
  (f_X11_answer h v0 (-2)).bind fun q9 => some (q9.1, q9.2)
set_option maxRecDepth 100000 in
set_option maxHeartbeats 4000000 in
theorem w_X11_gate_52 {G : GE} {X : CX} {l : Launch} (hX : Ok G X cX11_gate RX11) (hN : xn X = 5) {P : (Int32 × Mem) → Prop} (hr : Rt G X l yX11_gate (some .int) rm_X11_gate (pmI P)) (h : Mem) (v0 : Nat) (hy : OK (f_X11_gate_52 h v0) P) : AW G X 52 [(0, vR v0)] [] h 0 0 := by
  unfold f_X11_gate_52 at hy
  refine aw_aloadn (pc := 52) hX 0 rfl dX11_gate_52 ?_
  refine aw_bipush (pc := 53) hX (-2) (by decide) dX11_gate_53 ?_
  refine aw_callV (pc := 55) (st := []) (a := v0) hX [vI (-2)] (con_X11_answer _ G _ v0 (-2) hy.bd) mc_X11_answer ml_X11_117 im_X11_answer se_X11_answer (by decide) hy.bd.kd rfl (rm_of hr (by decide)) (Nat.le_of_ble_eq_true rfl) rfl dX11_gate_55 (kmI rfl rfl (fun q9 hy => ?_))
  exact aw_iret (pc := 58) hX hr (by decide) (by decide) dX11_gate_58 ⟨_, rfl, hy.s⟩
def f_X11_gate_87 (h : Mem) (s0 : Nat) (s1 : Int32) : Option (Int32 × Mem) :=
  (f_X11_answer h s0 s1).bind fun q17 => some (q17.1, q17.2)
set_option maxRecDepth 100000 in
set_option maxHeartbeats 4000000 in
theorem w_X11_gate_87 {G : GE} {X : CX} {l : Launch} (hX : Ok G X cX11_gate RX11) (hN : xn X = 5) {P : (Int32 × Mem) → Prop} (hr : Rt G X l yX11_gate (some .int) rm_X11_gate (pmI P)) (h : Mem) (s0 : Nat) (s1 : Int32) (hy : OK (f_X11_gate_87 h s0 s1) P) : AW G X 87 [] [vI s1, vR s0] h 0 0 := by
  unfold f_X11_gate_87 at hy
  refine aw_callV (pc := 87) (st := []) (a := s0) hX [vI s1] (con_X11_answer _ G _ s0 s1 hy.bd) mc_X11_answer ml_X11_117 im_X11_answer se_X11_answer (by decide) hy.bd.kd rfl (rm_of hr (by decide)) (Nat.le_of_ble_eq_true rfl) rfl dX11_gate_87 (kmI rfl rfl (fun q17 hy => ?_))
  exact aw_iret (pc := 90) hX hr (by decide) (by decide) dX11_gate_90 ⟨_, rfl, hy.s⟩
def f_X11_gate (h : Mem) (v0 : Nat) (v1 : Int32) (v2 : Int32) (v3 : Int32) : Option (Int32 × Mem) :=
  (ck h v0 9).bind fun _ => (f_X11_areTwoPlaces h v0 v1 v2).bind fun x1 => (if x1 = 0 then f_X11_gate_18 h v0 else (if v3 < 0 then f_X11_gate_18 h v0 else (if v3 < 2 then (gR h v0 1 9).bind fun r5 => (f_X5_roadBetween h r5 v1 v2).bind fun x6 => (if x6 < 0 then f_X11_gate_52 h v0 else (gR h v0 1 9).bind fun r10 => (f_X5_hasGate h r10 x6).bind fun x11 => (if x11 = 0 then f_X11_gate_52 h v0 else (if v3 = 0 then (gR h v0 1 9).bind fun r18 => (gR h r18 13 4).bind fun r19 => (aI h r19 x6).bind fun x20 => f_X11_gate_87 h v0 x20 else (gR h v0 1 9).bind fun r12 => (gR h r12 14 4).bind fun r13 => (aI h r13 x6).bind fun x14 => f_X11_gate_87 h v0 x14))) else f_X11_gate_18 h v0)))
set_option maxRecDepth 100000 in
set_option maxHeartbeats 4000000 in
theorem w_X11_gate {G : GE} {X : CX} {l : Launch} (hX : Ok G X cX11_gate RX11) (hN : xn X = 5) {P : (Int32 × Mem) → Prop} (hr : Rt G X l yX11_gate (some .int) rm_X11_gate (pmI P)) (h : Mem) (v0 : Nat) (v1 : Int32) (v2 : Int32) (v3 : Int32) (hy : OK (f_X11_gate h v0 v1 v2 v3) P) : AW G X 0 [(0, vR v0), (1, vI v1), (2, vI v2), (3, vI v3)] [] h 0 0 := by
  unfold f_X11_gate at hy
  have hkd := hy.kd
  have hy := hy.kb
  refine aw_aloadn (pc := 0) hX 0 rfl dX11_gate_0 ?_
  refine aw_iloadn (pc := 1) hX 1 rfl dX11_gate_1 ?_
  refine aw_iloadn (pc := 2) hX 2 rfl dX11_gate_2 ?_
  refine aw_callV (pc := 3) (st := []) (a := v0) hX [vI v1, vI v2] (con_X11_areTwoPlaces _ G _ v0 v1 v2 hy.bd) mc_X11_areTwoPlaces ml_X11_143 im_X11_areTwoPlaces se_X11_areTwoPlaces (by decide) hy.bd.kd rfl (rm_of hr (by decide)) (Nat.le_of_ble_eq_true rfl) rfl dX11_gate_3 (kpI rfl rfl (fun x1 hy => ?_))
  refine aw_if_eq (pc := 6) hX 18 (by decide) dX11_gate_6 (fun hc9 => ?_) (fun hc9 => ?_)
  · have hy := hy.t hc9
    refine AW.sub [0] rfl ?_
    exact w_X11_gate_18 hX hN hr h v0 hy
  · have hy := hy.f hc9
    refine aw_iloadn (pc := 9) hX 3 rfl dX11_gate_9 ?_
    refine aw_if_lt (pc := 10) hX 18 (by decide) dX11_gate_10 (fun hc9 => ?_) (fun hc9 => ?_)
    · have hy := hy.t hc9
      refine AW.sub [0] rfl ?_
      exact w_X11_gate_18 hX hN hr h v0 hy
    · have hy := hy.f hc9
      refine aw_iloadn (pc := 13) hX 3 rfl dX11_gate_13 ?_
      refine aw_iconst (pc := 14) hX 2 (by decide) dX11_gate_14 ?_
      refine aw_ic_lt (pc := 15) hX 24 (by decide) dX11_gate_15 (fun hc9 => ?_) (fun hc9 => ?_)
      · have hy := hy.t hc9
        refine aw_aloadn (pc := 24) hX 0 rfl dX11_gate_24 ?_
        refine aw_gR (pc := 25) hX hy fl_X11_10 (fun _ _ => rfl) dX11_gate_25 (fun r5 hy => ?_)
        refine aw_iloadn (pc := 28) hX 1 rfl dX11_gate_28 ?_
        refine aw_iloadn (pc := 29) hX 2 rfl dX11_gate_29 ?_
        refine aw_callV (pc := 30) (st := []) (a := r5) hX [vI v1, vI v2] (con_X5_roadBetween _ G _ r5 v1 v2 hy.bd) mc_X5_roadBetween ml_X11_147 im_X5_roadBetween se_X5_roadBetween (by decide) hy.bd.kd rfl (rm_of hr (by decide)) (Nat.le_of_ble_eq_true rfl) rfl dX11_gate_30 (kpI rfl rfl (fun x6 hy => ?_))
        refine aw_istore (pc := 33) hX [(4, vI x6), (0, vR v0), (1, vI v1), (2, vI v2), (3, vI v3)] rfl (lt_n hN (by decide)) dX11_gate_33 ?_
        refine aw_iload (pc := 35) hX 0 rfl dX11_gate_35 ?_
        refine aw_if_lt (pc := 37) hX 52 (by decide) dX11_gate_37 (fun hc9 => ?_) (fun hc9 => ?_)
        · have hy := hy.t hc9
          refine AW.sub [1] rfl ?_
          exact w_X11_gate_52 hX hN hr h v0 hy
        · have hy := hy.f hc9
          refine aw_aloadn (pc := 40) hX 1 rfl dX11_gate_40 ?_
          refine aw_gR (pc := 41) hX hy fl_X11_10 (fun _ _ => rfl) dX11_gate_41 (fun r10 hy => ?_)
          refine aw_iload (pc := 44) hX 0 rfl dX11_gate_44 ?_
          refine aw_callV (pc := 46) (st := []) (a := r10) hX [vI x6] (con_X5_hasGate _ G _ r10 x6 hy.bd) mc_X5_hasGate ml_X11_154 im_X5_hasGate se_X5_hasGate (by decide) hy.bd.kd rfl (rm_of hr (by decide)) (Nat.le_of_ble_eq_true rfl) rfl dX11_gate_46 (kpI rfl rfl (fun x11 hy => ?_))
          refine aw_if_ne (pc := 49) hX 59 (by decide) dX11_gate_49 (fun hc9 => ?_) (fun hc9 => ?_)
          · have hy := hy.f hc9
            refine aw_aloadn (pc := 59) hX 1 rfl dX11_gate_59 ?_
            refine aw_iloadn (pc := 60) hX 4 rfl dX11_gate_60 ?_
            refine aw_if_ne (pc := 61) hX 77 (by decide) dX11_gate_61 (fun hc9 => ?_) (fun hc9 => ?_)
            · have hy := hy.f hc9
              refine aw_aloadn (pc := 77) hX 1 rfl dX11_gate_77 ?_
              refine aw_gR (pc := 78) hX hy fl_X11_10 (fun _ _ => rfl) dX11_gate_78 (fun r12 hy => ?_)
              refine aw_gR (pc := 81) hX hy fl_X11_160 (fun _ _ => rfl) dX11_gate_81 (fun r13 hy => ?_)
              refine aw_iload (pc := 84) hX 0 rfl dX11_gate_84 ?_
              refine aw_aI (pc := 86) hX hy dX11_gate_86 (fun x14 hy => ?_)
              refine AW.sub [] rfl ?_
              exact w_X11_gate_87 hX hN hr h v0 x14 hy
            · have hy := hy.t hc9
              refine aw_aloadn (pc := 64) hX 1 rfl dX11_gate_64 ?_
              refine aw_gR (pc := 65) hX hy fl_X11_10 (fun _ _ => rfl) dX11_gate_65 (fun r18 hy => ?_)
              refine aw_gR (pc := 68) hX hy fl_X11_157 (fun _ _ => rfl) dX11_gate_68 (fun r19 hy => ?_)
              refine aw_iload (pc := 71) hX 0 rfl dX11_gate_71 ?_
              refine aw_aI (pc := 73) hX hy dX11_gate_73 (fun x20 hy => ?_)
              refine aw_goto (pc := 74) hX 87 (by decide) dX11_gate_74 ?_
              refine AW.sub [] rfl ?_
              exact w_X11_gate_87 hX hN hr h v0 x20 hy
          · have hy := hy.t hc9
            refine AW.sub [1] rfl ?_
            exact w_X11_gate_52 hX hN hr h v0 hy
      · have hy := hy.f hc9
        refine AW.sub [0] rfl ?_
        exact w_X11_gate_18 hX hN hr h v0 hy
theorem con_X11_gate (l : Launch) (G : GE) (h : Mem) (v0 : Nat) (v1 : Int32) (v2 : Int32) (v3 : Int32) {P : (Int32 × Mem) → Prop} (hy : OK (f_X11_gate h v0 v1 v2 v3) P) : Con l G yX11_gate cX11_gate 5 (some .int) rm_X11_gate [vR v0, vI v1, vI v2, vI v3] h (pmI P) := Con.of (by decide) (Nat.le_of_ble_eq_true rfl) (fun X hX hr hN => w_X11_gate hX hN hr h v0 v1 v2 v3 hy)
/-! X11_isInn -/
theorem dX11_isInn_0 : decode cX11_isInn 0 = .ok (.iload_n 1, 1) := by decide +kernel
theorem dX11_isInn_1 : decode cX11_isInn 1 = .ok (.ifCond .lt 18, 3) := by decide +kernel
theorem dX11_isInn_4 : decode cX11_isInn 4 = .ok (.iload_n 1, 1) := by decide +kernel
theorem dX11_isInn_5 : decode cX11_isInn 5 = .ok (.aload_n 0, 1) := by decide +kernel
theorem dX11_isInn_6 : decode cX11_isInn 6 = .ok (.getfield 10, 3) := by decide +kernel
theorem dX11_isInn_9 : decode cX11_isInn 9 = .ok (.getfield 362, 3) := by decide +kernel
theorem dX11_isInn_12 : decode cX11_isInn 12 = .ok (.if_icmp .ge 7, 3) := by decide +kernel
theorem dX11_isInn_15 : decode cX11_isInn 15 = .ok (.iconst 1, 1) := by decide +kernel
theorem dX11_isInn_16 : decode cX11_isInn 16 = .ok (.goto 4, 3) := by decide +kernel
theorem dX11_isInn_19 : decode cX11_isInn 19 = .ok (.iconst 0, 1) := by decide +kernel
theorem dX11_isInn_20 : decode cX11_isInn 20 = .ok (.ireturn, 1) := by decide +kernel
abbrev rm_X11_isInn : Room := { frames := 0, cells := 0, slots := 0, locals := 0 }
def f_X11_isInn_19 (h : Mem) : Option Int32 :=
  some 0
set_option maxRecDepth 100000 in
set_option maxHeartbeats 4000000 in
theorem w_X11_isInn_19 {G : GE} {X : CX} {l : Launch} (hX : Ok G X cX11_isInn RX11) (hN : xn X = 2) (h : Mem) {P : Int32 → Prop} (hr : Rt G X l yX11_isInn (some .boolean) rm_X11_isInn (ppI h P)) (hy : OK (f_X11_isInn_19 h) P) : AW G X 19 [] [] h 0 0 := by
  unfold f_X11_isInn_19 at hy
  refine aw_iconst (pc := 19) hX 0 (by decide) dX11_isInn_19 ?_
  exact aw_zret (pc := 20) hX hr (by decide) (by decide) dX11_isInn_20 (Or.inl rfl) ⟨rfl, _, rfl, hy.s⟩
def f_X11_isInn (h : Mem) (v0 : Nat) (v1 : Int32) : Option Int32 :=
  (ck h v0 9).bind fun _ => (if v1 < 0 then f_X11_isInn_19 h else (gR h v0 1 9).bind fun r1 => (gI h r1 5 4).bind fun x2 => (if x2 ≤ v1 then f_X11_isInn_19 h else some 1))
set_option maxRecDepth 100000 in
set_option maxHeartbeats 4000000 in
theorem w_X11_isInn {G : GE} {X : CX} {l : Launch} (hX : Ok G X cX11_isInn RX11) (hN : xn X = 2) (h : Mem) {P : Int32 → Prop} (hr : Rt G X l yX11_isInn (some .boolean) rm_X11_isInn (ppI h P)) (v0 : Nat) (v1 : Int32) (hy : OK (f_X11_isInn h v0 v1) P) : AW G X 0 [(0, vR v0), (1, vI v1)] [] h 0 0 := by
  unfold f_X11_isInn at hy
  have hkd := hy.kd
  have hy := hy.kb
  refine aw_iloadn (pc := 0) hX 1 rfl dX11_isInn_0 ?_
  refine aw_if_lt (pc := 1) hX 19 (by decide) dX11_isInn_1 (fun hc9 => ?_) (fun hc9 => ?_)
  · have hy := hy.t hc9
    refine AW.sub [] rfl ?_
    exact w_X11_isInn_19 hX hN _ hr hy
  · have hy := hy.f hc9
    refine aw_iloadn (pc := 4) hX 1 rfl dX11_isInn_4 ?_
    refine aw_aloadn (pc := 5) hX 0 rfl dX11_isInn_5 ?_
    refine aw_gR (pc := 6) hX hy fl_X11_10 (fun _ _ => rfl) dX11_isInn_6 (fun r1 hy => ?_)
    refine aw_gI (pc := 9) hX hy fl_X11_362 (fun _ _ => rfl) dX11_isInn_9 (fun x2 hy => ?_)
    refine aw_ic_ge (pc := 12) hX 19 (by decide) dX11_isInn_12 (fun hc9 => ?_) (fun hc9 => ?_)
    · have hy := hy.t hc9
      refine AW.sub [] rfl ?_
      exact w_X11_isInn_19 hX hN _ hr hy
    · have hy := hy.f hc9
      refine aw_iconst (pc := 15) hX 1 (by decide) dX11_isInn_15 ?_
      refine aw_goto (pc := 16) hX 20 (by decide) dX11_isInn_16 ?_
      exact aw_zret (pc := 20) hX hr (by decide) (by decide) dX11_isInn_20 (Or.inr rfl) ⟨rfl, _, rfl, hy.s⟩
theorem con_X11_isInn (l : Launch) (G : GE) (h : Mem) (v0 : Nat) (v1 : Int32) {P : Int32 → Prop} (hy : OK (f_X11_isInn h v0 v1) P) : Con l G yX11_isInn cX11_isInn 2 (some .boolean) rm_X11_isInn [vR v0, vI v1] h (ppI h P) := Con.of (by decide) (Nat.le_of_ble_eq_true rfl) (fun X hX hr hN => w_X11_isInn hX hN h hr v0 v1 hy)
/-! X11_inn -/
theorem dX11_inn_0 : decode cX11_inn 0 = .ok (.aload_n 0, 1) := by decide +kernel
theorem dX11_inn_1 : decode cX11_inn 1 = .ok (.iload_n 1, 1) := by decide +kernel
theorem dX11_inn_2 : decode cX11_inn 2 = .ok (.invokevirtual 163, 3) := by decide +kernel
theorem dX11_inn_5 : decode cX11_inn 5 = .ok (.ifCond .eq 12, 3) := by decide +kernel
theorem dX11_inn_8 : decode cX11_inn 8 = .ok (.iload_n 2, 1) := by decide +kernel
theorem dX11_inn_9 : decode cX11_inn 9 = .ok (.ifCond .lt 8, 3) := by decide +kernel
theorem dX11_inn_12 : decode cX11_inn 12 = .ok (.iload_n 2, 1) := by decide +kernel
theorem dX11_inn_13 : decode cX11_inn 13 = .ok (.iconst 4, 1) := by decide +kernel
theorem dX11_inn_14 : decode cX11_inn 14 = .ok (.if_icmp .lt 9, 3) := by decide +kernel
theorem dX11_inn_17 : decode cX11_inn 17 = .ok (.aload_n 0, 1) := by decide +kernel
theorem dX11_inn_18 : decode cX11_inn 18 = .ok (.iconst 1, 1) := by decide +kernel
theorem dX11_inn_19 : decode cX11_inn 19 = .ok (.invokevirtual 84, 3) := by decide +kernel
theorem dX11_inn_22 : decode cX11_inn 22 = .ok (.ireturn, 1) := by decide +kernel
theorem dX11_inn_23 : decode cX11_inn 23 = .ok (.aload_n 0, 1) := by decide +kernel
theorem dX11_inn_24 : decode cX11_inn 24 = .ok (.aload_n 0, 1) := by decide +kernel
theorem dX11_inn_25 : decode cX11_inn 25 = .ok (.getfield 10, 3) := by decide +kernel
theorem dX11_inn_28 : decode cX11_inn 28 = .ok (.iload_n 1, 1) := by decide +kernel
theorem dX11_inn_29 : decode cX11_inn 29 = .ok (.iload_n 2, 1) := by decide +kernel
theorem dX11_inn_30 : decode cX11_inn 30 = .ok (.invokevirtual 166, 3) := by decide +kernel
theorem dX11_inn_33 : decode cX11_inn 33 = .ok (.invokevirtual 117, 3) := by decide +kernel
theorem dX11_inn_36 : decode cX11_inn 36 = .ok (.ireturn, 1) := by decide +kernel
abbrev rm_X11_inn : Room := { frames := 1, cells := 0, slots := 0, locals := 22 }
def f_X11_inn_17 (h : Mem) (v0 : Nat) : Option (Int32 × Mem) :=
  (f_X11_refuse h v0 1).bind fun q4 => some (q4.1, q4.2)
set_option maxRecDepth 100000 in
set_option maxHeartbeats 4000000 in
theorem w_X11_inn_17 {G : GE} {X : CX} {l : Launch} (hX : Ok G X cX11_inn RX11) (hN : xn X = 3) {P : (Int32 × Mem) → Prop} (hr : Rt G X l yX11_inn (some .int) rm_X11_inn (pmI P)) (h : Mem) (v0 : Nat) (hy : OK (f_X11_inn_17 h v0) P) : AW G X 17 [(0, vR v0)] [] h 0 0 := by
  unfold f_X11_inn_17 at hy
  refine aw_aloadn (pc := 17) hX 0 rfl dX11_inn_17 ?_
  refine aw_iconst (pc := 18) hX 1 (by decide) dX11_inn_18 ?_
  refine aw_callV (pc := 19) (st := []) (a := v0) hX [vI 1] (con_X11_refuse _ G _ v0 1 hy.bd) mc_X11_refuse ml_X11_84 im_X11_refuse se_X11_refuse (by decide) hy.bd.kd rfl (rm_of hr (by decide)) (Nat.le_of_ble_eq_true rfl) rfl dX11_inn_19 (kmI rfl rfl (fun q4 hy => ?_))
  exact aw_iret (pc := 22) hX hr (by decide) (by decide) dX11_inn_22 ⟨_, rfl, hy.s⟩
def f_X11_inn (h : Mem) (v0 : Nat) (v1 : Int32) (v2 : Int32) : Option (Int32 × Mem) :=
  (ck h v0 9).bind fun _ => (f_X11_isInn h v0 v1).bind fun x1 => (if x1 = 0 then f_X11_inn_17 h v0 else (if v2 < 0 then f_X11_inn_17 h v0 else (if v2 < 4 then (gR h v0 1 9).bind fun r5 => (f_X5_innPart h r5 v1 v2).bind fun x6 => (f_X11_answer h v0 x6).bind fun q9 => some (q9.1, q9.2) else f_X11_inn_17 h v0)))
set_option maxRecDepth 100000 in
set_option maxHeartbeats 4000000 in
theorem w_X11_inn {G : GE} {X : CX} {l : Launch} (hX : Ok G X cX11_inn RX11) (hN : xn X = 3) {P : (Int32 × Mem) → Prop} (hr : Rt G X l yX11_inn (some .int) rm_X11_inn (pmI P)) (h : Mem) (v0 : Nat) (v1 : Int32) (v2 : Int32) (hy : OK (f_X11_inn h v0 v1 v2) P) : AW G X 0 [(0, vR v0), (1, vI v1), (2, vI v2)] [] h 0 0 := by
  unfold f_X11_inn at hy
  have hkd := hy.kd
  have hy := hy.kb
  refine aw_aloadn (pc := 0) hX 0 rfl dX11_inn_0 ?_
  refine aw_iloadn (pc := 1) hX 1 rfl dX11_inn_1 ?_
  refine aw_callV (pc := 2) (st := []) (a := v0) hX [vI v1] (con_X11_isInn _ G _ v0 v1 hy.bd) mc_X11_isInn ml_X11_163 im_X11_isInn se_X11_isInn (by decide) hy.bd.kd rfl (rm_of hr (by decide)) (Nat.le_of_ble_eq_true rfl) rfl dX11_inn_2 (kpI rfl rfl (fun x1 hy => ?_))
  refine aw_if_eq (pc := 5) hX 17 (by decide) dX11_inn_5 (fun hc9 => ?_) (fun hc9 => ?_)
  · have hy := hy.t hc9
    refine AW.sub [0] rfl ?_
    exact w_X11_inn_17 hX hN hr h v0 hy
  · have hy := hy.f hc9
    refine aw_iloadn (pc := 8) hX 2 rfl dX11_inn_8 ?_
    refine aw_if_lt (pc := 9) hX 17 (by decide) dX11_inn_9 (fun hc9 => ?_) (fun hc9 => ?_)
    · have hy := hy.t hc9
      refine AW.sub [0] rfl ?_
      exact w_X11_inn_17 hX hN hr h v0 hy
    · have hy := hy.f hc9
      refine aw_iloadn (pc := 12) hX 2 rfl dX11_inn_12 ?_
      refine aw_iconst (pc := 13) hX 4 (by decide) dX11_inn_13 ?_
      refine aw_ic_lt (pc := 14) hX 23 (by decide) dX11_inn_14 (fun hc9 => ?_) (fun hc9 => ?_)
      · have hy := hy.t hc9
        refine aw_aloadn (pc := 23) hX 0 rfl dX11_inn_23 ?_
        refine aw_aloadn (pc := 24) hX 0 rfl dX11_inn_24 ?_
        refine aw_gR (pc := 25) hX hy fl_X11_10 (fun _ _ => rfl) dX11_inn_25 (fun r5 hy => ?_)
        refine aw_iloadn (pc := 28) hX 1 rfl dX11_inn_28 ?_
        refine aw_iloadn (pc := 29) hX 2 rfl dX11_inn_29 ?_
        refine aw_callV (pc := 30) (st := [vR v0]) (a := r5) hX [vI v1, vI v2] (con_X5_innPart _ G _ r5 v1 v2 hy.bd) mc_X5_innPart ml_X11_166 im_X5_innPart se_X5_innPart (by decide) hy.bd.kd rfl (rm_of hr (by decide)) (Nat.le_of_ble_eq_true rfl) rfl dX11_inn_30 (kpI rfl rfl (fun x6 hy => ?_))
        refine aw_callV (pc := 33) (st := []) (a := v0) hX [vI x6] (con_X11_answer _ G _ v0 x6 hy.bd) mc_X11_answer ml_X11_117 im_X11_answer se_X11_answer (by decide) hy.bd.kd rfl (rm_of hr (by decide)) (Nat.le_of_ble_eq_true rfl) rfl dX11_inn_33 (kmI rfl rfl (fun q9 hy => ?_))
        exact aw_iret (pc := 36) hX hr (by decide) (by decide) dX11_inn_36 ⟨_, rfl, hy.s⟩
      · have hy := hy.f hc9
        refine AW.sub [0] rfl ?_
        exact w_X11_inn_17 hX hN hr h v0 hy
theorem con_X11_inn (l : Launch) (G : GE) (h : Mem) (v0 : Nat) (v1 : Int32) (v2 : Int32) {P : (Int32 × Mem) → Prop} (hy : OK (f_X11_inn h v0 v1 v2) P) : Con l G yX11_inn cX11_inn 3 (some .int) rm_X11_inn [vR v0, vI v1, vI v2] h (pmI P) := Con.of (by decide) (Nat.le_of_ble_eq_true rfl) (fun X hX hr hN => w_X11_inn hX hN hr h v0 v1 v2 hy)
/-! X11_isPerson -/
theorem dX11_isPerson_0 : decode cX11_isPerson 0 = .ok (.iload_n 1, 1) := by decide +kernel
theorem dX11_isPerson_1 : decode cX11_isPerson 1 = .ok (.ifCond .lt 18, 3) := by decide +kernel
theorem dX11_isPerson_4 : decode cX11_isPerson 4 = .ok (.iload_n 1, 1) := by decide +kernel
theorem dX11_isPerson_5 : decode cX11_isPerson 5 = .ok (.aload_n 0, 1) := by decide +kernel
theorem dX11_isPerson_6 : decode cX11_isPerson 6 = .ok (.getfield 10, 3) := by decide +kernel
theorem dX11_isPerson_9 : decode cX11_isPerson 9 = .ok (.getfield 241, 3) := by decide +kernel
theorem dX11_isPerson_12 : decode cX11_isPerson 12 = .ok (.if_icmp .ge 7, 3) := by decide +kernel
theorem dX11_isPerson_15 : decode cX11_isPerson 15 = .ok (.iconst 1, 1) := by decide +kernel
theorem dX11_isPerson_16 : decode cX11_isPerson 16 = .ok (.goto 4, 3) := by decide +kernel
theorem dX11_isPerson_19 : decode cX11_isPerson 19 = .ok (.iconst 0, 1) := by decide +kernel
theorem dX11_isPerson_20 : decode cX11_isPerson 20 = .ok (.ireturn, 1) := by decide +kernel
abbrev rm_X11_isPerson : Room := { frames := 0, cells := 0, slots := 0, locals := 0 }
def f_X11_isPerson_19 (h : Mem) : Option Int32 :=
  some 0
set_option maxRecDepth 100000 in
set_option maxHeartbeats 4000000 in
theorem w_X11_isPerson_19 {G : GE} {X : CX} {l : Launch} (hX : Ok G X cX11_isPerson RX11) (hN : xn X = 2) (h : Mem) {P : Int32 → Prop} (hr : Rt G X l yX11_isPerson (some .boolean) rm_X11_isPerson (ppI h P)) (hy : OK (f_X11_isPerson_19 h) P) : AW G X 19 [] [] h 0 0 := by
  unfold f_X11_isPerson_19 at hy
  refine aw_iconst (pc := 19) hX 0 (by decide) dX11_isPerson_19 ?_
  exact aw_zret (pc := 20) hX hr (by decide) (by decide) dX11_isPerson_20 (Or.inl rfl) ⟨rfl, _, rfl, hy.s⟩
def f_X11_isPerson (h : Mem) (v0 : Nat) (v1 : Int32) : Option Int32 :=
  (ck h v0 9).bind fun _ => (if v1 < 0 then f_X11_isPerson_19 h else (gR h v0 1 9).bind fun r1 => (gI h r1 6 4).bind fun x2 => (if x2 ≤ v1 then f_X11_isPerson_19 h else some 1))
set_option maxRecDepth 100000 in
set_option maxHeartbeats 4000000 in
theorem w_X11_isPerson {G : GE} {X : CX} {l : Launch} (hX : Ok G X cX11_isPerson RX11) (hN : xn X = 2) (h : Mem) {P : Int32 → Prop} (hr : Rt G X l yX11_isPerson (some .boolean) rm_X11_isPerson (ppI h P)) (v0 : Nat) (v1 : Int32) (hy : OK (f_X11_isPerson h v0 v1) P) : AW G X 0 [(0, vR v0), (1, vI v1)] [] h 0 0 := by
  unfold f_X11_isPerson at hy
  have hkd := hy.kd
  have hy := hy.kb
  refine aw_iloadn (pc := 0) hX 1 rfl dX11_isPerson_0 ?_
  refine aw_if_lt (pc := 1) hX 19 (by decide) dX11_isPerson_1 (fun hc9 => ?_) (fun hc9 => ?_)
  · have hy := hy.t hc9
    refine AW.sub [] rfl ?_
    exact w_X11_isPerson_19 hX hN _ hr hy
  · have hy := hy.f hc9
    refine aw_iloadn (pc := 4) hX 1 rfl dX11_isPerson_4 ?_
    refine aw_aloadn (pc := 5) hX 0 rfl dX11_isPerson_5 ?_
    refine aw_gR (pc := 6) hX hy fl_X11_10 (fun _ _ => rfl) dX11_isPerson_6 (fun r1 hy => ?_)
    refine aw_gI (pc := 9) hX hy fl_X11_241 (fun _ _ => rfl) dX11_isPerson_9 (fun x2 hy => ?_)
    refine aw_ic_ge (pc := 12) hX 19 (by decide) dX11_isPerson_12 (fun hc9 => ?_) (fun hc9 => ?_)
    · have hy := hy.t hc9
      refine AW.sub [] rfl ?_
      exact w_X11_isPerson_19 hX hN _ hr hy
    · have hy := hy.f hc9
      refine aw_iconst (pc := 15) hX 1 (by decide) dX11_isPerson_15 ?_
      refine aw_goto (pc := 16) hX 20 (by decide) dX11_isPerson_16 ?_
      exact aw_zret (pc := 20) hX hr (by decide) (by decide) dX11_isPerson_20 (Or.inr rfl) ⟨rfl, _, rfl, hy.s⟩
theorem con_X11_isPerson (l : Launch) (G : GE) (h : Mem) (v0 : Nat) (v1 : Int32) {P : Int32 → Prop} (hy : OK (f_X11_isPerson h v0 v1) P) : Con l G yX11_isPerson cX11_isPerson 2 (some .boolean) rm_X11_isPerson [vR v0, vI v1] h (ppI h P) := Con.of (by decide) (Nat.le_of_ble_eq_true rfl) (fun X hX hr hN => w_X11_isPerson hX hN h hr v0 v1 hy)
/-! X11_person -/
theorem dX11_person_0 : decode cX11_person 0 = .ok (.aload_n 0, 1) := by decide +kernel
theorem dX11_person_1 : decode cX11_person 1 = .ok (.iload_n 1, 1) := by decide +kernel
theorem dX11_person_2 : decode cX11_person 2 = .ok (.invokevirtual 169, 3) := by decide +kernel
theorem dX11_person_5 : decode cX11_person 5 = .ok (.ifCond .eq 12, 3) := by decide +kernel
theorem dX11_person_8 : decode cX11_person 8 = .ok (.iload_n 2, 1) := by decide +kernel
theorem dX11_person_9 : decode cX11_person 9 = .ok (.ifCond .lt 8, 3) := by decide +kernel
theorem dX11_person_12 : decode cX11_person 12 = .ok (.iload_n 2, 1) := by decide +kernel
theorem dX11_person_13 : decode cX11_person 13 = .ok (.iconst 5, 1) := by decide +kernel
theorem dX11_person_14 : decode cX11_person 14 = .ok (.if_icmp .lt 9, 3) := by decide +kernel
theorem dX11_person_17 : decode cX11_person 17 = .ok (.aload_n 0, 1) := by decide +kernel
theorem dX11_person_18 : decode cX11_person 18 = .ok (.iconst 1, 1) := by decide +kernel
theorem dX11_person_19 : decode cX11_person 19 = .ok (.invokevirtual 84, 3) := by decide +kernel
theorem dX11_person_22 : decode cX11_person 22 = .ok (.ireturn, 1) := by decide +kernel
theorem dX11_person_23 : decode cX11_person 23 = .ok (.aload_n 0, 1) := by decide +kernel
theorem dX11_person_24 : decode cX11_person 24 = .ok (.aload_n 0, 1) := by decide +kernel
theorem dX11_person_25 : decode cX11_person 25 = .ok (.getfield 26, 3) := by decide +kernel
theorem dX11_person_28 : decode cX11_person 28 = .ok (.iload_n 1, 1) := by decide +kernel
theorem dX11_person_29 : decode cX11_person 29 = .ok (.iload_n 2, 1) := by decide +kernel
theorem dX11_person_30 : decode cX11_person 30 = .ok (.invokevirtual 172, 3) := by decide +kernel
theorem dX11_person_33 : decode cX11_person 33 = .ok (.invokevirtual 117, 3) := by decide +kernel
theorem dX11_person_36 : decode cX11_person 36 = .ok (.ireturn, 1) := by decide +kernel
abbrev rm_X11_person : Room := { frames := 1, cells := 0, slots := 0, locals := 22 }
def f_X11_person_17 (h : Mem) (v0 : Nat) : Option (Int32 × Mem) :=
  (f_X11_refuse h v0 1).bind fun q4 => some (q4.1, q4.2)
set_option maxRecDepth 100000 in
set_option maxHeartbeats 4000000 in
theorem w_X11_person_17 {G : GE} {X : CX} {l : Launch} (hX : Ok G X cX11_person RX11) (hN : xn X = 3) {P : (Int32 × Mem) → Prop} (hr : Rt G X l yX11_person (some .int) rm_X11_person (pmI P)) (h : Mem) (v0 : Nat) (hy : OK (f_X11_person_17 h v0) P) : AW G X 17 [(0, vR v0)] [] h 0 0 := by
  unfold f_X11_person_17 at hy
  refine aw_aloadn (pc := 17) hX 0 rfl dX11_person_17 ?_
  refine aw_iconst (pc := 18) hX 1 (by decide) dX11_person_18 ?_
  refine aw_callV (pc := 19) (st := []) (a := v0) hX [vI 1] (con_X11_refuse _ G _ v0 1 hy.bd) mc_X11_refuse ml_X11_84 im_X11_refuse se_X11_refuse (by decide) hy.bd.kd rfl (rm_of hr (by decide)) (Nat.le_of_ble_eq_true rfl) rfl dX11_person_19 (kmI rfl rfl (fun q4 hy => ?_))
  exact aw_iret (pc := 22) hX hr (by decide) (by decide) dX11_person_22 ⟨_, rfl, hy.s⟩
def f_X11_person (h : Mem) (v0 : Nat) (v1 : Int32) (v2 : Int32) : Option (Int32 × Mem) :=
  (ck h v0 9).bind fun _ => (f_X11_isPerson h v0 v1).bind fun x1 => (if x1 = 0 then f_X11_person_17 h v0 else (if v2 < 0 then f_X11_person_17 h v0 else (if v2 < 5 then (gR h v0 3 9).bind fun r5 => (f_X2_of h r5 v1 v2).bind fun x6 => (f_X11_answer h v0 x6).bind fun q9 => some (q9.1, q9.2) else f_X11_person_17 h v0)))
set_option maxRecDepth 100000 in
set_option maxHeartbeats 4000000 in
theorem w_X11_person {G : GE} {X : CX} {l : Launch} (hX : Ok G X cX11_person RX11) (hN : xn X = 3) {P : (Int32 × Mem) → Prop} (hr : Rt G X l yX11_person (some .int) rm_X11_person (pmI P)) (h : Mem) (v0 : Nat) (v1 : Int32) (v2 : Int32) (hy : OK (f_X11_person h v0 v1 v2) P) : AW G X 0 [(0, vR v0), (1, vI v1), (2, vI v2)] [] h 0 0 := by
  unfold f_X11_person at hy
  have hkd := hy.kd
  have hy := hy.kb
  refine aw_aloadn (pc := 0) hX 0 rfl dX11_person_0 ?_
  refine aw_iloadn (pc := 1) hX 1 rfl dX11_person_1 ?_
  refine aw_callV (pc := 2) (st := []) (a := v0) hX [vI v1] (con_X11_isPerson _ G _ v0 v1 hy.bd) mc_X11_isPerson ml_X11_169 im_X11_isPerson se_X11_isPerson (by decide) hy.bd.kd rfl (rm_of hr (by decide)) (Nat.le_of_ble_eq_true rfl) rfl dX11_person_2 (kpI rfl rfl (fun x1 hy => ?_))
  refine aw_if_eq (pc := 5) hX 17 (by decide) dX11_person_5 (fun hc9 => ?_) (fun hc9 => ?_)
  · have hy := hy.t hc9
    refine AW.sub [0] rfl ?_
    exact w_X11_person_17 hX hN hr h v0 hy
  · have hy := hy.f hc9
    refine aw_iloadn (pc := 8) hX 2 rfl dX11_person_8 ?_
    refine aw_if_lt (pc := 9) hX 17 (by decide) dX11_person_9 (fun hc9 => ?_) (fun hc9 => ?_)
    · have hy := hy.t hc9
      refine AW.sub [0] rfl ?_
      exact w_X11_person_17 hX hN hr h v0 hy
    · have hy := hy.f hc9
      refine aw_iloadn (pc := 12) hX 2 rfl dX11_person_12 ?_
      refine aw_iconst (pc := 13) hX 5 (by decide) dX11_person_13 ?_
      refine aw_ic_lt (pc := 14) hX 23 (by decide) dX11_person_14 (fun hc9 => ?_) (fun hc9 => ?_)
      · have hy := hy.t hc9
        refine aw_aloadn (pc := 23) hX 0 rfl dX11_person_23 ?_
        refine aw_aloadn (pc := 24) hX 0 rfl dX11_person_24 ?_
        refine aw_gR (pc := 25) hX hy fl_X11_26 (fun _ _ => rfl) dX11_person_25 (fun r5 hy => ?_)
        refine aw_iloadn (pc := 28) hX 1 rfl dX11_person_28 ?_
        refine aw_iloadn (pc := 29) hX 2 rfl dX11_person_29 ?_
        refine aw_callV (pc := 30) (st := [vR v0]) (a := r5) hX [vI v1, vI v2] (con_X2_of _ G _ r5 v1 v2 hy.bd) mc_X2_of ml_X11_172 im_X2_of se_X2_of (by decide) hy.bd.kd rfl (rm_of hr (by decide)) (Nat.le_of_ble_eq_true rfl) rfl dX11_person_30 (kpI rfl rfl (fun x6 hy => ?_))
        refine aw_callV (pc := 33) (st := []) (a := v0) hX [vI x6] (con_X11_answer _ G _ v0 x6 hy.bd) mc_X11_answer ml_X11_117 im_X11_answer se_X11_answer (by decide) hy.bd.kd rfl (rm_of hr (by decide)) (Nat.le_of_ble_eq_true rfl) rfl dX11_person_33 (kmI rfl rfl (fun q9 hy => ?_))
        exact aw_iret (pc := 36) hX hr (by decide) (by decide) dX11_person_36 ⟨_, rfl, hy.s⟩
      · have hy := hy.f hc9
        refine AW.sub [0] rfl ?_
        exact w_X11_person_17 hX hN hr h v0 hy
theorem con_X11_person (l : Launch) (G : GE) (h : Mem) (v0 : Nat) (v1 : Int32) (v2 : Int32) {P : (Int32 × Mem) → Prop} (hy : OK (f_X11_person h v0 v1 v2) P) : Con l G yX11_person cX11_person 3 (some .int) rm_X11_person [vR v0, vI v1, vI v2] h (pmI P) := Con.of (by decide) (Nat.le_of_ble_eq_true rfl) (fun X hX hr hN => w_X11_person hX hN hr h v0 v1 v2 hy)
/-! X11_roadOf -/
theorem dX11_roadOf_0 : decode cX11_roadOf 0 = .ok (.aload_n 0, 1) := by decide +kernel
theorem dX11_roadOf_1 : decode cX11_roadOf 1 = .ok (.iload_n 1, 1) := by decide +kernel
theorem dX11_roadOf_2 : decode cX11_roadOf 2 = .ok (.iload_n 2, 1) := by decide +kernel
theorem dX11_roadOf_3 : decode cX11_roadOf 3 = .ok (.invokevirtual 143, 3) := by decide +kernel
theorem dX11_roadOf_6 : decode cX11_roadOf 6 = .ok (.ifCond .eq 15, 3) := by decide +kernel
theorem dX11_roadOf_9 : decode cX11_roadOf 9 = .ok (.aload_n 0, 1) := by decide +kernel
theorem dX11_roadOf_10 : decode cX11_roadOf 10 = .ok (.getfield 10, 3) := by decide +kernel
theorem dX11_roadOf_13 : decode cX11_roadOf 13 = .ok (.iload_n 1, 1) := by decide +kernel
theorem dX11_roadOf_14 : decode cX11_roadOf 14 = .ok (.iload_n 2, 1) := by decide +kernel
theorem dX11_roadOf_15 : decode cX11_roadOf 15 = .ok (.invokevirtual 147, 3) := by decide +kernel
theorem dX11_roadOf_18 : decode cX11_roadOf 18 = .ok (.goto 4, 3) := by decide +kernel
theorem dX11_roadOf_21 : decode cX11_roadOf 21 = .ok (.iconst (-1), 1) := by decide +kernel
theorem dX11_roadOf_22 : decode cX11_roadOf 22 = .ok (.ireturn, 1) := by decide +kernel
abbrev rm_X11_roadOf : Room := { frames := 2, cells := 0, slots := 0, locals := 43 }
def f_X11_roadOf (h : Mem) (v0 : Nat) (v1 : Int32) (v2 : Int32) : Option Int32 :=
  (ck h v0 9).bind fun _ => (f_X11_areTwoPlaces h v0 v1 v2).bind fun x1 => (if x1 = 0 then some (-1) else (gR h v0 1 9).bind fun r2 => (f_X5_roadBetween h r2 v1 v2).bind fun x3 => some x3)
set_option maxRecDepth 100000 in
set_option maxHeartbeats 4000000 in
theorem w_X11_roadOf {G : GE} {X : CX} {l : Launch} (hX : Ok G X cX11_roadOf RX11) (hN : xn X = 3) (h : Mem) {P : Int32 → Prop} (hr : Rt G X l yX11_roadOf (some .int) rm_X11_roadOf (ppI h P)) (v0 : Nat) (v1 : Int32) (v2 : Int32) (hy : OK (f_X11_roadOf h v0 v1 v2) P) : AW G X 0 [(0, vR v0), (1, vI v1), (2, vI v2)] [] h 0 0 := by
  unfold f_X11_roadOf at hy
  have hkd := hy.kd
  have hy := hy.kb
  refine aw_aloadn (pc := 0) hX 0 rfl dX11_roadOf_0 ?_
  refine aw_iloadn (pc := 1) hX 1 rfl dX11_roadOf_1 ?_
  refine aw_iloadn (pc := 2) hX 2 rfl dX11_roadOf_2 ?_
  refine aw_callV (pc := 3) (st := []) (a := v0) hX [vI v1, vI v2] (con_X11_areTwoPlaces _ G _ v0 v1 v2 hy.bd) mc_X11_areTwoPlaces ml_X11_143 im_X11_areTwoPlaces se_X11_areTwoPlaces (by decide) hy.bd.kd rfl (rm_of hr (by decide)) (Nat.le_of_ble_eq_true rfl) rfl dX11_roadOf_3 (kpI rfl rfl (fun x1 hy => ?_))
  refine aw_if_eq (pc := 6) hX 21 (by decide) dX11_roadOf_6 (fun hc9 => ?_) (fun hc9 => ?_)
  · have hy := hy.t hc9
    refine aw_iconst (pc := 21) hX (-1) (by decide) dX11_roadOf_21 ?_
    exact aw_iret (pc := 22) hX hr (by decide) (by decide) dX11_roadOf_22 ⟨rfl, _, rfl, hy.s⟩
  · have hy := hy.f hc9
    refine aw_aloadn (pc := 9) hX 0 rfl dX11_roadOf_9 ?_
    refine aw_gR (pc := 10) hX hy fl_X11_10 (fun _ _ => rfl) dX11_roadOf_10 (fun r2 hy => ?_)
    refine aw_iloadn (pc := 13) hX 1 rfl dX11_roadOf_13 ?_
    refine aw_iloadn (pc := 14) hX 2 rfl dX11_roadOf_14 ?_
    refine aw_callV (pc := 15) (st := []) (a := r2) hX [vI v1, vI v2] (con_X5_roadBetween _ G _ r2 v1 v2 hy.bd) mc_X5_roadBetween ml_X11_147 im_X5_roadBetween se_X5_roadBetween (by decide) hy.bd.kd rfl (rm_of hr (by decide)) (Nat.le_of_ble_eq_true rfl) rfl dX11_roadOf_15 (kpI rfl rfl (fun x3 hy => ?_))
    refine aw_goto (pc := 18) hX 22 (by decide) dX11_roadOf_18 ?_
    exact aw_iret (pc := 22) hX hr (by decide) (by decide) dX11_roadOf_22 ⟨rfl, _, rfl, hy.s⟩
theorem con_X11_roadOf (l : Launch) (G : GE) (h : Mem) (v0 : Nat) (v1 : Int32) (v2 : Int32) {P : Int32 → Prop} (hy : OK (f_X11_roadOf h v0 v1 v2) P) : Con l G yX11_roadOf cX11_roadOf 3 (some .int) rm_X11_roadOf [vR v0, vI v1, vI v2] h (ppI h P) := Con.of (by decide) (Nat.le_of_ble_eq_true rfl) (fun X hX hr hN => w_X11_roadOf hX hN h hr v0 v1 v2 hy)
/-! X11_lifts -/
theorem dX11_lifts_0 : decode cX11_lifts 0 = .ok (.aload_n 0, 1) := by decide +kernel
theorem dX11_lifts_1 : decode cX11_lifts 1 = .ok (.iload_n 1, 1) := by decide +kernel
theorem dX11_lifts_2 : decode cX11_lifts 2 = .ok (.iload_n 2, 1) := by decide +kernel
theorem dX11_lifts_3 : decode cX11_lifts 3 = .ok (.invokevirtual 175, 3) := by decide +kernel
theorem dX11_lifts_6 : decode cX11_lifts 6 = .ok (.istore 5, 2) := by decide +kernel
theorem dX11_lifts_8 : decode cX11_lifts 8 = .ok (.iload 5, 2) := by decide +kernel
theorem dX11_lifts_10 : decode cX11_lifts 10 = .ok (.ifCond .lt 11, 3) := by decide +kernel
theorem dX11_lifts_13 : decode cX11_lifts 13 = .ok (.aload_n 0, 1) := by decide +kernel
theorem dX11_lifts_14 : decode cX11_lifts 14 = .ok (.iload_n 3, 1) := by decide +kernel
theorem dX11_lifts_15 : decode cX11_lifts 15 = .ok (.invokevirtual 129, 3) := by decide +kernel
theorem dX11_lifts_18 : decode cX11_lifts 18 = .ok (.ifCond .ne 9, 3) := by decide +kernel
theorem dX11_lifts_21 : decode cX11_lifts 21 = .ok (.aload_n 0, 1) := by decide +kernel
theorem dX11_lifts_22 : decode cX11_lifts 22 = .ok (.iconst 1, 1) := by decide +kernel
theorem dX11_lifts_23 : decode cX11_lifts 23 = .ok (.invokevirtual 84, 3) := by decide +kernel
theorem dX11_lifts_26 : decode cX11_lifts 26 = .ok (.ireturn, 1) := by decide +kernel
theorem dX11_lifts_27 : decode cX11_lifts 27 = .ok (.aload_n 0, 1) := by decide +kernel
theorem dX11_lifts_28 : decode cX11_lifts 28 = .ok (.aload_n 0, 1) := by decide +kernel
theorem dX11_lifts_29 : decode cX11_lifts 29 = .ok (.getfield 10, 3) := by decide +kernel
theorem dX11_lifts_32 : decode cX11_lifts 32 = .ok (.iload 5, 2) := by decide +kernel
theorem dX11_lifts_34 : decode cX11_lifts 34 = .ok (.iload_n 3, 1) := by decide +kernel
theorem dX11_lifts_35 : decode cX11_lifts 35 = .ok (.iload 4, 2) := by decide +kernel
theorem dX11_lifts_37 : decode cX11_lifts 37 = .ok (.invokestatic 178, 3) := by decide +kernel
theorem dX11_lifts_40 : decode cX11_lifts 40 = .ok (.aload_n 0, 1) := by decide +kernel
theorem dX11_lifts_41 : decode cX11_lifts 41 = .ok (.getfield 26, 3) := by decide +kernel
theorem dX11_lifts_44 : decode cX11_lifts 44 = .ok (.invokevirtual 135, 3) := by decide +kernel
theorem dX11_lifts_47 : decode cX11_lifts 47 = .ok (.invokestatic 182, 3) := by decide +kernel
theorem dX11_lifts_50 : decode cX11_lifts 50 = .ok (.ifCond .eq 7, 3) := by decide +kernel
theorem dX11_lifts_53 : decode cX11_lifts 53 = .ok (.iconst 1, 1) := by decide +kernel
theorem dX11_lifts_54 : decode cX11_lifts 54 = .ok (.goto 4, 3) := by decide +kernel
theorem dX11_lifts_57 : decode cX11_lifts 57 = .ok (.iconst 0, 1) := by decide +kernel
theorem dX11_lifts_58 : decode cX11_lifts 58 = .ok (.invokevirtual 117, 3) := by decide +kernel
theorem dX11_lifts_61 : decode cX11_lifts 61 = .ok (.ireturn, 1) := by decide +kernel
abbrev rm_X11_lifts : Room := { frames := 3, cells := 0, slots := 0, locals := 65 }
def f_X11_lifts_21 (h : Mem) (v0 : Nat) : Option (Int32 × Mem) :=
  (f_X11_refuse h v0 1).bind fun q4 => some (q4.1, q4.2)
set_option maxRecDepth 100000 in
set_option maxHeartbeats 4000000 in
theorem w_X11_lifts_21 {G : GE} {X : CX} {l : Launch} (hX : Ok G X cX11_lifts RX11) (hN : xn X = 6) {P : (Int32 × Mem) → Prop} (hr : Rt G X l yX11_lifts (some .int) rm_X11_lifts (pmI P)) (h : Mem) (v0 : Nat) (hy : OK (f_X11_lifts_21 h v0) P) : AW G X 21 [(0, vR v0)] [] h 0 0 := by
  unfold f_X11_lifts_21 at hy
  refine aw_aloadn (pc := 21) hX 0 rfl dX11_lifts_21 ?_
  refine aw_iconst (pc := 22) hX 1 (by decide) dX11_lifts_22 ?_
  refine aw_callV (pc := 23) (st := []) (a := v0) hX [vI 1] (con_X11_refuse _ G _ v0 1 hy.bd) mc_X11_refuse ml_X11_84 im_X11_refuse se_X11_refuse (by decide) hy.bd.kd rfl (rm_of hr (by decide)) (Nat.le_of_ble_eq_true rfl) rfl dX11_lifts_23 (kmI rfl rfl (fun q4 hy => ?_))
  exact aw_iret (pc := 26) hX hr (by decide) (by decide) dX11_lifts_26 ⟨_, rfl, hy.s⟩
def f_X11_lifts_58 (h : Mem) (s0 : Nat) (s1 : Int32) : Option (Int32 × Mem) :=
  (f_X11_answer h s0 s1).bind fun q13 => some (q13.1, q13.2)
set_option maxRecDepth 100000 in
set_option maxHeartbeats 4000000 in
theorem w_X11_lifts_58 {G : GE} {X : CX} {l : Launch} (hX : Ok G X cX11_lifts RX11) (hN : xn X = 6) {P : (Int32 × Mem) → Prop} (hr : Rt G X l yX11_lifts (some .int) rm_X11_lifts (pmI P)) (h : Mem) (s0 : Nat) (s1 : Int32) (hy : OK (f_X11_lifts_58 h s0 s1) P) : AW G X 58 [] [vI s1, vR s0] h 0 0 := by
  unfold f_X11_lifts_58 at hy
  refine aw_callV (pc := 58) (st := []) (a := s0) hX [vI s1] (con_X11_answer _ G _ s0 s1 hy.bd) mc_X11_answer ml_X11_117 im_X11_answer se_X11_answer (by decide) hy.bd.kd rfl (rm_of hr (by decide)) (Nat.le_of_ble_eq_true rfl) rfl dX11_lifts_58 (kmI rfl rfl (fun q13 hy => ?_))
  exact aw_iret (pc := 61) hX hr (by decide) (by decide) dX11_lifts_61 ⟨_, rfl, hy.s⟩
def f_X11_lifts (h : Mem) (v0 : Nat) (v1 : Int32) (v2 : Int32) (v3 : Int32) (v4 : Int32) : Option (Int32 × Mem) :=
  (ck h v0 9).bind fun _ => (f_X11_roadOf h v0 v1 v2).bind fun x1 => (if x1 < 0 then f_X11_lifts_21 h v0 else (f_X11_isTune h v0 v3).bind fun x5 => (if x5 = 0 then f_X11_lifts_21 h v0 else (gR h v0 1 9).bind fun r6 => (f_X1_voice h v3 v4).bind fun x7 => (gR h v0 3 9).bind fun r8 => (f_X2_rains h r8).bind fun x9 => (f_X1_isOpen h r6 x1 x7 x9).bind fun x10 => (if x10 = 0 then f_X11_lifts_58 h v0 0 else f_X11_lifts_58 h v0 1)))
set_option maxRecDepth 100000 in
set_option maxHeartbeats 4000000 in
theorem w_X11_lifts {G : GE} {X : CX} {l : Launch} (hX : Ok G X cX11_lifts RX11) (hN : xn X = 6) {P : (Int32 × Mem) → Prop} (hr : Rt G X l yX11_lifts (some .int) rm_X11_lifts (pmI P)) (h : Mem) (v0 : Nat) (v1 : Int32) (v2 : Int32) (v3 : Int32) (v4 : Int32) (hy : OK (f_X11_lifts h v0 v1 v2 v3 v4) P) : AW G X 0 [(0, vR v0), (1, vI v1), (2, vI v2), (3, vI v3), (4, vI v4)] [] h 0 0 := by
  unfold f_X11_lifts at hy
  have hkd := hy.kd
  have hy := hy.kb
  refine aw_aloadn (pc := 0) hX 0 rfl dX11_lifts_0 ?_
  refine aw_iloadn (pc := 1) hX 1 rfl dX11_lifts_1 ?_
  refine aw_iloadn (pc := 2) hX 2 rfl dX11_lifts_2 ?_
  refine aw_callV (pc := 3) (st := []) (a := v0) hX [vI v1, vI v2] (con_X11_roadOf _ G _ v0 v1 v2 hy.bd) mc_X11_roadOf ml_X11_175 im_X11_roadOf se_X11_roadOf (by decide) hy.bd.kd rfl (rm_of hr (by decide)) (Nat.le_of_ble_eq_true rfl) rfl dX11_lifts_3 (kpI rfl rfl (fun x1 hy => ?_))
  refine aw_istore (pc := 6) hX [(5, vI x1), (0, vR v0), (1, vI v1), (2, vI v2), (3, vI v3), (4, vI v4)] rfl (lt_n hN (by decide)) dX11_lifts_6 ?_
  refine aw_iload (pc := 8) hX 0 rfl dX11_lifts_8 ?_
  refine aw_if_lt (pc := 10) hX 21 (by decide) dX11_lifts_10 (fun hc9 => ?_) (fun hc9 => ?_)
  · have hy := hy.t hc9
    refine AW.sub [1] rfl ?_
    exact w_X11_lifts_21 hX hN hr h v0 hy
  · have hy := hy.f hc9
    refine aw_aloadn (pc := 13) hX 1 rfl dX11_lifts_13 ?_
    refine aw_iloadn (pc := 14) hX 4 rfl dX11_lifts_14 ?_
    refine aw_callV (pc := 15) (st := []) (a := v0) hX [vI v3] (con_X11_isTune _ G _ v0 v3 hy.bd) mc_X11_isTune ml_X11_129 im_X11_isTune se_X11_isTune (by decide) hy.bd.kd rfl (rm_of hr (by decide)) (Nat.le_of_ble_eq_true rfl) rfl dX11_lifts_15 (kpI rfl rfl (fun x5 hy => ?_))
    refine aw_if_ne (pc := 18) hX 27 (by decide) dX11_lifts_18 (fun hc9 => ?_) (fun hc9 => ?_)
    · have hy := hy.f hc9
      refine aw_aloadn (pc := 27) hX 1 rfl dX11_lifts_27 ?_
      refine aw_aloadn (pc := 28) hX 1 rfl dX11_lifts_28 ?_
      refine aw_gR (pc := 29) hX hy fl_X11_10 (fun _ _ => rfl) dX11_lifts_29 (fun r6 hy => ?_)
      refine aw_iload (pc := 32) hX 0 rfl dX11_lifts_32 ?_
      refine aw_iloadn (pc := 34) hX 4 rfl dX11_lifts_34 ?_
      refine aw_iload (pc := 35) hX 5 rfl dX11_lifts_35 ?_
      refine aw_callS (pc := 37) (st := [vI x1, vR r6, vR v0]) hX [vI v3, vI v4] (con_X1_voice _ G _ v3 v4 hy.bd) mc_X1_voice ml_X11_178 st_X1_voice rfl (rm_of hr (by decide)) (Nat.le_of_ble_eq_true rfl) rfl dX11_lifts_37 (kpI rfl rfl (fun x7 hy => ?_))
      refine aw_aloadn (pc := 40) hX 1 rfl dX11_lifts_40 ?_
      refine aw_gR (pc := 41) hX hy fl_X11_26 (fun _ _ => rfl) dX11_lifts_41 (fun r8 hy => ?_)
      refine aw_callV (pc := 44) (st := [vI x7, vI x1, vR r6, vR v0]) (a := r8) hX [] (con_X2_rains _ G _ r8 hy.bd) mc_X2_rains ml_X11_135 im_X2_rains se_X2_rains (by decide) hy.bd.kd rfl (rm_of hr (by decide)) (Nat.le_of_ble_eq_true rfl) rfl dX11_lifts_44 (kpI rfl rfl (fun x9 hy => ?_))
      refine aw_callS (pc := 47) (st := [vR v0]) hX [vR r6, vI x1, vI x7, vI x9] (con_X1_isOpen _ G _ r6 x1 x7 x9 hy.bd) mc_X1_isOpen ml_X11_182 st_X1_isOpen rfl (rm_of hr (by decide)) (Nat.le_of_ble_eq_true rfl) rfl dX11_lifts_47 (kpI rfl rfl (fun x10 hy => ?_))
      refine aw_if_eq (pc := 50) hX 57 (by decide) dX11_lifts_50 (fun hc9 => ?_) (fun hc9 => ?_)
      · have hy := hy.t hc9
        refine aw_iconst (pc := 57) hX 0 (by decide) dX11_lifts_57 ?_
        refine AW.sub [] rfl ?_
        exact w_X11_lifts_58 hX hN hr h v0 0 hy
      · have hy := hy.f hc9
        refine aw_iconst (pc := 53) hX 1 (by decide) dX11_lifts_53 ?_
        refine aw_goto (pc := 54) hX 58 (by decide) dX11_lifts_54 ?_
        refine AW.sub [] rfl ?_
        exact w_X11_lifts_58 hX hN hr h v0 1 hy
    · have hy := hy.t hc9
      refine AW.sub [1] rfl ?_
      exact w_X11_lifts_21 hX hN hr h v0 hy
theorem con_X11_lifts (l : Launch) (G : GE) (h : Mem) (v0 : Nat) (v1 : Int32) (v2 : Int32) (v3 : Int32) (v4 : Int32) {P : (Int32 × Mem) → Prop} (hy : OK (f_X11_lifts h v0 v1 v2 v3 v4) P) : Con l G yX11_lifts cX11_lifts 6 (some .int) rm_X11_lifts [vR v0, vI v1, vI v2, vI v3, vI v4] h (pmI P) := Con.of (by decide) (Nat.le_of_ble_eq_true rfl) (fun X hX hr hN => w_X11_lifts hX hN hr h v0 v1 v2 v3 v4 hy)
/-! X11_passes -/
theorem dX11_passes_0 : decode cX11_passes 0 = .ok (.aload_n 0, 1) := by decide +kernel
theorem dX11_passes_1 : decode cX11_passes 1 = .ok (.iload_n 2, 1) := by decide +kernel
theorem dX11_passes_2 : decode cX11_passes 2 = .ok (.iload_n 3, 1) := by decide +kernel
theorem dX11_passes_3 : decode cX11_passes 3 = .ok (.invokevirtual 175, 3) := by decide +kernel
theorem dX11_passes_6 : decode cX11_passes 6 = .ok (.istore 4, 2) := by decide +kernel
theorem dX11_passes_8 : decode cX11_passes 8 = .ok (.iload 4, 2) := by decide +kernel
theorem dX11_passes_10 : decode cX11_passes 10 = .ok (.ifCond .lt 11, 3) := by decide +kernel
theorem dX11_passes_13 : decode cX11_passes 13 = .ok (.aload_n 0, 1) := by decide +kernel
theorem dX11_passes_14 : decode cX11_passes 14 = .ok (.iload_n 1, 1) := by decide +kernel
theorem dX11_passes_15 : decode cX11_passes 15 = .ok (.invokevirtual 169, 3) := by decide +kernel
theorem dX11_passes_18 : decode cX11_passes 18 = .ok (.ifCond .ne 9, 3) := by decide +kernel
theorem dX11_passes_21 : decode cX11_passes 21 = .ok (.aload_n 0, 1) := by decide +kernel
theorem dX11_passes_22 : decode cX11_passes 22 = .ok (.iconst 1, 1) := by decide +kernel
theorem dX11_passes_23 : decode cX11_passes 23 = .ok (.invokevirtual 84, 3) := by decide +kernel
theorem dX11_passes_26 : decode cX11_passes 26 = .ok (.ireturn, 1) := by decide +kernel
theorem dX11_passes_27 : decode cX11_passes 27 = .ok (.aload_n 0, 1) := by decide +kernel
theorem dX11_passes_28 : decode cX11_passes 28 = .ok (.aload_n 0, 1) := by decide +kernel
theorem dX11_passes_29 : decode cX11_passes 29 = .ok (.getfield 10, 3) := by decide +kernel
theorem dX11_passes_32 : decode cX11_passes 32 = .ok (.iload 4, 2) := by decide +kernel
theorem dX11_passes_34 : decode cX11_passes 34 = .ok (.aload_n 0, 1) := by decide +kernel
theorem dX11_passes_35 : decode cX11_passes 35 = .ok (.getfield 26, 3) := by decide +kernel
theorem dX11_passes_38 : decode cX11_passes 38 = .ok (.iload_n 1, 1) := by decide +kernel
theorem dX11_passes_39 : decode cX11_passes 39 = .ok (.invokevirtual 186, 3) := by decide +kernel
theorem dX11_passes_42 : decode cX11_passes 42 = .ok (.aload_n 0, 1) := by decide +kernel
theorem dX11_passes_43 : decode cX11_passes 43 = .ok (.getfield 26, 3) := by decide +kernel
theorem dX11_passes_46 : decode cX11_passes 46 = .ok (.invokevirtual 135, 3) := by decide +kernel
theorem dX11_passes_49 : decode cX11_passes 49 = .ok (.invokestatic 182, 3) := by decide +kernel
theorem dX11_passes_52 : decode cX11_passes 52 = .ok (.ifCond .eq 7, 3) := by decide +kernel
theorem dX11_passes_55 : decode cX11_passes 55 = .ok (.iconst 1, 1) := by decide +kernel
theorem dX11_passes_56 : decode cX11_passes 56 = .ok (.goto 4, 3) := by decide +kernel
theorem dX11_passes_59 : decode cX11_passes 59 = .ok (.iconst 0, 1) := by decide +kernel
theorem dX11_passes_60 : decode cX11_passes 60 = .ok (.invokevirtual 117, 3) := by decide +kernel
theorem dX11_passes_63 : decode cX11_passes 63 = .ok (.ireturn, 1) := by decide +kernel
abbrev rm_X11_passes : Room := { frames := 3, cells := 0, slots := 0, locals := 65 }
def f_X11_passes_21 (h : Mem) (v0 : Nat) : Option (Int32 × Mem) :=
  (f_X11_refuse h v0 1).bind fun q4 => some (q4.1, q4.2)
set_option maxRecDepth 100000 in
set_option maxHeartbeats 4000000 in
theorem w_X11_passes_21 {G : GE} {X : CX} {l : Launch} (hX : Ok G X cX11_passes RX11) (hN : xn X = 5) {P : (Int32 × Mem) → Prop} (hr : Rt G X l yX11_passes (some .int) rm_X11_passes (pmI P)) (h : Mem) (v0 : Nat) (hy : OK (f_X11_passes_21 h v0) P) : AW G X 21 [(0, vR v0)] [] h 0 0 := by
  unfold f_X11_passes_21 at hy
  refine aw_aloadn (pc := 21) hX 0 rfl dX11_passes_21 ?_
  refine aw_iconst (pc := 22) hX 1 (by decide) dX11_passes_22 ?_
  refine aw_callV (pc := 23) (st := []) (a := v0) hX [vI 1] (con_X11_refuse _ G _ v0 1 hy.bd) mc_X11_refuse ml_X11_84 im_X11_refuse se_X11_refuse (by decide) hy.bd.kd rfl (rm_of hr (by decide)) (Nat.le_of_ble_eq_true rfl) rfl dX11_passes_23 (kmI rfl rfl (fun q4 hy => ?_))
  exact aw_iret (pc := 26) hX hr (by decide) (by decide) dX11_passes_26 ⟨_, rfl, hy.s⟩
def f_X11_passes_60 (h : Mem) (s0 : Nat) (s1 : Int32) : Option (Int32 × Mem) :=
  (f_X11_answer h s0 s1).bind fun q14 => some (q14.1, q14.2)
set_option maxRecDepth 100000 in
set_option maxHeartbeats 4000000 in
theorem w_X11_passes_60 {G : GE} {X : CX} {l : Launch} (hX : Ok G X cX11_passes RX11) (hN : xn X = 5) {P : (Int32 × Mem) → Prop} (hr : Rt G X l yX11_passes (some .int) rm_X11_passes (pmI P)) (h : Mem) (s0 : Nat) (s1 : Int32) (hy : OK (f_X11_passes_60 h s0 s1) P) : AW G X 60 [] [vI s1, vR s0] h 0 0 := by
  unfold f_X11_passes_60 at hy
  refine aw_callV (pc := 60) (st := []) (a := s0) hX [vI s1] (con_X11_answer _ G _ s0 s1 hy.bd) mc_X11_answer ml_X11_117 im_X11_answer se_X11_answer (by decide) hy.bd.kd rfl (rm_of hr (by decide)) (Nat.le_of_ble_eq_true rfl) rfl dX11_passes_60 (kmI rfl rfl (fun q14 hy => ?_))
  exact aw_iret (pc := 63) hX hr (by decide) (by decide) dX11_passes_63 ⟨_, rfl, hy.s⟩
def f_X11_passes (h : Mem) (v0 : Nat) (v1 : Int32) (v2 : Int32) (v3 : Int32) : Option (Int32 × Mem) :=
  (ck h v0 9).bind fun _ => (f_X11_roadOf h v0 v2 v3).bind fun x1 => (if x1 < 0 then f_X11_passes_21 h v0 else (f_X11_isPerson h v0 v1).bind fun x5 => (if x5 = 0 then f_X11_passes_21 h v0 else (gR h v0 1 9).bind fun r6 => (gR h v0 3 9).bind fun r7 => (f_X2_voices h r7 v1).bind fun x8 => (gR h v0 3 9).bind fun r9 => (f_X2_rains h r9).bind fun x10 => (f_X1_isOpen h r6 x1 x8 x10).bind fun x11 => (if x11 = 0 then f_X11_passes_60 h v0 0 else f_X11_passes_60 h v0 1)))
set_option maxRecDepth 100000 in
set_option maxHeartbeats 4000000 in
theorem w_X11_passes {G : GE} {X : CX} {l : Launch} (hX : Ok G X cX11_passes RX11) (hN : xn X = 5) {P : (Int32 × Mem) → Prop} (hr : Rt G X l yX11_passes (some .int) rm_X11_passes (pmI P)) (h : Mem) (v0 : Nat) (v1 : Int32) (v2 : Int32) (v3 : Int32) (hy : OK (f_X11_passes h v0 v1 v2 v3) P) : AW G X 0 [(0, vR v0), (1, vI v1), (2, vI v2), (3, vI v3)] [] h 0 0 := by
  unfold f_X11_passes at hy
  have hkd := hy.kd
  have hy := hy.kb
  refine aw_aloadn (pc := 0) hX 0 rfl dX11_passes_0 ?_
  refine aw_iloadn (pc := 1) hX 2 rfl dX11_passes_1 ?_
  refine aw_iloadn (pc := 2) hX 3 rfl dX11_passes_2 ?_
  refine aw_callV (pc := 3) (st := []) (a := v0) hX [vI v2, vI v3] (con_X11_roadOf _ G _ v0 v2 v3 hy.bd) mc_X11_roadOf ml_X11_175 im_X11_roadOf se_X11_roadOf (by decide) hy.bd.kd rfl (rm_of hr (by decide)) (Nat.le_of_ble_eq_true rfl) rfl dX11_passes_3 (kpI rfl rfl (fun x1 hy => ?_))
  refine aw_istore (pc := 6) hX [(4, vI x1), (0, vR v0), (1, vI v1), (2, vI v2), (3, vI v3)] rfl (lt_n hN (by decide)) dX11_passes_6 ?_
  refine aw_iload (pc := 8) hX 0 rfl dX11_passes_8 ?_
  refine aw_if_lt (pc := 10) hX 21 (by decide) dX11_passes_10 (fun hc9 => ?_) (fun hc9 => ?_)
  · have hy := hy.t hc9
    refine AW.sub [1] rfl ?_
    exact w_X11_passes_21 hX hN hr h v0 hy
  · have hy := hy.f hc9
    refine aw_aloadn (pc := 13) hX 1 rfl dX11_passes_13 ?_
    refine aw_iloadn (pc := 14) hX 2 rfl dX11_passes_14 ?_
    refine aw_callV (pc := 15) (st := []) (a := v0) hX [vI v1] (con_X11_isPerson _ G _ v0 v1 hy.bd) mc_X11_isPerson ml_X11_169 im_X11_isPerson se_X11_isPerson (by decide) hy.bd.kd rfl (rm_of hr (by decide)) (Nat.le_of_ble_eq_true rfl) rfl dX11_passes_15 (kpI rfl rfl (fun x5 hy => ?_))
    refine aw_if_ne (pc := 18) hX 27 (by decide) dX11_passes_18 (fun hc9 => ?_) (fun hc9 => ?_)
    · have hy := hy.f hc9
      refine aw_aloadn (pc := 27) hX 1 rfl dX11_passes_27 ?_
      refine aw_aloadn (pc := 28) hX 1 rfl dX11_passes_28 ?_
      refine aw_gR (pc := 29) hX hy fl_X11_10 (fun _ _ => rfl) dX11_passes_29 (fun r6 hy => ?_)
      refine aw_iload (pc := 32) hX 0 rfl dX11_passes_32 ?_
      refine aw_aloadn (pc := 34) hX 1 rfl dX11_passes_34 ?_
      refine aw_gR (pc := 35) hX hy fl_X11_26 (fun _ _ => rfl) dX11_passes_35 (fun r7 hy => ?_)
      refine aw_iloadn (pc := 38) hX 2 rfl dX11_passes_38 ?_
      refine aw_callV (pc := 39) (st := [vI x1, vR r6, vR v0]) (a := r7) hX [vI v1] (con_X2_voices _ G _ r7 v1 hy.bd) mc_X2_voices ml_X11_186 im_X2_voices se_X2_voices (by decide) hy.bd.kd rfl (rm_of hr (by decide)) (Nat.le_of_ble_eq_true rfl) rfl dX11_passes_39 (kpI rfl rfl (fun x8 hy => ?_))
      refine aw_aloadn (pc := 42) hX 1 rfl dX11_passes_42 ?_
      refine aw_gR (pc := 43) hX hy fl_X11_26 (fun _ _ => rfl) dX11_passes_43 (fun r9 hy => ?_)
      refine aw_callV (pc := 46) (st := [vI x8, vI x1, vR r6, vR v0]) (a := r9) hX [] (con_X2_rains _ G _ r9 hy.bd) mc_X2_rains ml_X11_135 im_X2_rains se_X2_rains (by decide) hy.bd.kd rfl (rm_of hr (by decide)) (Nat.le_of_ble_eq_true rfl) rfl dX11_passes_46 (kpI rfl rfl (fun x10 hy => ?_))
      refine aw_callS (pc := 49) (st := [vR v0]) hX [vR r6, vI x1, vI x8, vI x10] (con_X1_isOpen _ G _ r6 x1 x8 x10 hy.bd) mc_X1_isOpen ml_X11_182 st_X1_isOpen rfl (rm_of hr (by decide)) (Nat.le_of_ble_eq_true rfl) rfl dX11_passes_49 (kpI rfl rfl (fun x11 hy => ?_))
      refine aw_if_eq (pc := 52) hX 59 (by decide) dX11_passes_52 (fun hc9 => ?_) (fun hc9 => ?_)
      · have hy := hy.t hc9
        refine aw_iconst (pc := 59) hX 0 (by decide) dX11_passes_59 ?_
        refine AW.sub [] rfl ?_
        exact w_X11_passes_60 hX hN hr h v0 0 hy
      · have hy := hy.f hc9
        refine aw_iconst (pc := 55) hX 1 (by decide) dX11_passes_55 ?_
        refine aw_goto (pc := 56) hX 60 (by decide) dX11_passes_56 ?_
        refine AW.sub [] rfl ?_
        exact w_X11_passes_60 hX hN hr h v0 1 hy
    · have hy := hy.t hc9
      refine AW.sub [1] rfl ?_
      exact w_X11_passes_21 hX hN hr h v0 hy
theorem con_X11_passes (l : Launch) (G : GE) (h : Mem) (v0 : Nat) (v1 : Int32) (v2 : Int32) (v3 : Int32) {P : (Int32 × Mem) → Prop} (hy : OK (f_X11_passes h v0 v1 v2 v3) P) : Con l G yX11_passes cX11_passes 5 (some .int) rm_X11_passes [vR v0, vI v1, vI v2, vI v3] h (pmI P) := Con.of (by decide) (Nat.le_of_ble_eq_true rfl) (fun X hX hr hN => w_X11_passes hX hN hr h v0 v1 v2 v3 hy)
/-! X11_opens -/
theorem dX11_opens_0 : decode cX11_opens 0 = .ok (.aload_n 0, 1) := by decide +kernel
theorem dX11_opens_1 : decode cX11_opens 1 = .ok (.iload_n 1, 1) := by decide +kernel
theorem dX11_opens_2 : decode cX11_opens 2 = .ok (.invokevirtual 129, 3) := by decide +kernel
theorem dX11_opens_5 : decode cX11_opens 5 = .ok (.ifCond .ne 9, 3) := by decide +kernel
theorem dX11_opens_8 : decode cX11_opens 8 = .ok (.aload_n 0, 1) := by decide +kernel
theorem dX11_opens_9 : decode cX11_opens 9 = .ok (.iconst 1, 1) := by decide +kernel
theorem dX11_opens_10 : decode cX11_opens 10 = .ok (.invokevirtual 84, 3) := by decide +kernel
theorem dX11_opens_13 : decode cX11_opens 13 = .ok (.ireturn, 1) := by decide +kernel
theorem dX11_opens_14 : decode cX11_opens 14 = .ok (.aload_n 0, 1) := by decide +kernel
theorem dX11_opens_15 : decode cX11_opens 15 = .ok (.aload_n 0, 1) := by decide +kernel
theorem dX11_opens_16 : decode cX11_opens 16 = .ok (.getfield 10, 3) := by decide +kernel
theorem dX11_opens_19 : decode cX11_opens 19 = .ok (.iload_n 1, 1) := by decide +kernel
theorem dX11_opens_20 : decode cX11_opens 20 = .ok (.iconst 0, 1) := by decide +kernel
theorem dX11_opens_21 : decode cX11_opens 21 = .ok (.invokestatic 178, 3) := by decide +kernel
theorem dX11_opens_24 : decode cX11_opens 24 = .ok (.aload_n 0, 1) := by decide +kernel
theorem dX11_opens_25 : decode cX11_opens 25 = .ok (.getfield 26, 3) := by decide +kernel
theorem dX11_opens_28 : decode cX11_opens 28 = .ok (.invokevirtual 135, 3) := by decide +kernel
theorem dX11_opens_31 : decode cX11_opens 31 = .ok (.invokestatic 189, 3) := by decide +kernel
theorem dX11_opens_34 : decode cX11_opens 34 = .ok (.invokevirtual 117, 3) := by decide +kernel
theorem dX11_opens_37 : decode cX11_opens 37 = .ok (.ireturn, 1) := by decide +kernel
abbrev rm_X11_opens : Room := { frames := 2, cells := 0, slots := 0, locals := 47 }
def f_X11_opens (h : Mem) (v0 : Nat) (v1 : Int32) : Option (Int32 × Mem) :=
  (ck h v0 9).bind fun _ => (f_X11_isTune h v0 v1).bind fun x1 => (if x1 = 0 then (f_X11_refuse h v0 1).bind fun q12 => some (q12.1, q12.2) else (gR h v0 1 9).bind fun r2 => (f_X1_voice h v1 0).bind fun x3 => (gR h v0 3 9).bind fun r4 => (f_X2_rains h r4).bind fun x5 => (f_X1_gatesOpenTo h r2 x3 x5).bind fun x6 => (f_X11_answer h v0 x6).bind fun q9 => some (q9.1, q9.2))
set_option maxRecDepth 100000 in
set_option maxHeartbeats 4000000 in
theorem w_X11_opens {G : GE} {X : CX} {l : Launch} (hX : Ok G X cX11_opens RX11) (hN : xn X = 2) {P : (Int32 × Mem) → Prop} (hr : Rt G X l yX11_opens (some .int) rm_X11_opens (pmI P)) (h : Mem) (v0 : Nat) (v1 : Int32) (hy : OK (f_X11_opens h v0 v1) P) : AW G X 0 [(0, vR v0), (1, vI v1)] [] h 0 0 := by
  unfold f_X11_opens at hy
  have hkd := hy.kd
  have hy := hy.kb
  refine aw_aloadn (pc := 0) hX 0 rfl dX11_opens_0 ?_
  refine aw_iloadn (pc := 1) hX 1 rfl dX11_opens_1 ?_
  refine aw_callV (pc := 2) (st := []) (a := v0) hX [vI v1] (con_X11_isTune _ G _ v0 v1 hy.bd) mc_X11_isTune ml_X11_129 im_X11_isTune se_X11_isTune (by decide) hy.bd.kd rfl (rm_of hr (by decide)) (Nat.le_of_ble_eq_true rfl) rfl dX11_opens_2 (kpI rfl rfl (fun x1 hy => ?_))
  refine aw_if_ne (pc := 5) hX 14 (by decide) dX11_opens_5 (fun hc9 => ?_) (fun hc9 => ?_)
  · have hy := hy.f hc9
    refine aw_aloadn (pc := 14) hX 0 rfl dX11_opens_14 ?_
    refine aw_aloadn (pc := 15) hX 0 rfl dX11_opens_15 ?_
    refine aw_gR (pc := 16) hX hy fl_X11_10 (fun _ _ => rfl) dX11_opens_16 (fun r2 hy => ?_)
    refine aw_iloadn (pc := 19) hX 1 rfl dX11_opens_19 ?_
    refine aw_iconst (pc := 20) hX 0 (by decide) dX11_opens_20 ?_
    refine aw_callS (pc := 21) (st := [vR r2, vR v0]) hX [vI v1, vI 0] (con_X1_voice _ G _ v1 0 hy.bd) mc_X1_voice ml_X11_178 st_X1_voice rfl (rm_of hr (by decide)) (Nat.le_of_ble_eq_true rfl) rfl dX11_opens_21 (kpI rfl rfl (fun x3 hy => ?_))
    refine aw_aloadn (pc := 24) hX 0 rfl dX11_opens_24 ?_
    refine aw_gR (pc := 25) hX hy fl_X11_26 (fun _ _ => rfl) dX11_opens_25 (fun r4 hy => ?_)
    refine aw_callV (pc := 28) (st := [vI x3, vR r2, vR v0]) (a := r4) hX [] (con_X2_rains _ G _ r4 hy.bd) mc_X2_rains ml_X11_135 im_X2_rains se_X2_rains (by decide) hy.bd.kd rfl (rm_of hr (by decide)) (Nat.le_of_ble_eq_true rfl) rfl dX11_opens_28 (kpI rfl rfl (fun x5 hy => ?_))
    refine aw_callS (pc := 31) (st := [vR v0]) hX [vR r2, vI x3, vI x5] (con_X1_gatesOpenTo _ G _ r2 x3 x5 hy.bd) mc_X1_gatesOpenTo ml_X11_189 st_X1_gatesOpenTo rfl (rm_of hr (by decide)) (Nat.le_of_ble_eq_true rfl) rfl dX11_opens_31 (kpI rfl rfl (fun x6 hy => ?_))
    refine aw_callV (pc := 34) (st := []) (a := v0) hX [vI x6] (con_X11_answer _ G _ v0 x6 hy.bd) mc_X11_answer ml_X11_117 im_X11_answer se_X11_answer (by decide) hy.bd.kd rfl (rm_of hr (by decide)) (Nat.le_of_ble_eq_true rfl) rfl dX11_opens_34 (kmI rfl rfl (fun q9 hy => ?_))
    exact aw_iret (pc := 37) hX hr (by decide) (by decide) dX11_opens_37 ⟨_, rfl, hy.s⟩
  · have hy := hy.t hc9
    refine aw_aloadn (pc := 8) hX 0 rfl dX11_opens_8 ?_
    refine aw_iconst (pc := 9) hX 1 (by decide) dX11_opens_9 ?_
    refine aw_callV (pc := 10) (st := []) (a := v0) hX [vI 1] (con_X11_refuse _ G _ v0 1 hy.bd) mc_X11_refuse ml_X11_84 im_X11_refuse se_X11_refuse (by decide) hy.bd.kd rfl (rm_of hr (by decide)) (Nat.le_of_ble_eq_true rfl) rfl dX11_opens_10 (kmI rfl rfl (fun q12 hy => ?_))
    exact aw_iret (pc := 13) hX hr (by decide) (by decide) dX11_opens_13 ⟨_, rfl, hy.s⟩
theorem con_X11_opens (l : Launch) (G : GE) (h : Mem) (v0 : Nat) (v1 : Int32) {P : (Int32 × Mem) → Prop} (hy : OK (f_X11_opens h v0 v1) P) : Con l G yX11_opens cX11_opens 2 (some .int) rm_X11_opens [vR v0, vI v1] h (pmI P) := Con.of (by decide) (Nat.le_of_ble_eq_true rfl) (fun X hX hr hN => w_X11_opens hX hN hr h v0 v1 hy)
/-! X11_isTold -/
theorem dX11_isTold_0 : decode cX11_isTold 0 = .ok (.aload_n 0, 1) := by decide +kernel
theorem dX11_isTold_1 : decode cX11_isTold 1 = .ok (.getfield 10, 3) := by decide +kernel
theorem dX11_isTold_4 : decode cX11_isTold 4 = .ok (.getfield 114, 3) := by decide +kernel
theorem dX11_isTold_7 : decode cX11_isTold 7 = .ok (.ifCond .le 7, 3) := by decide +kernel
theorem dX11_isTold_10 : decode cX11_isTold 10 = .ok (.iconst 1, 1) := by decide +kernel
theorem dX11_isTold_11 : decode cX11_isTold 11 = .ok (.goto 4, 3) := by decide +kernel
theorem dX11_isTold_14 : decode cX11_isTold 14 = .ok (.iconst 0, 1) := by decide +kernel
theorem dX11_isTold_15 : decode cX11_isTold 15 = .ok (.ireturn, 1) := by decide +kernel
abbrev rm_X11_isTold : Room := { frames := 0, cells := 0, slots := 0, locals := 0 }
def f_X11_isTold (h : Mem) (v0 : Nat) : Option Int32 :=
  (ck h v0 9).bind fun _ => (gR h v0 1 9).bind fun r1 => (gI h r1 2 4).bind fun x2 => (if x2 ≤ 0 then some 0 else some 1)
set_option maxRecDepth 100000 in
set_option maxHeartbeats 4000000 in
theorem w_X11_isTold {G : GE} {X : CX} {l : Launch} (hX : Ok G X cX11_isTold RX11) (hN : xn X = 1) (h : Mem) {P : Int32 → Prop} (hr : Rt G X l yX11_isTold (some .boolean) rm_X11_isTold (ppI h P)) (v0 : Nat) (hy : OK (f_X11_isTold h v0) P) : AW G X 0 [(0, vR v0)] [] h 0 0 := by
  unfold f_X11_isTold at hy
  have hkd := hy.kd
  have hy := hy.kb
  refine aw_aloadn (pc := 0) hX 0 rfl dX11_isTold_0 ?_
  refine aw_gR (pc := 1) hX hy fl_X11_10 (fun _ _ => rfl) dX11_isTold_1 (fun r1 hy => ?_)
  refine aw_gI (pc := 4) hX hy fl_X11_114 (fun _ _ => rfl) dX11_isTold_4 (fun x2 hy => ?_)
  refine aw_if_le (pc := 7) hX 14 (by decide) dX11_isTold_7 (fun hc9 => ?_) (fun hc9 => ?_)
  · have hy := hy.t hc9
    refine aw_iconst (pc := 14) hX 0 (by decide) dX11_isTold_14 ?_
    exact aw_zret (pc := 15) hX hr (by decide) (by decide) dX11_isTold_15 (Or.inl rfl) ⟨rfl, _, rfl, hy.s⟩
  · have hy := hy.f hc9
    refine aw_iconst (pc := 10) hX 1 (by decide) dX11_isTold_10 ?_
    refine aw_goto (pc := 11) hX 15 (by decide) dX11_isTold_11 ?_
    exact aw_zret (pc := 15) hX hr (by decide) (by decide) dX11_isTold_15 (Or.inr rfl) ⟨rfl, _, rfl, hy.s⟩
theorem con_X11_isTold (l : Launch) (G : GE) (h : Mem) (v0 : Nat) {P : Int32 → Prop} (hy : OK (f_X11_isTold h v0) P) : Con l G yX11_isTold cX11_isTold 1 (some .boolean) rm_X11_isTold [vR v0] h (ppI h P) := Con.of (by decide) (Nat.le_of_ble_eq_true rfl) (fun X hX hr hN => w_X11_isTold hX hN h hr v0 hy)
/-! X11_likest -/
theorem dX11_likest_0 : decode cX11_likest 0 = .ok (.aload_n 0, 1) := by decide +kernel
theorem dX11_likest_1 : decode cX11_likest 1 = .ok (.invokevirtual 193, 3) := by decide +kernel
theorem dX11_likest_4 : decode cX11_likest 4 = .ok (.ifCond .eq 17, 3) := by decide +kernel
theorem dX11_likest_7 : decode cX11_likest 7 = .ok (.aload_n 0, 1) := by decide +kernel
theorem dX11_likest_8 : decode cX11_likest 8 = .ok (.aload_n 0, 1) := by decide +kernel
theorem dX11_likest_9 : decode cX11_likest 9 = .ok (.getfield 10, 3) := by decide +kernel
theorem dX11_likest_12 : decode cX11_likest 12 = .ok (.invokestatic 196, 3) := by decide +kernel
theorem dX11_likest_15 : decode cX11_likest 15 = .ok (.invokevirtual 117, 3) := by decide +kernel
theorem dX11_likest_18 : decode cX11_likest 18 = .ok (.goto 8, 3) := by decide +kernel
theorem dX11_likest_21 : decode cX11_likest 21 = .ok (.aload_n 0, 1) := by decide +kernel
theorem dX11_likest_22 : decode cX11_likest 22 = .ok (.iconst 1, 1) := by decide +kernel
theorem dX11_likest_23 : decode cX11_likest 23 = .ok (.invokevirtual 84, 3) := by decide +kernel
theorem dX11_likest_26 : decode cX11_likest 26 = .ok (.ireturn, 1) := by decide +kernel
abbrev rm_X11_likest : Room := { frames := 3, cells := 0, slots := 0, locals := 70 }
def f_X11_likest (h : Mem) (v0 : Nat) : Option (Int32 × Mem) :=
  (ck h v0 9).bind fun _ => (f_X11_isTold h v0).bind fun x1 => (if x1 = 0 then (f_X11_refuse h v0 1).bind fun q4 => some (q4.1, q4.2) else (gR h v0 1 9).bind fun r5 => (f_X3_mostAlike h r5).bind fun x6 => (f_X11_answer h v0 x6).bind fun q9 => some (q9.1, q9.2))
set_option maxRecDepth 100000 in
set_option maxHeartbeats 4000000 in
theorem w_X11_likest {G : GE} {X : CX} {l : Launch} (hX : Ok G X cX11_likest RX11) (hN : xn X = 1) {P : (Int32 × Mem) → Prop} (hr : Rt G X l yX11_likest (some .int) rm_X11_likest (pmI P)) (h : Mem) (v0 : Nat) (hy : OK (f_X11_likest h v0) P) : AW G X 0 [(0, vR v0)] [] h 0 0 := by
  unfold f_X11_likest at hy
  have hkd := hy.kd
  have hy := hy.kb
  refine aw_aloadn (pc := 0) hX 0 rfl dX11_likest_0 ?_
  refine aw_callV (pc := 1) (st := []) (a := v0) hX [] (con_X11_isTold _ G _ v0 hy.bd) mc_X11_isTold ml_X11_193 im_X11_isTold se_X11_isTold (by decide) hy.bd.kd rfl (rm_of hr (by decide)) (Nat.le_of_ble_eq_true rfl) rfl dX11_likest_1 (kpI rfl rfl (fun x1 hy => ?_))
  refine aw_if_eq (pc := 4) hX 21 (by decide) dX11_likest_4 (fun hc9 => ?_) (fun hc9 => ?_)
  · have hy := hy.t hc9
    refine aw_aloadn (pc := 21) hX 0 rfl dX11_likest_21 ?_
    refine aw_iconst (pc := 22) hX 1 (by decide) dX11_likest_22 ?_
    refine aw_callV (pc := 23) (st := []) (a := v0) hX [vI 1] (con_X11_refuse _ G _ v0 1 hy.bd) mc_X11_refuse ml_X11_84 im_X11_refuse se_X11_refuse (by decide) hy.bd.kd rfl (rm_of hr (by decide)) (Nat.le_of_ble_eq_true rfl) rfl dX11_likest_23 (kmI rfl rfl (fun q4 hy => ?_))
    exact aw_iret (pc := 26) hX hr (by decide) (by decide) dX11_likest_26 ⟨_, rfl, hy.s⟩
  · have hy := hy.f hc9
    refine aw_aloadn (pc := 7) hX 0 rfl dX11_likest_7 ?_
    refine aw_aloadn (pc := 8) hX 0 rfl dX11_likest_8 ?_
    refine aw_gR (pc := 9) hX hy fl_X11_10 (fun _ _ => rfl) dX11_likest_9 (fun r5 hy => ?_)
    refine aw_callS (pc := 12) (st := [vR v0]) hX [vR r5] (con_X3_mostAlike _ G _ r5 hy.bd) mc_X3_mostAlike ml_X11_196 st_X3_mostAlike rfl (rm_of hr (by decide)) (Nat.le_of_ble_eq_true rfl) rfl dX11_likest_12 (kpI rfl rfl (fun x6 hy => ?_))
    refine aw_callV (pc := 15) (st := []) (a := v0) hX [vI x6] (con_X11_answer _ G _ v0 x6 hy.bd) mc_X11_answer ml_X11_117 im_X11_answer se_X11_answer (by decide) hy.bd.kd rfl (rm_of hr (by decide)) (Nat.le_of_ble_eq_true rfl) rfl dX11_likest_15 (kmI rfl rfl (fun q9 hy => ?_))
    refine aw_goto (pc := 18) hX 26 (by decide) dX11_likest_18 ?_
    exact aw_iret (pc := 26) hX hr (by decide) (by decide) dX11_likest_26 ⟨_, rfl, hy.s⟩
theorem con_X11_likest (l : Launch) (G : GE) (h : Mem) (v0 : Nat) {P : (Int32 × Mem) → Prop} (hy : OK (f_X11_likest h v0) P) : Con l G yX11_likest cX11_likest 1 (some .int) rm_X11_likest [vR v0] h (pmI P) := Con.of (by decide) (Nat.le_of_ble_eq_true rfl) (fun X hX hr hN => w_X11_likest hX hN hr h v0 hy)
/-! X11_minutesTo -/
theorem dX11_minutesTo_0 : decode cX11_minutesTo 0 = .ok (.aload_n 0, 1) := by decide +kernel
theorem dX11_minutesTo_1 : decode cX11_minutesTo 1 = .ok (.getfield 33, 3) := by decide +kernel
theorem dX11_minutesTo_4 : decode cX11_minutesTo 4 = .ok (.aload_n 0, 1) := by decide +kernel
theorem dX11_minutesTo_5 : decode cX11_minutesTo 5 = .ok (.getfield 10, 3) := by decide +kernel
theorem dX11_minutesTo_8 : decode cX11_minutesTo 8 = .ok (.iload_n 2, 1) := by decide +kernel
theorem dX11_minutesTo_9 : decode cX11_minutesTo 9 = .ok (.aload_n 0, 1) := by decide +kernel
theorem dX11_minutesTo_10 : decode cX11_minutesTo 10 = .ok (.getfield 26, 3) := by decide +kernel
theorem dX11_minutesTo_13 : decode cX11_minutesTo 13 = .ok (.iload_n 1, 1) := by decide +kernel
theorem dX11_minutesTo_14 : decode cX11_minutesTo 14 = .ok (.invokevirtual 186, 3) := by decide +kernel
theorem dX11_minutesTo_17 : decode cX11_minutesTo 17 = .ok (.aload_n 0, 1) := by decide +kernel
theorem dX11_minutesTo_18 : decode cX11_minutesTo 18 = .ok (.getfield 26, 3) := by decide +kernel
theorem dX11_minutesTo_21 : decode cX11_minutesTo 21 = .ok (.invokevirtual 135, 3) := by decide +kernel
theorem dX11_minutesTo_24 : decode cX11_minutesTo 24 = .ok (.invokevirtual 207, 3) := by decide +kernel
theorem dX11_minutesTo_27 : decode cX11_minutesTo 27 = .ok (.aload_n 0, 1) := by decide +kernel
theorem dX11_minutesTo_28 : decode cX11_minutesTo 28 = .ok (.getfield 33, 3) := by decide +kernel
theorem dX11_minutesTo_31 : decode cX11_minutesTo 31 = .ok (.aload_n 0, 1) := by decide +kernel
theorem dX11_minutesTo_32 : decode cX11_minutesTo 32 = .ok (.getfield 26, 3) := by decide +kernel
theorem dX11_minutesTo_35 : decode cX11_minutesTo 35 = .ok (.iload_n 1, 1) := by decide +kernel
theorem dX11_minutesTo_36 : decode cX11_minutesTo 36 = .ok (.iconst 0, 1) := by decide +kernel
theorem dX11_minutesTo_37 : decode cX11_minutesTo 37 = .ok (.invokevirtual 172, 3) := by decide +kernel
theorem dX11_minutesTo_40 : decode cX11_minutesTo 40 = .ok (.invokevirtual 377, 3) := by decide +kernel
theorem dX11_minutesTo_43 : decode cX11_minutesTo 43 = .ok (.ireturn, 1) := by decide +kernel
abbrev rm_X11_minutesTo : Room := { frames := 2, cells := 0, slots := 0, locals := 49 }
def f_X11_minutesTo (h : Mem) (v0 : Nat) (v1 : Int32) (v2 : Int32) : Option (Int32 × Mem) :=
  (ck h v0 9).bind fun _ => (gR h v0 4 9).bind fun r1 => (gR h v0 1 9).bind fun r2 => (gR h v0 3 9).bind fun r3 => (f_X2_voices h r3 v1).bind fun x4 => (gR h v0 3 9).bind fun r5 => (f_X2_rains h r5).bind fun x6 => (f_X10_measure h r1 r2 v2 x4 x6).bind fun h7 => (gR h7 v0 4 9).bind fun r8 => (gR h7 v0 3 9).bind fun r9 => (f_X2_of h7 r9 v1 0).bind fun x10 => (f_X10_minutesFrom h7 r8 x10).bind fun x11 => some (x11, h7)
set_option maxRecDepth 100000 in
set_option maxHeartbeats 4000000 in
theorem w_X11_minutesTo {G : GE} {X : CX} {l : Launch} (hX : Ok G X cX11_minutesTo RX11) (hN : xn X = 3) {P : (Int32 × Mem) → Prop} (hr : Rt G X l yX11_minutesTo (some .int) rm_X11_minutesTo (pmI P)) (h : Mem) (v0 : Nat) (v1 : Int32) (v2 : Int32) (hy : OK (f_X11_minutesTo h v0 v1 v2) P) : AW G X 0 [(0, vR v0), (1, vI v1), (2, vI v2)] [] h 0 0 := by
  unfold f_X11_minutesTo at hy
  have hkd := hy.kd
  have hy := hy.kb
  refine aw_aloadn (pc := 0) hX 0 rfl dX11_minutesTo_0 ?_
  refine aw_gR (pc := 1) hX hy fl_X11_33 (fun _ _ => rfl) dX11_minutesTo_1 (fun r1 hy => ?_)
  refine aw_aloadn (pc := 4) hX 0 rfl dX11_minutesTo_4 ?_
  refine aw_gR (pc := 5) hX hy fl_X11_10 (fun _ _ => rfl) dX11_minutesTo_5 (fun r2 hy => ?_)
  refine aw_iloadn (pc := 8) hX 2 rfl dX11_minutesTo_8 ?_
  refine aw_aloadn (pc := 9) hX 0 rfl dX11_minutesTo_9 ?_
  refine aw_gR (pc := 10) hX hy fl_X11_26 (fun _ _ => rfl) dX11_minutesTo_10 (fun r3 hy => ?_)
  refine aw_iloadn (pc := 13) hX 1 rfl dX11_minutesTo_13 ?_
  refine aw_callV (pc := 14) (st := [vI v2, vR r2, vR r1]) (a := r3) hX [vI v1] (con_X2_voices _ G _ r3 v1 hy.bd) mc_X2_voices ml_X11_186 im_X2_voices se_X2_voices (by decide) hy.bd.kd rfl (rm_of hr (by decide)) (Nat.le_of_ble_eq_true rfl) rfl dX11_minutesTo_14 (kpI rfl rfl (fun x4 hy => ?_))
  refine aw_aloadn (pc := 17) hX 0 rfl dX11_minutesTo_17 ?_
  refine aw_gR (pc := 18) hX hy fl_X11_26 (fun _ _ => rfl) dX11_minutesTo_18 (fun r5 hy => ?_)
  refine aw_callV (pc := 21) (st := [vI x4, vI v2, vR r2, vR r1]) (a := r5) hX [] (con_X2_rains _ G _ r5 hy.bd) mc_X2_rains ml_X11_135 im_X2_rains se_X2_rains (by decide) hy.bd.kd rfl (rm_of hr (by decide)) (Nat.le_of_ble_eq_true rfl) rfl dX11_minutesTo_21 (kpI rfl rfl (fun x6 hy => ?_))
  refine aw_callV (pc := 24) (st := []) (a := r1) hX [vR r2, vI v2, vI x4, vI x6] (con_X10_measure _ G _ r1 r2 v2 x4 x6 hy.bd) mc_X10_measure ml_X11_207 im_X10_measure se_X10_measure (by decide) hy.bd.kd rfl (rm_of hr (by decide)) (Nat.le_of_ble_eq_true rfl) rfl dX11_minutesTo_24 (kmV rfl rfl (fun h7 hy => ?_))
  refine aw_aloadn (pc := 27) hX 0 rfl dX11_minutesTo_27 ?_
  refine aw_gR (pc := 28) hX hy fl_X11_33 (fun _ _ => rfl) dX11_minutesTo_28 (fun r8 hy => ?_)
  refine aw_aloadn (pc := 31) hX 0 rfl dX11_minutesTo_31 ?_
  refine aw_gR (pc := 32) hX hy fl_X11_26 (fun _ _ => rfl) dX11_minutesTo_32 (fun r9 hy => ?_)
  refine aw_iloadn (pc := 35) hX 1 rfl dX11_minutesTo_35 ?_
  refine aw_iconst (pc := 36) hX 0 (by decide) dX11_minutesTo_36 ?_
  refine aw_callV (pc := 37) (st := [vR r8]) (a := r9) hX [vI v1, vI 0] (con_X2_of _ G _ r9 v1 0 hy.bd) mc_X2_of ml_X11_172 im_X2_of se_X2_of (by decide) hy.bd.kd rfl (rm_of hr (by decide)) (Nat.le_of_ble_eq_true rfl) rfl dX11_minutesTo_37 (kpI rfl rfl (fun x10 hy => ?_))
  refine aw_callV (pc := 40) (st := []) (a := r8) hX [vI x10] (con_X10_minutesFrom _ G _ r8 x10 hy.bd) mc_X10_minutesFrom ml_X11_377 im_X10_minutesFrom se_X10_minutesFrom (by decide) hy.bd.kd rfl (rm_of hr (by decide)) (Nat.le_of_ble_eq_true rfl) rfl dX11_minutesTo_40 (kpI rfl rfl (fun x11 hy => ?_))
  exact aw_iret (pc := 43) hX hr (by decide) (by decide) dX11_minutesTo_43 ⟨_, rfl, hy.s⟩
theorem con_X11_minutesTo (l : Launch) (G : GE) (h : Mem) (v0 : Nat) (v1 : Int32) (v2 : Int32) {P : (Int32 × Mem) → Prop} (hy : OK (f_X11_minutesTo h v0 v1 v2) P) : Con l G yX11_minutesTo cX11_minutesTo 3 (some .int) rm_X11_minutesTo [vR v0, vI v1, vI v2] h (pmI P) := Con.of (by decide) (Nat.le_of_ble_eq_true rfl) (fun X hX hr hN => w_X11_minutesTo hX hN hr h v0 v1 v2 hy)
/-! X11_way -/
theorem dX11_way_0 : decode cX11_way 0 = .ok (.aload_n 0, 1) := by decide +kernel
theorem dX11_way_1 : decode cX11_way 1 = .ok (.iload_n 1, 1) := by decide +kernel
theorem dX11_way_2 : decode cX11_way 2 = .ok (.invokevirtual 169, 3) := by decide +kernel
theorem dX11_way_5 : decode cX11_way 5 = .ok (.ifCond .eq 11, 3) := by decide +kernel
theorem dX11_way_8 : decode cX11_way 8 = .ok (.aload_n 0, 1) := by decide +kernel
theorem dX11_way_9 : decode cX11_way 9 = .ok (.iload_n 2, 1) := by decide +kernel
theorem dX11_way_10 : decode cX11_way 10 = .ok (.invokevirtual 200, 3) := by decide +kernel
theorem dX11_way_13 : decode cX11_way 13 = .ok (.ifCond .ne 9, 3) := by decide +kernel
theorem dX11_way_16 : decode cX11_way 16 = .ok (.aload_n 0, 1) := by decide +kernel
theorem dX11_way_17 : decode cX11_way 17 = .ok (.iconst 1, 1) := by decide +kernel
theorem dX11_way_18 : decode cX11_way 18 = .ok (.invokevirtual 84, 3) := by decide +kernel
theorem dX11_way_21 : decode cX11_way 21 = .ok (.ireturn, 1) := by decide +kernel
theorem dX11_way_22 : decode cX11_way 22 = .ok (.aload_n 0, 1) := by decide +kernel
theorem dX11_way_23 : decode cX11_way 23 = .ok (.iload_n 1, 1) := by decide +kernel
theorem dX11_way_24 : decode cX11_way 24 = .ok (.iload_n 2, 1) := by decide +kernel
theorem dX11_way_25 : decode cX11_way 25 = .ok (.invokevirtual 203, 3) := by decide +kernel
theorem dX11_way_28 : decode cX11_way 28 = .ok (.istore_n 3, 1) := by decide +kernel
theorem dX11_way_29 : decode cX11_way 29 = .ok (.aload_n 0, 1) := by decide +kernel
theorem dX11_way_30 : decode cX11_way 30 = .ok (.iload_n 3, 1) := by decide +kernel
theorem dX11_way_31 : decode cX11_way 31 = .ok (.ldc 206, 2) := by decide +kernel
theorem dX11_way_33 : decode cX11_way 33 = .ok (.if_icmp .ge 7, 3) := by decide +kernel
theorem dX11_way_36 : decode cX11_way 36 = .ok (.iload_n 3, 1) := by decide +kernel
theorem dX11_way_37 : decode cX11_way 37 = .ok (.goto 5, 3) := by decide +kernel
theorem dX11_way_40 : decode cX11_way 40 = .ok (.bipush (-2), 2) := by decide +kernel
theorem dX11_way_42 : decode cX11_way 42 = .ok (.invokevirtual 117, 3) := by decide +kernel
theorem dX11_way_45 : decode cX11_way 45 = .ok (.ireturn, 1) := by decide +kernel
abbrev rm_X11_way : Room := { frames := 3, cells := 0, slots := 0, locals := 71 }
def f_X11_way_16 (h : Mem) (v0 : Nat) : Option (Int32 × Mem) :=
  (f_X11_refuse h v0 1).bind fun q4 => some (q4.1, q4.2)
set_option maxRecDepth 100000 in
set_option maxHeartbeats 4000000 in
theorem w_X11_way_16 {G : GE} {X : CX} {l : Launch} (hX : Ok G X cX11_way RX11) (hN : xn X = 4) {P : (Int32 × Mem) → Prop} (hr : Rt G X l yX11_way (some .int) rm_X11_way (pmI P)) (h : Mem) (v0 : Nat) (hy : OK (f_X11_way_16 h v0) P) : AW G X 16 [(0, vR v0)] [] h 0 0 := by
  unfold f_X11_way_16 at hy
  refine aw_aloadn (pc := 16) hX 0 rfl dX11_way_16 ?_
  refine aw_iconst (pc := 17) hX 1 (by decide) dX11_way_17 ?_
  refine aw_callV (pc := 18) (st := []) (a := v0) hX [vI 1] (con_X11_refuse _ G _ v0 1 hy.bd) mc_X11_refuse ml_X11_84 im_X11_refuse se_X11_refuse (by decide) hy.bd.kd rfl (rm_of hr (by decide)) (Nat.le_of_ble_eq_true rfl) rfl dX11_way_18 (kmI rfl rfl (fun q4 hy => ?_))
  exact aw_iret (pc := 21) hX hr (by decide) (by decide) dX11_way_21 ⟨_, rfl, hy.s⟩
def f_X11_way_42 (h : Mem) (s0 : Nat) (s1 : Int32) : Option (Int32 × Mem) :=
  (f_X11_answer h s0 s1).bind fun q11 => some (q11.1, q11.2)
set_option maxRecDepth 100000 in
set_option maxHeartbeats 4000000 in
theorem w_X11_way_42 {G : GE} {X : CX} {l : Launch} (hX : Ok G X cX11_way RX11) (hN : xn X = 4) {P : (Int32 × Mem) → Prop} (hr : Rt G X l yX11_way (some .int) rm_X11_way (pmI P)) (h : Mem) (s0 : Nat) (s1 : Int32) (hy : OK (f_X11_way_42 h s0 s1) P) : AW G X 42 [] [vI s1, vR s0] h 0 0 := by
  unfold f_X11_way_42 at hy
  refine aw_callV (pc := 42) (st := []) (a := s0) hX [vI s1] (con_X11_answer _ G _ s0 s1 hy.bd) mc_X11_answer ml_X11_117 im_X11_answer se_X11_answer (by decide) hy.bd.kd rfl (rm_of hr (by decide)) (Nat.le_of_ble_eq_true rfl) rfl dX11_way_42 (kmI rfl rfl (fun q11 hy => ?_))
  exact aw_iret (pc := 45) hX hr (by decide) (by decide) dX11_way_45 ⟨_, rfl, hy.s⟩
def f_X11_way (h : Mem) (v0 : Nat) (v1 : Int32) (v2 : Int32) : Option (Int32 × Mem) :=
  (ck h v0 9).bind fun _ => (f_X11_isPerson h v0 v1).bind fun x1 => (if x1 = 0 then f_X11_way_16 h v0 else (f_X11_isPlace h v0 v2).bind fun x5 => (if x5 = 0 then f_X11_way_16 h v0 else (f_X11_minutesTo h v0 v1 v2).bind fun q8 => (if 1000000 ≤ q8.1 then f_X11_way_42 q8.2 v0 (-2) else f_X11_way_42 q8.2 v0 q8.1)))
set_option maxRecDepth 100000 in
set_option maxHeartbeats 4000000 in
theorem w_X11_way {G : GE} {X : CX} {l : Launch} (hX : Ok G X cX11_way RX11) (hN : xn X = 4) {P : (Int32 × Mem) → Prop} (hr : Rt G X l yX11_way (some .int) rm_X11_way (pmI P)) (h : Mem) (v0 : Nat) (v1 : Int32) (v2 : Int32) (hy : OK (f_X11_way h v0 v1 v2) P) : AW G X 0 [(0, vR v0), (1, vI v1), (2, vI v2)] [] h 0 0 := by
  unfold f_X11_way at hy
  have hkd := hy.kd
  have hy := hy.kb
  refine aw_aloadn (pc := 0) hX 0 rfl dX11_way_0 ?_
  refine aw_iloadn (pc := 1) hX 1 rfl dX11_way_1 ?_
  refine aw_callV (pc := 2) (st := []) (a := v0) hX [vI v1] (con_X11_isPerson _ G _ v0 v1 hy.bd) mc_X11_isPerson ml_X11_169 im_X11_isPerson se_X11_isPerson (by decide) hy.bd.kd rfl (rm_of hr (by decide)) (Nat.le_of_ble_eq_true rfl) rfl dX11_way_2 (kpI rfl rfl (fun x1 hy => ?_))
  refine aw_if_eq (pc := 5) hX 16 (by decide) dX11_way_5 (fun hc9 => ?_) (fun hc9 => ?_)
  · have hy := hy.t hc9
    refine AW.sub [0] rfl ?_
    exact w_X11_way_16 hX hN hr h v0 hy
  · have hy := hy.f hc9
    refine aw_aloadn (pc := 8) hX 0 rfl dX11_way_8 ?_
    refine aw_iloadn (pc := 9) hX 2 rfl dX11_way_9 ?_
    refine aw_callV (pc := 10) (st := []) (a := v0) hX [vI v2] (con_X11_isPlace _ G _ v0 v2 hy.bd) mc_X11_isPlace ml_X11_200 im_X11_isPlace se_X11_isPlace (by decide) hy.bd.kd rfl (rm_of hr (by decide)) (Nat.le_of_ble_eq_true rfl) rfl dX11_way_10 (kpI rfl rfl (fun x5 hy => ?_))
    refine aw_if_ne (pc := 13) hX 22 (by decide) dX11_way_13 (fun hc9 => ?_) (fun hc9 => ?_)
    · have hy := hy.f hc9
      refine aw_aloadn (pc := 22) hX 0 rfl dX11_way_22 ?_
      refine aw_iloadn (pc := 23) hX 1 rfl dX11_way_23 ?_
      refine aw_iloadn (pc := 24) hX 2 rfl dX11_way_24 ?_
      refine aw_callV (pc := 25) (st := []) (a := v0) hX [vI v1, vI v2] (con_X11_minutesTo _ G _ v0 v1 v2 hy.bd) mc_X11_minutesTo ml_X11_203 im_X11_minutesTo se_X11_minutesTo (by decide) hy.bd.kd rfl (rm_of hr (by decide)) (Nat.le_of_ble_eq_true rfl) rfl dX11_way_25 (kmI rfl rfl (fun q8 hy => ?_))
      refine aw_istoren (pc := 28) hX [(3, vI q8.1), (0, vR v0), (1, vI v1), (2, vI v2)] rfl (lt_n hN (by decide)) dX11_way_28 ?_
      refine aw_aloadn (pc := 29) hX 1 rfl dX11_way_29 ?_
      refine aw_iloadn (pc := 30) hX 0 rfl dX11_way_30 ?_
      refine aw_ldc (pc := 31) hX kc_X11_206 dX11_way_31 ?_
      refine aw_ic_ge (pc := 33) hX 40 (by decide) dX11_way_33 (fun hc9 => ?_) (fun hc9 => ?_)
      · have hy := hy.t hc9
        refine aw_bipush (pc := 40) hX (-2) (by decide) dX11_way_40 ?_
        refine AW.sub [] rfl ?_
        exact w_X11_way_42 hX hN hr q8.2 v0 (-2) hy
      · have hy := hy.f hc9
        refine aw_iloadn (pc := 36) hX 0 rfl dX11_way_36 ?_
        refine aw_goto (pc := 37) hX 42 (by decide) dX11_way_37 ?_
        refine AW.sub [] rfl ?_
        exact w_X11_way_42 hX hN hr q8.2 v0 q8.1 hy
    · have hy := hy.t hc9
      refine AW.sub [0] rfl ?_
      exact w_X11_way_16 hX hN hr h v0 hy
theorem con_X11_way (l : Launch) (G : GE) (h : Mem) (v0 : Nat) (v1 : Int32) (v2 : Int32) {P : (Int32 × Mem) → Prop} (hy : OK (f_X11_way h v0 v1 v2) P) : Con l G yX11_way cX11_way 4 (some .int) rm_X11_way [vR v0, vI v1, vI v2] h (pmI P) := Con.of (by decide) (Nat.le_of_ble_eq_true rfl) (fun X hX hr hN => w_X11_way hX hN hr h v0 v1 v2 hy)
/-! X11_wayAt -/
theorem dX11_wayAt_0 : decode cX11_wayAt 0 = .ok (.aload_n 0, 1) := by decide +kernel
theorem dX11_wayAt_1 : decode cX11_wayAt 1 = .ok (.iload_n 1, 1) := by decide +kernel
theorem dX11_wayAt_2 : decode cX11_wayAt 2 = .ok (.invokevirtual 169, 3) := by decide +kernel
theorem dX11_wayAt_5 : decode cX11_wayAt 5 = .ok (.ifCond .eq 11, 3) := by decide +kernel
theorem dX11_wayAt_8 : decode cX11_wayAt 8 = .ok (.aload_n 0, 1) := by decide +kernel
theorem dX11_wayAt_9 : decode cX11_wayAt 9 = .ok (.iload_n 2, 1) := by decide +kernel
theorem dX11_wayAt_10 : decode cX11_wayAt 10 = .ok (.invokevirtual 200, 3) := by decide +kernel
theorem dX11_wayAt_13 : decode cX11_wayAt 13 = .ok (.ifCond .ne 9, 3) := by decide +kernel
theorem dX11_wayAt_16 : decode cX11_wayAt 16 = .ok (.aload_n 0, 1) := by decide +kernel
theorem dX11_wayAt_17 : decode cX11_wayAt 17 = .ok (.iconst 1, 1) := by decide +kernel
theorem dX11_wayAt_18 : decode cX11_wayAt 18 = .ok (.invokevirtual 84, 3) := by decide +kernel
theorem dX11_wayAt_21 : decode cX11_wayAt 21 = .ok (.ireturn, 1) := by decide +kernel
theorem dX11_wayAt_22 : decode cX11_wayAt 22 = .ok (.aload_n 0, 1) := by decide +kernel
theorem dX11_wayAt_23 : decode cX11_wayAt 23 = .ok (.getfield 33, 3) := by decide +kernel
theorem dX11_wayAt_26 : decode cX11_wayAt 26 = .ok (.aload_n 0, 1) := by decide +kernel
theorem dX11_wayAt_27 : decode cX11_wayAt 27 = .ok (.getfield 10, 3) := by decide +kernel
theorem dX11_wayAt_30 : decode cX11_wayAt 30 = .ok (.iload_n 2, 1) := by decide +kernel
theorem dX11_wayAt_31 : decode cX11_wayAt 31 = .ok (.aload_n 0, 1) := by decide +kernel
theorem dX11_wayAt_32 : decode cX11_wayAt 32 = .ok (.getfield 26, 3) := by decide +kernel
theorem dX11_wayAt_35 : decode cX11_wayAt 35 = .ok (.iload_n 1, 1) := by decide +kernel
theorem dX11_wayAt_36 : decode cX11_wayAt 36 = .ok (.invokevirtual 186, 3) := by decide +kernel
theorem dX11_wayAt_39 : decode cX11_wayAt 39 = .ok (.aload_n 0, 1) := by decide +kernel
theorem dX11_wayAt_40 : decode cX11_wayAt 40 = .ok (.getfield 26, 3) := by decide +kernel
theorem dX11_wayAt_43 : decode cX11_wayAt 43 = .ok (.invokevirtual 135, 3) := by decide +kernel
theorem dX11_wayAt_46 : decode cX11_wayAt 46 = .ok (.invokevirtual 207, 3) := by decide +kernel
theorem dX11_wayAt_49 : decode cX11_wayAt 49 = .ok (.aload_n 0, 1) := by decide +kernel
theorem dX11_wayAt_50 : decode cX11_wayAt 50 = .ok (.getfield 33, 3) := by decide +kernel
theorem dX11_wayAt_53 : decode cX11_wayAt 53 = .ok (.aload_n 0, 1) := by decide +kernel
theorem dX11_wayAt_54 : decode cX11_wayAt 54 = .ok (.getfield 10, 3) := by decide +kernel
theorem dX11_wayAt_57 : decode cX11_wayAt 57 = .ok (.aload_n 0, 1) := by decide +kernel
theorem dX11_wayAt_58 : decode cX11_wayAt 58 = .ok (.getfield 26, 3) := by decide +kernel
theorem dX11_wayAt_61 : decode cX11_wayAt 61 = .ok (.iload_n 1, 1) := by decide +kernel
theorem dX11_wayAt_62 : decode cX11_wayAt 62 = .ok (.iconst 0, 1) := by decide +kernel
theorem dX11_wayAt_63 : decode cX11_wayAt 63 = .ok (.invokevirtual 172, 3) := by decide +kernel
theorem dX11_wayAt_66 : decode cX11_wayAt 66 = .ok (.iload_n 2, 1) := by decide +kernel
theorem dX11_wayAt_67 : decode cX11_wayAt 67 = .ok (.iload_n 3, 1) := by decide +kernel
theorem dX11_wayAt_68 : decode cX11_wayAt 68 = .ok (.invokevirtual 211, 3) := by decide +kernel
theorem dX11_wayAt_71 : decode cX11_wayAt 71 = .ok (.istore 4, 2) := by decide +kernel
theorem dX11_wayAt_73 : decode cX11_wayAt 73 = .ok (.iload 4, 2) := by decide +kernel
theorem dX11_wayAt_75 : decode cX11_wayAt 75 = .ok (.ifCond .ge 11, 3) := by decide +kernel
theorem dX11_wayAt_78 : decode cX11_wayAt 78 = .ok (.aload_n 0, 1) := by decide +kernel
theorem dX11_wayAt_79 : decode cX11_wayAt 79 = .ok (.iconst 1, 1) := by decide +kernel
theorem dX11_wayAt_80 : decode cX11_wayAt 80 = .ok (.invokevirtual 84, 3) := by decide +kernel
theorem dX11_wayAt_83 : decode cX11_wayAt 83 = .ok (.goto 9, 3) := by decide +kernel
theorem dX11_wayAt_86 : decode cX11_wayAt 86 = .ok (.aload_n 0, 1) := by decide +kernel
theorem dX11_wayAt_87 : decode cX11_wayAt 87 = .ok (.iload 4, 2) := by decide +kernel
theorem dX11_wayAt_89 : decode cX11_wayAt 89 = .ok (.invokevirtual 117, 3) := by decide +kernel
theorem dX11_wayAt_92 : decode cX11_wayAt 92 = .ok (.ireturn, 1) := by decide +kernel
abbrev rm_X11_wayAt : Room := { frames := 3, cells := 0, slots := 0, locals := 73 }
def f_X11_wayAt_16 (h : Mem) (v0 : Nat) : Option (Int32 × Mem) :=
  (f_X11_refuse h v0 1).bind fun q4 => some (q4.1, q4.2)
set_option maxRecDepth 100000 in
set_option maxHeartbeats 4000000 in
theorem w_X11_wayAt_16 {G : GE} {X : CX} {l : Launch} (hX : Ok G X cX11_wayAt RX11) (hN : xn X = 5) {P : (Int32 × Mem) → Prop} (hr : Rt G X l yX11_wayAt (some .int) rm_X11_wayAt (pmI P)) (h : Mem) (v0 : Nat) (hy : OK (f_X11_wayAt_16 h v0) P) : AW G X 16 [(0, vR v0)] [] h 0 0 := by
  unfold f_X11_wayAt_16 at hy
  refine aw_aloadn (pc := 16) hX 0 rfl dX11_wayAt_16 ?_
  refine aw_iconst (pc := 17) hX 1 (by decide) dX11_wayAt_17 ?_
  refine aw_callV (pc := 18) (st := []) (a := v0) hX [vI 1] (con_X11_refuse _ G _ v0 1 hy.bd) mc_X11_refuse ml_X11_84 im_X11_refuse se_X11_refuse (by decide) hy.bd.kd rfl (rm_of hr (by decide)) (Nat.le_of_ble_eq_true rfl) rfl dX11_wayAt_18 (kmI rfl rfl (fun q4 hy => ?_))
  exact aw_iret (pc := 21) hX hr (by decide) (by decide) dX11_wayAt_21 ⟨_, rfl, hy.s⟩
def f_X11_wayAt (h : Mem) (v0 : Nat) (v1 : Int32) (v2 : Int32) (v3 : Int32) : Option (Int32 × Mem) :=
  (ck h v0 9).bind fun _ => (f_X11_isPerson h v0 v1).bind fun x1 => (if x1 = 0 then f_X11_wayAt_16 h v0 else (f_X11_isPlace h v0 v2).bind fun x5 => (if x5 = 0 then f_X11_wayAt_16 h v0 else (gR h v0 4 9).bind fun r6 => (gR h v0 1 9).bind fun r7 => (gR h v0 3 9).bind fun r8 => (f_X2_voices h r8 v1).bind fun x9 => (gR h v0 3 9).bind fun r10 => (f_X2_rains h r10).bind fun x11 => (f_X10_measure h r6 r7 v2 x9 x11).bind fun h12 => (gR h12 v0 4 9).bind fun r13 => (gR h12 v0 1 9).bind fun r14 => (gR h12 v0 3 9).bind fun r15 => (f_X2_of h12 r15 v1 0).bind fun x16 => (f_X10_placeOn h12 r13 r14 x16 v2 v3).bind fun x17 => (if 0 ≤ x17 then (f_X11_answer h12 v0 x17).bind fun q20 => some (q20.1, q20.2) else (f_X11_refuse h12 v0 1).bind fun q23 => some (q23.1, q23.2))))
set_option maxRecDepth 100000 in
set_option maxHeartbeats 4000000 in
theorem w_X11_wayAt {G : GE} {X : CX} {l : Launch} (hX : Ok G X cX11_wayAt RX11) (hN : xn X = 5) {P : (Int32 × Mem) → Prop} (hr : Rt G X l yX11_wayAt (some .int) rm_X11_wayAt (pmI P)) (h : Mem) (v0 : Nat) (v1 : Int32) (v2 : Int32) (v3 : Int32) (hy : OK (f_X11_wayAt h v0 v1 v2 v3) P) : AW G X 0 [(0, vR v0), (1, vI v1), (2, vI v2), (3, vI v3)] [] h 0 0 := by
  unfold f_X11_wayAt at hy
  have hkd := hy.kd
  have hy := hy.kb
  refine aw_aloadn (pc := 0) hX 0 rfl dX11_wayAt_0 ?_
  refine aw_iloadn (pc := 1) hX 1 rfl dX11_wayAt_1 ?_
  refine aw_callV (pc := 2) (st := []) (a := v0) hX [vI v1] (con_X11_isPerson _ G _ v0 v1 hy.bd) mc_X11_isPerson ml_X11_169 im_X11_isPerson se_X11_isPerson (by decide) hy.bd.kd rfl (rm_of hr (by decide)) (Nat.le_of_ble_eq_true rfl) rfl dX11_wayAt_2 (kpI rfl rfl (fun x1 hy => ?_))
  refine aw_if_eq (pc := 5) hX 16 (by decide) dX11_wayAt_5 (fun hc9 => ?_) (fun hc9 => ?_)
  · have hy := hy.t hc9
    refine AW.sub [0] rfl ?_
    exact w_X11_wayAt_16 hX hN hr h v0 hy
  · have hy := hy.f hc9
    refine aw_aloadn (pc := 8) hX 0 rfl dX11_wayAt_8 ?_
    refine aw_iloadn (pc := 9) hX 2 rfl dX11_wayAt_9 ?_
    refine aw_callV (pc := 10) (st := []) (a := v0) hX [vI v2] (con_X11_isPlace _ G _ v0 v2 hy.bd) mc_X11_isPlace ml_X11_200 im_X11_isPlace se_X11_isPlace (by decide) hy.bd.kd rfl (rm_of hr (by decide)) (Nat.le_of_ble_eq_true rfl) rfl dX11_wayAt_10 (kpI rfl rfl (fun x5 hy => ?_))
    refine aw_if_ne (pc := 13) hX 22 (by decide) dX11_wayAt_13 (fun hc9 => ?_) (fun hc9 => ?_)
    · have hy := hy.f hc9
      refine aw_aloadn (pc := 22) hX 0 rfl dX11_wayAt_22 ?_
      refine aw_gR (pc := 23) hX hy fl_X11_33 (fun _ _ => rfl) dX11_wayAt_23 (fun r6 hy => ?_)
      refine aw_aloadn (pc := 26) hX 0 rfl dX11_wayAt_26 ?_
      refine aw_gR (pc := 27) hX hy fl_X11_10 (fun _ _ => rfl) dX11_wayAt_27 (fun r7 hy => ?_)
      refine aw_iloadn (pc := 30) hX 2 rfl dX11_wayAt_30 ?_
      refine aw_aloadn (pc := 31) hX 0 rfl dX11_wayAt_31 ?_
      refine aw_gR (pc := 32) hX hy fl_X11_26 (fun _ _ => rfl) dX11_wayAt_32 (fun r8 hy => ?_)
      refine aw_iloadn (pc := 35) hX 1 rfl dX11_wayAt_35 ?_
      refine aw_callV (pc := 36) (st := [vI v2, vR r7, vR r6]) (a := r8) hX [vI v1] (con_X2_voices _ G _ r8 v1 hy.bd) mc_X2_voices ml_X11_186 im_X2_voices se_X2_voices (by decide) hy.bd.kd rfl (rm_of hr (by decide)) (Nat.le_of_ble_eq_true rfl) rfl dX11_wayAt_36 (kpI rfl rfl (fun x9 hy => ?_))
      refine aw_aloadn (pc := 39) hX 0 rfl dX11_wayAt_39 ?_
      refine aw_gR (pc := 40) hX hy fl_X11_26 (fun _ _ => rfl) dX11_wayAt_40 (fun r10 hy => ?_)
      refine aw_callV (pc := 43) (st := [vI x9, vI v2, vR r7, vR r6]) (a := r10) hX [] (con_X2_rains _ G _ r10 hy.bd) mc_X2_rains ml_X11_135 im_X2_rains se_X2_rains (by decide) hy.bd.kd rfl (rm_of hr (by decide)) (Nat.le_of_ble_eq_true rfl) rfl dX11_wayAt_43 (kpI rfl rfl (fun x11 hy => ?_))
      refine aw_callV (pc := 46) (st := []) (a := r6) hX [vR r7, vI v2, vI x9, vI x11] (con_X10_measure _ G _ r6 r7 v2 x9 x11 hy.bd) mc_X10_measure ml_X11_207 im_X10_measure se_X10_measure (by decide) hy.bd.kd rfl (rm_of hr (by decide)) (Nat.le_of_ble_eq_true rfl) rfl dX11_wayAt_46 (kmV rfl rfl (fun h12 hy => ?_))
      refine aw_aloadn (pc := 49) hX 0 rfl dX11_wayAt_49 ?_
      refine aw_gR (pc := 50) hX hy fl_X11_33 (fun _ _ => rfl) dX11_wayAt_50 (fun r13 hy => ?_)
      refine aw_aloadn (pc := 53) hX 0 rfl dX11_wayAt_53 ?_
      refine aw_gR (pc := 54) hX hy fl_X11_10 (fun _ _ => rfl) dX11_wayAt_54 (fun r14 hy => ?_)
      refine aw_aloadn (pc := 57) hX 0 rfl dX11_wayAt_57 ?_
      refine aw_gR (pc := 58) hX hy fl_X11_26 (fun _ _ => rfl) dX11_wayAt_58 (fun r15 hy => ?_)
      refine aw_iloadn (pc := 61) hX 1 rfl dX11_wayAt_61 ?_
      refine aw_iconst (pc := 62) hX 0 (by decide) dX11_wayAt_62 ?_
      refine aw_callV (pc := 63) (st := [vR r14, vR r13]) (a := r15) hX [vI v1, vI 0] (con_X2_of _ G _ r15 v1 0 hy.bd) mc_X2_of ml_X11_172 im_X2_of se_X2_of (by decide) hy.bd.kd rfl (rm_of hr (by decide)) (Nat.le_of_ble_eq_true rfl) rfl dX11_wayAt_63 (kpI rfl rfl (fun x16 hy => ?_))
      refine aw_iloadn (pc := 66) hX 2 rfl dX11_wayAt_66 ?_
      refine aw_iloadn (pc := 67) hX 3 rfl dX11_wayAt_67 ?_
      refine aw_callV (pc := 68) (st := []) (a := r13) hX [vR r14, vI x16, vI v2, vI v3] (con_X10_placeOn _ G _ r13 r14 x16 v2 v3 hy.bd) mc_X10_placeOn ml_X11_211 im_X10_placeOn se_X10_placeOn (by decide) hy.bd.kd rfl (rm_of hr (by decide)) (Nat.le_of_ble_eq_true rfl) rfl dX11_wayAt_68 (kpI rfl rfl (fun x17 hy => ?_))
      refine aw_istore (pc := 71) hX [(4, vI x17), (0, vR v0), (1, vI v1), (2, vI v2), (3, vI v3)] rfl (lt_n hN (by decide)) dX11_wayAt_71 ?_
      refine aw_iload (pc := 73) hX 0 rfl dX11_wayAt_73 ?_
      refine aw_if_ge (pc := 75) hX 86 (by decide) dX11_wayAt_75 (fun hc9 => ?_) (fun hc9 => ?_)
      · have hy := hy.t hc9
        refine aw_aloadn (pc := 86) hX 1 rfl dX11_wayAt_86 ?_
        refine aw_iload (pc := 87) hX 0 rfl dX11_wayAt_87 ?_
        refine aw_callV (pc := 89) (st := []) (a := v0) hX [vI x17] (con_X11_answer _ G _ v0 x17 hy.bd) mc_X11_answer ml_X11_117 im_X11_answer se_X11_answer (by decide) hy.bd.kd rfl (rm_of hr (by decide)) (Nat.le_of_ble_eq_true rfl) rfl dX11_wayAt_89 (kmI rfl rfl (fun q20 hy => ?_))
        exact aw_iret (pc := 92) hX hr (by decide) (by decide) dX11_wayAt_92 ⟨_, rfl, hy.s⟩
      · have hy := hy.f hc9
        refine aw_aloadn (pc := 78) hX 1 rfl dX11_wayAt_78 ?_
        refine aw_iconst (pc := 79) hX 1 (by decide) dX11_wayAt_79 ?_
        refine aw_callV (pc := 80) (st := []) (a := v0) hX [vI 1] (con_X11_refuse _ G _ v0 1 hy.bd) mc_X11_refuse ml_X11_84 im_X11_refuse se_X11_refuse (by decide) hy.bd.kd rfl (rm_of hr (by decide)) (Nat.le_of_ble_eq_true rfl) rfl dX11_wayAt_80 (kmI rfl rfl (fun q23 hy => ?_))
        refine aw_goto (pc := 83) hX 92 (by decide) dX11_wayAt_83 ?_
        exact aw_iret (pc := 92) hX hr (by decide) (by decide) dX11_wayAt_92 ⟨_, rfl, hy.s⟩
    · have hy := hy.t hc9
      refine AW.sub [0] rfl ?_
      exact w_X11_wayAt_16 hX hN hr h v0 hy
theorem con_X11_wayAt (l : Launch) (G : GE) (h : Mem) (v0 : Nat) (v1 : Int32) (v2 : Int32) (v3 : Int32) {P : (Int32 × Mem) → Prop} (hy : OK (f_X11_wayAt h v0 v1 v2 v3) P) : Con l G yX11_wayAt cX11_wayAt 5 (some .int) rm_X11_wayAt [vR v0, vI v1, vI v2, vI v3] h (pmI P) := Con.of (by decide) (Nat.le_of_ble_eq_true rfl) (fun X hX hr hN => w_X11_wayAt hX hN hr h v0 v1 v2 v3 hy)
/-! X11_reachBy -/
theorem dX11_reachBy_0 : decode cX11_reachBy 0 = .ok (.aload_n 0, 1) := by decide +kernel
theorem dX11_reachBy_1 : decode cX11_reachBy 1 = .ok (.getfield 10, 3) := by decide +kernel
theorem dX11_reachBy_4 : decode cX11_reachBy 4 = .ok (.aload_n 0, 1) := by decide +kernel
theorem dX11_reachBy_5 : decode cX11_reachBy 5 = .ok (.getfield 26, 3) := by decide +kernel
theorem dX11_reachBy_8 : decode cX11_reachBy 8 = .ok (.iload_n 1, 1) := by decide +kernel
theorem dX11_reachBy_9 : decode cX11_reachBy 9 = .ok (.iconst 0, 1) := by decide +kernel
theorem dX11_reachBy_10 : decode cX11_reachBy 10 = .ok (.invokevirtual 172, 3) := by decide +kernel
theorem dX11_reachBy_13 : decode cX11_reachBy 13 = .ok (.aload_n 0, 1) := by decide +kernel
theorem dX11_reachBy_14 : decode cX11_reachBy 14 = .ok (.getfield 26, 3) := by decide +kernel
theorem dX11_reachBy_17 : decode cX11_reachBy 17 = .ok (.iload_n 1, 1) := by decide +kernel
theorem dX11_reachBy_18 : decode cX11_reachBy 18 = .ok (.invokevirtual 186, 3) := by decide +kernel
theorem dX11_reachBy_21 : decode cX11_reachBy 21 = .ok (.iload_n 2, 1) := by decide +kernel
theorem dX11_reachBy_22 : decode cX11_reachBy 22 = .ok (.ior, 1) := by decide +kernel
theorem dX11_reachBy_23 : decode cX11_reachBy 23 = .ok (.iload_n 3, 1) := by decide +kernel
theorem dX11_reachBy_24 : decode cX11_reachBy 24 = .ok (.invokestatic 380, 3) := by decide +kernel
theorem dX11_reachBy_27 : decode cX11_reachBy 27 = .ok (.ireturn, 1) := by decide +kernel
abbrev rm_X11_reachBy : Room := { frames := 2, cells := 0, slots := 0, locals := 51 }
def f_X11_reachBy (h : Mem) (v0 : Nat) (v1 : Int32) (v2 : Int32) (v3 : Int32) : Option Int32 :=
  (ck h v0 9).bind fun _ => (gR h v0 1 9).bind fun r1 => (gR h v0 3 9).bind fun r2 => (f_X2_of h r2 v1 0).bind fun x3 => (gR h v0 3 9).bind fun r4 => (f_X2_voices h r4 v1).bind fun x5 => (f_X10_placesReached h r1 x3 (x5 ||| v2) v3).bind fun x6 => some x6
set_option maxRecDepth 100000 in
set_option maxHeartbeats 4000000 in
theorem w_X11_reachBy {G : GE} {X : CX} {l : Launch} (hX : Ok G X cX11_reachBy RX11) (hN : xn X = 4) (h : Mem) {P : Int32 → Prop} (hr : Rt G X l yX11_reachBy (some .int) rm_X11_reachBy (ppI h P)) (v0 : Nat) (v1 : Int32) (v2 : Int32) (v3 : Int32) (hy : OK (f_X11_reachBy h v0 v1 v2 v3) P) : AW G X 0 [(0, vR v0), (1, vI v1), (2, vI v2), (3, vI v3)] [] h 0 0 := by
  unfold f_X11_reachBy at hy
  have hkd := hy.kd
  have hy := hy.kb
  refine aw_aloadn (pc := 0) hX 0 rfl dX11_reachBy_0 ?_
  refine aw_gR (pc := 1) hX hy fl_X11_10 (fun _ _ => rfl) dX11_reachBy_1 (fun r1 hy => ?_)
  refine aw_aloadn (pc := 4) hX 0 rfl dX11_reachBy_4 ?_
  refine aw_gR (pc := 5) hX hy fl_X11_26 (fun _ _ => rfl) dX11_reachBy_5 (fun r2 hy => ?_)
  refine aw_iloadn (pc := 8) hX 1 rfl dX11_reachBy_8 ?_
  refine aw_iconst (pc := 9) hX 0 (by decide) dX11_reachBy_9 ?_
  refine aw_callV (pc := 10) (st := [vR r1]) (a := r2) hX [vI v1, vI 0] (con_X2_of _ G _ r2 v1 0 hy.bd) mc_X2_of ml_X11_172 im_X2_of se_X2_of (by decide) hy.bd.kd rfl (rm_of hr (by decide)) (Nat.le_of_ble_eq_true rfl) rfl dX11_reachBy_10 (kpI rfl rfl (fun x3 hy => ?_))
  refine aw_aloadn (pc := 13) hX 0 rfl dX11_reachBy_13 ?_
  refine aw_gR (pc := 14) hX hy fl_X11_26 (fun _ _ => rfl) dX11_reachBy_14 (fun r4 hy => ?_)
  refine aw_iloadn (pc := 17) hX 1 rfl dX11_reachBy_17 ?_
  refine aw_callV (pc := 18) (st := [vI x3, vR r1]) (a := r4) hX [vI v1] (con_X2_voices _ G _ r4 v1 hy.bd) mc_X2_voices ml_X11_186 im_X2_voices se_X2_voices (by decide) hy.bd.kd rfl (rm_of hr (by decide)) (Nat.le_of_ble_eq_true rfl) rfl dX11_reachBy_18 (kpI rfl rfl (fun x5 hy => ?_))
  refine aw_iloadn (pc := 21) hX 2 rfl dX11_reachBy_21 ?_
  refine aw_ior (pc := 22) hX dX11_reachBy_22 ?_
  refine aw_iloadn (pc := 23) hX 3 rfl dX11_reachBy_23 ?_
  refine aw_callS (pc := 24) (st := []) hX [vR r1, vI x3, vI (x5 ||| v2), vI v3] (con_X10_placesReached _ G _ r1 x3 (x5 ||| v2) v3 hy.bd) mc_X10_placesReached ml_X11_380 st_X10_placesReached rfl (rm_of hr (by decide)) (Nat.le_of_ble_eq_true rfl) rfl dX11_reachBy_24 (kpI rfl rfl (fun x6 hy => ?_))
  exact aw_iret (pc := 27) hX hr (by decide) (by decide) dX11_reachBy_27 ⟨rfl, _, rfl, hy.s⟩
theorem con_X11_reachBy (l : Launch) (G : GE) (h : Mem) (v0 : Nat) (v1 : Int32) (v2 : Int32) (v3 : Int32) {P : Int32 → Prop} (hy : OK (f_X11_reachBy h v0 v1 v2 v3) P) : Con l G yX11_reachBy cX11_reachBy 4 (some .int) rm_X11_reachBy [vR v0, vI v1, vI v2, vI v3] h (ppI h P) := Con.of (by decide) (Nat.le_of_ble_eq_true rfl) (fun X hX hr hN => w_X11_reachBy hX hN h hr v0 v1 v2 v3 hy)
/-! X11_reach -/
theorem dX11_reach_0 : decode cX11_reach 0 = .ok (.aload_n 0, 1) := by decide +kernel
theorem dX11_reach_1 : decode cX11_reach 1 = .ok (.iload_n 1, 1) := by decide +kernel
theorem dX11_reach_2 : decode cX11_reach 2 = .ok (.invokevirtual 169, 3) := by decide +kernel
theorem dX11_reach_5 : decode cX11_reach 5 = .ok (.ifCond .eq 23, 3) := by decide +kernel
theorem dX11_reach_8 : decode cX11_reach 8 = .ok (.aload_n 0, 1) := by decide +kernel
theorem dX11_reach_9 : decode cX11_reach 9 = .ok (.aload_n 0, 1) := by decide +kernel
theorem dX11_reach_10 : decode cX11_reach 10 = .ok (.iload_n 1, 1) := by decide +kernel
theorem dX11_reach_11 : decode cX11_reach 11 = .ok (.iconst 0, 1) := by decide +kernel
theorem dX11_reach_12 : decode cX11_reach 12 = .ok (.aload_n 0, 1) := by decide +kernel
theorem dX11_reach_13 : decode cX11_reach 13 = .ok (.getfield 26, 3) := by decide +kernel
theorem dX11_reach_16 : decode cX11_reach 16 = .ok (.invokevirtual 135, 3) := by decide +kernel
theorem dX11_reach_19 : decode cX11_reach 19 = .ok (.invokevirtual 215, 3) := by decide +kernel
theorem dX11_reach_22 : decode cX11_reach 22 = .ok (.invokevirtual 117, 3) := by decide +kernel
theorem dX11_reach_25 : decode cX11_reach 25 = .ok (.goto 8, 3) := by decide +kernel
theorem dX11_reach_28 : decode cX11_reach 28 = .ok (.aload_n 0, 1) := by decide +kernel
theorem dX11_reach_29 : decode cX11_reach 29 = .ok (.iconst 1, 1) := by decide +kernel
theorem dX11_reach_30 : decode cX11_reach 30 = .ok (.invokevirtual 84, 3) := by decide +kernel
theorem dX11_reach_33 : decode cX11_reach 33 = .ok (.ireturn, 1) := by decide +kernel
abbrev rm_X11_reach : Room := { frames := 3, cells := 0, slots := 0, locals := 74 }
def f_X11_reach (h : Mem) (v0 : Nat) (v1 : Int32) : Option (Int32 × Mem) :=
  (ck h v0 9).bind fun _ => (f_X11_isPerson h v0 v1).bind fun x1 => (if x1 = 0 then (f_X11_refuse h v0 1).bind fun q4 => some (q4.1, q4.2) else (gR h v0 3 9).bind fun r5 => (f_X2_rains h r5).bind fun x6 => (f_X11_reachBy h v0 v1 0 x6).bind fun x7 => (f_X11_answer h v0 x7).bind fun q10 => some (q10.1, q10.2))
set_option maxRecDepth 100000 in
set_option maxHeartbeats 4000000 in
theorem w_X11_reach {G : GE} {X : CX} {l : Launch} (hX : Ok G X cX11_reach RX11) (hN : xn X = 2) {P : (Int32 × Mem) → Prop} (hr : Rt G X l yX11_reach (some .int) rm_X11_reach (pmI P)) (h : Mem) (v0 : Nat) (v1 : Int32) (hy : OK (f_X11_reach h v0 v1) P) : AW G X 0 [(0, vR v0), (1, vI v1)] [] h 0 0 := by
  unfold f_X11_reach at hy
  have hkd := hy.kd
  have hy := hy.kb
  refine aw_aloadn (pc := 0) hX 0 rfl dX11_reach_0 ?_
  refine aw_iloadn (pc := 1) hX 1 rfl dX11_reach_1 ?_
  refine aw_callV (pc := 2) (st := []) (a := v0) hX [vI v1] (con_X11_isPerson _ G _ v0 v1 hy.bd) mc_X11_isPerson ml_X11_169 im_X11_isPerson se_X11_isPerson (by decide) hy.bd.kd rfl (rm_of hr (by decide)) (Nat.le_of_ble_eq_true rfl) rfl dX11_reach_2 (kpI rfl rfl (fun x1 hy => ?_))
  refine aw_if_eq (pc := 5) hX 28 (by decide) dX11_reach_5 (fun hc9 => ?_) (fun hc9 => ?_)
  · have hy := hy.t hc9
    refine aw_aloadn (pc := 28) hX 0 rfl dX11_reach_28 ?_
    refine aw_iconst (pc := 29) hX 1 (by decide) dX11_reach_29 ?_
    refine aw_callV (pc := 30) (st := []) (a := v0) hX [vI 1] (con_X11_refuse _ G _ v0 1 hy.bd) mc_X11_refuse ml_X11_84 im_X11_refuse se_X11_refuse (by decide) hy.bd.kd rfl (rm_of hr (by decide)) (Nat.le_of_ble_eq_true rfl) rfl dX11_reach_30 (kmI rfl rfl (fun q4 hy => ?_))
    exact aw_iret (pc := 33) hX hr (by decide) (by decide) dX11_reach_33 ⟨_, rfl, hy.s⟩
  · have hy := hy.f hc9
    refine aw_aloadn (pc := 8) hX 0 rfl dX11_reach_8 ?_
    refine aw_aloadn (pc := 9) hX 0 rfl dX11_reach_9 ?_
    refine aw_iloadn (pc := 10) hX 1 rfl dX11_reach_10 ?_
    refine aw_iconst (pc := 11) hX 0 (by decide) dX11_reach_11 ?_
    refine aw_aloadn (pc := 12) hX 0 rfl dX11_reach_12 ?_
    refine aw_gR (pc := 13) hX hy fl_X11_26 (fun _ _ => rfl) dX11_reach_13 (fun r5 hy => ?_)
    refine aw_callV (pc := 16) (st := [vI 0, vI v1, vR v0, vR v0]) (a := r5) hX [] (con_X2_rains _ G _ r5 hy.bd) mc_X2_rains ml_X11_135 im_X2_rains se_X2_rains (by decide) hy.bd.kd rfl (rm_of hr (by decide)) (Nat.le_of_ble_eq_true rfl) rfl dX11_reach_16 (kpI rfl rfl (fun x6 hy => ?_))
    refine aw_callV (pc := 19) (st := [vR v0]) (a := v0) hX [vI v1, vI 0, vI x6] (con_X11_reachBy _ G _ v0 v1 0 x6 hy.bd) mc_X11_reachBy ml_X11_215 im_X11_reachBy se_X11_reachBy (by decide) hy.bd.kd rfl (rm_of hr (by decide)) (Nat.le_of_ble_eq_true rfl) rfl dX11_reach_19 (kpI rfl rfl (fun x7 hy => ?_))
    refine aw_callV (pc := 22) (st := []) (a := v0) hX [vI x7] (con_X11_answer _ G _ v0 x7 hy.bd) mc_X11_answer ml_X11_117 im_X11_answer se_X11_answer (by decide) hy.bd.kd rfl (rm_of hr (by decide)) (Nat.le_of_ble_eq_true rfl) rfl dX11_reach_22 (kmI rfl rfl (fun q10 hy => ?_))
    refine aw_goto (pc := 25) hX 33 (by decide) dX11_reach_25 ?_
    exact aw_iret (pc := 33) hX hr (by decide) (by decide) dX11_reach_33 ⟨_, rfl, hy.s⟩
theorem con_X11_reach (l : Launch) (G : GE) (h : Mem) (v0 : Nat) (v1 : Int32) {P : (Int32 × Mem) → Prop} (hy : OK (f_X11_reach h v0 v1) P) : Con l G yX11_reach cX11_reach 2 (some .int) rm_X11_reach [vR v0, vI v1] h (pmI P) := Con.of (by decide) (Nat.le_of_ble_eq_true rfl) (fun X hX hr hN => w_X11_reach hX hN hr h v0 v1 hy)
