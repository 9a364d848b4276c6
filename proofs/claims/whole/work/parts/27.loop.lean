/-! ===== the law's loop, over an invariant of the memory ===== -/
/-- a case keeps the invariant -/
def StepOK (INV : Mem → Prop) (f : (Nat → Int32) → Nat → Mem → Int32 → Option Mem) : Prop := ∀ (sc : Nat → Int32) (L i : Nat) (h : Mem), L ≤ 3072 → i + 6 ≤ L → INV h → OK (f sc L h (nI i)) INV
def StepLed (INV : Mem → Prop) : Prop := ∀ (sc : Nat → Int32) (L i : Nat) (h : Mem), L ≤ 3072 → i + 6 ≤ L → INV h → ∃ P : Int32 ⊕ Unit → Prop, OK (f_X11_led h 1 (sc (i + 1))) P ∧ (∀ x, P (.inl x) → OK (sL h 68 0 x.toInt64) (fun h' => OK (lc_48b sc L h' (nI i) 0) INV)) ∧ (P (.inr ()) → ∀ n, mN h ≤ n → OK (lc_48b sc L (setN h n) (nI i) 1) INV)
def Steps9 (INV : Mem → Prop) : Prop := StepOK INV lc_0 ∧ StepOK INV lc_1 ∧ StepOK INV lc_2 ∧ StepOK INV lc_3 ∧ StepOK INV lc_4 ∧ StepOK INV lc_5 ∧ StepOK INV lc_6 ∧ StepOK INV lc_7 ∧ StepOK INV lc_8 ∧ StepOK INV lc_9 ∧ StepOK INV lc_10 ∧ StepOK INV lc_11 ∧ StepOK INV lc_12 ∧ StepOK INV lc_13 ∧ StepOK INV lc_14 ∧ StepOK INV lc_15 ∧ StepOK INV lc_16 ∧ StepOK INV lc_17 ∧ StepOK INV lc_18 ∧ StepOK INV lc_19 ∧ StepOK INV lc_20 ∧ StepOK INV lc_21 ∧ StepOK INV lc_22 ∧ StepOK INV lc_23 ∧ StepOK INV lc_24 ∧ StepOK INV lc_25 ∧ StepOK INV lc_26 ∧ StepOK INV lc_27 ∧ StepOK INV lc_28 ∧ StepOK INV lc_29 ∧ StepOK INV lc_30 ∧ StepOK INV lc_31 ∧ StepOK INV lc_32 ∧ StepOK INV lc_33 ∧ StepOK INV lc_34 ∧ StepOK INV lc_35 ∧ StepOK INV lc_36 ∧ StepOK INV lc_37 ∧ StepOK INV lc_38 ∧ StepOK INV lc_39 ∧ StepOK INV lc_40 ∧ StepOK INV lc_41 ∧ StepOK INV lc_42 ∧ StepOK INV lc_43 ∧ StepOK INV lc_44 ∧ StepOK INV lc_45 ∧ StepOK INV lc_46 ∧ StepOK INV lc_47 ∧ StepOK INV lc_49 ∧ StepOK INV lc_50 ∧ StepLed INV
theorem sc_at {sc : Nat → Int32} {L i : Nat} (hL : L ≤ 3072) (hi : i < L) : scI sc L (nI i) = some (sc i) := by
  unfold scI
  rw [if_pos, nI_clamp (by omega)]
  rw [nI_toInt (by omega)]
  omega
section LOOP
set_option maxHeartbeats 4000000 in
set_option maxRecDepth 100000 in
/-- led: called, returned or thrown -/
theorem w_lc_48 {G : GE} {X : CX} {sc : Nat → Int32} {L : Nat} (hX : Ok G X cL_law RL) (hN : xn X = 7) (hr : xr X = room_1) (hsc : SC G X L sc) (hE : ETH G (xs X)) (hlt : (xl X).stackTraces = false) {INV : Mem → Prop} (ce sl : Nat) (hce : ce + 20 ≤ 601024) (hsl : sl + 400 ≤ 7293034) (i : Nat) (hL : L ≤ 3072) (hi : i + 6 ≤ L) (hc : ∀ h', INV h' → AW G X 1982 [(0, vX 20), (1, vR 1), (2, vR 55), (3, vR 68), (4, vI (nI i))] [] h' (ce + 20) (sl + 400)) (h : Mem) (hl : StepLed INV) (hI : INV h) : AW G X 1888 [(0, vX 20), (1, vR 1), (2, vR 55), (3, vR 68), (4, vI (nI i))] [] h ce sl := by
  obtain ⟨P, hy, k0, k1⟩ := hl sc L i h hL hi hI
  refine aw_aloadn (pc := 1888) hX 1 rfl dL_law_1888 ?_
  refine aw_xloadn (pc := 1889) hX 0 rfl dL_law_1889 ?_
  refine aw_iload (pc := 1890) hX 4 rfl dL_law_1890 ?_
  refine aw_iconst (pc := 1892) hX 1 (by decide) dL_law_1892 ?_
  refine aw_iadd (pc := 1893) hX dL_law_1893 ?_
  refine aw_scl (pc := 1894) (f := some) (P := fun v => v = sc (i + 1)) hX hsc ?_ dL_law_1894 (fun v hv => ?_)
  · rw [nI_1, sc_at hL (by omega)]
    exact ⟨_, rfl, rfl⟩
  have hv := hv.s
  subst hv
  refine aw_aloadn (pc := 1895) hX 3 rfl dL_law_1895 ?_
  intro H locs ls hR hS hlv
  have hM := con_L_led (xl X) hlt G h 1 (sc (i + 1)) 68 hy (post := fun r h' => (r = some (vI 0) ∧ OK (lc_48b sc L h' (nI i) 0) INV) ∨ (r = some (vI 1) ∧ OK (lc_48b sc L h' (nI i) 1) INV)) (fun x hx => (k0 x hx).mono (fun h' q => Or.inl ⟨rfl, q⟩)) (fun hx n hn => Or.inr ⟨rfl, k1 hx n hn⟩)
  have hts := hX.2.2.2.2.1
  have hg : GoodIn TT (Cond.codeWith yL_led cL_led 4 (some .int) [(0, 9, 12, 13)] :: TT) := fun w hw => by
    rcases List.mem_cons.mp hw with rfl | hw
    · exact TT_good _ cw_L_led
    · exact TT_good _ hw
  have hcw : vx_CSW (xr X) (xs X) (xa X) RL 223 yL_led cL_led 4 (some .int) [(0, 9, 12, 13)] (Cond.codeWith yL_led cL_led 4 (some .int) [(0, 9, 12, 13)] :: TT) rm_L_led 1 6 3 := by
    refine ⟨⟨rfl, rfl, by rw [hr]; decide, by rw [hr]; decide, pay_in hts hg, List.mem_cons_self⟩, hts _ cw_L_led, hts _ in_L, by decide +kernel, fun sig hsig => ?_, hts _ ml_L_223, hts _ st_L_led⟩
    have h9 : (parseMethodDescriptor yL_led.desc).map (fun d => d.parameters.length) = some 3 := by decide +kernel
    rw [hsig] at h9
    exact (Option.some.inj h9).symm
  have run := vx_runSW (As := [vR 1, vI (sc (i + 1)), vR 68].map (tv G)) (rest := ([] : List AV).map (tv G)) (nL := xn X) (locs := locs) (cells := ce) (slots := sl) (below := xb X) (meth := xt X) (e := xe X) (g := F0 (xm X) 1896 ls (([vR 1, vI (sc (i + 1)), vR 68].map (tv G)).reverse ++ ([] : List AV).map (tv G))) ⟨hX.1, hX.2.1, hX.2.2.1, hX.2.2.2.1, hX.2.2.2.2.1⟩ hM hcw ⟨PPx_blind G _ h, fun U hU hW => ⟨rfl, ⟨by rw [hU]; exact hR, hX.2.2.2.2.2.1.moved hW (fun a h1 h2 => by rw [hU]; exact hS.2.1 a h1 h2)⟩, hE.moved hW (fun a h1 h2 => by rw [hU]; exact hS.2.1 a h1 h2)⟩⟩ rfl rfl hlv.1 rfl (lv_room (by rw [acs]; exact Nat.le_of_ble_eq_true rfl)) dL_law_1896 (by rw [hr]; exact ⟨show ce + 1 ≤ 601024 by omega, show sl + 6 ≤ 7293034 by omega⟩)
  refine aw_run (st := []) hS hlv run (fun r h' hq => ?_)
  rcases hq with ⟨rfl, q⟩ | ⟨rfl, q⟩
  · exact w_lc_48b hX hN hr hsc ce sl hce hsl (nI i) hc h' 0 (ce + 1) (sl + 6) (Nat.le_refl _) (Nat.le_refl _) q
  · exact w_lc_48b hX hN hr hsc ce sl hce hsl (nI i) hc h' 1 (ce + 1) (sl + 6) (Nat.le_refl _) (Nat.le_refl _) q
set_option maxHeartbeats 4000000 in
set_option maxRecDepth 100000 in
theorem law_loop {G : GE} {X : CX} {sc : Nat → Int32} {L : Nat} (hX : Ok G X cL_law RL) (hN : xn X = 7) (hr : xr X = room_1) (hsc : SC G X L sc) (hE : ETH G (xs X)) (hlt : (xl X).stackTraces = false) {INV : Mem → Prop} (hL : L ≤ 3072) (hst : Steps9 INV) (hend : ∀ h lv ce sl, ce ≤ 601024 → sl ≤ 7293034 → AW G X 1988 lv [] h ce sl) :
    ∀ (n j : Nat) (h : Mem), 513 ≤ j + n → j ≤ 512 → 6 * j ≤ L → INV h → AW G X 23 [(0, vX 20), (1, vR 1), (2, vR 55), (3, vR 68), (4, vI (nI (6 * j)))] [] h (68 + 20 * j) (5104 + 400 * j) := by
  intro n
  induction n with
  | zero =>
    intro j h h1 h2
    exact absurd h1 (by omega)
  | succ n ih =>
    intro j h h1 h2 h3 hI
    refine aw_iload (pc := 23) hX 4 rfl dL_law_23 ?_
    refine aw_xloadn (pc := 25) hX 0 rfl dL_law_25 ?_
    refine aw_slen (pc := 26) hX hsc dL_law_26 ?_
    refine aw_bipush (pc := 27) hX 6 (by decide) dL_law_27 ?_
    refine aw_isub (pc := 29) hX dL_law_29 ?_
    have hsub : (Int32.ofNat L - 6).toInt = (L : Int) - 6 := pk_sub_toInt (a := L) (b := 6) (by omega) (by omega)
    refine aw_ic_gt (pc := 30) hX 1988 (by decide) dL_law_30 (fun _ => hend _ _ _ _ (by omega) (by omega)) (fun hcmp => ?_)
    have hle : 6 * j + 6 ≤ L := by
      rw [Int32.lt_iff_toInt_lt, hsub, nI_toInt (by omega)] at hcmp
      omega
    have hj : j + 1 ≤ 512 := by omega
    have hc : ∀ h', INV h' → AW G X 1982 [(0, vX 20), (1, vR 1), (2, vR 55), (3, vR 68), (4, vI (nI (6 * j)))] [] h' (68 + 20 * j + 20) (5104 + 400 * j + 400) := by
      intro h' hI'
      refine aw_iinc (pc := 1982) hX 6 (by decide) 4 rfl [(4, vI (nI (6 * j) + 6)), (0, vX 20), (1, vR 1), (2, vR 55), (3, vR 68)] rfl (lt_n hN (by decide)) dL_law_1982 ?_
      refine aw_goto (pc := 1985) hX 23 (by decide) dL_law_1985 ?_
      refine AW.sub [1, 2, 3, 4, 0] rfl ?_
      have e : nI (6 * j) + 6 = nI (6 * (j + 1)) := by
        rw [show (6 : Int32) = nI 6 from rfl, nI_add]
        congr 1
      show AW G X 23 [(0, vX 20), (1, vR 1), (2, vR 55), (3, vR 68), (4, vI (nI (6 * j) + 6))] [] h' _ _
      rw [e]
      exact AW.eqa (by omega) (by omega) (ih (j + 1) h' (by omega) (by omega) (by omega) hI')
    have hce : 68 + 20 * j + 20 ≤ 601024 := by omega
    have hsl : 5104 + 400 * j + 400 ≤ 7293034 := by omega
    refine aw_xloadn (pc := 33) hX 0 rfl dL_law_33 ?_
    refine aw_iload (pc := 34) hX 4 rfl dL_law_34 ?_
    refine aw_scl (pc := 36) (f := some) (P := fun v => v = sc (6 * j)) hX hsc ?_ dL_law_36 (fun v hv => ?_)
    · rw [sc_at hL (by omega)]
      exact ⟨_, rfl, rfl⟩
    clear hv
    refine aw_bipush (pc := 37) hX 63 (by decide) dL_law_37 ?_
    refine aw_iand (pc := 39) hX dL_law_39 ?_
    generalize v &&& 63 = x
    obtain ⟨s0, s1, s2, s3, s4, s5, s6, s7, s8, s9, s10, s11, s12, s13, s14, s15, s16, s17, s18, s19, s20, s21, s22, s23, s24, s25, s26, s27, s28, s29, s30, s31, s32, s33, s34, s35, s36, s37, s38, s39, s40, s41, s42, s43, s44, s45, s46, s47, s49, s50, s48⟩ := hst
    rcases Decidable.em (x = 0) with hx | hn0
    · refine aw_tin (pc := 40) hX 260 (by rw [hx]; decide) (by rw [hx]; decide) (by rw [hx]; rfl) (by decide) dL_law_40 ?_
      exact w_lc_0 hX hN hr hsc _ _ hce hsl (nI (6 * j)) hc h (s0 sc L (6 * j) h hL hle hI)
    rcases Decidable.em (x = 1) with hx | hn1
    · refine aw_tin (pc := 40) hX 333 (by rw [hx]; decide) (by rw [hx]; decide) (by rw [hx]; rfl) (by decide) dL_law_40 ?_
      exact w_lc_1 hX hN hr hsc _ _ hce hsl (nI (6 * j)) hc h (s1 sc L (6 * j) h hL hle hI)
    rcases Decidable.em (x = 2) with hx | hn2
    · refine aw_tin (pc := 40) hX 358 (by rw [hx]; decide) (by rw [hx]; decide) (by rw [hx]; rfl) (by decide) dL_law_40 ?_
      exact w_lc_2 hX hN hr hsc _ _ hce hsl (nI (6 * j)) hc h (s2 sc L (6 * j) h hL hle hI)
    rcases Decidable.em (x = 3) with hx | hn3
    · refine aw_tin (pc := 40) hX 371 (by rw [hx]; decide) (by rw [hx]; decide) (by rw [hx]; rfl) (by decide) dL_law_40 ?_
      exact w_lc_3 hX hN hr hsc _ _ hce hsl (nI (6 * j)) hc h (s3 sc L (6 * j) h hL hle hI)
    rcases Decidable.em (x = 4) with hx | hn4
    · refine aw_tin (pc := 40) hX 384 (by rw [hx]; decide) (by rw [hx]; decide) (by rw [hx]; rfl) (by decide) dL_law_40 ?_
      exact w_lc_4 hX hN hr hsc _ _ hce hsl (nI (6 * j)) hc h (s4 sc L (6 * j) h hL hle hI)
    rcases Decidable.em (x = 5) with hx | hn5
    · refine aw_tin (pc := 40) hX 409 (by rw [hx]; decide) (by rw [hx]; decide) (by rw [hx]; rfl) (by decide) dL_law_40 ?_
      exact w_lc_5 hX hN hr hsc _ _ hce hsl (nI (6 * j)) hc h (s5 sc L (6 * j) h hL hle hI)
    rcases Decidable.em (x = 6) with hx | hn6
    · refine aw_tin (pc := 40) hX 474 (by rw [hx]; decide) (by rw [hx]; decide) (by rw [hx]; rfl) (by decide) dL_law_40 ?_
      exact w_lc_6 hX hN hr hsc _ _ hce hsl (nI (6 * j)) hc h (s6 sc L (6 * j) h hL hle hI)
    rcases Decidable.em (x = 7) with hx | hn7
    · refine aw_tin (pc := 40) hX 511 (by rw [hx]; decide) (by rw [hx]; decide) (by rw [hx]; rfl) (by decide) dL_law_40 ?_
      exact w_lc_7 hX hN hr hsc _ _ hce hsl (nI (6 * j)) hc h (s7 sc L (6 * j) h hL hle hI)
    rcases Decidable.em (x = 8) with hx | hn8
    · refine aw_tin (pc := 40) hX 560 (by rw [hx]; decide) (by rw [hx]; decide) (by rw [hx]; rfl) (by decide) dL_law_40 ?_
      exact w_lc_8 hX hN hr hsc _ _ hce hsl (nI (6 * j)) hc h (s8 sc L (6 * j) h hL hle hI)
    rcases Decidable.em (x = 9) with hx | hn9
    · refine aw_tin (pc := 40) hX 597 (by rw [hx]; decide) (by rw [hx]; decide) (by rw [hx]; rfl) (by decide) dL_law_40 ?_
      exact w_lc_9 hX hN hr hsc _ _ hce hsl (nI (6 * j)) hc h (s9 sc L (6 * j) h hL hle hI)
    rcases Decidable.em (x = 10) with hx | hn10
    · refine aw_tin (pc := 40) hX 634 (by rw [hx]; decide) (by rw [hx]; decide) (by rw [hx]; rfl) (by decide) dL_law_40 ?_
      exact w_lc_10 hX hN hr hsc _ _ hce hsl (nI (6 * j)) hc h (s10 sc L (6 * j) h hL hle hI)
    rcases Decidable.em (x = 11) with hx | hn11
    · refine aw_tin (pc := 40) hX 711 (by rw [hx]; decide) (by rw [hx]; decide) (by rw [hx]; rfl) (by decide) dL_law_40 ?_
      exact w_lc_11 hX hN hr hsc _ _ hce hsl (nI (6 * j)) hc h (s11 sc L (6 * j) h hL hle hI)
    rcases Decidable.em (x = 12) with hx | hn12
    · refine aw_tin (pc := 40) hX 760 (by rw [hx]; decide) (by rw [hx]; decide) (by rw [hx]; rfl) (by decide) dL_law_40 ?_
      exact w_lc_12 hX hN hr hsc _ _ hce hsl (nI (6 * j)) hc h (s12 sc L (6 * j) h hL hle hI)
    rcases Decidable.em (x = 13) with hx | hn13
    · refine aw_tin (pc := 40) hX 785 (by rw [hx]; decide) (by rw [hx]; decide) (by rw [hx]; rfl) (by decide) dL_law_40 ?_
      exact w_lc_13 hX hN hr hsc _ _ hce hsl (nI (6 * j)) hc h (s13 sc L (6 * j) h hL hle hI)
    rcases Decidable.em (x = 14) with hx | hn14
    · refine aw_tin (pc := 40) hX 798 (by rw [hx]; decide) (by rw [hx]; decide) (by rw [hx]; rfl) (by decide) dL_law_40 ?_
      exact w_lc_14 hX hN hr hsc _ _ hce hsl (nI (6 * j)) hc h (s14 sc L (6 * j) h hL hle hI)
    rcases Decidable.em (x = 15) with hx | hn15
    · refine aw_tin (pc := 40) hX 835 (by rw [hx]; decide) (by rw [hx]; decide) (by rw [hx]; rfl) (by decide) dL_law_40 ?_
      exact w_lc_15 hX hN hr hsc _ _ hce hsl (nI (6 * j)) hc h (s15 sc L (6 * j) h hL hle hI)
    rcases Decidable.em (x = 16) with hx | hn16
    · refine aw_tin (pc := 40) hX 884 (by rw [hx]; decide) (by rw [hx]; decide) (by rw [hx]; rfl) (by decide) dL_law_40 ?_
      exact w_lc_16 hX hN hr hsc _ _ hce hsl (nI (6 * j)) hc h (s16 sc L (6 * j) h hL hle hI)
    rcases Decidable.em (x = 17) with hx | hn17
    · refine aw_tin (pc := 40) hX 909 (by rw [hx]; decide) (by rw [hx]; decide) (by rw [hx]; rfl) (by decide) dL_law_40 ?_
      exact w_lc_17 hX hN hr hsc _ _ hce hsl (nI (6 * j)) hc h (s17 sc L (6 * j) h hL hle hI)
    rcases Decidable.em (x = 18) with hx | hn18
    · refine aw_tin (pc := 40) hX 962 (by rw [hx]; decide) (by rw [hx]; decide) (by rw [hx]; rfl) (by decide) dL_law_40 ?_
      exact w_lc_18 hX hN hr hsc _ _ hce hsl (nI (6 * j)) hc h (s18 sc L (6 * j) h hL hle hI)
    rcases Decidable.em (x = 19) with hx | hn19
    · refine aw_tin (pc := 40) hX 987 (by rw [hx]; decide) (by rw [hx]; decide) (by rw [hx]; rfl) (by decide) dL_law_40 ?_
      exact w_lc_19 hX hN hr hsc _ _ hce hsl (nI (6 * j)) hc h (s19 sc L (6 * j) h hL hle hI)
    rcases Decidable.em (x = 20) with hx | hn20
    · refine aw_tin (pc := 40) hX 1024 (by rw [hx]; decide) (by rw [hx]; decide) (by rw [hx]; rfl) (by decide) dL_law_40 ?_
      exact w_lc_20 hX hN hr hsc _ _ hce hsl (nI (6 * j)) hc h (s20 sc L (6 * j) h hL hle hI)
    rcases Decidable.em (x = 21) with hx | hn21
    · refine aw_tin (pc := 40) hX 1061 (by rw [hx]; decide) (by rw [hx]; decide) (by rw [hx]; rfl) (by decide) dL_law_40 ?_
      exact w_lc_21 hX hN hr hsc _ _ hce hsl (nI (6 * j)) hc h (s21 sc L (6 * j) h hL hle hI)
    rcases Decidable.em (x = 22) with hx | hn22
    · refine aw_tin (pc := 40) hX 1086 (by rw [hx]; decide) (by rw [hx]; decide) (by rw [hx]; rfl) (by decide) dL_law_40 ?_
      exact w_lc_22 hX hN hr hsc _ _ hce hsl (nI (6 * j)) hc h (s22 sc L (6 * j) h hL hle hI)
    rcases Decidable.em (x = 23) with hx | hn23
    · refine aw_tin (pc := 40) hX 1111 (by rw [hx]; decide) (by rw [hx]; decide) (by rw [hx]; rfl) (by decide) dL_law_40 ?_
      exact w_lc_23 hX hN hr hsc _ _ hce hsl (nI (6 * j)) hc h (s23 sc L (6 * j) h hL hle hI)
    rcases Decidable.em (x = 24) with hx | hn24
    · refine aw_tin (pc := 40) hX 1136 (by rw [hx]; decide) (by rw [hx]; decide) (by rw [hx]; rfl) (by decide) dL_law_40 ?_
      exact w_lc_24 hX hN hr hsc _ _ hce hsl (nI (6 * j)) hc h (s24 sc L (6 * j) h hL hle hI)
    rcases Decidable.em (x = 25) with hx | hn25
    · refine aw_tin (pc := 40) hX 1173 (by rw [hx]; decide) (by rw [hx]; decide) (by rw [hx]; rfl) (by decide) dL_law_40 ?_
      exact w_lc_25 hX hN hr hsc _ _ hce hsl (nI (6 * j)) hc h (s25 sc L (6 * j) h hL hle hI)
    rcases Decidable.em (x = 26) with hx | hn26
    · refine aw_tin (pc := 40) hX 1210 (by rw [hx]; decide) (by rw [hx]; decide) (by rw [hx]; rfl) (by decide) dL_law_40 ?_
      exact w_lc_26 hX hN hr hsc _ _ hce hsl (nI (6 * j)) hc h (s26 sc L (6 * j) h hL hle hI)
    rcases Decidable.em (x = 27) with hx | hn27
    · refine aw_tin (pc := 40) hX 1247 (by rw [hx]; decide) (by rw [hx]; decide) (by rw [hx]; rfl) (by decide) dL_law_40 ?_
      exact w_lc_27 hX hN hr hsc _ _ hce hsl (nI (6 * j)) hc h (s27 sc L (6 * j) h hL hle hI)
    rcases Decidable.em (x = 28) with hx | hn28
    · refine aw_tin (pc := 40) hX 1260 (by rw [hx]; decide) (by rw [hx]; decide) (by rw [hx]; rfl) (by decide) dL_law_40 ?_
      exact w_lc_28 hX hN hr hsc _ _ hce hsl (nI (6 * j)) hc h (s28 sc L (6 * j) h hL hle hI)
    rcases Decidable.em (x = 29) with hx | hn29
    · refine aw_tin (pc := 40) hX 1285 (by rw [hx]; decide) (by rw [hx]; decide) (by rw [hx]; rfl) (by decide) dL_law_40 ?_
      exact w_lc_29 hX hN hr hsc _ _ hce hsl (nI (6 * j)) hc h (s29 sc L (6 * j) h hL hle hI)
    rcases Decidable.em (x = 30) with hx | hn30
    · refine aw_tin (pc := 40) hX 1298 (by rw [hx]; decide) (by rw [hx]; decide) (by rw [hx]; rfl) (by decide) dL_law_40 ?_
      exact w_lc_30 hX hN hr hsc _ _ hce hsl (nI (6 * j)) hc h (s30 sc L (6 * j) h hL hle hI)
    rcases Decidable.em (x = 31) with hx | hn31
    · refine aw_tin (pc := 40) hX 1323 (by rw [hx]; decide) (by rw [hx]; decide) (by rw [hx]; rfl) (by decide) dL_law_40 ?_
      exact w_lc_31 hX hN hr hsc _ _ hce hsl (nI (6 * j)) hc h (s31 sc L (6 * j) h hL hle hI)
    rcases Decidable.em (x = 32) with hx | hn32
    · refine aw_tin (pc := 40) hX 1348 (by rw [hx]; decide) (by rw [hx]; decide) (by rw [hx]; rfl) (by decide) dL_law_40 ?_
      exact w_lc_32 hX hN hr hsc _ _ hce hsl (nI (6 * j)) hc h (s32 sc L (6 * j) h hL hle hI)
    rcases Decidable.em (x = 33) with hx | hn33
    · refine aw_tin (pc := 40) hX 1361 (by rw [hx]; decide) (by rw [hx]; decide) (by rw [hx]; rfl) (by decide) dL_law_40 ?_
      exact w_lc_33 hX hN hr hsc _ _ hce hsl (nI (6 * j)) hc h (s33 sc L (6 * j) h hL hle hI)
    rcases Decidable.em (x = 34) with hx | hn34
    · refine aw_tin (pc := 40) hX 1374 (by rw [hx]; decide) (by rw [hx]; decide) (by rw [hx]; rfl) (by decide) dL_law_40 ?_
      exact w_lc_34 hX hN hr hsc _ _ hce hsl (nI (6 * j)) hc h (s34 sc L (6 * j) h hL hle hI)
    rcases Decidable.em (x = 35) with hx | hn35
    · refine aw_tin (pc := 40) hX 1387 (by rw [hx]; decide) (by rw [hx]; decide) (by rw [hx]; rfl) (by decide) dL_law_40 ?_
      exact w_lc_35 hX hN hr hsc _ _ hce hsl (nI (6 * j)) hc h (s35 sc L (6 * j) h hL hle hI)
    rcases Decidable.em (x = 36) with hx | hn36
    · refine aw_tin (pc := 40) hX 1464 (by rw [hx]; decide) (by rw [hx]; decide) (by rw [hx]; rfl) (by decide) dL_law_40 ?_
      exact w_lc_36 hX hN hr hsc _ _ hce hsl (nI (6 * j)) hc h (s36 sc L (6 * j) h hL hle hI)
    rcases Decidable.em (x = 37) with hx | hn37
    · refine aw_tin (pc := 40) hX 1489 (by rw [hx]; decide) (by rw [hx]; decide) (by rw [hx]; rfl) (by decide) dL_law_40 ?_
      exact w_lc_37 hX hN hr hsc _ _ hce hsl (nI (6 * j)) hc h (s37 sc L (6 * j) h hL hle hI)
    rcases Decidable.em (x = 38) with hx | hn38
    · refine aw_tin (pc := 40) hX 1514 (by rw [hx]; decide) (by rw [hx]; decide) (by rw [hx]; rfl) (by decide) dL_law_40 ?_
      exact w_lc_38 hX hN hr hsc _ _ hce hsl (nI (6 * j)) hc h (s38 sc L (6 * j) h hL hle hI)
    rcases Decidable.em (x = 39) with hx | hn39
    · refine aw_tin (pc := 40) hX 1563 (by rw [hx]; decide) (by rw [hx]; decide) (by rw [hx]; rfl) (by decide) dL_law_40 ?_
      exact w_lc_39 hX hN hr hsc _ _ hce hsl (nI (6 * j)) hc h (s39 sc L (6 * j) h hL hle hI)
    rcases Decidable.em (x = 40) with hx | hn40
    · refine aw_tin (pc := 40) hX 1612 (by rw [hx]; decide) (by rw [hx]; decide) (by rw [hx]; rfl) (by decide) dL_law_40 ?_
      exact w_lc_40 hX hN hr hsc _ _ hce hsl (nI (6 * j)) hc h (s40 sc L (6 * j) h hL hle hI)
    rcases Decidable.em (x = 41) with hx | hn41
    · refine aw_tin (pc := 40) hX 1673 (by rw [hx]; decide) (by rw [hx]; decide) (by rw [hx]; rfl) (by decide) dL_law_40 ?_
      exact w_lc_41 hX hN hr hsc _ _ hce hsl (nI (6 * j)) hc h (s41 sc L (6 * j) h hL hle hI)
    rcases Decidable.em (x = 42) with hx | hn42
    · refine aw_tin (pc := 40) hX 1710 (by rw [hx]; decide) (by rw [hx]; decide) (by rw [hx]; rfl) (by decide) dL_law_40 ?_
      exact w_lc_42 hX hN hr hsc _ _ hce hsl (nI (6 * j)) hc h (s42 sc L (6 * j) h hL hle hI)
    rcases Decidable.em (x = 43) with hx | hn43
    · refine aw_tin (pc := 40) hX 1747 (by rw [hx]; decide) (by rw [hx]; decide) (by rw [hx]; rfl) (by decide) dL_law_40 ?_
      exact w_lc_43 hX hN hr hsc _ _ hce hsl (nI (6 * j)) hc h (s43 sc L (6 * j) h hL hle hI)
    rcases Decidable.em (x = 44) with hx | hn44
    · refine aw_tin (pc := 40) hX 1796 (by rw [hx]; decide) (by rw [hx]; decide) (by rw [hx]; rfl) (by decide) dL_law_40 ?_
      exact w_lc_44 hX hN hr hsc _ _ hce hsl (nI (6 * j)) hc h (s44 sc L (6 * j) h hL hle hI)
    rcases Decidable.em (x = 45) with hx | hn45
    · refine aw_tin (pc := 40) hX 1837 (by rw [hx]; decide) (by rw [hx]; decide) (by rw [hx]; rfl) (by decide) dL_law_40 ?_
      exact w_lc_45 hX hN hr hsc _ _ hce hsl (nI (6 * j)) hc h (s45 sc L (6 * j) h hL hle hI)
    rcases Decidable.em (x = 46) with hx | hn46
    · refine aw_tin (pc := 40) hX 1850 (by rw [hx]; decide) (by rw [hx]; decide) (by rw [hx]; rfl) (by decide) dL_law_40 ?_
      exact w_lc_46 hX hN hr hsc _ _ hce hsl (nI (6 * j)) hc h (s46 sc L (6 * j) h hL hle hI)
    rcases Decidable.em (x = 47) with hx | hn47
    · refine aw_tin (pc := 40) hX 1863 (by rw [hx]; decide) (by rw [hx]; decide) (by rw [hx]; rfl) (by decide) dL_law_40 ?_
      exact w_lc_47 hX hN hr hsc _ _ hce hsl (nI (6 * j)) hc h (s47 sc L (6 * j) h hL hle hI)
    rcases Decidable.em (x = 48) with hx | hn48
    · refine aw_tin (pc := 40) hX 1888 (by rw [hx]; decide) (by rw [hx]; decide) (by rw [hx]; rfl) (by decide) dL_law_40 ?_
      exact w_lc_48 hX hN hr hsc hE hlt _ _ hce hsl (6 * j) hL hle hc h s48 hI
    rcases Decidable.em (x = 49) with hx | hn49
    · refine aw_tin (pc := 40) hX 1944 (by rw [hx]; decide) (by rw [hx]; decide) (by rw [hx]; rfl) (by decide) dL_law_40 ?_
      exact w_lc_49 hX hN hr hsc _ _ hce hsl (nI (6 * j)) hc h (s49 sc L (6 * j) h hL hle hI)
    rcases Decidable.em (x = 50) with hx | hn50
    · refine aw_tin (pc := 40) hX 1969 (by rw [hx]; decide) (by rw [hx]; decide) (by rw [hx]; rfl) (by decide) dL_law_40 ?_
      exact w_lc_50 hX hN hr hsc _ _ hce hsl (nI (6 * j)) hc h (s50 sc L (6 * j) h hL hle hI)
    refine aw_tout (pc := 40) hX 1982 (tsw_out (lo := 0) (hi := 50) (fun k h1 h2 => ?_)) (by decide) dL_law_40 ?_
    · rcases (show k = 0 ∨ k = 1 ∨ k = 2 ∨ k = 3 ∨ k = 4 ∨ k = 5 ∨ k = 6 ∨ k = 7 ∨ k = 8 ∨ k = 9 ∨ k = 10 ∨ k = 11 ∨ k = 12 ∨ k = 13 ∨ k = 14 ∨ k = 15 ∨ k = 16 ∨ k = 17 ∨ k = 18 ∨ k = 19 ∨ k = 20 ∨ k = 21 ∨ k = 22 ∨ k = 23 ∨ k = 24 ∨ k = 25 ∨ k = 26 ∨ k = 27 ∨ k = 28 ∨ k = 29 ∨ k = 30 ∨ k = 31 ∨ k = 32 ∨ k = 33 ∨ k = 34 ∨ k = 35 ∨ k = 36 ∨ k = 37 ∨ k = 38 ∨ k = 39 ∨ k = 40 ∨ k = 41 ∨ k = 42 ∨ k = 43 ∨ k = 44 ∨ k = 45 ∨ k = 46 ∨ k = 47 ∨ k = 48 ∨ k = 49 ∨ k = 50 by omega) with rfl | rfl | rfl | rfl | rfl | rfl | rfl | rfl | rfl | rfl | rfl | rfl | rfl | rfl | rfl | rfl | rfl | rfl | rfl | rfl | rfl | rfl | rfl | rfl | rfl | rfl | rfl | rfl | rfl | rfl | rfl | rfl | rfl | rfl | rfl | rfl | rfl | rfl | rfl | rfl | rfl | rfl | rfl | rfl | rfl | rfl | rfl | rfl | rfl | rfl | rfl
      · exact lv_neT hn0 (by decide)
      · exact lv_neT hn1 (by decide)
      · exact lv_neT hn2 (by decide)
      · exact lv_neT hn3 (by decide)
      · exact lv_neT hn4 (by decide)
      · exact lv_neT hn5 (by decide)
      · exact lv_neT hn6 (by decide)
      · exact lv_neT hn7 (by decide)
      · exact lv_neT hn8 (by decide)
      · exact lv_neT hn9 (by decide)
      · exact lv_neT hn10 (by decide)
      · exact lv_neT hn11 (by decide)
      · exact lv_neT hn12 (by decide)
      · exact lv_neT hn13 (by decide)
      · exact lv_neT hn14 (by decide)
      · exact lv_neT hn15 (by decide)
      · exact lv_neT hn16 (by decide)
      · exact lv_neT hn17 (by decide)
      · exact lv_neT hn18 (by decide)
      · exact lv_neT hn19 (by decide)
      · exact lv_neT hn20 (by decide)
      · exact lv_neT hn21 (by decide)
      · exact lv_neT hn22 (by decide)
      · exact lv_neT hn23 (by decide)
      · exact lv_neT hn24 (by decide)
      · exact lv_neT hn25 (by decide)
      · exact lv_neT hn26 (by decide)
      · exact lv_neT hn27 (by decide)
      · exact lv_neT hn28 (by decide)
      · exact lv_neT hn29 (by decide)
      · exact lv_neT hn30 (by decide)
      · exact lv_neT hn31 (by decide)
      · exact lv_neT hn32 (by decide)
      · exact lv_neT hn33 (by decide)
      · exact lv_neT hn34 (by decide)
      · exact lv_neT hn35 (by decide)
      · exact lv_neT hn36 (by decide)
      · exact lv_neT hn37 (by decide)
      · exact lv_neT hn38 (by decide)
      · exact lv_neT hn39 (by decide)
      · exact lv_neT hn40 (by decide)
      · exact lv_neT hn41 (by decide)
      · exact lv_neT hn42 (by decide)
      · exact lv_neT hn43 (by decide)
      · exact lv_neT hn44 (by decide)
      · exact lv_neT hn45 (by decide)
      · exact lv_neT hn46 (by decide)
      · exact lv_neT hn47 (by decide)
      · exact lv_neT hn48 (by decide)
      · exact lv_neT hn49 (by decide)
      · exact lv_neT hn50 (by decide)
    · exact AW.widen (by omega) (by omega) (hc h hI)
end LOOP

/-! ===== from the entry to the loop ===== -/
def h00 : Mem := (fun _ _ => 0, fun _ _ => 0, fun _ _ => 0, fun _ => (99, 0), 1)
/-- the memory when the law's loop begins -/
def Starts (INV : Mem → Prop) : Prop := OK (f_X11_init (mNew h00 9 0) 1) (fun h1 => mN h1 = 55 ∧ OK (f_X13_init (mNew h1 11 0) 55) (fun h2 => mN h2 = 68 ∧ INV (mNew h2 101 1)))
theorem ml_L_15 : Cond.methodLink RL 15 yX11_init ∈ TT := TT_i 29 (by decide +kernel) rfl
theorem mc_X11_init : MC yX11_init cX11_init 1 none 0 := ⟨TT_i 31 (by decide +kernel) rfl, TT_i 1 (by decide +kernel) rfl, by decide +kernel⟩
theorem im_X11_init : Cond.instanceMethod yX11_init ∈ TT := TT_i 30 (by decide +kernel) rfl
theorem ml_L_18 : Cond.methodLink RL 18 yX13_init ∈ TT := TT_i 1263 (by decide +kernel) rfl
theorem mc_X13_init : MC yX13_init cX13_init 1 none 0 := ⟨TT_i 1265 (by decide +kernel) rfl, TT_i 15 (by decide +kernel) rfl, by decide +kernel⟩
theorem im_X13_init : Cond.instanceMethod yX13_init ∈ TT := TT_i 1264 (by decide +kernel) rfl
theorem cl_L_8 : Cond.classLink RL 8 (cR 9) ∈ TT := TT_i 27 (by decide +kernel) rfl
theorem in_9 : Cond.initialized (cR 9) ∈ TT := TT_i 1 (by decide +kernel) rfl
theorem cl_L_16 : Cond.classLink RL 16 (cR 11) ∈ TT := TT_i 1261 (by decide +kernel) rfl
theorem in_11 : Cond.initialized (cR 11) ∈ TT := TT_i 15 (by decide +kernel) rfl
set_option maxHeartbeats 4000000 in
set_option maxRecDepth 100000 in
theorem whole_start {p : Program} {e : Env} {s : State} {m : MethodId} {below : List Frame} {meth : Method} {c : Code} (l : Launch) (hlt : l.stackTraces = false) {INV : Mem → Prop} (hst : Steps9 INV) (h0 : Starts INV) {b L : Nat} {xs9 : Nat → Int32} (hL : L ≤ 3072) (C0 : lw_At p s m meth c b L xs9) : W p l e room_1 s m #[Value.ref b] below meth c s.heap [] 0 0 (lw_Z below #[Value.ref b] s) (entryFrame m ([Value.ref b] : List Value).toArray 7) := by
  obtain ⟨G, hB, hX20, hK, hE⟩ := start_env C0
  obtain ⟨hx, hb, hret, hml, hown, hlw, hXs, hbl, hlocks, -⟩ := C0
  have hts : ∀ w ∈ TT, w.before #[Value.ref b] s = true := fun w hw => hlw w (List.mem_filter.mp hw).1
  have hgA : ∀ q, s.heap.size ≤ q → gA G q := fun q hq => by
    show G.1 < q
    have : G.1 + 1 = s.heap.size := hB
    omega
  have key : ∀ X : CX, X = (p, l, e, room_1, s, m, #[Value.ref b], below, meth, c, lw_Z below #[Value.ref b] s, 7) → AW G X 0 [(0, vX 20)] [] h00 0 0 := by
    intro X eX
    have hX : Ok G X cL_law RL := by subst eX; exact ⟨hx, hb, hml, hown, hts, hK, hlocks, hgA⟩
    have hN : xn X = 7 := by subst eX; rfl
    have hr : xr X = room_1 := by subst eX; rfl
    have hsc : SC G X L xs9 := by
      subst eX
      refine ⟨by rw [hX20]; exact hXs, by rw [hX20]; exact hbl, ?_⟩
      rw [hX20]
      show ¬ G.1 < b
      have : G.1 + 1 = s.heap.size := hB
      omega
    have hend : ∀ h lv ce sl, ce ≤ 601024 → sl ≤ 7293034 → AW G X 1988 lv [] h ce sl := by
      intro h lv ce sl h1 h2 H locs ls hR hS hl
      refine lv_iconst (v := 1) hX.1 hX.2.1 dL_law_1988 (by decide) ?_
      refine va_forget (fun q hq => ?_) ?_
      · have h3 : G.1 < q.base := hS.2.2 q hq
        subst eX
        have : G.1 + 1 = s.heap.size := hB
        show s.heap.size ≤ q.base
        omega
      · refine W.widen h1 h2 ?_
        subst eX
        exact lw_ret hx hb hret hlocks dL_law_1989
    obtain ⟨h1, e1, n1, h2, e2, n2, hI⟩ := h0
    refine aw_new (pc := 0) hX (ci := 9) (by decide) cl_L_8 ia_9 in_9 (by rw [hr]; decide) (by rw [hr]; decide) dL_law_0 ?_
    refine AW.eqa (ce' := 1) (sl' := 10) rfl rfl ?_
    refine aw_dup (pc := 3) hX rfl dL_law_3 ?_
    refine aw_callIk (pc := 4) (st := [vR 1]) (a := 1) hX [] (con_X11_init _ G (mNew h00 9 0) 1 (P := fun h' => h' = h1) ⟨h1, e1, rfl⟩) mc_X11_init ml_L_15 im_X11_init rfl (ci := 9) (by decide) (by decide) rfl (rm_law hr (by decide) (by decide) (by decide)) (Nat.le_of_ble_eq_true rfl) rfl dL_law_4 (kmVa (ce' := 54) (sl' := 3338) rfl rfl (fun h' hq => ?_))
    subst hq
    refine aw_astoren (pc := 7) hX [(1, vR 1), (0, vX 20)] rfl (lt_n hN (by decide)) dL_law_7 ?_
    refine aw_new (pc := 8) hX (ci := 11) (by decide) cl_L_16 ia_11 in_11 (by rw [hr]; decide) (by rw [hr]; decide) dL_law_8 ?_
    refine AW.eqa (ce' := 55) (sl' := 3378) rfl rfl ?_
    rw [n1]
    refine aw_dup (pc := 11) hX rfl dL_law_11 ?_
    refine aw_callIk (pc := 12) (st := [vR 55]) (a := 55) hX [] (con_X13_init _ G (mNew h' 11 0) 55 (P := fun h9 => h9 = h2) ⟨h2, e2, rfl⟩) mc_X13_init ml_L_18 im_X13_init rfl (ci := 11) (by rw [← n1, mT_new]) (by decide) rfl (rm_law hr (by decide) (by decide) (by decide)) (Nat.le_of_ble_eq_true rfl) rfl dL_law_12 (kmVa (ce' := 67) (sl' := 5103) rfl rfl (fun h9 hq => ?_))
    subst hq
    refine aw_astoren (pc := 15) hX [(2, vR 55), (1, vR 1), (0, vX 20)] rfl (lt_n hN (by decide)) dL_law_15 ?_
    refine aw_iconst (pc := 16) hX 1 (by decide) dL_law_16 ?_
    refine aw_newl (pc := 17) hX 1 1 (by decide) (by decide) (by decide) ar_long (by rw [hr]; decide) (by rw [hr]; decide) dL_law_17 ?_
    refine AW.eqa (ce' := 68) (sl' := 5104) rfl rfl ?_
    rw [n2]
    refine aw_astoren (pc := 19) hX [(3, vR 68), (2, vR 55), (1, vR 1), (0, vX 20)] rfl (lt_n hN (by decide)) dL_law_19 ?_
    refine aw_iconst (pc := 20) hX 0 (by decide) dL_law_20 ?_
    refine aw_istore (pc := 21) hX [(4, vI 0), (3, vR 68), (2, vR 55), (1, vR 1), (0, vX 20)] rfl (lt_n hN (by decide)) dL_law_21 ?_
    refine AW.sub [4, 3, 2, 1, 0] rfl ?_
    exact law_loop hX hN hr hsc (by subst eX; exact hE) (by subst eX; exact hlt) hL hst hend 513 0 _ (by decide) (by decide) (by omega) hI
  have hl := lv_entry ([.ref b]) (n := 7) (Nat.le_of_ble_eq_true rfl)
  rw [lg_entry_eq]
  generalize (lg_sl ([.ref b]) ++ List.replicate (7 - (lg_sl ([.ref b])).length) Slot.unset).toArray = ls at hl ⊢
  have hR0 : RelM G h00 s.heap := ⟨hB.symm, Nat.le_refl 1, rfl, fun a => ⟨fun q => absurd (show (99 : Nat) < 12 from q) (by decide), fun q => absurd (show (99 : Nat) = 100 from q) (by decide), fun q => absurd (show (99 : Nat) = 101 from q) (by decide), fun q => absurd (show (99 : Nat) = 102 from q) (by decide)⟩⟩
  refine key _ rfl s.heap [] ls hR0 va_S.rf ?_
  have e20 : lvm G [(0, vX 20)] = lv_args 0 [.ref b] := by
    show [(0, Value.ref (gX G 20))] = [(0, Value.ref b)]
    rw [hX20]
  show lv_has ls 7 (lvm G [(0, vX 20)])
  rw [e20]
  exact hl

