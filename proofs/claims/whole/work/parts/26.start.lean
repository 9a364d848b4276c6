/-! THE CLAIM OUT OF ONE WALK OF THE LAW'S BODY. Your part is whole_start (and what it stands on); all else here is the same for every law, but numbers. -/
def R_law : String := "TuneGatesLaw"
def lw_P (b : Addr) (xs : List Int32) (args : Array Value) (s : State) : Prop := args = #[.ref b] ∧ s.IntsAt b xs ∧ xs.length ≤ 3072 ∧ (Jvm.Cond.and given_1 narrow_1).before args s = true
def lw_Q (_ : Array Value) (s : State) (o : Outcome) (t : State) : Prop := o = .returned (some (.int 1)) ∧ Framed s o t [] 601024 7293034
def lw_Z (below : List Frame) (a : Array Value) (s : State) : State → Prop := fun t => ∃ o, t.status = .running ∧ Ended t below o ∧ lw_Q a s o t
/-- the law's own end, with 1 on the stack, nothing written that was there before, its room as the claim has it -/
theorem lw_ret {p : Program} {l : Launch} {e : Env} {s : State} {m : MethodId} {below : List Frame} {meth : Method} {c : Code} {b : Nat} (hx : p.tables.exec = Jvm.exec) (hb : c.code = code) (hr : meth.sig.returnType = ret) (hlocks : meth.locks = false) {pc : Nat} {H : Heap} {ls : Array Slot} (hdg : decode code pc = .ok (.ireturn, 1)) : W p l e room_1 s m #[Value.ref b] below meth c H [] 601024 7293034 (lw_Z below #[Value.ref b] s) (F0 m pc ls [.int 1]) := by
  intro T hT X
  obtain ⟨fs, hret, hrun, hended, hW, hframe⟩ := X.leave (v := some (.int 1)) (hlocks := hlocks) (fun h => by rw [hr] at h; cases h)
  have hmeth' : T.vm.method? m = some meth := X.method'
  refine ⟨T.setFrames fs, ?_, .returned (some (.int 1)), hrun, hended, rfl, ⟨_, rfl⟩, hW, hframe⟩
  jvm_step X.here [X.here.top, hx, hb, hdg, hmeth', hr, ret, narrow_b1]
  (try refine ⟨rfl, ?_⟩); (try refine ⟨rfl, ?_⟩)
  first | (intro acts; rw [hret _ acts rfl rfl rfl]) | rw [hret _ _ rfl rfl rfl]
  exact Steps.refl _
/-- what holds at the law's entry: the machine, the code, the tables' words (any of lw_tbl by 'hts w (by decide +kernel)'), the script of L ints xs at the cell b, what the Statement gives of the start (any of its parts by flat_of_before) -/
def lw_At (p : Program) (s : State) (m : MethodId) (meth : Method) (c : Code) (b L : Nat) (xs : Nat → Int32) : Prop :=
  p.tables.exec = Jvm.exec ∧ c.code = code ∧ meth.sig.returnType = ret ∧ c.maxLocals = 7 ∧ s.vm.findClass R_law = some m.cls ∧ (∀ w ∈ lw_tbl, w.before #[Value.ref b] s = true) ∧ va_X b L xs s s.heap ∧ b < s.heap.size ∧ meth.locks = false ∧ (Jvm.Cond.and given_1 narrow_1).before #[Value.ref b] s = true
theorem ia_9 : Cond.instantiable (cR 9) (cN 9) ∈ TT := TT_i 28 (by decide +kernel) rfl
theorem ia_11 : Cond.instantiable (cR 11) (cN 11) ∈ TT := TT_i 1262 (by decide +kernel) rfl
theorem ia_at : ∀ c, c < 12 → Cond.instantiable (cR c) (cN c) ∈ TT := c12 ia_0 ia_1 ia_2 ia_3 ia_4 ia_5 ia_6 ia_7 ia_8 ia_9 ia_10 ia_11

/-! ===== the environment of the law, out of the premises ===== -/
def strI : List Nat := [42, 48, 50, 52, 53, 55, 57, 59, 61, 63, 65, 67, 69, 71, 73, 75, 77, 79, 81, 83]
def tmS (k : Nat) : Term := Term.string "TuneGates$Reader" (strI.getD k 0)
theorem pr_flat {b : Nat} {s : State} (h : (Jvm.Cond.and given_1 narrow_1).before #[Value.ref b] s = true) : ∀ c ∈ flatC (Jvm.Cond.and given_1 narrow_1), c.before #[Value.ref b] s = true := flat_of_before _ h
theorem st_ex : (List.range 20).all (fun i => decide (Cond.exactly (tmS i) "java/lang/String" ∈ flatC (Jvm.Cond.and given_1 narrow_1))) = true := by decide +kernel
theorem st_co : (List.range 20).all (fun i => decide (Cond.eq (.field (tmS i) "java/lang/String" "coder" "B") (.int 0) ∈ flatC (Jvm.Cond.and given_1 narrow_1))) = true := by decide +kernel
theorem st_ar : (List.range 20).all (fun i => decide (Cond.arrayOf (.field (tmS i) "java/lang/String" "value" "[B") .byte ∈ flatC (Jvm.Cond.and given_1 narrow_1))) = true := by decide +kernel
theorem st_le : (List.range 20).all (fun i => decide (Cond.eq (.length (.field (tmS i) "java/lang/String" "value" "[B")) (.int (Int32.ofNat (strL.getD i 0))) ∈ flatC (Jvm.Cond.and given_1 narrow_1))) = true := by decide +kernel
theorem st_el : (List.range 20).all (fun i => (List.range (strL.getD i 0)).all (fun j => decide (Cond.eq (.elem (.field (tmS i) "java/lang/String" "value" "[B") (.int (Int32.ofNat j))) (.int ((strB.getD i []).getD j 0)) ∈ flatC (Jvm.Cond.and given_1 narrow_1)))) = true := by decide +kernel
theorem st_eq : strR.all (fun q => decide (q.1 = "TuneGates$Reader" ∧ q.2.1 = strI.getD q.2.2.2 0 ∧ q.2.2.2 < 20) || decide (q.2.2.2 < 20 ∧ Cond.eq (tmS q.2.2.2) (Term.string q.1 q.2.1) ∈ flatC (Jvm.Cond.and given_1 narrow_1))) = true := by decide +kernel
theorem st_rf : strR.all (fun q => decide (Cond.stringRef q.1 q.2.1 q.2.2.1 ∈ tables_1)) = true := by decide +kernel
/-- different texts -/
theorem st_ne : (List.range 20).all (fun i => (List.range 20).all (fun j => decide (i = j) || decide (¬ (strL.getD i 0 = strL.getD j 0 ∧ (List.range (strL.getD i 0)).all (fun z => decide ((strB.getD i []).getD z 0 = (strB.getD j []).getD z 0)) = true)))) = true := by decide +kernel
theorem vkS_of {args : Array Value} {s : State} {tm : Nat → Term} {A : Nat → Prop} (hex : ∀ i : Nat, i < 20 → (Cond.exactly (tm i) "java/lang/String").before args s = true) (hco : ∀ i : Nat, i < 20 → (Cond.eq (.field (tm i) "java/lang/String" "coder" "B") (.int 0)).before args s = true)
    (har : ∀ i : Nat, i < 20 → (Cond.arrayOf (.field (tm i) "java/lang/String" "value" "[B") .byte).before args s = true) (hle : ∀ i : Nat, i < 20 → (Cond.eq (.length (.field (tm i) "java/lang/String" "value" "[B")) (.int (Int32.ofNat (strL.getD i 0)))).before args s = true)
    (hel : ∀ i : Nat, i < 20 → ∀ j : Nat, j < strL.getD i 0 → (Cond.eq (.elem (.field (tm i) "java/lang/String" "value" "[B") (.int (Int32.ofNat j))) (.int ((strB.getD i []).getD j 0))).before args s = true) (hA : ∀ a : Nat, a < s.heap.size → ¬ A a) :
    ∃ adK adV : Nat → Nat, vk_S 20 strL strB adK adV A s s.heap ∧ ∀ i : Nat, i < 20 → (tm i).eval args s none [] s = some (.ref (adK i)) := by
  have h0 : ∀ i : Nat, ∃ q : Nat × Nat, i < 20 → (tm i).eval args s none [] s = some (.ref q.1) ∧ va_O "java/lang/String" q.1 A s s.heap ∧ va_OF "java/lang/String" "coder" "B" (.int 0) q.1 A s s.heap ∧ va_OF "java/lang/String" "value" "[B" (.ref q.2) q.1 A s s.heap ∧ va_T .byte q.2 (strL.getD i 0) (fun j => .int ((strB.getD i []).getD j 0)) A s s.heap := by
    intro i
    by_cases hi : i < 20
    · obtain ⟨a, c, cA, kA, q1, q2, q3, q4, q5, q6, -⟩ := Cond.exactly_spec (args := args) (first := s) (o := none) (s := s) (idx := []) (t := tm i) (cls := "java/lang/String") (hex i hi)
      have hlt := strL_lt hi
      obtain ⟨t, ht, hT⟩ := va_Tof (f := fun j => .int ((strB.getD i []).getD j 0)) (A := A) (by omega) (har i hi) (va_eqt (hle i hi)) (fun j hj => va_eqt (hel i hi j hj)) hA
      exact ⟨(a, t), fun _ => ⟨q1, ⟨cA, q3, q5, by rw [q6]; exact q2, hA a (Array.getElem?_eq_some_iff.mp q3).1⟩, vk_OFof q1 (va_eqt (hco i hi)) hA, vk_OFof q1 ht hA, hT⟩⟩
    · exact ⟨(0, 0), fun h => absurd h hi⟩
  obtain ⟨ad, had⟩ := Classical.axiomOfChoice h0
  refine ⟨fun i => (ad i).1, fun i => (ad i).2, ⟨fun i hi => (had i hi).2, fun i j hi hj e => ?_⟩, fun i hi => (had i hi).1⟩
  by_cases hij : i = j
  · exact hij
  · exfalso
    have n1 := List.all_eq_true.mp (List.all_eq_true.mp st_ne i (List.mem_range.mpr hi)) j (List.mem_range.mpr hj)
    simp only [hij, decide_false, Bool.false_or, decide_eq_true_eq] at n1
    apply n1
    obtain ⟨-, -, ⟨cf, k, fi, f, cell, g1, g2, g3, g4, g5, -⟩, ⟨c1, t1, t2, t3, t4, t5, t6, -⟩⟩ := (had i hi).2
    obtain ⟨-, -, ⟨cf', k', fi', f', cell', g1', g2', g3', g4', g5', -⟩, ⟨c2, u1, u2, u3, u4, u5, u6, -⟩⟩ := (had j hj).2
    have e' : (ad i).1 = (ad j).1 := e
    rw [e'] at g3
    cases g1.symm.trans g1'
    cases g3.symm.trans g3'
    have e2 : (ad i).2 = (ad j).2 := by
      have := g5.symm.trans g5'
      simpa using this
    rw [e2] at t1
    cases t1.symm.trans u1
    have hl1 := strL_lt hi
    have hl2 := strL_lt hj
    have el : strL.getD i 0 = strL.getD j 0 := by
      have := t5.symm.trans u5
      have h3 := congrArg Int32.toInt this
      rw [show Int32.ofNat (strL.getD i 0) = nI (strL.getD i 0) from rfl, show Int32.ofNat (strL.getD j 0) = nI (strL.getD j 0) from rfl, nI_toInt (by omega), nI_toInt (by omega)] at h3
      omega
    refine ⟨el, List.all_eq_true.mpr fun z hz => ?_⟩
    have hz1 := List.mem_range.mp hz
    have := (t6 z hz1).symm.trans (u6 z (by omega))
    simpa using this
theorem arr_of {args : Array Value} {s : State} {ty : FieldType} (hn : ∀ C, ty ≠ .object C) (h : (Cond.arrayClass ty).before args s = true) : ∃ cA, ArrOfT s cA ty ∧ va_RA s cA ty := by
  obtain ⟨c, k, comp, h1, h2, h3⟩ := Cond.arrayClass_spec h
  refine ⟨c, fun n z => ⟨fun k h => (by cases h), k, h2, comp, h3⟩, ?_⟩
  cases ty <;> first | exact h1 | exact absurd rfl (hn _)
set_option maxHeartbeats 4000000 in
set_option maxRecDepth 100000 in
theorem start_env {p : Program} {s : State} {m : MethodId} {meth : Method} {c : Code} {b L : Nat} {xs : Nat → Int32} (C0 : lw_At p s m meth c b L xs) : ∃ G : GE, gB G + 1 = s.heap.size ∧ gX G 20 = b ∧ KE G s ∧ ETH G s := by
  obtain ⟨-, -, -, -, -, hlw, -, hbl, -, hgv⟩ := C0
  have hfl := pr_flat hgv
  obtain ⟨B, hB⟩ : ∃ B, B + 1 = s.heap.size := ⟨s.heap.size - 1, by omega⟩
  have hA : ∀ a : Nat, a < s.heap.size → ¬ (fun q => B < q) a := fun a ha h => by
    have : B < a := h
    omega
  obtain ⟨adK, adV, hvk, hev⟩ := vkS_of (tm := tmS) (A := fun q => B < q) (fun i hi => hfl _ (of_decide_eq_true (List.all_eq_true.mp st_ex i (List.mem_range.mpr hi)))) (fun i hi => hfl _ (of_decide_eq_true (List.all_eq_true.mp st_co i (List.mem_range.mpr hi)))) (fun i hi => hfl _ (of_decide_eq_true (List.all_eq_true.mp st_ar i (List.mem_range.mpr hi)))) (fun i hi => hfl _ (of_decide_eq_true (List.all_eq_true.mp st_le i (List.mem_range.mpr hi)))) (fun i hi j hj => hfl _ (of_decide_eq_true (List.all_eq_true.mp (List.all_eq_true.mp st_el i (List.mem_range.mpr hi)) j (List.mem_range.mpr hj)))) hA
  -- statics
  have z1 : va_Z "java/lang/String" "COMPACT_STRINGS" "Z" (.int 1) (fun q => B < q) s s.heap := va_Zof (hlw _ (List.mem_append_right _ (List.mem_of_getElem? (i := 166) (by decide +kernel)))) (hlw _ (List.mem_append_right _ (List.mem_of_getElem? (i := 4) (by decide +kernel)))) (va_eqt (hfl (Cond.eq (.static "java/lang/String" "COMPACT_STRINGS" "Z") (.int 1)) (by decide +kernel))) hA
  obtain ⟨tl, htl, hTl⟩ := va_Tof (args := #[Value.ref b]) (s := s) (tm := .static "TuneGates$Reader" "LINES_AT_MOST" "[I") (ty := .int) (N := 9) (f := fun j => .int (lamv j)) (A := fun q => B < q) (by omega) (hfl _ (by decide +kernel)) (va_eqt (hfl (Cond.eq (.length (.static "TuneGates$Reader" "LINES_AT_MOST" "[I")) (.int (Int32.ofNat 9))) (by decide +kernel))) (fun j hj => va_eqt (hfl (Cond.eq (.elem (.static "TuneGates$Reader" "LINES_AT_MOST" "[I") (.int (Int32.ofNat j))) (.int (lamv j))) (by
    have hk : (List.range 9).all (fun j => decide (Cond.eq (.elem (.static "TuneGates$Reader" "LINES_AT_MOST" "[I") (.int (Int32.ofNat j))) (.int (lamv j)) ∈ flatC (Jvm.Cond.and given_1 narrow_1))) = true := by decide +kernel
    exact of_decide_eq_true (List.all_eq_true.mp hk j (List.mem_range.mpr hj))))) hA
  have z2 : va_Z "TuneGates$Reader" "LINES_AT_MOST" "[I" (.ref tl) (fun q => B < q) s s.heap := va_Zof (hlw _ (List.mem_append_right _ (List.mem_of_getElem? (i := 516) (by decide +kernel)))) (hlw _ (List.mem_append_right _ (List.mem_of_getElem? (i := 3) (by decide +kernel)))) htl hA
  have z3 : va_Zq "jdk/internal/util/Preconditions" "SIOOBE_FORMATTER" "Ljava/util/function/BiFunction;" (fun q => B < q) s s.heap := va_Zqof (hlw _ (List.mem_append_right _ (List.mem_of_getElem? (i := 183) (by decide +kernel)))) (hlw _ (List.mem_append_right _ (List.mem_of_getElem? (i := 6) (by decide +kernel)))) (hfl _ (by decide +kernel)) hA
  obtain ⟨sf, hsf⟩ : ∃ sf : Nat, va_Z "jdk/internal/util/Preconditions" "SIOOBE_FORMATTER" "Ljava/util/function/BiFunction;" .null (fun q => B < q) s s.heap ∨ va_Z "jdk/internal/util/Preconditions" "SIOOBE_FORMATTER" "Ljava/util/function/BiFunction;" (.ref sf) (fun q => B < q) s s.heap := by
    rcases z3 with z | ⟨t, z⟩
    · exact ⟨0, Or.inl z⟩
    · exact ⟨t, Or.inr z⟩
  have z4 : vx_Zq Bundle.tN "UNASSIGNED_STACK" Bundle.steD (fun q => B < q) s s.heap := vx_Zqof (hlw _ (List.mem_append_right _ (List.mem_of_getElem? (i := 1227) (by decide +kernel)))) (hlw _ (List.mem_append_right _ (List.mem_of_getElem? (i := 23) (by decide +kernel)))) (hfl _ (by decide +kernel)) hA
  have z5 : vx_Zq Bundle.tN "SUPPRESSED_SENTINEL" Bundle.listD (fun q => B < q) s s.heap := vx_Zqof (hlw _ (List.mem_append_right _ (List.mem_of_getElem? (i := 1229) (by decide +kernel)))) (hlw _ (List.mem_append_right _ (List.mem_of_getElem? (i := 23) (by decide +kernel)))) (hfl _ (by decide +kernel)) hA
  -- classes
  have kn : ∀ ci, ci < 12 → ∃ cI iS, u_Kn s (cR ci) (cT ci) (cN ci) cI iS := by
    intro ci hc
    have hin : ∀ w ∈ u_ws (cR ci) (cT ci) (cN ci), w ∈ lw_tbl := fun w hw => (List.mem_filter.mp (uw_at ci hc w hw)).1
    have hi : Cond.instantiable (cR ci) (cN ci) ∈ lw_tbl := (List.mem_filter.mp (ia_at ci hc)).1
    obtain ⟨c1, iS, h1⟩ := u_known (C := cR ci) (T := cT ci) (N := cN ci) (n := cN ci) hlw hin (hlw _ hi)
    exact ⟨c1, iS, h1⟩
  have kn2 : ∀ ci : Nat, ∃ q : Nat × (Nat → Nat), ci < 12 → u_Kn s (cR ci) (cT ci) (cN ci) q.1 q.2 := by
    intro ci
    by_cases hc : ci < 12
    · obtain ⟨a, b, h⟩ := kn ci hc
      exact ⟨(a, b), fun _ => h⟩
    · exact ⟨(0, fun _ => 0), fun h => absurd h hc⟩
  obtain ⟨kd, hkd⟩ := Classical.axiomOfChoice kn2
  obtain ⟨cI, hI1, hI2⟩ := arr_of (s := s) (ty := .int) (fun _ h => by cases h) (hlw _ (List.mem_append_right _ (List.mem_of_getElem? (i := 144) (by decide +kernel))))
  obtain ⟨cL, hL1, hL2⟩ := arr_of (s := s) (ty := .long) (fun _ h => by cases h) (hlw _ (List.mem_append_right _ (List.mem_of_getElem? (i := 283) (by decide +kernel))))
  obtain ⟨cB, hB1, hB2⟩ := arr_of (s := s) (ty := .byte) (fun _ h => by cases h) (hlw _ (List.mem_append_right _ (List.mem_of_getElem? (i := 284) (by decide +kernel))))
  refine ⟨(B, (fun ci => (kd ci).1, fun ci => (kd ci).2), fun k => if k < 20 then adK k else if k = 20 then b else if k = 21 then tl else if k = 22 then sf else adV (k - 100), cI, cL, cB), hB, rfl, ⟨⟨?_, ?_⟩, ?_, ?_, ?_, z1, z2, hTl, hsf⟩, z4, z5, va_Nw.of rfl (hlw _ (List.mem_append_right _ (List.mem_of_getElem? (i := 1203) (by decide +kernel)))), va_Nw.of rfl (hlw _ (List.mem_append_right _ (List.mem_of_getElem? (i := 1205) (by decide +kernel)))), va_Nw.of rfl (hlw _ (List.mem_append_right _ (List.mem_of_getElem? (i := 1207) (by decide +kernel)))), va_Nw.of rfl (hlw _ (List.mem_append_right _ (List.mem_of_getElem? (i := 1202) (by decide +kernel))))⟩
  · intro ci q hq
    have hc : ci < 12 := (List.getElem?_eq_some_iff.mp hq).1
    cases (cl_at ci hc).symm.trans hq
    exact hkd ci hc
  · intro k q hq
    have hz : k < 3 := (List.getElem?_eq_some_iff.mp hq).1
    rcases (show k = 0 ∨ k = 1 ∨ k = 2 by omega) with rfl | rfl | rfl <;> cases hq
    · exact ⟨hI1, hI2⟩
    · exact ⟨hL1, hL2⟩
    · exact ⟨hB1, hB2⟩
  · intro w hw
    have h1 := List.mem_filter.mp hw
    exact va_Nw.of (by
      have h2 := h1.2
      cases w <;> first | rfl | cases h2) (hlw w (List.mem_append_right _ h1.1))
  · refine ⟨fun i hi => ?_, fun i j hi hj e => ?_⟩
    · have h1 := hvk.1 i hi
      simp only [hi, if_true, gX, show ¬ (100 + i < 20) by omega, show ¬ (100 + i = 20) by omega, show ¬ (100 + i = 21) by omega, show ¬ (100 + i = 22) by omega, if_false, Nat.add_sub_cancel_left]
      exact h1
    · simp only [gX, hi, hj, if_true] at e
      exact hvk.2 i j hi hj e
  · intro q hq
    have h1 := List.all_eq_true.mp st_eq q hq
    have h2 : (Cond.stringRef q.1 q.2.1 q.2.2.1).before #[Value.ref b] s = true := hlw _ (List.mem_append_right _ (of_decide_eq_true (List.all_eq_true.mp st_rf q hq)))
    simp only [Bool.or_eq_true, decide_eq_true_eq] at h1
    rcases h1 with ⟨e1, e2, e3⟩ | ⟨e3, e4⟩
    · simp only [gX, e3, if_true]
      refine vk_R.of (A := #[Value.ref b]) h2 ?_
      rw [e1, e2]
      exact hev _ e3
    · simp only [gX, e3, if_true]
      refine vk_R.of (A := #[Value.ref b]) h2 ?_
      have h5 := hfl _ e4
      have h6 := hev _ e3
      cases hv : (Term.string q.1 q.2.1).eval #[Value.ref b] s none [] s with
      | none => simp [Cond.before, Cond.holds, Cond.value, hv, h6] at h5
      | some w =>
        have := h5
        simp only [Cond.before, Cond.holds, Cond.value, hv, h6] at this
        cases w <;> simp_all
