/-! ===== the class's trips ===== -/
theorem h_tzb (h : Mem) {n : Nat} (hn : n < 128) (h0 : n ≠ 0) {β : Type} (K : Int32 → Option β) : (f_J6_numberOfTrailingZeros_0f7a4 h (nI n)).bind K = K (nI (lb n)) := by
  rw [h_tz h hn h0]
  rfl
theorem fewer_tab : ∀ s, s < 64 → s ≠ 0 → nI s &&& (nI s - nI 1) = nI (s ^^^ 2 ^ lb s) := by decide +kernel
def tpM (h : Mem) (A B D : Nat → Int32) : Mem := rowI (rowI (rowI h 40 A) 41 B) 42 D
theorem tpM_40 (h : Mem) (A B D : Nat → Int32) : mI (tpM h A B D) 40 = A := by
  unfold tpM
  rw [mI_row_ne _ _ (by decide), mI_row_ne _ _ (by decide), mI_row]
theorem tpM_41 (h : Mem) (A B D : Nat → Int32) : mI (tpM h A B D) 41 = B := by
  unfold tpM
  rw [mI_row_ne _ _ (by decide), mI_row]
theorem tpM_42 (h : Mem) (A B D : Nat → Int32) : mI (tpM h A B D) 42 = D := mI_row _ _ _
theorem tpM_o (h : Mem) (A B D : Nat → Int32) {x : Nat} (h1 : x ≠ 40) (h2 : x ≠ 41) (h3 : x ≠ 42) : mI (tpM h A B D) x = mI h x := by
  unfold tpM
  rw [mI_row_ne _ _ h3, mI_row_ne _ _ h2, mI_row_ne _ _ h1]
theorem tpM_a (h : Mem) (A B D : Nat → Int32) (k : Nat) (v : Int32) : wI (tpM h A B D) 40 k v = tpM h (upd A k v) B D := by
  refine mem_ext (fun x => ?_) rfl rfl rfl rfl
  rcases Decidable.em (x = 40) with e | e
  · subst e
    rw [mI_wI_at, tpM_40, tpM_40]
  · rw [mI_wI_ne _ _ _ e]
    rcases Decidable.em (x = 41) with e2 | e2
    · subst e2
      rw [tpM_41, tpM_41]
    · rcases Decidable.em (x = 42) with e3 | e3
      · subst e3
        rw [tpM_42, tpM_42]
      · rw [tpM_o _ _ _ _ e e2 e3, tpM_o _ _ _ _ e e2 e3]
theorem tpM_b (h : Mem) (A B D : Nat → Int32) (k : Nat) (v : Int32) : wI (tpM h A B D) 41 k v = tpM h A (upd B k v) D := by
  refine mem_ext (fun x => ?_) rfl rfl rfl rfl
  rcases Decidable.em (x = 41) with e | e
  · subst e
    rw [mI_wI_at, tpM_41, tpM_41]
  · rw [mI_wI_ne _ _ _ e]
    rcases Decidable.em (x = 40) with e2 | e2
    · subst e2
      rw [tpM_40, tpM_40]
    · rcases Decidable.em (x = 42) with e3 | e3
      · subst e3
        rw [tpM_42, tpM_42]
      · rw [tpM_o _ _ _ _ e2 e e3, tpM_o _ _ _ _ e2 e e3]
theorem tpM_d (h : Mem) (A B D : Nat → Int32) (k : Nat) (v : Int32) : wI (tpM h A B D) 42 k v = tpM h A B (upd D k v) := rowI_wI _ _ _ _ _
theorem tpM_id (h : Mem) : tpM h (mI h 40) (mI h 41) (mI h 42) = h := by
  unfold tpM
  rw [rowI_id, rowI_id, rowI_id]
section
variable {h : Mem} {a : AB}
theorem IC.tpc (W : IW a) (C : IC h a) (A B D : Nat → Int32) : FQ LQ h (tpM h A B D) ∧ IC (tpM h A B D) a := by
  have f : FQ LQ h (tpM h A B D) := ((FQ.row _ _ (by decide)).tr (FQ.row _ _ (by decide))).tr (FQ.row _ _ (by decide))
  have so : SK (tpM h A B D) (a 0) := C.so.fr (tpM_o _ _ _ _ (by decide) (by decide) (by decide)) (tpM_o _ _ _ _ (by decide) (by decide) (by decide)) (tpM_o _ _ _ _ (by decide) (by decide) (by decide)) (tpM_o _ _ _ _ (by decide) (by decide) (by decide))
  exact ⟨f, C.fr W (f.sh C.ct.sh) (fun x _ hx => f.2.2.2.2 x hx) (by rw [f.2.2.1]) (fun x _ => by rw [f.2.1]) (fun x _ => by rw [f.1]) so⟩
/-- the places by a set of inns, none if it can't be -/
def plT (ρ : RO) (V0 : Nat) (ra : Bool) (f c s : Nat) : Nat := if co ρ s ≤ c ∧ ch ρ V0 ra f s = true then rch ρ V0 ra f s else 0
theorem plT_bit (ρ : RO) (V0 : Nat) (ra : Bool) (f c s p : Nat) : (plT ρ V0 ra f c s).testBit p = okT ρ V0 ra f c p s := by
  unfold plT okT
  rcases Decidable.em (co ρ s ≤ c) with e | e
  · rcases hb : ch ρ V0 ra f s with _ | _ <;> simp [e]
  · simp [e]
theorem plT_lt {ρ : RO} (W : RW ρ) (V0 : Nat) (ra : Bool) (f c s : Nat) : plT ρ V0 ra f c s < 2 ^ 7 := by
  unfold plT
  split
  · exact Nat.lt_of_lt_of_le (rs_lt _ _) (two_le W.pl)
  · decide
theorem plT_eq {ρ : RO} (W : RW ρ) {V0 : Nat} {ra : Bool} {f c s : Nat} (hs : s < 64) (h0 : s ≠ 0) (hc : co ρ s ≤ c) : ch ρ V0 ra f s = ex (fun k => s.testBit k && (plT ρ V0 ra f c (s ^^^ 2 ^ k)).testBit (ρ 8 k)) (ρ 0 5) := by
  rw [ch_eq W hs, decide_eq_false h0, Bool.false_or]
  refine ex_congr (fun k hk => ?_)
  rcases hx : s.testBit k with _ | _
  · simp
  · have := co_add (ρ := ρ) hk hx
    rw [plT_bit]
    unfold okT
    rw [decide_eq_true (show co ρ (s ^^^ 2 ^ k) ≤ c by omega)]
    simp
theorem c_last (W : IW a) (C : IC h a) {A B D : Nat → Int32} {V0 : Nat} {ra : Bool} {f c s : Nat} (hs : s < 64) (hD : ∀ t, t < s → D t = nI (plT (a 0) V0 ra f c t)) : f_X8_hasLastInn (tpM h A B D) 39 (a 2 0 0) (nI s) = some (nI (ex (fun k => s.testBit k && (plT (a 0) V0 ra f c (s ^^^ 2 ^ k)).testBit (a 0 8 k)) (a 0 0 5)).toNat) := by
  have hin := W.rw.inn
  have hpl := W.rw.pl
  obtain ⟨-, C1⟩ := C.tpc W A B D
  have S1 := C1.ct.sh
  have q : iter (fun (x : Int32) => b_X8_hasLastInn_2 (tpM h A B D) 39 (a 2 0 0) (nI s) x) FU (nI 0) = some (if ex (fun k => s.testBit k && (plT (a 0) V0 ra f c (s ^^^ 2 ^ k)).testBit (a 0 8 k)) (a 0 0 5) = true then .inl () else .inr ()) := by
    refine iter_ex (fun i => nI i) _ (a 0 0 5) (FU_lt (by omega)) (fun k hk => ?_) ?_
    · have pi := C1.inn W hk
      have hip := W.rw.ip k hk
      have hsk : nI 1 <<< (nI k &&& nI 31) = nI (2 ^ k) := nI_sh1 (by omega)
      show b_X8_hasLastInn_2 (tpM h A B D) 39 (a 2 0 0) (nI s) (nI k) = _
      unfold b_X8_hasLastInn_2 f_X8_hasLastInn_44
      simp (disch := omega) only [obx, nI_lit, nI_add, pk_mul, nI_eq, nI_ltI, nI_leI, if_true, if_false, if_pos, if_neg, gI_of (tR C1.ct.rd.rd), C1.ct.rd.sc, nI_bit, gR_of (tS_39 S1), rS_39_2 S1, pi.1.1, hsk]
      rcases hb : s.testBit k with _ | _
      · simp
      · have h5 := xb_tab s hs k (by omega) hb
        have hxr : nI s ^^^ nI (2 ^ k) = nI (s ^^^ 2 ^ k) := nI_xor (by omega) (by have := two_le (show k ≤ 5 by omega); omega)
        have hl := plT_lt W.rw V0 ra f c (s ^^^ 2 ^ k)
        have e1 := hD (s ^^^ 2 ^ k) (by omega)
        simp (disch := omega) only [obx, nI_lit, nI_add, pk_mul, nI_eq, nI_ltI, nI_leI, if_true, if_false, if_pos, if_neg, hxr, aI_of (tS_42 S1), tpM_42, e1, nI_bit, Bool.true_and]
    · unfold b_X8_hasLastInn_2
      simp (disch := omega) only [obx, nI_lit, nI_add, pk_mul, nI_eq, nI_ltI, nI_leI, if_true, if_false, if_pos, if_neg, gI_of (tR C1.ct.rd.rd), C1.ct.rd.sc]
  unfold f_X8_hasLastInn
  simp (disch := omega) only [obx, nI_lit, nI_add, pk_mul, nI_eq, nI_ltI, nI_leI, if_true, if_false, if_pos, if_neg, ck_of (tS_39 S1), q]
  cases ex (fun k => s.testBit k && (plT (a 0) V0 ra f c (s ^^^ 2 ^ k)).testBit (a 0 8 k)) (a 0 0 5) <;> rfl
theorem c_plan (W : IW a) (C : IC h a) {x : Nat} (hx : x < a 0 0 6) : OK (f_X8_plan h 39 (a 2 0 0) 33 (nI x)) (fun h' => ∃ A B D, h' = tpM h A B D ∧ ∀ s, s < 2 ^ a 0 0 5 → A s = nI (vs (a 0) (vx a x) s) ∧ B s = nI (co (a 0) s) ∧ D s = nI (plT (a 0) (vx a x) (rb (a 1)) (a 1 0 x) (a 1 1 x) s)) := by
  have hin := W.rw.inn
  have hpe := W.rw.pe
  have htu := W.rw.tu
  have hT : 2 ^ a 0 0 5 ≤ 2 ^ 6 := two_le hin
  have hT1 : 1 ≤ 2 ^ a 0 0 5 := Nat.one_le_two_pow
  have h0 := W.nf.pl x hx
  have hco := W.nf.co x hx
  have hV := vxl W hx
  have hV0 := vxn a x
  have hshT : nI 1 <<< (nI (a 0 0 5) &&& nI 31) = nI (2 ^ a 0 0 5) := nI_sh1 (by omega)
  generalize hVe : vx a x = V at *
  have key : ∀ A B D : Nat → Int32, A 0 = nI (vs (a 0) V 0) → B 0 = nI (co (a 0) 0) → D 0 = nI (plT (a 0) V (rb (a 1)) (a 1 0 x) (a 1 1 x) 0) → OK (iter (fun (s : Int32 × Mem) => b_X8_plan_51 s.2 39 (a 2 0 0) 33 (nI x) (nI (a 1 0 x)) s.1) FU (nI (0 + 1), tpM h A B D)) (fun h' => ∃ A B D, h' = tpM h A B D ∧ ∀ s, s < 2 ^ a 0 0 5 → A s = nI (vs (a 0) V s) ∧ B s = nI (co (a 0) s) ∧ D s = nI (plT (a 0) V (rb (a 1)) (a 1 0 x) (a 1 1 x) s)) := by
    intro A B D i1 i2 i3
    refine iter_ok (fun i s => ∃ A B D, s = (nI (i + 1), tpM h A B D) ∧ ∀ s, s < i + 1 → A s = nI (vs (a 0) V s) ∧ B s = nI (co (a 0) s) ∧ D s = nI (plT (a 0) V (rb (a 1)) (a 1 0 x) (a 1 1 x) s)) (2 ^ a 0 0 5 - 1) (FU_lt (by omega)) (fun i st hi hI => ?_) ⟨A, B, D, rfl, fun s hs => ?_⟩
    · obtain ⟨A, B, D, rfl, hF⟩ := hI
      show OK (b_X8_plan_51 (tpM h A B D) 39 (a 2 0 0) 33 (nI x) (nI (a 1 0 x)) (nI (i + 1))) _
      have Cf := fun A B D => (C.tpc W A B D).2
      unfold b_X8_plan_51
      rcases Nat.lt_or_ge (i + 1) (2 ^ a 0 0 5) with hc | hc
      · obtain ⟨⟨l1, l2⟩, l3, l4⟩ := lb_tab (i + 1) (by omega) (by omega)
        have hlk : lb (i + 1) < a 0 0 5 := by
          rcases Nat.lt_or_ge (lb (i + 1)) (a 0 0 5) with c | c
          · exact c
          · have := Nat.testBit_lt_two_pow (Nat.lt_of_lt_of_le hc (two_le c))
            rw [this] at l2
            cases l2
        have hfw := fewer_tab (i + 1) (by omega) (by omega)
        have hva := vs_add (V0 := V) hlk l2
        have hca := co_add (ρ := a 0) hlk l2
        have hvl := vs_lt W.rw hV (i + 1)
        have hvl2 := vs_lt W.rw hV ((i + 1) ^^^ 2 ^ lb (i + 1))
        have hvn := vs_ne (ρ := a 0) hV0 (i + 1)
        have hiv := iv_lt W.rw hlk
        have hip := W.rw.ip _ hlk
        have hcl := co_le W.rw (i + 1)
        have hFR := hF ((i + 1) ^^^ 2 ^ lb (i + 1)) (by omega)
        have hor : nI (vs (a 0) V ((i + 1) ^^^ 2 ^ lb (i + 1))) ||| nI (iv (a 0) (lb (i + 1))) = nI (vs (a 0) V (i + 1)) := by
          rw [nI_or (by omega) (by omega), hva]
        have hplT : plT (a 0) V (rb (a 1)) (a 1 0 x) (a 1 1 x) (i + 1) = if co (a 0) (i + 1) ≤ a 1 1 x ∧ ex (fun k => (i + 1).testBit k && (plT (a 0) V (rb (a 1)) (a 1 0 x) (a 1 1 x) ((i + 1) ^^^ 2 ^ k)).testBit (a 0 8 k)) (a 0 0 5) = true then rs (a 0) (vs (a 0) V (i + 1)) (rb (a 1)) (a 1 0 x) (a 0 0 2) else 0 := by
          rcases Nat.lt_or_ge (a 1 1 x) (co (a 0) (i + 1)) with c | c
          · unfold plT
            rw [if_neg (fun q => by omega), if_neg (fun q => by omega)]
          · rw [← plT_eq W.rw (by omega) (by omega) c]
            rfl
        generalize hk : lb (i + 1) = k at *
        generalize hR : (i + 1) ^^^ 2 ^ k = R at *
        have go94 : f_X8_plan_94 (tpM h A B D) 39 (a 2 0 0) 33 (nI x) (nI (a 1 0 x)) (nI (i + 1)) (nI k) (nI R) (nI (decide (a 0 10 k = 1)).toNat) = some (Sum.inl (nI (i + 1 + 1), tpM h (upd A (i + 1) (nI (vs (a 0) V (i + 1)))) (upd B (i + 1) (nI (co (a 0) (i + 1)))) (upd D (i + 1) (nI (plT (a 0) V (rb (a 1)) (a 1 0 x) (a 1 1 x) (i + 1)))))) := by
          have C1 := Cf A B D
          have S1 := C1.ct.sh
          have p1 := C1.inn W hlk
          have hvo : f_X1_voice (tpM h A B D) (nI (a 0 9 k)) (nI (decide (a 0 10 k = 1)).toNat) = some (nI (iv (a 0) k)) := by
            rw [h_voice _ _ (show a 0 9 k < 6 by omega)]
            unfold iv
            rcases Decidable.em (a 0 10 k = 1) with e | e <;> simp [e]
          have C2 := Cf (upd A (i + 1) (nI (vs (a 0) V (i + 1)))) B D
          have S2 := C2.ct.sh
          have p2 := C2.inn W hlk
          have C3 := Cf (upd A (i + 1) (nI (vs (a 0) V (i + 1)))) (upd B (i + 1) (nI (co (a 0) (i + 1)))) D
          have S3 := C3.ct.sh
          have cl := c_last W C (A := upd A (i + 1) (nI (vs (a 0) V (i + 1)))) (B := upd B (i + 1) (nI (co (a 0) (i + 1)))) (D := D) (V0 := V) (ra := rb (a 1)) (f := a 1 0 x) (c := a 1 1 x) (s := i + 1) (by omega) (fun t ht => (hF t ht).2.2)
          have cr := c_reach W.rw C3.ct h0 (rb (a 1)) hvl hvn
          have hadd : co (a 0) R + a 0 11 k = co (a 0) (i + 1) := hca.symm
          unfold f_X8_plan_94 f_X8_plan_175 f_X8_plan_176 f_X8_plan_210
          simp (disch := omega) only [obx, nI_lit, nI_add, pk_mul, nI_eq, nI_ltI, nI_leI, if_true, if_false, if_pos, if_neg, gR_of (tS_39 S1), rS_39_0 S1, aI_of (tS_40 S1), tpM_40, hFR.1, p1.1.2, hvo, hor, sI_of (tS_40 S1), tpM_a, gR_of (tS_39 S2), rS_39_1 S2, aI_of (tS_41 S2), tpM_41, hFR.2.1, p2.2.2, hadd, sI_of (tS_41 S2), tpM_b, gR_of (tS_39 S3), rS_39_1 S3, rS_39_2 S3, rS_39_0 S3, aI_of (tS_41 S3), pk_us, c_of S3 C3.nw, cl, aI_of (tS_40 S3), c_rains S3 C3.nw W.nf.rn, cr, sI_of (tS_42 S3), tpM_d, nI_b0]
          rw [hplT]
          rcases Nat.lt_or_ge (a 1 1 x) (co (a 0) (i + 1)) with c | c
          · rw [if_pos c, if_neg (fun q => by omega)]
          · rw [if_neg (by omega)]
            rcases he : ex (fun k => (i + 1).testBit k && (plT (a 0) V (rb (a 1)) (a 1 0 x) (a 1 1 x) ((i + 1) ^^^ 2 ^ k)).testBit (a 0 8 k)) (a 0 0 5) with _ | _
            · simp
            · simp [c]
        have C1 := Cf A B D
        have S1 := C1.ct.sh
        have p1 := C1.inn W hlk
        have htz : ∀ {β : Type} (K : Int32 → Option β), (f_J6_numberOfTrailingZeros_0f7a4 (tpM h A B D) (nI (i + 1))).bind K = K (nI k) := fun K => by
          rw [h_tzb _ (by omega) (by omega), hk]
        simp (disch := omega) only [obx, nI_lit, nI_add, pk_mul, nI_eq, nI_ltI, nI_leI, if_true, if_false, if_pos, if_neg, gI_of (tR C1.ct.rd.rd), C1.ct.rd.sc, hshT, htz, p1.2.1, hfw]
        have fin : OK (f_X8_plan_94 (tpM h A B D) 39 (a 2 0 0) 33 (nI x) (nI (a 1 0 x)) (nI (i + 1)) (nI k) (nI R) (nI (decide (a 0 10 k = 1)).toNat)) (fun q => match q with | .inl s' => i < 2 ^ a 0 0 5 - 1 ∧ ∃ A B D, s' = (nI (i + 1 + 1), tpM h A B D) ∧ ∀ s, s < i + 1 + 1 → A s = nI (vs (a 0) V s) ∧ B s = nI (co (a 0) s) ∧ D s = nI (plT (a 0) V (rb (a 1)) (a 1 0 x) (a 1 1 x) s) | .inr r => ∃ A B D, r = tpM h A B D ∧ ∀ s, s < 2 ^ a 0 0 5 → A s = nI (vs (a 0) V s) ∧ B s = nI (co (a 0) s) ∧ D s = nI (plT (a 0) V (rb (a 1)) (a 1 0 x) (a 1 1 x) s)) := by
          refine ⟨_, go94, by omega, _, _, _, rfl, fun s hs => ?_⟩
          rcases Decidable.em (s = i + 1) with e | e
          · rw [e, pk_us, pk_us, pk_us]
            exact ⟨rfl, rfl, rfl⟩
          · rw [pk_un e, pk_un e, pk_un e]
            exact hF s (by omega)
        rcases Decidable.em (a 0 10 k = 1) with e | e
        · rw [if_pos e]
          rw [decide_eq_true e] at fin
          exact OK.mono fin (fun q hq => by cases q <;> exact hq)
        · rw [if_neg e]
          rw [decide_eq_false e] at fin
          exact OK.mono fin (fun q hq => by cases q <;> exact hq)
      · have C1 := Cf A B D
        simp (disch := omega) only [obx, nI_lit, nI_add, pk_mul, nI_eq, nI_ltI, nI_leI, if_true, if_false, if_pos, if_neg, gI_of (tR C1.ct.rd.rd), C1.ct.rd.sc, hshT]
        exact ⟨_, rfl, A, B, D, rfl, fun s hs => hF s (by omega)⟩
    · have : s = 0 := by omega
      subst this
      exact ⟨i1, i2, i3⟩
  have S := C.ct.sh
  have cv := c_voices S C.nw (show x < 4 by omega) (W.nf.kn x hx) (W.nf.fg x hx)
  change f_X2_voices h 33 (nI x) = some (nI (vx a x)) at cv
  rw [hVe] at cv
  have Cf := fun A B D => (C.tpc W A B D).2
  obtain ⟨A0, hA0⟩ : ∃ A0, upd (mI h 40) 0 (nI V) = A0 := ⟨_, rfl⟩
  obtain ⟨B0, hB0⟩ : ∃ B0, upd (mI h 41) 0 (nI 0) = B0 := ⟨_, rfl⟩
  have e1 : wI h 40 0 (nI V) = tpM h A0 (mI h 41) (mI h 42) := by
    rw [← hA0, ← tpM_a, tpM_id]
  have C1 := Cf A0 (mI h 41) (mI h 42)
  have S1 := C1.ct.sh
  have C2 := Cf A0 B0 (mI h 42)
  have S2 := C2.ct.sh
  have eA : A0 0 = nI V := by rw [← hA0, pk_us]
  have cr := c_reach W.rw C2.ct h0 (rb (a 1)) hV hV0
  obtain ⟨h', q, hq⟩ := key A0 B0 (upd (mI h 42) 0 (nI (rs (a 0) V (rb (a 1)) (a 1 0 x) (a 0 0 2)))) (by rw [vs_0]; exact eA) (by rw [co_0, ← hB0, pk_us]) (by
    rw [pk_us]
    unfold plT
    rw [if_pos ⟨by rw [co_0]; exact Nat.zero_le _, ch_0⟩]
    unfold rch
    rw [vs_0])
  have q' : iter (fun (s : Int32 × Mem) => b_X8_plan_51 s.2 39 (a 2 0 0) 33 (nI x) (nI (a 1 0 x)) s.1) FU (nI 1, tpM h A0 B0 (upd (mI h 42) 0 (nI (rs (a 0) V (rb (a 1)) (a 1 0 x) (a 0 0 2))))) = some h' := q
  refine ⟨h', ?_, hq⟩
  unfold f_X8_plan
  simp (disch := omega) only [obx, nI_lit, nI_add, pk_mul, nI_eq, nI_ltI, nI_leI, if_true, if_false, if_pos, if_neg, ck_of (tS_39 S), c_of S C.nw, gR_of (tS_39 S), rS_39_0 S, cv, sI_of (tS_40 S), e1, gR_of (tS_39 S1), rS_39_1 S1, sI_of (tS_41 S1), tpM_b, hB0, gR_of (tS_39 S2), rS_39_2 S2, rS_39_0 S2, aI_of (tS_40 S2), tpM_40, eA, c_rains S2 C2.nw W.nf.rn, cr, sI_of (tS_42 S2), tpM_d, q']
end
