section
variable {h : Mem} {r p : Nat} {ρ ν : RO}
theorem b_or (W : RW ρ) {a b : Nat} (ha : a < ρ 0 2) (hb : b < ρ 0 2) : ρ 13 (7 * a + b) = 0 ∨ ∃ j, j < ρ 0 3 ∧ ρ 13 (7 * a + b) = j + 1 := by
  rcases W.bt a b ha hb with e | ⟨j, hj, e, -⟩
  · exact Or.inl e
  · exact Or.inr ⟨j, hj, e⟩
theorem b_le (W : RW ρ) {a b : Nat} (ha : a < ρ 0 2) (hb : b < ρ 0 2) : ρ 13 (7 * a + b) ≤ ρ 0 3 := by
  rcases b_or W ha hb with e | ⟨j, hj, e⟩ <;> omega
theorem qk_le (W : RW ρ) {a b : Nat} (ha : a < ρ 0 2) (hb : b < ρ 0 2) : qk ρ a b ≤ 4 := by
  unfold qk
  rcases b_or W ha hb with e | ⟨j, hj, e⟩
  · simp [e]
  · have := W.kd j hj
    simp [e, this]
theorem qt_lt (W : RW ρ) {a b : Nat} (ha : a < ρ 0 2) (hb : b < ρ 0 2) (hk : qk ρ a b ≠ 0) : qt ρ a b < ρ 0 1 := by
  unfold qt
  unfold qk at hk
  rcases b_or W ha hb with e | ⟨j, hj, e⟩
  · simp [e] at hk
  · simp [e] at hk ⊢
    exact W.gt j hj hk
theorem qm_le (W : RW ρ) {a b : Nat} (ha : a < ρ 0 2) (hb : b < ρ 0 2) : qm ρ a b ≤ 99 := by
  unfold qm
  rcases b_or W ha hb with e | ⟨j, hj, e⟩
  · simp [e]
  · have := W.min j hj
    simp [e, this]
theorem qm_0 (W : RW ρ) {a b : Nat} (ha : a < ρ 0 2) (hb : b < ρ 0 2) : qm ρ a b = 0 ↔ ρ 13 (7 * a + b) = 0 := by
  unfold qm
  rcases b_or W ha hb with e | ⟨j, hj, e⟩
  · simp [e]
  · have := W.min j hj
    simp [e]
    omega
/-- a gate, if there is one, lifts to t -/
def lq (ρ : RO) (a b t : Nat) (fo ra : Bool) : Bool := decide (qk ρ a b = 0) || lf ρ (qk ρ a b) (qt ρ a b) t fo ra
theorem m_lifts (W : RW ρ) (M : MT h p ρ) {a b t : Nat} (fo ra : Bool) (ha : a < ρ 0 2) (hb : b < ρ 0 2) (ht : t < ρ 0 1) : f_X13_liftsTo h 55 (nI a) (nI b) (nI t) (nI fo.toNat) (nI ra.toNat) = some (nI (lq ρ a b t fo ra).toNat) := by
  have := W.pl
  have := W.tu
  have hk := qk_le W ha hb
  unfold f_X13_liftsTo f_X13_of lq lf
  rcases Decidable.em (qk ρ a b = 0) with e0 | e0
  · simp (disch := omega) only [ob, nI_lit, nI_add, pk_mul, nI_eq, nI_ltI, nI_leI, if_true, if_false, if_pos, if_neg, ck_of (tS_55 M.sh), gR_of (tS_55 M.sh), gI_of (tS_55 M.sh), M.pp, ck_of (tP M.rd.pk), gR_of (tP M.rd.pk), gI_of (tP M.rd.pk), rP_10 M.rd.pk, rP_11 M.rd.pk, rP_12 M.rd.pk, rP_13 M.rd.pk, rP_14 M.rd.pk, rP_15 M.rd.pk, rP_16 M.rd.pk, rP_17 M.rd.pk, rP_18 M.rd.pk, rP_19 M.rd.pk, rP_20 M.rd.pk, rP_21 M.rd.pk, rP_22 M.rd.pk, rP_23 M.rd.pk, rP_24 M.rd.pk, aI_of (tP_1 M.rd.pk), aI_of (tP_2 M.rd.pk), aI_of (tP_3 M.rd.pk), aI_of (tP_4 M.rd.pk), aI_of (tP_5 M.rd.pk), aI_of (tP_6 M.rd.pk), aI_of (tP_7 M.rd.pk), aI_of (tP_8 M.rd.pk), aI_of (tP_9 M.rd.pk), aI_of (tP_10 M.rd.pk), aI_of (tP_11 M.rd.pk), aI_of (tP_12 M.rd.pk), aI_of (tP_13 M.rd.pk), aI_of (tP_14 M.rd.pk), aI_of (tP_15 M.rd.pk), M.rd.sc, M.rd.len, M.rd.note, M.rd.min, M.rd.kd, M.rd.gt, M.rd.e1, M.rd.e2, M.rd.i8, M.rd.i9, M.rd.i10, M.rd.i11, M.rd.hd]
    simp [e0]
  · have hg := qt_lt W ha hb e0
    have hl := W.len t ht
    have := W.len _ hg
    have hu := ul_lt W (qt ρ a b) fo ra ht
    rcases Decidable.em (qk ρ a b = 4) with e4 | e4
    · simp (disch := omega) only [ob, nI_lit, nI_add, pk_mul, nI_eq, nI_ltI, nI_leI, if_true, if_false, if_pos, if_neg, ck_of (tS_55 M.sh), gR_of (tS_55 M.sh), gI_of (tS_55 M.sh), M.pp, ck_of (tP M.rd.pk), gR_of (tP M.rd.pk), gI_of (tP M.rd.pk), rP_10 M.rd.pk, rP_11 M.rd.pk, rP_12 M.rd.pk, rP_13 M.rd.pk, rP_14 M.rd.pk, rP_15 M.rd.pk, rP_16 M.rd.pk, rP_17 M.rd.pk, rP_18 M.rd.pk, rP_19 M.rd.pk, rP_20 M.rd.pk, rP_21 M.rd.pk, rP_22 M.rd.pk, rP_23 M.rd.pk, rP_24 M.rd.pk, aI_of (tP_1 M.rd.pk), aI_of (tP_2 M.rd.pk), aI_of (tP_3 M.rd.pk), aI_of (tP_4 M.rd.pk), aI_of (tP_5 M.rd.pk), aI_of (tP_6 M.rd.pk), aI_of (tP_7 M.rd.pk), aI_of (tP_8 M.rd.pk), aI_of (tP_9 M.rd.pk), aI_of (tP_10 M.rd.pk), aI_of (tP_11 M.rd.pk), aI_of (tP_12 M.rd.pk), aI_of (tP_13 M.rd.pk), aI_of (tP_14 M.rd.pk), aI_of (tP_15 M.rd.pk), M.rd.sc, M.rd.len, M.rd.note, M.rd.min, M.rd.kd, M.rd.gt, M.rd.e1, M.rd.e2, M.rd.i8, M.rd.i9, M.rd.i10, M.rd.i11, M.rd.hd, nI_nem]
      simp [e4]
    · rcases Decidable.em (ρ 1 (qt ρ a b) = ρ 1 t) with el | el
      · have q := m_unlike W M fo ra (nI (qk ρ a b - 1)) hg ht el
        simp only [nI_lit] at q
        simp (disch := omega) only [ob, nI_lit, nI_add, pk_mul, nI_eq, nI_ltI, nI_leI, if_true, if_false, if_pos, if_neg, ck_of (tS_55 M.sh), gR_of (tS_55 M.sh), gI_of (tS_55 M.sh), M.pp, ck_of (tP M.rd.pk), gR_of (tP M.rd.pk), gI_of (tP M.rd.pk), rP_10 M.rd.pk, rP_11 M.rd.pk, rP_12 M.rd.pk, rP_13 M.rd.pk, rP_14 M.rd.pk, rP_15 M.rd.pk, rP_16 M.rd.pk, rP_17 M.rd.pk, rP_18 M.rd.pk, rP_19 M.rd.pk, rP_20 M.rd.pk, rP_21 M.rd.pk, rP_22 M.rd.pk, rP_23 M.rd.pk, rP_24 M.rd.pk, aI_of (tP_1 M.rd.pk), aI_of (tP_2 M.rd.pk), aI_of (tP_3 M.rd.pk), aI_of (tP_4 M.rd.pk), aI_of (tP_5 M.rd.pk), aI_of (tP_6 M.rd.pk), aI_of (tP_7 M.rd.pk), aI_of (tP_8 M.rd.pk), aI_of (tP_9 M.rd.pk), aI_of (tP_10 M.rd.pk), aI_of (tP_11 M.rd.pk), aI_of (tP_12 M.rd.pk), aI_of (tP_13 M.rd.pk), aI_of (tP_14 M.rd.pk), aI_of (tP_15 M.rd.pk), M.rd.sc, M.rd.len, M.rd.note, M.rd.min, M.rd.kd, M.rd.gt, M.rd.e1, M.rd.e2, M.rd.i8, M.rd.i9, M.rd.i10, M.rd.i11, M.rd.hd, nI_nem, q, f_X13_liftsTo_150, f_X13_liftsTo_147]
        rcases Decidable.em (qk ρ a b = 3) with e3 | e3
        · simp [e3, el]
        · rcases Decidable.em (qk ρ a b = 2) with e2 | e2
          · simp (disch := omega) only [ob, nI_lit, nI_add, pk_mul, nI_eq, nI_ltI, nI_leI, if_true, if_false, if_pos, if_neg]
            rcases Decidable.em (ul ρ (qt ρ a b) t fo ra ≤ 1) with q1 | q1 <;> simp (disch := omega) only [if_pos, if_neg] <;> simp [e0, q1]
          · simp (disch := omega) only [ob, nI_lit, nI_add, pk_mul, nI_eq, nI_ltI, nI_leI, if_true, if_false, if_pos, if_neg]
            rcases Decidable.em (ul ρ (qt ρ a b) t fo ra ≤ 0) with q1 | q1 <;> simp (disch := omega) only [if_pos, if_neg] <;> simp [e0, q1]
      · simp (disch := omega) only [ob, nI_lit, nI_add, pk_mul, nI_eq, nI_ltI, nI_leI, if_true, if_false, if_pos, if_neg, ck_of (tS_55 M.sh), gR_of (tS_55 M.sh), gI_of (tS_55 M.sh), M.pp, ck_of (tP M.rd.pk), gR_of (tP M.rd.pk), gI_of (tP M.rd.pk), rP_10 M.rd.pk, rP_11 M.rd.pk, rP_12 M.rd.pk, rP_13 M.rd.pk, rP_14 M.rd.pk, rP_15 M.rd.pk, rP_16 M.rd.pk, rP_17 M.rd.pk, rP_18 M.rd.pk, rP_19 M.rd.pk, rP_20 M.rd.pk, rP_21 M.rd.pk, rP_22 M.rd.pk, rP_23 M.rd.pk, rP_24 M.rd.pk, aI_of (tP_1 M.rd.pk), aI_of (tP_2 M.rd.pk), aI_of (tP_3 M.rd.pk), aI_of (tP_4 M.rd.pk), aI_of (tP_5 M.rd.pk), aI_of (tP_6 M.rd.pk), aI_of (tP_7 M.rd.pk), aI_of (tP_8 M.rd.pk), aI_of (tP_9 M.rd.pk), aI_of (tP_10 M.rd.pk), aI_of (tP_11 M.rd.pk), aI_of (tP_12 M.rd.pk), aI_of (tP_13 M.rd.pk), aI_of (tP_14 M.rd.pk), aI_of (tP_15 M.rd.pk), M.rd.sc, M.rd.len, M.rd.note, M.rd.min, M.rd.kd, M.rd.gt, M.rd.e1, M.rd.e2, M.rd.i8, M.rd.i9, M.rd.i10, M.rd.i11, M.rd.hd, nI_nem]
        simp [e0, el, e4]
theorem h_bit (h : Mem) {s k : Nat} (hs : s < 2 ^ 31) (hk : k < 32) : f_X13_bit h (nI s) (nI k) = some (nI (s.testBit k).toNat) := by
  unfold f_X13_bit
  simp (disch := omega) only [nI_lit, nI_bit]
  cases s.testBit k <;> rfl
/-- the way from a to b is a road, and open to what one knows and has FORGED -/
def pq (ρ : RO) (a b V : Nat) (ra : Bool) : Bool := decide (ρ 13 (7 * a + b) ≠ 0) && op ρ (ρ 13 (7 * a + b) - 1) V ra
theorem m_passes (W : RW ρ) (M : MT h p ρ) {a b kn fg : Nat} (ra : Bool) (ha : a < ρ 0 2) (hb : b < ρ 0 2) (h1 : kn < 64) (h2 : fg < 64) : f_X13_passesBy h 55 (nI kn) (nI fg) (nI a) (nI b) (nI ra.toNat) = some (nI (pq ρ a b (vo kn fg) ra).toNat) := by
  have := W.pl
  have := W.tu
  have hk := qk_le W ha hb
  have hm := qm_le W ha hb
  have h0 := qm_0 W ha hb
  unfold f_X13_passesBy f_X13_of pq op og
  rcases Decidable.em (ρ 13 (7 * a + b) = 0) with e | e
  · simp (disch := omega) only [ob, nI_lit, nI_add, pk_mul, nI_eq, nI_ltI, nI_leI, if_true, if_false, if_pos, if_neg, ck_of (tS_55 M.sh), gR_of (tS_55 M.sh), gI_of (tS_55 M.sh), M.pp, ck_of (tP M.rd.pk), gR_of (tP M.rd.pk), gI_of (tP M.rd.pk), rP_10 M.rd.pk, rP_11 M.rd.pk, rP_12 M.rd.pk, rP_13 M.rd.pk, rP_14 M.rd.pk, rP_15 M.rd.pk, rP_16 M.rd.pk, rP_17 M.rd.pk, rP_18 M.rd.pk, rP_19 M.rd.pk, rP_20 M.rd.pk, rP_21 M.rd.pk, rP_22 M.rd.pk, rP_23 M.rd.pk, rP_24 M.rd.pk, aI_of (tP_1 M.rd.pk), aI_of (tP_2 M.rd.pk), aI_of (tP_3 M.rd.pk), aI_of (tP_4 M.rd.pk), aI_of (tP_5 M.rd.pk), aI_of (tP_6 M.rd.pk), aI_of (tP_7 M.rd.pk), aI_of (tP_8 M.rd.pk), aI_of (tP_9 M.rd.pk), aI_of (tP_10 M.rd.pk), aI_of (tP_11 M.rd.pk), aI_of (tP_12 M.rd.pk), aI_of (tP_13 M.rd.pk), aI_of (tP_14 M.rd.pk), aI_of (tP_15 M.rd.pk), M.rd.sc, M.rd.len, M.rd.note, M.rd.min, M.rd.kd, M.rd.gt, M.rd.e1, M.rd.e2, M.rd.i8, M.rd.i9, M.rd.i10, M.rd.i11, M.rd.hd]
    simp [e]
  · have ek : qk ρ a b = ρ 6 (ρ 13 (7 * a + b) - 1) := if_neg e
    have et : qt ρ a b = ρ 7 (ρ 13 (7 * a + b) - 1) := if_neg e
    rw [← ek, ← et]
    rcases Decidable.em (qk ρ a b = 0) with e0 | e0
    · simp (disch := omega) only [ob, nI_lit, nI_add, pk_mul, nI_eq, nI_ltI, nI_leI, if_true, if_false, if_pos, if_neg, ck_of (tS_55 M.sh), gR_of (tS_55 M.sh), gI_of (tS_55 M.sh), M.pp, ck_of (tP M.rd.pk), gR_of (tP M.rd.pk), gI_of (tP M.rd.pk), rP_10 M.rd.pk, rP_11 M.rd.pk, rP_12 M.rd.pk, rP_13 M.rd.pk, rP_14 M.rd.pk, rP_15 M.rd.pk, rP_16 M.rd.pk, rP_17 M.rd.pk, rP_18 M.rd.pk, rP_19 M.rd.pk, rP_20 M.rd.pk, rP_21 M.rd.pk, rP_22 M.rd.pk, rP_23 M.rd.pk, rP_24 M.rd.pk, aI_of (tP_1 M.rd.pk), aI_of (tP_2 M.rd.pk), aI_of (tP_3 M.rd.pk), aI_of (tP_4 M.rd.pk), aI_of (tP_5 M.rd.pk), aI_of (tP_6 M.rd.pk), aI_of (tP_7 M.rd.pk), aI_of (tP_8 M.rd.pk), aI_of (tP_9 M.rd.pk), aI_of (tP_10 M.rd.pk), aI_of (tP_11 M.rd.pk), aI_of (tP_12 M.rd.pk), aI_of (tP_13 M.rd.pk), aI_of (tP_14 M.rd.pk), aI_of (tP_15 M.rd.pk), M.rd.sc, M.rd.len, M.rd.note, M.rd.min, M.rd.kd, M.rd.gt, M.rd.e1, M.rd.e2, M.rd.i8, M.rd.i9, M.rd.i10, M.rd.i11, M.rd.hd]
      simp [e0, e]
    · let P : Nat → Bool := fun t => (vo kn fg).testBit t && lf ρ (qk ρ a b) (qt ρ a b) t false ra || (vo kn fg).testBit (6 + t) && lf ρ (qk ρ a b) (qt ρ a b) t true ra
      have st : ∀ t, t < ρ 0 1 → b_X13_passesBy_41 h 55 (nI kn) (nI fg) (nI a) (nI b) (nI ra.toNat) (nI t) = if kn.testBit t && lf ρ (qk ρ a b) (qt ρ a b) t false ra then some (.inr (.inl ())) else if fg.testBit t && lf ρ (qk ρ a b) (qt ρ a b) t true ra then some (.inr (.inr (.inl ()))) else some (.inl (nI (t + 1))) := by
        intro t ht
        have m0 := m_lifts W M false ra ha hb ht
        have m1 := m_lifts W M true ra ha hb ht
        unfold lq at m0 m1
        simp only [e0, decide_false, Bool.false_or, Bool.toNat_false, Bool.toNat_true] at m0 m1
        unfold b_X13_passesBy_41
        simp (disch := omega) only [ob, nI_lit, nI_add, pk_mul, nI_eq, nI_ltI, nI_leI, if_true, if_false, if_pos, if_neg, ck_of (tS_55 M.sh), gR_of (tS_55 M.sh), gI_of (tS_55 M.sh), M.pp, ck_of (tP M.rd.pk), gR_of (tP M.rd.pk), gI_of (tP M.rd.pk), rP_10 M.rd.pk, rP_11 M.rd.pk, rP_12 M.rd.pk, rP_13 M.rd.pk, rP_14 M.rd.pk, rP_15 M.rd.pk, rP_16 M.rd.pk, rP_17 M.rd.pk, rP_18 M.rd.pk, rP_19 M.rd.pk, rP_20 M.rd.pk, rP_21 M.rd.pk, rP_22 M.rd.pk, rP_23 M.rd.pk, rP_24 M.rd.pk, aI_of (tP_1 M.rd.pk), aI_of (tP_2 M.rd.pk), aI_of (tP_3 M.rd.pk), aI_of (tP_4 M.rd.pk), aI_of (tP_5 M.rd.pk), aI_of (tP_6 M.rd.pk), aI_of (tP_7 M.rd.pk), aI_of (tP_8 M.rd.pk), aI_of (tP_9 M.rd.pk), aI_of (tP_10 M.rd.pk), aI_of (tP_11 M.rd.pk), aI_of (tP_12 M.rd.pk), aI_of (tP_13 M.rd.pk), aI_of (tP_14 M.rd.pk), aI_of (tP_15 M.rd.pk), M.rd.sc, M.rd.len, M.rd.note, M.rd.min, M.rd.kd, M.rd.gt, M.rd.e1, M.rd.e2, M.rd.i8, M.rd.i9, M.rd.i10, M.rd.i11, M.rd.hd, h_bit, f_X13_passesBy_79, f_X13_passesBy_105, m0, m1]
        cases kn.testBit t <;> cases fg.testBit t <;> cases lf ρ (qk ρ a b) (qt ρ a b) t false ra <;> cases lf ρ (qk ρ a b) (qt ρ a b) t true ra <;> simp [Bool.toNat, ob, nI_lit, nI_add, pk_mul, nI_eq, nI_ltI, nI_leI, if_true, if_false, if_pos, if_neg]
      have hP : ∀ t, t < ρ 0 1 → P t = ((kn.testBit t && lf ρ (qk ρ a b) (qt ρ a b) t false ra) || (fg.testBit t && lf ρ (qk ρ a b) (qt ρ a b) t true ra)) := by
        intro t ht
        show ((vo kn fg).testBit t && _ || (vo kn fg).testBit (6 + t) && _) = _
        rw [vo_b0 fg (by omega), vo_b1 h1 (by omega)]
      have hle := ff_le P (ρ 0 1)
      have fin : iter (fun (s : Int32) => b_X13_passesBy_41 h 55 (nI kn) (nI fg) (nI a) (nI b) (nI ra.toNat) s) FU 0 = some (if ff P (ρ 0 1) < ρ 0 1 then (if kn.testBit (ff P (ρ 0 1)) && lf ρ (qk ρ a b) (qt ρ a b) (ff P (ρ 0 1)) false ra then .inl () else .inr (.inl ())) else .inr (.inr ())) := by
        refine iter_ff (fun i => nI i) P (ρ 0 1) (FU_lt (by omega)) (fun i hi hp => ?_) ?_
        · rw [hP i hi, Bool.or_eq_false_iff] at hp
          show b_X13_passesBy_41 h 55 (nI kn) (nI fg) (nI a) (nI b) (nI ra.toNat) (nI i) = _
          rw [st i hi, hp.1, hp.2]
          rfl
        · show b_X13_passesBy_41 h 55 (nI kn) (nI fg) (nI a) (nI b) (nI ra.toNat) (nI (ff P (ρ 0 1))) = _
          rcases Nat.lt_or_ge (ff P (ρ 0 1)) (ρ 0 1) with q | q
          · have hp := ff_at P _ q
            rw [hP _ q] at hp
            rw [st _ q, if_pos q]
            cases h9 : kn.testBit (ff P (ρ 0 1)) && lf ρ (qk ρ a b) (qt ρ a b) (ff P (ρ 0 1)) false ra
            · rw [h9] at hp
              simp at hp
              simp [hp]
            · simp
          · have e9 : ff P (ρ 0 1) = ρ 0 1 := by omega
            rw [e9]
            unfold b_X13_passesBy_41
            simp (disch := omega) only [ob, nI_lit, nI_add, pk_mul, nI_eq, nI_ltI, nI_leI, if_true, if_false, if_pos, if_neg, ck_of (tS_55 M.sh), gR_of (tS_55 M.sh), gI_of (tS_55 M.sh), M.pp, ck_of (tP M.rd.pk), gR_of (tP M.rd.pk), gI_of (tP M.rd.pk), rP_10 M.rd.pk, rP_11 M.rd.pk, rP_12 M.rd.pk, rP_13 M.rd.pk, rP_14 M.rd.pk, rP_15 M.rd.pk, rP_16 M.rd.pk, rP_17 M.rd.pk, rP_18 M.rd.pk, rP_19 M.rd.pk, rP_20 M.rd.pk, rP_21 M.rd.pk, rP_22 M.rd.pk, rP_23 M.rd.pk, rP_24 M.rd.pk, aI_of (tP_1 M.rd.pk), aI_of (tP_2 M.rd.pk), aI_of (tP_3 M.rd.pk), aI_of (tP_4 M.rd.pk), aI_of (tP_5 M.rd.pk), aI_of (tP_6 M.rd.pk), aI_of (tP_7 M.rd.pk), aI_of (tP_8 M.rd.pk), aI_of (tP_9 M.rd.pk), aI_of (tP_10 M.rd.pk), aI_of (tP_11 M.rd.pk), aI_of (tP_12 M.rd.pk), aI_of (tP_13 M.rd.pk), aI_of (tP_14 M.rd.pk), aI_of (tP_15 M.rd.pk), M.rd.sc, M.rd.len, M.rd.note, M.rd.min, M.rd.kd, M.rd.gt, M.rd.e1, M.rd.e2, M.rd.i8, M.rd.i9, M.rd.i10, M.rd.i11, M.rd.hd]
      simp only [nI_lit] at fin
      simp (disch := omega) only [ob, nI_lit, nI_add, pk_mul, nI_eq, nI_ltI, nI_leI, if_true, if_false, if_pos, if_neg, ck_of (tS_55 M.sh), gR_of (tS_55 M.sh), gI_of (tS_55 M.sh), M.pp, ck_of (tP M.rd.pk), gR_of (tP M.rd.pk), gI_of (tP M.rd.pk), rP_10 M.rd.pk, rP_11 M.rd.pk, rP_12 M.rd.pk, rP_13 M.rd.pk, rP_14 M.rd.pk, rP_15 M.rd.pk, rP_16 M.rd.pk, rP_17 M.rd.pk, rP_18 M.rd.pk, rP_19 M.rd.pk, rP_20 M.rd.pk, rP_21 M.rd.pk, rP_22 M.rd.pk, rP_23 M.rd.pk, rP_24 M.rd.pk, aI_of (tP_1 M.rd.pk), aI_of (tP_2 M.rd.pk), aI_of (tP_3 M.rd.pk), aI_of (tP_4 M.rd.pk), aI_of (tP_5 M.rd.pk), aI_of (tP_6 M.rd.pk), aI_of (tP_7 M.rd.pk), aI_of (tP_8 M.rd.pk), aI_of (tP_9 M.rd.pk), aI_of (tP_10 M.rd.pk), aI_of (tP_11 M.rd.pk), aI_of (tP_12 M.rd.pk), aI_of (tP_13 M.rd.pk), aI_of (tP_14 M.rd.pk), aI_of (tP_15 M.rd.pk), M.rd.sc, M.rd.len, M.rd.note, M.rd.min, M.rd.kd, M.rd.gt, M.rd.e1, M.rd.e2, M.rd.i8, M.rd.i9, M.rd.i10, M.rd.i11, M.rd.hd, nI_nem, fin]
      unfold ex
      show _ = some (nI (decide _ && (decide _ || decide (ff P (ρ 0 1) < ρ 0 1))).toNat)
      rcases Nat.lt_or_ge (ff P (ρ 0 1)) (ρ 0 1) with q | q
      · rw [if_pos q]
        simp [e, q]
        split <;> rfl
      · rw [if_neg (by omega)]
        simp [e, e0, show ¬ ff P (ρ 0 1) < ρ 0 1 by omega]
end
