/-! ===== the most PAIRS by sets; the first of them ===== -/
section
variable {h : Mem} {r : Nat} {ρ : RO}
theorem c_mostOf (W : RW ρ) (C : CT h r ρ) {s : Nat} (hs : s < 2 ^ ρ 0 1) (h0 : s ≠ 0) (hV : ∀ t, t < ρ 0 1 → mI h 49 t = nI (mts ρ t (ρ 0 1))) (hU : ∀ s', s' < s → mI h 48 s' = nI (pm ρ 6 s')) : f_X3_mostOf h 47 r (nI s) = some (nI (pm ρ 6 s)) := by
  have htu := W.tu
  have hT : 2 ^ ρ 0 1 ≤ 2 ^ 6 := two_le htu
  have S := C.sh
  obtain ⟨⟨l1, l2⟩, l3, l4⟩ := lb_tab s (by omega) h0
  have hlT : lb s < ρ 0 1 := bit_T hs l2
  have hm := mts_lt ρ (lb s) (ρ 0 1)
  have few := fewer_tab s (by omega) h0
  have mV := hV (lb s) hlT
  have mU := hU _ l3
  have pl := pm_le ρ 6 (s ^^^ 2 ^ lb s)
  have q : iter (fun (x : Int32 × Int32) => b_X3_mostOf_26 h 47 r (nI (lb s)) (nI (s ^^^ 2 ^ lb s)) x.1 x.2) FU (nI (pm ρ 6 (s ^^^ 2 ^ lb s)), nI (lb s + 1)) = some (nI (pm ρ 6 s)) := by
    rw [pm_6 W (by omega) h0]
    generalize s ^^^ 2 ^ lb s = R at *
    refine (iter_foI2 (fun x u => (nI x, nI u)) (fun u x => if lb s < u ∧ R.testBit u = true ∧ gt2 ρ (lb s) u = true then max x (1 + pm ρ 6 (R ^^^ 2 ^ u)) else x) (pm ρ 6 R) (lb s + 1) (ρ 0 1) (fun _ x => x ≤ 7) (by omega) (FU_lt (by omega)) (by omega) (fun u x hu hx => ?_) (fun u x hu => if_neg (by omega)) (fun u x h1 h2 hx => ?_) ?_)
    · split
      · have := pm_le ρ 6 (R ^^^ 2 ^ u)
        omega
      · exact hx
    · show b_X3_mostOf_26 h 47 r (nI (lb s)) (nI R) (nI x) (nI u) = _
      have hx : x ≤ 7 := hx
      have hsu : nI 1 <<< (nI u &&& nI 31) = nI (2 ^ u) := nI_sh1 (by omega)
      have hab := and_bit (ρ := ρ) (R := R) (t := lb s) (u := u) (by omega) (by omega) h2 (by omega)
      have hp : 2 ^ u < 2 ^ 6 := Nat.pow_lt_pow_right (by decide) (by omega)
      unfold b_X3_mostOf_26 f_X3_mostOf_73
      simp (disch := omega) only [ob, nI_lit, nI_add, pk_mul, nI_eq, nI_ltI, nI_leI, if_true, if_false, if_pos, if_neg, gI_of (tR C.rd.rd), C.rd.sc, gR_of (tS_47 S), rS_47_0 S, rS_47_1 S, aI_of (tS_49 S), mV, hsu, hab]
      rcases hb : R.testBit u with _ | _
      · simp
      · rcases hg : gt2 ρ (lb s) u with _ | _
        · simp
        · have h5 := xb_tab R (by omega) u (by omega) hb
          have h6 := pm_le ρ 6 (R ^^^ 2 ^ u)
          have eU := hU (R ^^^ 2 ^ u) (by omega)
          simp (disch := omega) only [ob, nI_lit, nI_add, pk_mul, nI_eq, nI_ltI, nI_leI, if_true, if_false, if_pos, if_neg, nI_xor, aI_of (tS_48 S), eU, mMax_n, Bool.and_true, Bool.true_eq_false, and_true, show lb s < u by omega]
    · show b_X3_mostOf_26 h 47 r (nI (lb s)) (nI R) _ (nI (ρ 0 1)) = _
      unfold b_X3_mostOf_26
      simp (disch := omega) only [ob, nI_lit, nI_add, pk_mul, nI_eq, nI_ltI, nI_leI, if_true, if_false, if_pos, if_neg, gI_of (tR C.rd.rd), C.rd.sc]
  unfold f_X3_mostOf
  simp (disch := omega) only [ob, nI_lit, nI_add, pk_mul, nI_eq, nI_ltI, nI_leI, if_true, if_false, if_pos, if_neg, ck_of (tS_47 S), h_tzb _ (show s < 128 by omega) h0, gR_of (tS_47 S), rS_47_0 S, few, aI_of (tS_48 S), mU, q]
theorem c_firstMate (W : RW ρ) (C : CT h r ρ) {s t : Nat} (hs : s < 2 ^ ρ 0 1) (ht : t < ρ 0 1) (hb : s.testBit t = true) (hV : ∀ t, t < ρ 0 1 → mI h 49 t = nI (mts ρ t (ρ 0 1))) (hU : ∀ s', s' < 2 ^ ρ 0 1 → mI h 48 s' = nI (pm ρ 6 s')) : f_X3_firstMate h 47 r (nI t) (nI s) = some (if fm ρ t s < ρ 0 1 then nI (fm ρ t s) else -nI 1) := by
  have htu := W.tu
  have hT : 2 ^ ρ 0 1 ≤ 2 ^ 6 := two_le htu
  have S := C.sh
  have hm := mts_lt ρ t (ρ 0 1)
  have mV := hV t ht
  have mU := hU s hs
  have pl := pm_le ρ 6 s
  have hst : nI 1 <<< (nI t &&& nI 31) = nI (2 ^ t) := nI_sh1 (by omega)
  have hpt : 2 ^ t < 2 ^ 6 := Nat.pow_lt_pow_right (by decide) (by omega)
  obtain ⟨x1, x2⟩ := xb_tab s (by omega) t (by omega) hb
  have key : ∀ m N u, m < N → u + m = ρ 0 1 → t < u → (∀ i, i < u → (decide (t < i) && (s ^^^ 2 ^ t).testBit i && gt2 ρ t i && decide (1 + pm ρ 6 (s ^^^ 2 ^ t ^^^ 2 ^ i) = pm ρ 6 s)) = false) → iter (fun (x : Int32) => b_X3_firstMate_12 h 47 r (nI t) (nI s) (nI (s ^^^ 2 ^ t)) x) N (nI u) = some (if fm ρ t s < ρ 0 1 then Sum.inl (nI (fm ρ t s)) else Sum.inr ()) := by
    intro m
    induction m with
    | zero =>
      intro N u hN hu htu2 hno
      obtain ⟨N, rfl⟩ : ∃ M, N = M + 1 := ⟨N - 1, by omega⟩
      have e : fm ρ t s = ρ 0 1 := ff_eq (Nat.le_refl _) (fun i hi => hno i (by omega)) (fun q => by omega)
      rw [e, if_neg (by omega)]
      refine iter_exit ?_
      unfold b_X3_firstMate_12
      simp (disch := omega) only [ob, nI_lit, nI_add, pk_mul, nI_eq, nI_ltI, nI_leI, if_true, if_false, if_pos, if_neg, gI_of (tR C.rd.rd), C.rd.sc]
    | succ m ih =>
      intro N u hN hu htu2 hno
      obtain ⟨N, rfl⟩ : ∃ M, N = M + 1 := ⟨N - 1, by omega⟩
      have hsu : nI 1 <<< (nI u &&& nI 31) = nI (2 ^ u) := nI_sh1 (by omega)
      have hab := and_bit (ρ := ρ) (R := s ^^^ 2 ^ t) (t := t) (u := u) (by omega) (by omega) (by omega) (by omega)
      have hp : 2 ^ u < 2 ^ 6 := Nat.pow_lt_pow_right (by decide) (by omega)
      have st : b_X3_firstMate_12 h 47 r (nI t) (nI s) (nI (s ^^^ 2 ^ t)) (nI u) = if (decide (t < u) && (s ^^^ 2 ^ t).testBit u && gt2 ρ t u && decide (1 + pm ρ 6 (s ^^^ 2 ^ t ^^^ 2 ^ u) = pm ρ 6 s)) = true then some (.inr (.inl (nI u))) else some (.inl (nI (u + 1))) := by
        unfold b_X3_firstMate_12 f_X3_firstMate_64
        simp (disch := omega) only [ob, nI_lit, nI_add, pk_mul, nI_eq, nI_ltI, nI_leI, if_true, if_false, if_pos, if_neg, gI_of (tR C.rd.rd), C.rd.sc, gR_of (tS_47 S), rS_47_0 S, rS_47_1 S, aI_of (tS_49 S), mV, hsu, hab]
        rcases hb2 : (s ^^^ 2 ^ t).testBit u with _ | _
        · simp
        · rcases hg : gt2 ρ t u with _ | _
          · simp
          · have h5 := xb_tab (s ^^^ 2 ^ t) (by omega) u (by omega) hb2
            have h6 := pm_le ρ 6 (s ^^^ 2 ^ t ^^^ 2 ^ u)
            have eU := hU (s ^^^ 2 ^ t ^^^ 2 ^ u) (by omega)
            simp (disch := omega) only [ob, nI_lit, nI_add, pk_mul, nI_eq, nI_ltI, nI_leI, if_true, if_false, if_pos, if_neg, nI_xor, aI_of (tS_48 S), eU, mU, Bool.and_true, Bool.true_eq_false, decide_eq_true_eq, decide_eq_true htu2]
            simp
      rcases hq : (decide (t < u) && (s ^^^ 2 ^ t).testBit u && gt2 ρ t u && decide (1 + pm ρ 6 (s ^^^ 2 ^ t ^^^ 2 ^ u) = pm ρ 6 s)) with _ | _
      · rw [hq, if_neg (by decide)] at st
        rw [iter_step st]
        refine ih N (u + 1) (by omega) (by omega) (by omega) (fun i hi => ?_)
        rcases Decidable.em (i = u) with e | e
        · rw [e]
          exact hq
        · exact hno i (by omega)
      · rw [hq, if_pos rfl] at st
        have e : fm ρ t s = u := ff_eq (by omega) hno (fun _ => hq)
        rw [e, if_pos (by omega), iter_exit st]
  have k := key (ρ 0 1 - (t + 1)) FU (t + 1) (FU_lt (by omega)) (by omega) (by omega) (fun i hi => by rw [decide_eq_false (show ¬ t < i by omega)]; simp)
  unfold f_X3_firstMate
  simp (disch := omega) only [ob, nI_lit, nI_add, pk_mul, nI_eq, nI_ltI, nI_leI, if_true, if_false, if_pos, if_neg, ck_of (tS_47 S), hst, nI_xor, k]
  split <;> rfl
end
