/-! ===== sums ===== -/
theorem su_congr {f g : Nat → Nat} {n : Nat} (h : ∀ i, i < n → f i = g i) : su f n = su g n := fo_congr (fun i hi x => by show x + f i = x + g i; rw [h i hi])
theorem su_s (f : Nat → Nat) (n : Nat) : su f (n + 1) = su f n + f n := rfl
theorem su_0 {f : Nat → Nat} : ∀ {n : Nat}, (∀ i, i < n → f i = 0) → su f n = 0
  | 0, _ => rfl
  | n + 1, h => by rw [su_s, su_0 (fun i hi => h i (by omega)), h n (by omega)]
theorem su_one {f : Nat → Nat} {k : Nat} : ∀ {n : Nat}, k < n → (∀ i, i < n → i ≠ k → f i = 0) → su f n = f k
  | 0, h, _ => by omega
  | n + 1, h, h0 => by
    rw [su_s]
    rcases Decidable.em (k = n) with e | e
    · subst e
      rw [su_0 (fun i hi => h0 i (by omega) (by omega)), Nat.zero_add]
    · rw [su_one (n := n) (by omega) (fun i hi hk => h0 i (by omega) hk), h0 n (by omega) (by omega), Nat.add_zero]
theorem su_add (f g : Nat → Nat) : ∀ n, su (fun i => f i + g i) n = su f n + su g n
  | 0 => rfl
  | n + 1 => by
    rw [su_s, su_s, su_s, su_add f g n]
    omega
theorem su_swap (f : Nat → Nat → Nat) (m : Nat) : ∀ n, su (fun i => su (fun j => f i j) m) n = su (fun j => su (fun i => f i j) n) m
  | 0 => by
    exact (su_0 (f := fun j => su (fun i => f i j) 0) (fun j _ => rfl)).symm
  | n + 1 => by
    rw [su_s, su_swap f m n, ← su_add]
    exact su_congr (fun j _ => rfl)
theorem su_le {f g : Nat → Nat} : ∀ {n : Nat}, (∀ i, i < n → f i ≤ g i) → su f n ≤ su g n
  | 0, _ => Nat.le_refl _
  | n + 1, h => by
    have h1 := su_le (n := n) (fun i hi => h i (by omega))
    have h2 := h n (by omega)
    rw [su_s, su_s]
    omega
theorem su_const (c : Nat) : ∀ n, su (fun _ => c) n = c * n
  | 0 => rfl
  | n + 1 => by rw [su_s, su_const c n, Nat.mul_succ]
theorem cn_su (P : Nat → Bool) (n : Nat) : cn P n = su (fun i => (P i).toNat) n := rfl
/-- a sum over the places that a road goes to from p is one over the roads -/
theorem su_road {ρ : RO} (W : RW ρ) (g : Nat → Nat → Nat) {p : Nat} (hp : p < ρ 0 2) : su (fun q => if ρ 13 (7 * p + q) = 0 then 0 else g (ρ 13 (7 * p + q) - 1) q) (ρ 0 2) = su (fun j => (if ρ 3 j = p then g j (ρ 4 j) else 0) + (if ρ 4 j = p then g j (ρ 3 j) else 0)) (ρ 0 3) := by
  have e1 : su (fun q => if ρ 13 (7 * p + q) = 0 then 0 else g (ρ 13 (7 * p + q) - 1) q) (ρ 0 2) = su (fun q => su (fun j => if ρ 13 (7 * p + q) = j + 1 then g j q else 0) (ρ 0 3)) (ρ 0 2) := by
    refine su_congr (fun q hq => ?_)
    rcases b_or W hp hq with e | ⟨j, hj, e⟩
    · rw [if_pos e, su_0 (fun j _ => by rw [if_neg (by omega)])]
    · rw [if_neg (by omega), su_one (k := j) hj (fun i _ hne => by rw [if_neg (by omega)]), if_pos e, e]
      rfl
  rw [e1, su_swap]
  refine su_congr (fun j hj => ?_)
  have h1 := W.e1 j hj
  have h2 := W.e2 j hj
  have hne := W.ne j hj
  have b1 := W.b1 j hj
  have b2 := W.b2 j hj
  have hu : ∀ q, q < ρ 0 2 → ρ 13 (7 * p + q) = j + 1 → (ρ 3 j = p ∧ ρ 4 j = q) ∨ (ρ 3 j = q ∧ ρ 4 j = p) := by
    intro q hq e
    rcases W.bt p q hp hq with e0 | ⟨j', _, e2, h⟩
    · omega
    · have : j' = j := by omega
      subst this
      exact h
  rcases Decidable.em (ρ 3 j = p) with c | c
  · have hL : su (fun q => if ρ 13 (7 * p + q) = j + 1 then g j q else 0) (ρ 0 2) = g j (ρ 4 j) := by
      rw [su_one (k := ρ 4 j) h2 (fun q hq hk => if_neg (fun e => by
        rcases hu q hq e with w | w
        · exact hk w.2.symm
        · omega)), if_pos (by rw [← c]; exact b1)]
    rw [hL, if_pos c, if_neg (show ¬ ρ 4 j = p by omega)]
    rfl
  · rcases Decidable.em (ρ 4 j = p) with c2 | c2
    · have hL : su (fun q => if ρ 13 (7 * p + q) = j + 1 then g j q else 0) (ρ 0 2) = g j (ρ 3 j) := by
        rw [su_one (k := ρ 3 j) h1 (fun q hq hk => if_neg (fun e => by
          rcases hu q hq e with w | w
          · omega
          · exact hk w.1.symm)), if_pos (by rw [← c2]; exact b2)]
      rw [hL, if_neg c, if_pos c2, Nat.zero_add]
    · have hL : su (fun q => if ρ 13 (7 * p + q) = j + 1 then g j q else 0) (ρ 0 2) = 0 := su_0 (fun q hq => if_neg (fun e => by
        rcases hu q hq e with w | w
        · exact c w.1
        · exact c2 w.2))
      rw [hL, if_neg c, if_neg c2]
/-! ===== opens ===== -/
/-- the gates that open to t -/
def on (ρ : RO) (t : Nat) (ra : Bool) : Nat := cn (fun j => decide (ρ 6 j ≠ 0) && lf ρ (ρ 6 j) (ρ 7 j) t false ra) (ρ 0 3)
def oq (ρ : RO) (t : Nat) (ra : Bool) (p q : Nat) : Nat := (decide (qk ρ p q ≠ 0) && lf ρ (qk ρ p q) (qt ρ p q) t false ra).toNat
theorem on_eq {ρ : RO} (W : RW ρ) (t : Nat) (ra : Bool) : su (fun p => su (fun q => oq ρ t ra p q) p) (ρ 0 2) = on ρ t ra := by
  have e1 : su (fun p => su (fun q => oq ρ t ra p q) p) (ρ 0 2) = su (fun p => su (fun q => if ρ 13 (7 * p + q) = 0 then 0 else (fun j q => if q < p then (decide (ρ 6 j ≠ 0) && lf ρ (ρ 6 j) (ρ 7 j) t false ra).toNat else 0) (ρ 13 (7 * p + q) - 1) q) (ρ 0 2)) (ρ 0 2) := by
    refine su_congr (fun p hp => ?_)
    have key : ∀ n, n ≤ ρ 0 2 → su (fun q => if ρ 13 (7 * p + q) = 0 then 0 else (fun j q => if q < p then (decide (ρ 6 j ≠ 0) && lf ρ (ρ 6 j) (ρ 7 j) t false ra).toNat else 0) (ρ 13 (7 * p + q) - 1) q) n = su (fun q => oq ρ t ra p q) (min n p) := by
      intro n
      induction n with
      | zero => intro _; rw [Nat.zero_min]; rfl
      | succ n ih =>
        intro hn
        rw [su_s, ih (by omega)]
        rcases Nat.lt_or_ge n p with c | c
        · rw [Nat.min_eq_left (by omega), Nat.min_eq_left (by omega), su_s]
          congr 1
          unfold oq qk qt
          rcases Decidable.em (ρ 13 (7 * p + n) = 0) with e | e
          · simp [e]
          · simp [e, c]
        · rw [Nat.min_eq_right (by omega), Nat.min_eq_right (by omega)]
          have : (if ρ 13 (7 * p + n) = 0 then 0 else (if n < p then (decide (ρ 6 (ρ 13 (7 * p + n) - 1) ≠ 0) && lf ρ (ρ 6 (ρ 13 (7 * p + n) - 1)) (ρ 7 (ρ 13 (7 * p + n) - 1)) t false ra).toNat else 0)) = 0 := by
            rw [if_neg (show ¬ n < p by omega)]
            split <;> rfl
          show _ + (if ρ 13 (7 * p + n) = 0 then 0 else (if n < p then (decide (ρ 6 (ρ 13 (7 * p + n) - 1) ≠ 0) && lf ρ (ρ 6 (ρ 13 (7 * p + n) - 1)) (ρ 7 (ρ 13 (7 * p + n) - 1)) t false ra).toNat else 0)) = _
          rw [this, Nat.add_zero]
    rw [key _ (Nat.le_refl _), Nat.min_eq_right (by omega)]
  refine e1.trans ((su_congr (fun p hp => su_road W (fun j q => if q < p then (decide (ρ 6 j ≠ 0) && lf ρ (ρ 6 j) (ρ 7 j) t false ra).toNat else 0) hp)).trans ?_)
  rw [su_swap]
  unfold on
  rw [cn_su]
  refine su_congr (fun j hj => ?_)
  have h1 := W.e1 j hj
  have h2 := W.e2 j hj
  have hne := W.ne j hj
  rw [su_add]
  rw [su_one (f := fun p => if ρ 3 j = p then _ else 0) (k := ρ 3 j) h1 (fun q hq hk => if_neg (fun e => hk e.symm)), su_one (f := fun p => if ρ 4 j = p then _ else 0) (k := ρ 4 j) h2 (fun q hq hk => if_neg (fun e => hk e.symm)), if_pos rfl, if_pos rfl]
  rcases Nat.lt_or_ge (ρ 3 j) (ρ 4 j) with c | c
  · rw [if_neg (by omega), if_pos c, Nat.zero_add]
  · rw [if_pos (by omega), if_neg (by omega), Nat.add_zero]
theorem qq_opens {a : AB} (W : IW a) (x : Int32) : ∃ v z, z ≤ 6 ∧ z ≠ 4 ∧ QC a (fun h => f_X11_opens h 1 x) v z ∧ QM a (fun h => f_X13_opens h 55 x) v z := by
  have htu := W.rw.tu
  have hro := W.rw.ro
  have hpl := W.rw.pl
  have hr := W.nf.rn
  rcases hx : ix (a 0 0 1) x with _ | _
  · refine ⟨-nI 1, 1, by decide, by decide, fun h C => ?_, fun h M0 => ?_⟩
    · unfold f_X11_opens
      simp (disch := omega) only [ob, nI_lit, nI_add, pk_mul, nI_eq, nI_ltI, nI_leI, if_true, if_false, if_pos, if_neg, ck_of (tS_1 C.ct.sh), gR_of (tS_1 C.ct.sh), gI_of (tS_1 C.ct.sh), pI_of (tS_1 C.ct.sh), C.ct.rp, rS_1_2 C.ct.sh, rS_1_3 C.ct.sh, rS_1_4 C.ct.sh, rS_1_5 C.ct.sh, rS_1_6 C.ct.sh, rS_1_7 C.ct.sh, rS_1_8 C.ct.sh, rS_1_9 C.ct.sh, ck_of (tR C.ct.rd.rd), gR_of (tR C.ct.rd.rd), gI_of (tR C.ct.rd.rd), rR_9 C.ct.rd.rd, rR_10 C.ct.rd.rd, rR_11 C.ct.rd.rd, rR_12 C.ct.rd.rd, rR_13 C.ct.rd.rd, rR_14 C.ct.rd.rd, rR_15 C.ct.rd.rd, rR_16 C.ct.rd.rd, rR_17 C.ct.rd.rd, rR_18 C.ct.rd.rd, rR_19 C.ct.rd.rd, aI_of (tR_1 C.ct.rd.rd), aI_of (tR_2 C.ct.rd.rd), aI_of (tR_3 C.ct.rd.rd), aI_of (tR_4 C.ct.rd.rd), aI_of (tR_5 C.ct.rd.rd), aI_of (tR_6 C.ct.rd.rd), aI_of (tR_7 C.ct.rd.rd), aI_of (tR_8 C.ct.rd.rd), aI_of (tR_9 C.ct.rd.rd), C.ct.rd.sc, C.ct.rd.len, C.ct.rd.e1, C.ct.rd.e2, C.ct.rd.min, C.ct.rd.kd, C.ct.rd.gt, C.ct.rd.bt, C.ct.rd.ip, C.ct.rd.hd, c_refuse C.ct.sh, c_answer C.ct.sh, c_isTune W C, hx, Bool.toNat_false]
      exact qc_end C _ _
    · unfold f_X13_opens
      simp only [ck_of (tS_55 M0.sh), pI_of (tS_55 M0.sh), ob, nI_lit]; obtain ⟨h1, eh, M, F1⟩ : ∃ h1, wI h 55 0 (nI 0) = h1 ∧ IM h1 a ∧ FM h h1 := ⟨_, rfl, M0.th _, FM.w55 h _ (by decide)⟩; rw [eh]
      simp (disch := omega) only [ob, nI_lit, nI_add, pk_mul, nI_eq, nI_ltI, nI_leI, if_true, if_false, if_pos, if_neg, ck_of (tS_55 M.sh), gR_of (tS_55 M.sh), gI_of (tS_55 M.sh), pI_of (tS_55 M.sh), rS_55_16 M.sh, rS_55_17 M.sh, rS_55_18 M.sh, rS_55_21 M.sh, rS_55_25 M.sh, rS_55_26 M.sh, rS_55_27 M.sh, rS_55_28 M.sh, rS_55_32 M.sh, rS_55_33 M.sh, rS_55_34 M.sh, m_refused M.sh, m_good M.sh, m_isTune W M, hx, Bool.toNat_false]
      exact qm_end F1 _ _
  · obtain ⟨t, ht, rfl⟩ := ix_t hx (by omega)
    have h2t : 2 ^ t ≤ 2 ^ 5 := two_le (by omega)
    have hV0 : (2 : Nat) ^ t ≠ 0 := Nat.ne_of_gt (Nat.two_pow_pos _)
    refine ⟨nI (on (a 0) t (rb (a 1))), 0, by decide, by decide, fun h C => ?_, fun h M0 => ?_⟩
    · have q : iter (fun (s : Int32 × Int32) => b_X1_gatesOpenTo_5 h (a 2 0 0) (nI (2 ^ t)) (nI (rb (a 1)).toNat) s.1 s.2) FU (nI 0, nI 0) = some (nI (on (a 0) t (rb (a 1)))) := by
        refine iter_fo (fun a i => (nI a, nI i)) (fun j s => s + (decide (a 0 6 j ≠ 0) && lf (a 0) (a 0 6 j) (a 0 7 j) t false (rb (a 1))).toNat) 0 (a 0 0 3) (FU_lt (by omega)) (fun j s hj => ?_) ?_
        · have hop : a 0 6 j ≠ 0 → op (a 0) j (2 ^ t) (rb (a 1)) = lf (a 0) (a 0 6 j) (a 0 7 j) t false (rb (a 1)) := by
            intro e6
            unfold op og
            simp only [e6, decide_false, Bool.false_or]
            rcases hl : lf (a 0) (a 0 6 j) (a 0 7 j) t false (rb (a 1)) with _ | _
            · refine ex_no (fun i hi => ?_)
              simp only [bit_pow]
              rcases Decidable.em (t = i) with e1 | e1
              · subst e1
                simp [hl, show ¬ t = 6 + t by omega]
              · simp [e1, show ¬ t = 6 + i by omega]
            · refine ex_iff.mpr ⟨t, ht, ?_⟩
              simp [bit_pow, hl]
          unfold b_X1_gatesOpenTo_5 f_X1_gatesOpenTo_37
          simp (disch := omega) only [ob, nI_lit, nI_add, pk_mul, nI_eq, nI_ltI, nI_leI, if_true, if_false, if_pos, if_neg, ck_of (tS_1 C.ct.sh), gR_of (tS_1 C.ct.sh), gI_of (tS_1 C.ct.sh), pI_of (tS_1 C.ct.sh), C.ct.rp, rS_1_2 C.ct.sh, rS_1_3 C.ct.sh, rS_1_4 C.ct.sh, rS_1_5 C.ct.sh, rS_1_6 C.ct.sh, rS_1_7 C.ct.sh, rS_1_8 C.ct.sh, rS_1_9 C.ct.sh, ck_of (tR C.ct.rd.rd), gR_of (tR C.ct.rd.rd), gI_of (tR C.ct.rd.rd), rR_9 C.ct.rd.rd, rR_10 C.ct.rd.rd, rR_11 C.ct.rd.rd, rR_12 C.ct.rd.rd, rR_13 C.ct.rd.rd, rR_14 C.ct.rd.rd, rR_15 C.ct.rd.rd, rR_16 C.ct.rd.rd, rR_17 C.ct.rd.rd, rR_18 C.ct.rd.rd, rR_19 C.ct.rd.rd, aI_of (tR_1 C.ct.rd.rd), aI_of (tR_2 C.ct.rd.rd), aI_of (tR_3 C.ct.rd.rd), aI_of (tR_4 C.ct.rd.rd), aI_of (tR_5 C.ct.rd.rd), aI_of (tR_6 C.ct.rd.rd), aI_of (tR_7 C.ct.rd.rd), aI_of (tR_8 C.ct.rd.rd), aI_of (tR_9 C.ct.rd.rd), C.ct.rd.sc, C.ct.rd.len, C.ct.rd.e1, C.ct.rd.e2, C.ct.rd.min, C.ct.rd.kd, C.ct.rd.gt, C.ct.rd.bt, C.ct.rd.ip, C.ct.rd.hd, c_refuse C.ct.sh, c_answer C.ct.sh, c_gate W.rw C.ct.rd hj, c_open W.rw C.ct (rb (a 1)) hj (show 2 ^ t < 8192 by omega) hV0, nI_b0]
          rcases Decidable.em (a 0 6 j = 0) with e6 | e6
          · simp [e6]
          · rw [hop e6]
            cases lf (a 0) (a 0 6 j) (a 0 7 j) t false (rb (a 1)) <;> simp [e6]
        · unfold b_X1_gatesOpenTo_5
          simp (disch := omega) only [ob, nI_lit, nI_add, pk_mul, nI_eq, nI_ltI, nI_leI, if_true, if_false, if_pos, if_neg, ck_of (tS_1 C.ct.sh), gR_of (tS_1 C.ct.sh), gI_of (tS_1 C.ct.sh), pI_of (tS_1 C.ct.sh), C.ct.rp, rS_1_2 C.ct.sh, rS_1_3 C.ct.sh, rS_1_4 C.ct.sh, rS_1_5 C.ct.sh, rS_1_6 C.ct.sh, rS_1_7 C.ct.sh, rS_1_8 C.ct.sh, rS_1_9 C.ct.sh, ck_of (tR C.ct.rd.rd), gR_of (tR C.ct.rd.rd), gI_of (tR C.ct.rd.rd), rR_9 C.ct.rd.rd, rR_10 C.ct.rd.rd, rR_11 C.ct.rd.rd, rR_12 C.ct.rd.rd, rR_13 C.ct.rd.rd, rR_14 C.ct.rd.rd, rR_15 C.ct.rd.rd, rR_16 C.ct.rd.rd, rR_17 C.ct.rd.rd, rR_18 C.ct.rd.rd, rR_19 C.ct.rd.rd, aI_of (tR_1 C.ct.rd.rd), aI_of (tR_2 C.ct.rd.rd), aI_of (tR_3 C.ct.rd.rd), aI_of (tR_4 C.ct.rd.rd), aI_of (tR_5 C.ct.rd.rd), aI_of (tR_6 C.ct.rd.rd), aI_of (tR_7 C.ct.rd.rd), aI_of (tR_8 C.ct.rd.rd), aI_of (tR_9 C.ct.rd.rd), C.ct.rd.sc, C.ct.rd.len, C.ct.rd.e1, C.ct.rd.e2, C.ct.rd.min, C.ct.rd.kd, C.ct.rd.gt, C.ct.rd.bt, C.ct.rd.ip, C.ct.rd.hd, c_refuse C.ct.sh, c_answer C.ct.sh]
          rfl
      have hv := h_voice h false (show t < 6 by omega)
      simp only [Bool.toNat_false, Bool.false_eq_true, if_false] at hv
      unfold f_X11_opens f_X1_gatesOpenTo
      simp (disch := omega) only [ob, nI_lit, nI_add, pk_mul, nI_eq, nI_ltI, nI_leI, if_true, if_false, if_pos, if_neg, ck_of (tS_1 C.ct.sh), gR_of (tS_1 C.ct.sh), gI_of (tS_1 C.ct.sh), pI_of (tS_1 C.ct.sh), C.ct.rp, rS_1_2 C.ct.sh, rS_1_3 C.ct.sh, rS_1_4 C.ct.sh, rS_1_5 C.ct.sh, rS_1_6 C.ct.sh, rS_1_7 C.ct.sh, rS_1_8 C.ct.sh, rS_1_9 C.ct.sh, ck_of (tR C.ct.rd.rd), gR_of (tR C.ct.rd.rd), gI_of (tR C.ct.rd.rd), rR_9 C.ct.rd.rd, rR_10 C.ct.rd.rd, rR_11 C.ct.rd.rd, rR_12 C.ct.rd.rd, rR_13 C.ct.rd.rd, rR_14 C.ct.rd.rd, rR_15 C.ct.rd.rd, rR_16 C.ct.rd.rd, rR_17 C.ct.rd.rd, rR_18 C.ct.rd.rd, rR_19 C.ct.rd.rd, aI_of (tR_1 C.ct.rd.rd), aI_of (tR_2 C.ct.rd.rd), aI_of (tR_3 C.ct.rd.rd), aI_of (tR_4 C.ct.rd.rd), aI_of (tR_5 C.ct.rd.rd), aI_of (tR_6 C.ct.rd.rd), aI_of (tR_7 C.ct.rd.rd), aI_of (tR_8 C.ct.rd.rd), aI_of (tR_9 C.ct.rd.rd), C.ct.rd.sc, C.ct.rd.len, C.ct.rd.e1, C.ct.rd.e2, C.ct.rd.min, C.ct.rd.kd, C.ct.rd.gt, C.ct.rd.bt, C.ct.rd.ip, C.ct.rd.hd, c_refuse C.ct.sh, c_answer C.ct.sh, c_isTune W C, hx, Bool.toNat_true, hv, c_rains C.ct.sh C.nw hr, q]
      exact qc_end C _ _
    · unfold f_X13_opens
      simp only [ck_of (tS_55 M0.sh), pI_of (tS_55 M0.sh), ob, nI_lit]; obtain ⟨h1, eh, M, F1⟩ : ∃ h1, wI h 55 0 (nI 0) = h1 ∧ IM h1 a ∧ FM h h1 := ⟨_, rfl, M0.th _, FM.w55 h _ (by decide)⟩; rw [eh]
      have P := M.told (told_of W (i := 0) (j := 1) (by omega))
      have q1 : ∀ p s, p < a 0 0 2 → iter (fun (s : Int32 × Int32) => b_X13_opens_37 h1 55 (nI t) (nI p) s.1 s.2) FU (nI s, nI 0) = some (nI (s + su (fun q => oq (a 0) t (rb (a 1)) p q) p)) := by
        intro p s hp
        refine iter_for (fun q => (nI (s + su (fun q => oq (a 0) t (rb (a 1)) p q) q), nI q)) p (FU_lt (by omega)) (fun q hq => ?_) ?_
        · have hk := qk_le W.rw hp (show q < a 0 0 2 by omega)
          have ml := m_lifts W.rw P false (rb (a 1)) hp (show q < a 0 0 2 by omega) ht
          simp only [Bool.toNat_false] at ml
          unfold b_X13_opens_37 f_X13_opens_82 f_X13_opens_83 f_X13_of
          rw [su_s]
          show _ = some (Sum.inl (nI (s + (_ + oq (a 0) t (rb (a 1)) p q)), _))
          unfold oq
          rcases Decidable.em (qk (a 0) p q = 0) with e | e
          · simp (disch := omega) only [ob, nI_lit, nI_add, pk_mul, nI_eq, nI_ltI, nI_leI, if_true, if_false, if_pos, if_neg, ck_of (tS_55 M.sh), gR_of (tS_55 M.sh), gI_of (tS_55 M.sh), pI_of (tS_55 M.sh), rS_55_16 M.sh, rS_55_17 M.sh, rS_55_18 M.sh, rS_55_21 M.sh, rS_55_25 M.sh, rS_55_26 M.sh, rS_55_27 M.sh, rS_55_28 M.sh, rS_55_32 M.sh, rS_55_33 M.sh, rS_55_34 M.sh, m_refused M.sh, m_good M.sh, P.pp, ck_of (tP P.rd.pk), gR_of (tP P.rd.pk), gI_of (tP P.rd.pk), rP_10 P.rd.pk, rP_11 P.rd.pk, rP_12 P.rd.pk, rP_13 P.rd.pk, rP_14 P.rd.pk, rP_15 P.rd.pk, rP_16 P.rd.pk, rP_17 P.rd.pk, rP_18 P.rd.pk, rP_19 P.rd.pk, rP_20 P.rd.pk, rP_21 P.rd.pk, rP_22 P.rd.pk, rP_23 P.rd.pk, rP_24 P.rd.pk, aI_of (tP_1 P.rd.pk), aI_of (tP_2 P.rd.pk), aI_of (tP_3 P.rd.pk), aI_of (tP_4 P.rd.pk), aI_of (tP_5 P.rd.pk), aI_of (tP_6 P.rd.pk), aI_of (tP_7 P.rd.pk), aI_of (tP_8 P.rd.pk), aI_of (tP_9 P.rd.pk), aI_of (tP_10 P.rd.pk), aI_of (tP_11 P.rd.pk), aI_of (tP_12 P.rd.pk), aI_of (tP_13 P.rd.pk), aI_of (tP_14 P.rd.pk), aI_of (tP_15 P.rd.pk), P.rd.sc, P.rd.len, P.rd.note, P.rd.min, P.rd.kd, P.rd.gt, P.rd.e1, P.rd.e2, P.rd.i8, P.rd.i9, P.rd.i10, P.rd.i11, P.rd.hd]
            simp [e, Nat.add_assoc]
          · simp (disch := omega) only [ob, nI_lit, nI_add, pk_mul, nI_eq, nI_ltI, nI_leI, if_true, if_false, if_pos, if_neg, ck_of (tS_55 M.sh), gR_of (tS_55 M.sh), gI_of (tS_55 M.sh), pI_of (tS_55 M.sh), rS_55_16 M.sh, rS_55_17 M.sh, rS_55_18 M.sh, rS_55_21 M.sh, rS_55_25 M.sh, rS_55_26 M.sh, rS_55_27 M.sh, rS_55_28 M.sh, rS_55_32 M.sh, rS_55_33 M.sh, rS_55_34 M.sh, m_refused M.sh, m_good M.sh, P.pp, ck_of (tP P.rd.pk), gR_of (tP P.rd.pk), gI_of (tP P.rd.pk), rP_10 P.rd.pk, rP_11 P.rd.pk, rP_12 P.rd.pk, rP_13 P.rd.pk, rP_14 P.rd.pk, rP_15 P.rd.pk, rP_16 P.rd.pk, rP_17 P.rd.pk, rP_18 P.rd.pk, rP_19 P.rd.pk, rP_20 P.rd.pk, rP_21 P.rd.pk, rP_22 P.rd.pk, rP_23 P.rd.pk, rP_24 P.rd.pk, aI_of (tP_1 P.rd.pk), aI_of (tP_2 P.rd.pk), aI_of (tP_3 P.rd.pk), aI_of (tP_4 P.rd.pk), aI_of (tP_5 P.rd.pk), aI_of (tP_6 P.rd.pk), aI_of (tP_7 P.rd.pk), aI_of (tP_8 P.rd.pk), aI_of (tP_9 P.rd.pk), aI_of (tP_10 P.rd.pk), aI_of (tP_11 P.rd.pk), aI_of (tP_12 P.rd.pk), aI_of (tP_13 P.rd.pk), aI_of (tP_14 P.rd.pk), aI_of (tP_15 P.rd.pk), P.rd.sc, P.rd.len, P.rd.note, P.rd.min, P.rd.kd, P.rd.gt, P.rd.e1, P.rd.e2, P.rd.i8, P.rd.i9, P.rd.i10, P.rd.i11, P.rd.hd, nI_nem, m_rains M.sh M.nw hr, ml]
            unfold lq
            cases lf (a 0) (qk (a 0) p q) (qt (a 0) p q) t false (rb (a 1)) <;> simp [e, Nat.add_assoc, show ¬ nI 1 = nI 0 by decide]
        · unfold b_X13_opens_37
          simp (disch := omega) only [ob, nI_lit, nI_add, pk_mul, nI_eq, nI_ltI, nI_leI, if_true, if_false, if_pos, if_neg]
      have q2 : iter (fun (s : Int32 × Int32) => b_X13_opens_23 h1 55 (nI t) s.1 s.2) FU (nI 0, nI 0) = some (nI (on (a 0) t (rb (a 1)))) := by
        rw [← on_eq W.rw t (rb (a 1))]
        refine iter_fo (fun a i => (nI a, nI i)) (fun p s => s + su (fun q => oq (a 0) t (rb (a 1)) p q) p) 0 (a 0 0 2) (FU_lt (by omega)) (fun p s hp => ?_) ?_
        · have q := q1 p s hp
          unfold b_X13_opens_23
          simp (disch := omega) only [ob, nI_lit, nI_add, pk_mul, nI_eq, nI_ltI, nI_leI, if_true, if_false, if_pos, if_neg, ck_of (tS_55 M.sh), gR_of (tS_55 M.sh), gI_of (tS_55 M.sh), pI_of (tS_55 M.sh), rS_55_16 M.sh, rS_55_17 M.sh, rS_55_18 M.sh, rS_55_21 M.sh, rS_55_25 M.sh, rS_55_26 M.sh, rS_55_27 M.sh, rS_55_28 M.sh, rS_55_32 M.sh, rS_55_33 M.sh, rS_55_34 M.sh, m_refused M.sh, m_good M.sh, P.pp, ck_of (tP P.rd.pk), gR_of (tP P.rd.pk), gI_of (tP P.rd.pk), rP_10 P.rd.pk, rP_11 P.rd.pk, rP_12 P.rd.pk, rP_13 P.rd.pk, rP_14 P.rd.pk, rP_15 P.rd.pk, rP_16 P.rd.pk, rP_17 P.rd.pk, rP_18 P.rd.pk, rP_19 P.rd.pk, rP_20 P.rd.pk, rP_21 P.rd.pk, rP_22 P.rd.pk, rP_23 P.rd.pk, rP_24 P.rd.pk, aI_of (tP_1 P.rd.pk), aI_of (tP_2 P.rd.pk), aI_of (tP_3 P.rd.pk), aI_of (tP_4 P.rd.pk), aI_of (tP_5 P.rd.pk), aI_of (tP_6 P.rd.pk), aI_of (tP_7 P.rd.pk), aI_of (tP_8 P.rd.pk), aI_of (tP_9 P.rd.pk), aI_of (tP_10 P.rd.pk), aI_of (tP_11 P.rd.pk), aI_of (tP_12 P.rd.pk), aI_of (tP_13 P.rd.pk), aI_of (tP_14 P.rd.pk), aI_of (tP_15 P.rd.pk), P.rd.sc, P.rd.len, P.rd.note, P.rd.min, P.rd.kd, P.rd.gt, P.rd.e1, P.rd.e2, P.rd.i8, P.rd.i9, P.rd.i10, P.rd.i11, P.rd.hd, q]
        · unfold b_X13_opens_23
          simp (disch := omega) only [ob, nI_lit, nI_add, pk_mul, nI_eq, nI_ltI, nI_leI, if_true, if_false, if_pos, if_neg, ck_of (tS_55 M.sh), gR_of (tS_55 M.sh), gI_of (tS_55 M.sh), pI_of (tS_55 M.sh), rS_55_16 M.sh, rS_55_17 M.sh, rS_55_18 M.sh, rS_55_21 M.sh, rS_55_25 M.sh, rS_55_26 M.sh, rS_55_27 M.sh, rS_55_28 M.sh, rS_55_32 M.sh, rS_55_33 M.sh, rS_55_34 M.sh, m_refused M.sh, m_good M.sh, P.pp, ck_of (tP P.rd.pk), gR_of (tP P.rd.pk), gI_of (tP P.rd.pk), rP_10 P.rd.pk, rP_11 P.rd.pk, rP_12 P.rd.pk, rP_13 P.rd.pk, rP_14 P.rd.pk, rP_15 P.rd.pk, rP_16 P.rd.pk, rP_17 P.rd.pk, rP_18 P.rd.pk, rP_19 P.rd.pk, rP_20 P.rd.pk, rP_21 P.rd.pk, rP_22 P.rd.pk, rP_23 P.rd.pk, rP_24 P.rd.pk, aI_of (tP_1 P.rd.pk), aI_of (tP_2 P.rd.pk), aI_of (tP_3 P.rd.pk), aI_of (tP_4 P.rd.pk), aI_of (tP_5 P.rd.pk), aI_of (tP_6 P.rd.pk), aI_of (tP_7 P.rd.pk), aI_of (tP_8 P.rd.pk), aI_of (tP_9 P.rd.pk), aI_of (tP_10 P.rd.pk), aI_of (tP_11 P.rd.pk), aI_of (tP_12 P.rd.pk), aI_of (tP_13 P.rd.pk), aI_of (tP_14 P.rd.pk), aI_of (tP_15 P.rd.pk), P.rd.sc, P.rd.len, P.rd.note, P.rd.min, P.rd.kd, P.rd.gt, P.rd.e1, P.rd.e2, P.rd.i8, P.rd.i9, P.rd.i10, P.rd.i11, P.rd.hd]
          rfl
      simp (disch := omega) only [ob, nI_lit, nI_add, pk_mul, nI_eq, nI_ltI, nI_leI, if_true, if_false, if_pos, if_neg, ck_of (tS_55 M.sh), gR_of (tS_55 M.sh), gI_of (tS_55 M.sh), pI_of (tS_55 M.sh), rS_55_16 M.sh, rS_55_17 M.sh, rS_55_18 M.sh, rS_55_21 M.sh, rS_55_25 M.sh, rS_55_26 M.sh, rS_55_27 M.sh, rS_55_28 M.sh, rS_55_32 M.sh, rS_55_33 M.sh, rS_55_34 M.sh, m_refused M.sh, m_good M.sh, m_isTune W M, hx, Bool.toNat_true, q2]
      exact qm_end F1 _ _
theorem st_12 : StepOK INV lc_12 := by
  intro sc L i h hL hi hI
  unfold lc_12
  simp only [show (1 : Int32) = nI 1 from rfl, show (2 : Int32) = nI 2 from rfl, show (3 : Int32) = nI 3 from rfl, show (4 : Int32) = nI 4 from rfl, show (5 : Int32) = nI 5 from rfl, nI_add, sc_at hL (show i + 1 < L by omega), sc_at hL (show i + 2 < L by omega), sc_at hL (show i + 3 < L by omega), sc_at hL (show i + 4 < L by omega), sc_at hL (show i + 5 < L by omega), ob]
  exact q2 (f := fun h => f_X11_opens h 1 (sc (i + 1))) (g := fun h => f_X13_opens h 55 (sc (i + 1))) hI (fun a W => qq_opens W _)
/-! ===== led ===== -/
theorem IC.sl {h : Mem} {a : AB} (W : IW a) (C : IC h a) (v : Int64) : IC (wL h 68 0 v) a :=
  IC.fr (h := h) (h' := wL h 68 0 v) W C.ct.sh (fun x _ _ => rfl) (by rw [mL_wL_ne _ _ _ (by decide)]) (fun x _ => rfl) (fun x _ => rfl) C.so C
theorem IM.sl {h : Mem} {a : AB} (M : IM h a) (v : Int64) : IM (wL h 68 0 v) a := IM.fr (h := h) (h' := wL h 68 0 v) M.sh (fun x _ _ => rfl) rfl rfl rfl rfl rfl (fun _ _ => rfl) (fun _ _ => rfl) rfl M
theorem IC.sn {h : Mem} {a : AB} (W : IW a) (C : IC h a) {n : Nat} (hn : mN h ≤ n) : IC (setN h n) a :=
  IC.fr (h := h) (h' := setN h n) W ⟨C.ct.sh.1, C.ct.sh.2.1, Nat.le_trans C.ct.sh.2.2 hn⟩ (fun x _ _ => rfl) rfl (fun x _ => rfl) (fun x _ => rfl) C.so C
theorem IM.sn {h : Mem} {a : AB} (M : IM h a) {n : Nat} (hn : mN h ≤ n) : IM (setN h n) a := by
  have sh : SH (setN h n) := ⟨M.sh.1, M.sh.2.1, Nat.le_trans M.sh.2.2 hn⟩
  obtain ⟨-, k1, k2, k3, k4, k5, k6, k7, k8, k9, k10⟩ := M
  refine ⟨sh, ?_, k2, k3, k4, k5, k6, k7, k8, k9, k10⟩
  rcases k1 with q | ⟨q1, ⟨-, q3, q4, q5⟩, q6, q7⟩
  · exact Or.inl q
  · exact Or.inr ⟨q1, ⟨sh, q3, q4, q5⟩, q6, Nat.le_trans q7 hn⟩
/-- the i-th person who was led by the nose -/
def lp (ν : RO) (i : Int32) (x : Nat) : Bool := decide (ν 3 x ≠ 0) && decide (nI (cn (fun y => decide (ν 3 y ≠ 0)) x) = i)
theorem c_led {h : Mem} {a : AB} (W : IW a) (C : IC h a) (i : Int32) : f_X11_led h 1 i = some (if ff (lp (a 1) i) (a 0 0 6) < a 0 0 6 then .inl (nI (ff (lp (a 1) i) (a 0 0 6))) else .inr ()) := by
  have hpe := W.rw.pe
  have q : iter (fun (s : Int32 × Int32) => b_X11_led_4 h 1 s.1 s.2) FU (i - nI (cn (fun y => decide (a 1 3 y ≠ 0)) 0), nI 0) = some (if ff (lp (a 1) i) (a 0 0 6) < a 0 0 6 then Sum.inl (nI (ff (lp (a 1) i) (a 0 0 6))) else Sum.inr ()) := by
    rcases Decidable.em (i < nI 0) with hi | hi
    · have hno : ∀ x, x < a 0 0 6 → lp (a 1) i x = false := by
        intro x hx
        unfold lp
        have := cn_le (fun y => decide (a 1 3 y ≠ 0)) x
        have h9 : nI (cn (fun y => decide (a 1 3 y ≠ 0)) x) ≠ i := by
          intro e
          rw [← e] at hi
          exact nI_pos (by omega) hi
        rw [Bool.and_eq_false_iff]
        exact Or.inr (decide_eq_false h9)
      have hff : ff (lp (a 1) i) (a 0 0 6) = a 0 0 6 := ff_eq (Nat.le_refl _) hno (fun q => by omega)
      rw [hff, if_neg (by omega)]
      have e0 : i - nI (cn (fun y => decide (a 1 3 y ≠ 0)) 0) = i := Int32.sub_zero i
      rw [e0]
      refine iter_exit (n := 99999) ?_
      show b_X11_led_4 h 1 i (nI 0) = _
      unfold b_X11_led_4
      simp only [ob, nI_lit, nI_add, pk_mul, nI_eq, nI_ltI, nI_leI, if_true, if_false, if_pos, if_neg, ck_of (tS_1 C.ct.sh), gR_of (tS_1 C.ct.sh), gI_of (tS_1 C.ct.sh), pI_of (tS_1 C.ct.sh), C.ct.rp, rS_1_2 C.ct.sh, rS_1_3 C.ct.sh, rS_1_4 C.ct.sh, rS_1_5 C.ct.sh, rS_1_6 C.ct.sh, rS_1_7 C.ct.sh, rS_1_8 C.ct.sh, rS_1_9 C.ct.sh, ck_of (tR C.ct.rd.rd), gR_of (tR C.ct.rd.rd), gI_of (tR C.ct.rd.rd), rR_9 C.ct.rd.rd, rR_10 C.ct.rd.rd, rR_11 C.ct.rd.rd, rR_12 C.ct.rd.rd, rR_13 C.ct.rd.rd, rR_14 C.ct.rd.rd, rR_15 C.ct.rd.rd, rR_16 C.ct.rd.rd, rR_17 C.ct.rd.rd, rR_18 C.ct.rd.rd, rR_19 C.ct.rd.rd, aI_of (tR_1 C.ct.rd.rd), aI_of (tR_2 C.ct.rd.rd), aI_of (tR_3 C.ct.rd.rd), aI_of (tR_4 C.ct.rd.rd), aI_of (tR_5 C.ct.rd.rd), aI_of (tR_6 C.ct.rd.rd), aI_of (tR_7 C.ct.rd.rd), aI_of (tR_8 C.ct.rd.rd), aI_of (tR_9 C.ct.rd.rd), C.ct.rd.sc, C.ct.rd.len, C.ct.rd.e1, C.ct.rd.e2, C.ct.rd.min, C.ct.rd.kd, C.ct.rd.gt, C.ct.rd.bt, C.ct.rd.ip, C.ct.rd.hd, c_refuse C.ct.sh, c_answer C.ct.sh, hi]
      simp (disch := omega) only [ob, nI_lit, nI_add, pk_mul, nI_eq, nI_ltI, nI_leI, if_true, if_false, if_pos, if_neg, ck_of (tS_1 C.ct.sh), gR_of (tS_1 C.ct.sh), gI_of (tS_1 C.ct.sh), pI_of (tS_1 C.ct.sh), C.ct.rp, rS_1_2 C.ct.sh, rS_1_3 C.ct.sh, rS_1_4 C.ct.sh, rS_1_5 C.ct.sh, rS_1_6 C.ct.sh, rS_1_7 C.ct.sh, rS_1_8 C.ct.sh, rS_1_9 C.ct.sh, ck_of (tR C.ct.rd.rd), gR_of (tR C.ct.rd.rd), gI_of (tR C.ct.rd.rd), rR_9 C.ct.rd.rd, rR_10 C.ct.rd.rd, rR_11 C.ct.rd.rd, rR_12 C.ct.rd.rd, rR_13 C.ct.rd.rd, rR_14 C.ct.rd.rd, rR_15 C.ct.rd.rd, rR_16 C.ct.rd.rd, rR_17 C.ct.rd.rd, rR_18 C.ct.rd.rd, rR_19 C.ct.rd.rd, aI_of (tR_1 C.ct.rd.rd), aI_of (tR_2 C.ct.rd.rd), aI_of (tR_3 C.ct.rd.rd), aI_of (tR_4 C.ct.rd.rd), aI_of (tR_5 C.ct.rd.rd), aI_of (tR_6 C.ct.rd.rd), aI_of (tR_7 C.ct.rd.rd), aI_of (tR_8 C.ct.rd.rd), aI_of (tR_9 C.ct.rd.rd), C.ct.rd.sc, C.ct.rd.len, C.ct.rd.e1, C.ct.rd.e2, C.ct.rd.min, C.ct.rd.kd, C.ct.rd.gt, C.ct.rd.bt, C.ct.rd.ip, C.ct.rd.hd, c_refuse C.ct.sh, c_answer C.ct.sh]
      split <;> rfl
    · obtain ⟨k, hk, rfl⟩ := nI_of hi
      have hle : ∀ x, x ≤ a 0 0 6 → (∀ j, j < x → lp (a 1) (nI k) j = false) → cn (fun y => decide (a 1 3 y ≠ 0)) x ≤ k := by
        intro x
        induction x with
        | zero => intro _ _; exact Nat.zero_le _
        | succ x ih =>
          intro hx hj
          have h1 := ih (by omega) (fun j hj' => hj j (by omega))
          have h2 := hj x (by omega)
          have h3 := cn_le (fun y => decide (a 1 3 y ≠ 0)) x
          show cn (fun y => decide (a 1 3 y ≠ 0)) x + (decide (a 1 3 x ≠ 0)).toNat ≤ k
          unfold lp at h2
          generalize cn (fun y => decide (a 1 3 y ≠ 0)) x = c at *
          rcases Decidable.em (a 1 3 x = 0) with e | e
          · simp [e]
            exact h1
          · simp [e] at h2
            simp [e]
            have : c ≠ k := fun e9 => h2 (by rw [e9])
            omega
      refine iter_ff2 (fun x => (nI k - nI (cn (fun y => decide (a 1 3 y ≠ 0)) x), nI x)) (lp (a 1) (nI k)) (a 0 0 6) (fun x => Sum.inl (nI x)) (Sum.inr ()) (FU_lt (by omega)) (fun x hx hj => ?_) (fun hj => ?_)
      · have h1 := hle x (by omega) hj
        have h3 := cn_le (fun y => decide (a 1 3 y ≠ 0)) x
        have h4 := W.nf.fg x hx
        unfold lp
        generalize hc : cn (fun y => decide (a 1 3 y ≠ 0)) x = c at *
        have hc1 : cn (fun y => decide (a 1 3 y ≠ 0)) (x + 1) = c + (decide (a 1 3 x ≠ 0)).toNat := by
          rw [← hc]
          rfl
        rw [hc1]
        unfold b_X11_led_4 f_X11_led_43
        simp (disch := omega) only [ob, nI_lit, nI_add, pk_mul, nI_eq, nI_ltI, nI_leI, if_true, if_false, if_pos, if_neg, ck_of (tS_1 C.ct.sh), gR_of (tS_1 C.ct.sh), gI_of (tS_1 C.ct.sh), pI_of (tS_1 C.ct.sh), C.ct.rp, rS_1_2 C.ct.sh, rS_1_3 C.ct.sh, rS_1_4 C.ct.sh, rS_1_5 C.ct.sh, rS_1_6 C.ct.sh, rS_1_7 C.ct.sh, rS_1_8 C.ct.sh, rS_1_9 C.ct.sh, ck_of (tR C.ct.rd.rd), gR_of (tR C.ct.rd.rd), gI_of (tR C.ct.rd.rd), rR_9 C.ct.rd.rd, rR_10 C.ct.rd.rd, rR_11 C.ct.rd.rd, rR_12 C.ct.rd.rd, rR_13 C.ct.rd.rd, rR_14 C.ct.rd.rd, rR_15 C.ct.rd.rd, rR_16 C.ct.rd.rd, rR_17 C.ct.rd.rd, rR_18 C.ct.rd.rd, rR_19 C.ct.rd.rd, aI_of (tR_1 C.ct.rd.rd), aI_of (tR_2 C.ct.rd.rd), aI_of (tR_3 C.ct.rd.rd), aI_of (tR_4 C.ct.rd.rd), aI_of (tR_5 C.ct.rd.rd), aI_of (tR_6 C.ct.rd.rd), aI_of (tR_7 C.ct.rd.rd), aI_of (tR_8 C.ct.rd.rd), aI_of (tR_9 C.ct.rd.rd), C.ct.rd.sc, C.ct.rd.len, C.ct.rd.e1, C.ct.rd.e2, C.ct.rd.min, C.ct.rd.kd, C.ct.rd.gt, C.ct.rd.bt, C.ct.rd.ip, C.ct.rd.hd, c_refuse C.ct.sh, c_answer C.ct.sh, pk_sub, c_of C.ct.sh C.nw]
        rcases Decidable.em (a 1 3 x = 0) with e | e
        · simp [e]
          rw [pk_sub h1]
        · rcases Decidable.em (c = k) with e2 | e2
          · subst e2
            simp [e]
          · simp (disch := omega) only [ob, nI_lit, nI_add, pk_mul, nI_eq, nI_ltI, nI_leI, if_true, if_false, if_pos, if_neg, nI_m1]
            simp [e]
            rw [pk_sub (show c + 1 ≤ k by omega), show k - c - 1 = k - (c + 1) by omega, if_neg e2]
      · unfold b_X11_led_4
        simp (disch := omega) only [ob, nI_lit, nI_add, pk_mul, nI_eq, nI_ltI, nI_leI, if_true, if_false, if_pos, if_neg, ck_of (tS_1 C.ct.sh), gR_of (tS_1 C.ct.sh), gI_of (tS_1 C.ct.sh), pI_of (tS_1 C.ct.sh), C.ct.rp, rS_1_2 C.ct.sh, rS_1_3 C.ct.sh, rS_1_4 C.ct.sh, rS_1_5 C.ct.sh, rS_1_6 C.ct.sh, rS_1_7 C.ct.sh, rS_1_8 C.ct.sh, rS_1_9 C.ct.sh, ck_of (tR C.ct.rd.rd), gR_of (tR C.ct.rd.rd), gI_of (tR C.ct.rd.rd), rR_9 C.ct.rd.rd, rR_10 C.ct.rd.rd, rR_11 C.ct.rd.rd, rR_12 C.ct.rd.rd, rR_13 C.ct.rd.rd, rR_14 C.ct.rd.rd, rR_15 C.ct.rd.rd, rR_16 C.ct.rd.rd, rR_17 C.ct.rd.rd, rR_18 C.ct.rd.rd, rR_19 C.ct.rd.rd, aI_of (tR_1 C.ct.rd.rd), aI_of (tR_2 C.ct.rd.rd), aI_of (tR_3 C.ct.rd.rd), aI_of (tR_4 C.ct.rd.rd), aI_of (tR_5 C.ct.rd.rd), aI_of (tR_6 C.ct.rd.rd), aI_of (tR_7 C.ct.rd.rd), aI_of (tR_8 C.ct.rd.rd), aI_of (tR_9 C.ct.rd.rd), C.ct.rd.sc, C.ct.rd.len, C.ct.rd.e1, C.ct.rd.e2, C.ct.rd.min, C.ct.rd.kd, C.ct.rd.gt, C.ct.rd.bt, C.ct.rd.ip, C.ct.rd.hd, c_refuse C.ct.sh, c_answer C.ct.sh]
  unfold f_X11_led
  have q' : iter (fun (s : Int32 × Int32) => b_X11_led_4 h 1 s.1 s.2) FU (i, 0) = some (if ff (lp (a 1) i) (a 0 0 6) < a 0 0 6 then Sum.inl (nI (ff (lp (a 1) i) (a 0 0 6))) else Sum.inr ()) := by
    rw [← q, show i - nI (cn (fun y => decide (a 1 3 y ≠ 0)) 0) = i from Int32.sub_zero i]
    rfl
  rw [ck_of (tS_1 C.ct.sh), ob, q', ob]
  split <;> rfl
theorem m_led {h : Mem} {a : AB} (W : IW a) (M0 : IM h a) (i : Int32) : f_X13_led h 55 i = some (if ff (lp (a 1) i) (a 0 0 6) < a 0 0 6 then (nI (ff (lp (a 1) i) (a 0 0 6)), wI h 55 0 (nI 0)) else (nI 0, wI (wI h 55 0 (nI 0)) 55 0 (nI 1))) := by
  have hpe := W.rw.pe
  unfold f_X13_led
  simp only [ck_of (tS_55 M0.sh), pI_of (tS_55 M0.sh), ob, nI_lit]
  obtain ⟨h1, eh, M⟩ : ∃ h1, wI h 55 0 (nI 0) = h1 ∧ IM h1 a := ⟨_, rfl, M0.th _⟩
  rw [eh]
  have q : iter (fun (s : Int32 × Int32) => b_X13_led_9 h1 55 i s.1 s.2) FU (nI 0, nI 0) = some (if ff (lp (a 1) i) (a 0 0 6) < a 0 0 6 then Sum.inl (nI (ff (lp (a 1) i) (a 0 0 6))) else Sum.inr ()) := by
    rcases Nat.eq_zero_or_pos (a 0 0 2) with e0 | e0
    · have e6 : a 0 0 6 = 0 := (W.un e0).2.2.1 0 6
      rw [e6, if_neg (by omega)]
      refine iter_exit (n := 99999) ?_
      show b_X13_led_9 h1 55 i (nI 0) (nI 0) = _
      unfold b_X13_led_9
      simp (disch := omega) only [ob, nI_lit, nI_add, pk_mul, nI_eq, nI_ltI, nI_leI, if_true, if_false, if_pos, if_neg, ck_of (tS_55 M.sh), gR_of (tS_55 M.sh), gI_of (tS_55 M.sh), pI_of (tS_55 M.sh), rS_55_16 M.sh, rS_55_17 M.sh, rS_55_18 M.sh, rS_55_21 M.sh, rS_55_25 M.sh, rS_55_26 M.sh, rS_55_27 M.sh, rS_55_28 M.sh, rS_55_32 M.sh, rS_55_33 M.sh, rS_55_34 M.sh, m_refused M.sh, m_good M.sh, m_null M e0]
    · have P := M.told e0
      have hz := P.nz
      refine iter_ff2 (fun x => (nI (cn (fun y => decide (a 1 3 y ≠ 0)) x), nI x)) (lp (a 1) i) (a 0 0 6) (fun x => Sum.inl (nI x)) (Sum.inr ()) (FU_lt (by omega)) (fun x hx hj => ?_) (fun hj => ?_)
      · have h4 := W.nf.fg x hx
        have n3 := M.nw.at x 3 (by omega) (by decide)
        simp only [Nat.reduceMul] at n3
        unfold lp
        generalize hc : cn (fun y => decide (a 1 3 y ≠ 0)) x = c at *
        have hc1 : cn (fun y => decide (a 1 3 y ≠ 0)) (x + 1) = c + (decide (a 1 3 x ≠ 0)).toNat := by
          rw [← hc]
          rfl
        rw [hc1]
        unfold b_X13_led_9 f_X13_led_52
        simp (disch := omega) only [ob, nI_lit, nI_add, pk_mul, nI_eq, nI_ltI, nI_leI, if_true, if_false, if_pos, if_neg, ck_of (tS_55 M.sh), gR_of (tS_55 M.sh), gI_of (tS_55 M.sh), pI_of (tS_55 M.sh), rS_55_16 M.sh, rS_55_17 M.sh, rS_55_18 M.sh, rS_55_21 M.sh, rS_55_25 M.sh, rS_55_26 M.sh, rS_55_27 M.sh, rS_55_28 M.sh, rS_55_32 M.sh, rS_55_33 M.sh, rS_55_34 M.sh, m_refused M.sh, m_good M.sh, P.pp, ck_of (tP P.rd.pk), gR_of (tP P.rd.pk), gI_of (tP P.rd.pk), rP_10 P.rd.pk, rP_11 P.rd.pk, rP_12 P.rd.pk, rP_13 P.rd.pk, rP_14 P.rd.pk, rP_15 P.rd.pk, rP_16 P.rd.pk, rP_17 P.rd.pk, rP_18 P.rd.pk, rP_19 P.rd.pk, rP_20 P.rd.pk, rP_21 P.rd.pk, rP_22 P.rd.pk, rP_23 P.rd.pk, rP_24 P.rd.pk, aI_of (tP_1 P.rd.pk), aI_of (tP_2 P.rd.pk), aI_of (tP_3 P.rd.pk), aI_of (tP_4 P.rd.pk), aI_of (tP_5 P.rd.pk), aI_of (tP_6 P.rd.pk), aI_of (tP_7 P.rd.pk), aI_of (tP_8 P.rd.pk), aI_of (tP_9 P.rd.pk), aI_of (tP_10 P.rd.pk), aI_of (tP_11 P.rd.pk), aI_of (tP_12 P.rd.pk), aI_of (tP_13 P.rd.pk), aI_of (tP_14 P.rd.pk), aI_of (tP_15 P.rd.pk), P.rd.sc, P.rd.len, P.rd.note, P.rd.min, P.rd.kd, P.rd.gt, P.rd.e1, P.rd.e2, P.rd.i8, P.rd.i9, P.rd.i10, P.rd.i11, P.rd.hd, aI_of (tS_57 M.sh), n3]
        rcases Decidable.em (a 1 3 x = 0) with e | e
        · simp [e]
        · rcases Decidable.em (nI c = i) with e2 | e2 <;> simp [e, e2]
      · unfold b_X13_led_9
        simp (disch := omega) only [ob, nI_lit, nI_add, pk_mul, nI_eq, nI_ltI, nI_leI, if_true, if_false, if_pos, if_neg, ck_of (tS_55 M.sh), gR_of (tS_55 M.sh), gI_of (tS_55 M.sh), pI_of (tS_55 M.sh), rS_55_16 M.sh, rS_55_17 M.sh, rS_55_18 M.sh, rS_55_21 M.sh, rS_55_25 M.sh, rS_55_26 M.sh, rS_55_27 M.sh, rS_55_28 M.sh, rS_55_32 M.sh, rS_55_33 M.sh, rS_55_34 M.sh, m_refused M.sh, m_good M.sh, P.pp, ck_of (tP P.rd.pk), gR_of (tP P.rd.pk), gI_of (tP P.rd.pk), rP_10 P.rd.pk, rP_11 P.rd.pk, rP_12 P.rd.pk, rP_13 P.rd.pk, rP_14 P.rd.pk, rP_15 P.rd.pk, rP_16 P.rd.pk, rP_17 P.rd.pk, rP_18 P.rd.pk, rP_19 P.rd.pk, rP_20 P.rd.pk, rP_21 P.rd.pk, rP_22 P.rd.pk, rP_23 P.rd.pk, rP_24 P.rd.pk, aI_of (tP_1 P.rd.pk), aI_of (tP_2 P.rd.pk), aI_of (tP_3 P.rd.pk), aI_of (tP_4 P.rd.pk), aI_of (tP_5 P.rd.pk), aI_of (tP_6 P.rd.pk), aI_of (tP_7 P.rd.pk), aI_of (tP_8 P.rd.pk), aI_of (tP_9 P.rd.pk), aI_of (tP_10 P.rd.pk), aI_of (tP_11 P.rd.pk), aI_of (tP_12 P.rd.pk), aI_of (tP_13 P.rd.pk), aI_of (tP_14 P.rd.pk), aI_of (tP_15 P.rd.pk), P.rd.sc, P.rd.len, P.rd.note, P.rd.min, P.rd.kd, P.rd.gt, P.rd.e1, P.rd.e2, P.rd.i8, P.rd.i9, P.rd.i10, P.rd.i11, P.rd.hd]
  simp only [q, ob]
  split
  · rfl
  · simp only [Sum.elim_inr, pI_of (tS_55 M.sh), ob]
theorem INV.th {h : Mem} {a : AB} {z : Nat} (W : IW a) (C : IC h a) (M : IM h a) (Z : IZ h a z) (v : Int32) : INV (wI h 55 0 v) := by
  have f := FM.w55 h (k := 0) v (by decide)
  have hne2 : ∀ x, x < 55 → x ∉ LM := by
    intro x hx hq
    simp only [LM, List.mem_cons, List.not_mem_nil, or_false] at hq
    omega
  have fI : ∀ x, x < 55 → mI (wI h 55 0 v) x = mI h x := fun x hx => f.1.2.2.2.2 x (hne2 x hx)
  refine ⟨a, z, W, ?_, M.th _, Z.lt, ?_, ?_, ?_⟩
  · exact C.fr W (f.1.sh M.sh) (fun x hx _ => fI x hx) rfl (fun _ _ => rfl) (fun _ _ => rfl) (C.so.fr (fI 43 (by decide)) (fI 44 (by decide)) (fI 45 (by decide)) (fI 46 (by decide)))
  · rw [fI 1 (by decide)]; exact Z.c
  · rw [mI_wI_at, pk_un (by decide)]; exact Z.m
  · rw [mI_wI_at, pk_un (by decide)]; exact Z.w
theorem wI2 (h : Mem) (x k : Nat) (u v : Int32) : wI (wI h x k u) x k v = wI h x k v := by
  refine mem_ext (fun y => ?_) rfl rfl rfl rfl
  rcases Decidable.em (y = x) with q | q
  · subst q
    rw [mI_wI_at, mI_wI_at, mI_wI_at]
    funext j
    unfold upd
    split <;> rfl
  · rw [mI_wI_ne _ _ _ q, mI_wI_ne _ _ _ q, mI_wI_ne _ _ _ q]
theorem st_48 : StepLed INV := by
  intro sc L i h hL hi hI
  obtain ⟨a, z, W, C, M, Z⟩ := hI
  refine ⟨fun q => q = (if ff (lp (a 1) (sc (i + 1))) (a 0 0 6) < a 0 0 6 then .inl (nI (ff (lp (a 1) (sc (i + 1))) (a 0 0 6))) else .inr ()), ⟨_, c_led W C _, rfl⟩, fun x hx => ?_, fun hx n hn => ?_⟩
  · rcases Nat.lt_or_ge (ff (lp (a 1) (sc (i + 1))) (a 0 0 6)) (a 0 0 6) with c | c
    · rw [if_pos c] at hx
      have hx := Sum.inl.inj hx
      subst hx
      have e68 := sL_of (i := 0) (v := (nI (ff (lp (a 1) (sc (i + 1))) (a 0 0 6))).toInt64) (tS_68 M.sh) (by decide) (by decide)
      refine ⟨_, e68, ?_⟩
      have M' := M.sl (nI (ff (lp (a 1) (sc (i + 1))) (a 0 0 6))).toInt64
      have C' := C.sl W (nI (ff (lp (a 1) (sc (i + 1))) (a 0 0 6))).toInt64
      have Z' : IZ (wL h 68 0 (nI (ff (lp (a 1) (sc (i + 1))) (a 0 0 6))).toInt64) a z := Z
      have ml := m_led W M' (sc (i + 1))
      rw [if_pos c] at ml
      generalize hg : wL h 68 0 (nI (ff (lp (a 1) (sc (i + 1))) (a 0 0 6))).toInt64 = g at *
      have S1 : SH (wI g 55 0 (nI 0)) := M'.sh
      have e9 : mL (wI g 55 0 (nI 0)) 68 0 = (nI (ff (lp (a 1) (sc (i + 1))) (a 0 0 6))).toInt64 := by
        rw [mL_wI, ← hg, mL_wL_at, pk_uLs]
      have a9 := aL_of (i := 0) (tS_68 S1) (by decide) (by decide)
      rw [e9] at a9
      unfold lc_48b f_X13_thrown
      simp only [show (1 : Int32) = nI 1 from rfl, show (2 : Int32) = nI 2 from rfl, show (3 : Int32) = nI 3 from rfl, show (4 : Int32) = nI 4 from rfl, show (5 : Int32) = nI 5 from rfl, nI_add, sc_at hL (show i + 1 < L by omega), sc_at hL (show i + 2 < L by omega), sc_at hL (show i + 3 < L by omega), sc_at hL (show i + 4 < L by omega), sc_at hL (show i + 5 < L by omega), ob]
      simp only [nI_lit, ml, ob, ck_of (tS_55 S1), gI_of (tS_55 S1), mI_wI_at, pk_us, if_true, a9, (lg_cmp_eq _ _).mpr rfl]
      exact ⟨_, rfl, INV.th W C' M' Z' _⟩
    · rw [if_neg (by omega)] at hx
      cases hx
  · rcases Nat.lt_or_ge (ff (lp (a 1) (sc (i + 1))) (a 0 0 6)) (a 0 0 6) with c | c
    · rw [if_pos c] at hx
      cases hx
    · have M' := M.sn hn
      have C' := C.sn W hn
      have Z' : IZ (setN h n) a z := Z
      have ml := m_led W M' (sc (i + 1))
      rw [if_neg (by omega), wI2] at ml
      generalize setN h n = g at *
      have S1 : SH (wI g 55 0 (nI 1)) := M'.sh
      have e10 : ¬ nI 1 = nI 0 := by decide
      unfold lc_48b f_X13_thrown
      simp only [show (1 : Int32) = nI 1 from rfl, show (2 : Int32) = nI 2 from rfl, show (3 : Int32) = nI 3 from rfl, show (4 : Int32) = nI 4 from rfl, show (5 : Int32) = nI 5 from rfl, nI_add, sc_at hL (show i + 1 < L by omega), sc_at hL (show i + 2 < L by omega), sc_at hL (show i + 3 < L by omega), sc_at hL (show i + 4 < L by omega), sc_at hL (show i + 5 < L by omega), ob]
      simp only [nI_lit, ml, ob, ck_of (tS_55 S1), gI_of (tS_55 S1), mI_wI_at, pk_us, if_true, e10, if_false]
      exact ⟨_, rfl, INV.th W C' M' Z' _⟩
