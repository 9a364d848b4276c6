/-! ===== rows, could, surely, ask, askLeaves ===== -/
/-- rows with the k-th place q -/
def rwN (ρ : RO) (k q : Nat) : Nat := ub ρ k q * de ρ (ρ 0 8 - k) q
theorem ub_le {ρ : RO} (W : RW ρ) : ∀ k q, ub ρ k q ≤ 7 ^ k
  | 0, q => Nat.le_refl 1
  | k + 1, q => by
    have ih := ub_le W k
    have h1 : su (fun p => if hs ρ p q k then ub ρ k p else 0) (ρ 0 2) ≤ su (fun _ => 7 ^ k) (ρ 0 2) := su_le (fun p _ => by
      split
      · exact ih p
      · exact Nat.zero_le _)
    rw [su_const] at h1
    show su (fun p => if hs ρ p q k then ub ρ k p else 0) (ρ 0 2) ≤ 7 ^ (k + 1)
    rw [Nat.pow_succ]
    exact Nat.le_trans h1 (Nat.mul_le_mul_left _ W.pl)
theorem de_le {ρ : RO} (W : RW ρ) : ∀ k q, de ρ k q ≤ 7 ^ k
  | 0, q => Nat.le_refl 1
  | k + 1, q => by
    have ih := de_le W k
    have h1 : su (fun p => if hs ρ q p (ρ 0 8 - 1 - k) then de ρ k p else 0) (ρ 0 2) ≤ su (fun _ => 7 ^ k) (ρ 0 2) := su_le (fun p _ => by
      split
      · exact ih p
      · exact Nat.zero_le _)
    rw [su_const] at h1
    show su (fun p => if hs ρ q p (ρ 0 8 - 1 - k) then de ρ k p else 0) (ρ 0 2) ≤ 7 ^ (k + 1)
    rw [Nat.pow_succ]
    exact Nat.le_trans h1 (Nat.mul_le_mul_left _ W.pl)
theorem rwN_le {ρ : RO} (W : RW ρ) {k : Nat} (hk : k ≤ ρ 0 8) (q : Nat) : rwN ρ k q ≤ 16807 := by
  have h1 := ub_le W k q
  have h2 := de_le W (ρ 0 8 - k) q
  have h3 := Nat.mul_le_mul h1 h2
  rw [← Nat.pow_add, show k + (ρ 0 8 - k) = ρ 0 8 by omega] at h3
  have h4 : 7 ^ ρ 0 8 ≤ 7 ^ 5 := Nat.pow_le_pow_right (by decide) W.he
  unfold rwN
  omega
def paN (ρ : RO) (k n : Nat) : Nat := fo (fun q s => s ||| if 0 < rwN ρ k q then 2 ^ q else 0) 0 n
theorem paN_lt (ρ : RO) (k : Nat) : ∀ n, paN ρ k n < 2 ^ n
  | 0 => by
    show (0 : Nat) < 1
    decide
  | n + 1 => by
    have ih := paN_lt ρ k n
    have h1 := two_le (show n ≤ n + 1 by omega)
    have h2 : (2 : Nat) ^ n < 2 ^ (n + 1) := Nat.pow_lt_pow_right (by decide) (by omega)
    show (paN ρ k n ||| _) < _
    exact Nat.or_lt_two_pow (by omega) (by split <;> omega)
def mlN (ρ : RO) (k n : Nat) : Nat := fo (fun q m => max m (rwN ρ k q)) 0 n
theorem mlN_le {ρ : RO} (W : RW ρ) {k : Nat} (hk : k ≤ ρ 0 8) : ∀ n, mlN ρ k n ≤ 16807
  | 0 => Nat.zero_le _
  | n + 1 => Nat.max_le.mpr ⟨mlN_le W hk n, rwN_le W hk n⟩
def akf (ρ : RO) (k b : Nat) : Nat := if mlN ρ k (ρ 0 2) < mlN ρ b (ρ 0 2) then k else b
def akN (ρ : RO) (n : Nat) : Nat := fo (akf ρ) 0 n
theorem akN_le (ρ : RO) : ∀ n, akN ρ (n + 1) ≤ n
  | 0 => by
    show akf ρ 0 0 ≤ 0
    unfold akf
    split <;> omega
  | n + 1 => by
    have ih := akN_le ρ n
    show akf ρ (n + 1) (akN ρ (n + 1)) ≤ n + 1
    unfold akf
    split <;> omega
def alN (ρ : RO) : Nat := su (de ρ (ρ 0 8)) (ρ 0 2)
theorem alN_le {ρ : RO} (W : RW ρ) : alN ρ ≤ 117649 := by
  have h1 : alN ρ ≤ su (fun _ => 16807) (ρ 0 2) := su_le (fun q _ => by
    have h2 := de_le W (ρ 0 8) q
    have h4 : 7 ^ ρ 0 8 ≤ 7 ^ 5 := Nat.pow_le_pow_right (by decide) W.he
    omega)
  rw [su_const] at h1
  have := W.pl
  omega
section
variable {h : Mem} {a : AB}
theorem c_rw (W : IW a) (C : IC h a) {k q : Nat} (hk : k ≤ a 0 0 8) (hq : q < a 0 0 2) : f_X7_rowsWith h 51 (nI k) (nI q) = some (nI (rwN (a 0) k q)) := by
  have := W.rw.he
  have := W.rw.pl
  unfold f_X7_rowsWith rwN
  simp (disch := omega) only [ob, nI_lit, nI_add, pk_mul, nI_eq, nI_ltI, nI_leI, if_true, if_false, if_pos, if_neg, ck_of (tS_51 C.ct.sh), gR_of (tS_51 C.ct.sh), rS_51_0 C.ct.sh, rS_51_1 C.ct.sh, aI_of (tS_52 C.ct.sh), aI_of (tS_53 C.ct.sh), C.st.up, C.st.dn]
theorem c_all (W : IW a) (C : IC h a) : f_X7_allRows h 51 (a 2 0 0) = some (nI (alN (a 0))) := by
  have := W.rw.pl
  have q : iter (fun (s : Int32 × Int32) => b_X7_allRows_4 h 51 (a 2 0 0) s.1 s.2) FU (nI 0, nI 0) = some (nI (alN (a 0))) := by
    refine iter_fo (fun a i => (nI a, nI i)) (fun i s => s + de (a 0) (a 0 0 8) i) 0 (a 0 0 2) (FU_lt (by omega)) (fun i s hi => ?_) ?_
    · have e : rwN (a 0) 0 i = de (a 0) (a 0 0 8) i := Nat.one_mul _
      unfold b_X7_allRows_4
      simp (disch := omega) only [ob, nI_lit, nI_add, pk_mul, nI_eq, nI_ltI, nI_leI, if_true, if_false, if_pos, if_neg, ck_of (tS_1 C.ct.sh), gR_of (tS_1 C.ct.sh), gI_of (tS_1 C.ct.sh), pI_of (tS_1 C.ct.sh), C.ct.rp, rS_1_2 C.ct.sh, rS_1_3 C.ct.sh, rS_1_4 C.ct.sh, rS_1_5 C.ct.sh, rS_1_6 C.ct.sh, rS_1_7 C.ct.sh, rS_1_8 C.ct.sh, rS_1_9 C.ct.sh, ck_of (tR C.ct.rd.rd), gR_of (tR C.ct.rd.rd), gI_of (tR C.ct.rd.rd), rR_9 C.ct.rd.rd, rR_10 C.ct.rd.rd, rR_11 C.ct.rd.rd, rR_12 C.ct.rd.rd, rR_13 C.ct.rd.rd, rR_14 C.ct.rd.rd, rR_15 C.ct.rd.rd, rR_16 C.ct.rd.rd, rR_17 C.ct.rd.rd, rR_18 C.ct.rd.rd, rR_19 C.ct.rd.rd, aI_of (tR_1 C.ct.rd.rd), aI_of (tR_2 C.ct.rd.rd), aI_of (tR_3 C.ct.rd.rd), aI_of (tR_4 C.ct.rd.rd), aI_of (tR_5 C.ct.rd.rd), aI_of (tR_6 C.ct.rd.rd), aI_of (tR_7 C.ct.rd.rd), aI_of (tR_8 C.ct.rd.rd), aI_of (tR_9 C.ct.rd.rd), C.ct.rd.sc, C.ct.rd.len, C.ct.rd.e1, C.ct.rd.e2, C.ct.rd.min, C.ct.rd.kd, C.ct.rd.gt, C.ct.rd.bt, C.ct.rd.ip, C.ct.rd.hd, c_refuse C.ct.sh, c_answer C.ct.sh, c_rw W C (Nat.zero_le _) hi, e]
    · unfold b_X7_allRows_4
      simp (disch := omega) only [ob, nI_lit, nI_add, pk_mul, nI_eq, nI_ltI, nI_leI, if_true, if_false, if_pos, if_neg, ck_of (tS_1 C.ct.sh), gR_of (tS_1 C.ct.sh), gI_of (tS_1 C.ct.sh), pI_of (tS_1 C.ct.sh), C.ct.rp, rS_1_2 C.ct.sh, rS_1_3 C.ct.sh, rS_1_4 C.ct.sh, rS_1_5 C.ct.sh, rS_1_6 C.ct.sh, rS_1_7 C.ct.sh, rS_1_8 C.ct.sh, rS_1_9 C.ct.sh, ck_of (tR C.ct.rd.rd), gR_of (tR C.ct.rd.rd), gI_of (tR C.ct.rd.rd), rR_9 C.ct.rd.rd, rR_10 C.ct.rd.rd, rR_11 C.ct.rd.rd, rR_12 C.ct.rd.rd, rR_13 C.ct.rd.rd, rR_14 C.ct.rd.rd, rR_15 C.ct.rd.rd, rR_16 C.ct.rd.rd, rR_17 C.ct.rd.rd, rR_18 C.ct.rd.rd, rR_19 C.ct.rd.rd, aI_of (tR_1 C.ct.rd.rd), aI_of (tR_2 C.ct.rd.rd), aI_of (tR_3 C.ct.rd.rd), aI_of (tR_4 C.ct.rd.rd), aI_of (tR_5 C.ct.rd.rd), aI_of (tR_6 C.ct.rd.rd), aI_of (tR_7 C.ct.rd.rd), aI_of (tR_8 C.ct.rd.rd), aI_of (tR_9 C.ct.rd.rd), C.ct.rd.sc, C.ct.rd.len, C.ct.rd.e1, C.ct.rd.e2, C.ct.rd.min, C.ct.rd.kd, C.ct.rd.gt, C.ct.rd.bt, C.ct.rd.ip, C.ct.rd.hd, c_refuse C.ct.sh, c_answer C.ct.sh]
      rfl
  unfold f_X7_allRows
  simp (disch := omega) only [ob, nI_lit, nI_add, pk_mul, nI_eq, nI_ltI, nI_leI, if_true, if_false, if_pos, if_neg, ck_of (tS_51 C.ct.sh), q]
theorem c_pa (W : IW a) (C : IC h a) {k : Nat} (hk : k ≤ a 0 0 8) : f_X7_placesAt h 51 (a 2 0 0) (nI k) = some (nI (paN (a 0) k (a 0 0 2))) := by
  have hpl := W.rw.pl
  have q : iter (fun (s : Int32 × Int32) => b_X7_placesAt_5 h 51 (a 2 0 0) (nI k) s.1 s.2) FU (nI 0, nI 0) = some (nI (paN (a 0) k (a 0 0 2))) := by
    refine iter_for (fun i => (nI (paN (a 0) k i), nI i)) (a 0 0 2) (FU_lt (by omega)) (fun i hi => ?_) ?_
    · have h1 := paN_lt (a 0) k i
      have h2 := two_le (show i ≤ 7 by omega)
      have h3 := rwN_le W.rw hk i
      have hsh : nI 1 <<< (nI i &&& nI 31) = nI (2 ^ i) := nI_sh1 (by omega)
      show b_X7_placesAt_5 h 51 (a 2 0 0) (nI k) (nI (paN (a 0) k i)) (nI i) = some (Sum.inl (nI (paN (a 0) k i ||| if 0 < rwN (a 0) k i then 2 ^ i else 0), nI (i + 1)))
      unfold b_X7_placesAt_5 f_X7_placesAt_33
      simp (disch := omega) only [ob, nI_lit, nI_add, pk_mul, nI_eq, nI_ltI, nI_leI, if_true, if_false, if_pos, if_neg, ck_of (tS_1 C.ct.sh), gR_of (tS_1 C.ct.sh), gI_of (tS_1 C.ct.sh), pI_of (tS_1 C.ct.sh), C.ct.rp, rS_1_2 C.ct.sh, rS_1_3 C.ct.sh, rS_1_4 C.ct.sh, rS_1_5 C.ct.sh, rS_1_6 C.ct.sh, rS_1_7 C.ct.sh, rS_1_8 C.ct.sh, rS_1_9 C.ct.sh, ck_of (tR C.ct.rd.rd), gR_of (tR C.ct.rd.rd), gI_of (tR C.ct.rd.rd), rR_9 C.ct.rd.rd, rR_10 C.ct.rd.rd, rR_11 C.ct.rd.rd, rR_12 C.ct.rd.rd, rR_13 C.ct.rd.rd, rR_14 C.ct.rd.rd, rR_15 C.ct.rd.rd, rR_16 C.ct.rd.rd, rR_17 C.ct.rd.rd, rR_18 C.ct.rd.rd, rR_19 C.ct.rd.rd, aI_of (tR_1 C.ct.rd.rd), aI_of (tR_2 C.ct.rd.rd), aI_of (tR_3 C.ct.rd.rd), aI_of (tR_4 C.ct.rd.rd), aI_of (tR_5 C.ct.rd.rd), aI_of (tR_6 C.ct.rd.rd), aI_of (tR_7 C.ct.rd.rd), aI_of (tR_8 C.ct.rd.rd), aI_of (tR_9 C.ct.rd.rd), C.ct.rd.sc, C.ct.rd.len, C.ct.rd.e1, C.ct.rd.e2, C.ct.rd.min, C.ct.rd.kd, C.ct.rd.gt, C.ct.rd.bt, C.ct.rd.ip, C.ct.rd.hd, c_refuse C.ct.sh, c_answer C.ct.sh, c_rw W C hk hi, hsh, nI_or]
      rcases Nat.eq_zero_or_pos (rwN (a 0) k i) with e | e
      · rw [if_pos (by omega), if_neg (by omega)]
      · rw [if_neg (by omega), if_pos e]
    · unfold b_X7_placesAt_5
      simp (disch := omega) only [ob, nI_lit, nI_add, pk_mul, nI_eq, nI_ltI, nI_leI, if_true, if_false, if_pos, if_neg, ck_of (tS_1 C.ct.sh), gR_of (tS_1 C.ct.sh), gI_of (tS_1 C.ct.sh), pI_of (tS_1 C.ct.sh), C.ct.rp, rS_1_2 C.ct.sh, rS_1_3 C.ct.sh, rS_1_4 C.ct.sh, rS_1_5 C.ct.sh, rS_1_6 C.ct.sh, rS_1_7 C.ct.sh, rS_1_8 C.ct.sh, rS_1_9 C.ct.sh, ck_of (tR C.ct.rd.rd), gR_of (tR C.ct.rd.rd), gI_of (tR C.ct.rd.rd), rR_9 C.ct.rd.rd, rR_10 C.ct.rd.rd, rR_11 C.ct.rd.rd, rR_12 C.ct.rd.rd, rR_13 C.ct.rd.rd, rR_14 C.ct.rd.rd, rR_15 C.ct.rd.rd, rR_16 C.ct.rd.rd, rR_17 C.ct.rd.rd, rR_18 C.ct.rd.rd, rR_19 C.ct.rd.rd, aI_of (tR_1 C.ct.rd.rd), aI_of (tR_2 C.ct.rd.rd), aI_of (tR_3 C.ct.rd.rd), aI_of (tR_4 C.ct.rd.rd), aI_of (tR_5 C.ct.rd.rd), aI_of (tR_6 C.ct.rd.rd), aI_of (tR_7 C.ct.rd.rd), aI_of (tR_8 C.ct.rd.rd), aI_of (tR_9 C.ct.rd.rd), C.ct.rd.sc, C.ct.rd.len, C.ct.rd.e1, C.ct.rd.e2, C.ct.rd.min, C.ct.rd.kd, C.ct.rd.gt, C.ct.rd.bt, C.ct.rd.ip, C.ct.rd.hd, c_refuse C.ct.sh, c_answer C.ct.sh]
  unfold f_X7_placesAt
  simp (disch := omega) only [ob, nI_lit, nI_add, pk_mul, nI_eq, nI_ltI, nI_leI, if_true, if_false, if_pos, if_neg, ck_of (tS_51 C.ct.sh), q]
theorem c_ml (W : IW a) (C : IC h a) {k : Nat} (hk : k ≤ a 0 0 8) : f_X7_mostLeft h 51 (a 2 0 0) (nI k) = some (nI (mlN (a 0) k (a 0 0 2))) := by
  have hpl := W.rw.pl
  have q : iter (fun (s : Int32 × Int32) => b_X7_mostLeft_5 h 51 (a 2 0 0) (nI k) s.1 s.2) FU (nI 0, nI 0) = some (nI (mlN (a 0) k (a 0 0 2))) := by
    refine iter_for (fun i => (nI (mlN (a 0) k i), nI i)) (a 0 0 2) (FU_lt (by omega)) (fun i hi => ?_) ?_
    · have h1 := mlN_le W.rw hk i
      have h3 := rwN_le W.rw hk i
      unfold b_X7_mostLeft_5
      simp (disch := omega) only [ob, nI_lit, nI_add, pk_mul, nI_eq, nI_ltI, nI_leI, if_true, if_false, if_pos, if_neg, ck_of (tS_1 C.ct.sh), gR_of (tS_1 C.ct.sh), gI_of (tS_1 C.ct.sh), pI_of (tS_1 C.ct.sh), C.ct.rp, rS_1_2 C.ct.sh, rS_1_3 C.ct.sh, rS_1_4 C.ct.sh, rS_1_5 C.ct.sh, rS_1_6 C.ct.sh, rS_1_7 C.ct.sh, rS_1_8 C.ct.sh, rS_1_9 C.ct.sh, ck_of (tR C.ct.rd.rd), gR_of (tR C.ct.rd.rd), gI_of (tR C.ct.rd.rd), rR_9 C.ct.rd.rd, rR_10 C.ct.rd.rd, rR_11 C.ct.rd.rd, rR_12 C.ct.rd.rd, rR_13 C.ct.rd.rd, rR_14 C.ct.rd.rd, rR_15 C.ct.rd.rd, rR_16 C.ct.rd.rd, rR_17 C.ct.rd.rd, rR_18 C.ct.rd.rd, rR_19 C.ct.rd.rd, aI_of (tR_1 C.ct.rd.rd), aI_of (tR_2 C.ct.rd.rd), aI_of (tR_3 C.ct.rd.rd), aI_of (tR_4 C.ct.rd.rd), aI_of (tR_5 C.ct.rd.rd), aI_of (tR_6 C.ct.rd.rd), aI_of (tR_7 C.ct.rd.rd), aI_of (tR_8 C.ct.rd.rd), aI_of (tR_9 C.ct.rd.rd), C.ct.rd.sc, C.ct.rd.len, C.ct.rd.e1, C.ct.rd.e2, C.ct.rd.min, C.ct.rd.kd, C.ct.rd.gt, C.ct.rd.bt, C.ct.rd.ip, C.ct.rd.hd, c_refuse C.ct.sh, c_answer C.ct.sh, c_rw W C hk hi, mMax_n]
      rfl
    · unfold b_X7_mostLeft_5
      simp (disch := omega) only [ob, nI_lit, nI_add, pk_mul, nI_eq, nI_ltI, nI_leI, if_true, if_false, if_pos, if_neg, ck_of (tS_1 C.ct.sh), gR_of (tS_1 C.ct.sh), gI_of (tS_1 C.ct.sh), pI_of (tS_1 C.ct.sh), C.ct.rp, rS_1_2 C.ct.sh, rS_1_3 C.ct.sh, rS_1_4 C.ct.sh, rS_1_5 C.ct.sh, rS_1_6 C.ct.sh, rS_1_7 C.ct.sh, rS_1_8 C.ct.sh, rS_1_9 C.ct.sh, ck_of (tR C.ct.rd.rd), gR_of (tR C.ct.rd.rd), gI_of (tR C.ct.rd.rd), rR_9 C.ct.rd.rd, rR_10 C.ct.rd.rd, rR_11 C.ct.rd.rd, rR_12 C.ct.rd.rd, rR_13 C.ct.rd.rd, rR_14 C.ct.rd.rd, rR_15 C.ct.rd.rd, rR_16 C.ct.rd.rd, rR_17 C.ct.rd.rd, rR_18 C.ct.rd.rd, rR_19 C.ct.rd.rd, aI_of (tR_1 C.ct.rd.rd), aI_of (tR_2 C.ct.rd.rd), aI_of (tR_3 C.ct.rd.rd), aI_of (tR_4 C.ct.rd.rd), aI_of (tR_5 C.ct.rd.rd), aI_of (tR_6 C.ct.rd.rd), aI_of (tR_7 C.ct.rd.rd), aI_of (tR_8 C.ct.rd.rd), aI_of (tR_9 C.ct.rd.rd), C.ct.rd.sc, C.ct.rd.len, C.ct.rd.e1, C.ct.rd.e2, C.ct.rd.min, C.ct.rd.kd, C.ct.rd.gt, C.ct.rd.bt, C.ct.rd.ip, C.ct.rd.hd, c_refuse C.ct.sh, c_answer C.ct.sh]
  unfold f_X7_mostLeft
  simp (disch := omega) only [ob, nI_lit, nI_add, pk_mul, nI_eq, nI_ltI, nI_leI, if_true, if_false, if_pos, if_neg, ck_of (tS_51 C.ct.sh), q]
theorem c_ak (W : IW a) (C : IC h a) : f_X7_whatToAsk h 51 (a 2 0 0) = some (if alN (a 0) = 0 then -nI 2 else nI (akN (a 0) (a 0 0 8 + 1))) := by
  have hhe := W.rw.he
  have hal := alN_le W.rw
  have q : iter (fun (s : Int32 × Int32) => b_X7_whatToAsk_15 h 51 (a 2 0 0) s.1 s.2) FU (nI 0, nI 1) = some (nI (akN (a 0) (a 0 0 8 + 1))) := by
    have e1 : akN (a 0) 1 = 0 := Nat.le_zero.mp (akN_le (a 0) 0)
    have q := iter_from (f := fun (s : Int32 × Int32) => b_X7_whatToAsk_15 h 51 (a 2 0 0) s.1 s.2) (fun i => (nI (akN (a 0) i), nI i)) 1 (a 0 0 8 + 1) (N := FU) (r := nI (akN (a 0) (a 0 0 8 + 1))) (by omega) (FU_lt (by omega)) (fun i h1 h2 => ?_) ?_
    · simp only [e1] at q
      exact q
    · obtain ⟨j, rfl⟩ : ∃ j, i = j + 1 := ⟨i - 1, by omega⟩
      have h3 := akN_le (a 0) j
      have h4 := mlN_le W.rw (show j + 1 ≤ a 0 0 8 by omega) (a 0 0 2)
      have h5 := mlN_le W.rw (show akN (a 0) (j + 1) ≤ a 0 0 8 by omega) (a 0 0 2)
      show b_X7_whatToAsk_15 h 51 (a 2 0 0) (nI (akN (a 0) (j + 1))) (nI (j + 1)) = some (Sum.inl (nI (akf (a 0) (j + 1) (akN (a 0) (j + 1))), nI (j + 1 + 1)))
      unfold b_X7_whatToAsk_15 f_X7_whatToAsk_40 akf
      simp (disch := omega) only [ob, nI_lit, nI_add, pk_mul, nI_eq, nI_ltI, nI_leI, if_true, if_false, if_pos, if_neg, ck_of (tS_1 C.ct.sh), gR_of (tS_1 C.ct.sh), gI_of (tS_1 C.ct.sh), pI_of (tS_1 C.ct.sh), C.ct.rp, rS_1_2 C.ct.sh, rS_1_3 C.ct.sh, rS_1_4 C.ct.sh, rS_1_5 C.ct.sh, rS_1_6 C.ct.sh, rS_1_7 C.ct.sh, rS_1_8 C.ct.sh, rS_1_9 C.ct.sh, ck_of (tR C.ct.rd.rd), gR_of (tR C.ct.rd.rd), gI_of (tR C.ct.rd.rd), rR_9 C.ct.rd.rd, rR_10 C.ct.rd.rd, rR_11 C.ct.rd.rd, rR_12 C.ct.rd.rd, rR_13 C.ct.rd.rd, rR_14 C.ct.rd.rd, rR_15 C.ct.rd.rd, rR_16 C.ct.rd.rd, rR_17 C.ct.rd.rd, rR_18 C.ct.rd.rd, rR_19 C.ct.rd.rd, aI_of (tR_1 C.ct.rd.rd), aI_of (tR_2 C.ct.rd.rd), aI_of (tR_3 C.ct.rd.rd), aI_of (tR_4 C.ct.rd.rd), aI_of (tR_5 C.ct.rd.rd), aI_of (tR_6 C.ct.rd.rd), aI_of (tR_7 C.ct.rd.rd), aI_of (tR_8 C.ct.rd.rd), aI_of (tR_9 C.ct.rd.rd), C.ct.rd.sc, C.ct.rd.len, C.ct.rd.e1, C.ct.rd.e2, C.ct.rd.min, C.ct.rd.kd, C.ct.rd.gt, C.ct.rd.bt, C.ct.rd.ip, C.ct.rd.hd, c_refuse C.ct.sh, c_answer C.ct.sh, c_ml W C (show j + 1 ≤ a 0 0 8 by omega), c_ml W C (show akN (a 0) (j + 1) ≤ a 0 0 8 by omega)]
      rcases Nat.lt_or_ge (mlN (a 0) (j + 1) (a 0 0 2)) (mlN (a 0) (akN (a 0) (j + 1)) (a 0 0 2)) with c | c
      · rw [if_neg (by omega), if_pos c]
      · rw [if_pos c, if_neg (by omega)]
    · show b_X7_whatToAsk_15 h 51 (a 2 0 0) (nI (akN (a 0) (a 0 0 8 + 1))) (nI (a 0 0 8 + 1)) = _
      unfold b_X7_whatToAsk_15
      simp (disch := omega) only [ob, nI_lit, nI_add, pk_mul, nI_eq, nI_ltI, nI_leI, if_true, if_false, if_pos, if_neg, ck_of (tS_1 C.ct.sh), gR_of (tS_1 C.ct.sh), gI_of (tS_1 C.ct.sh), pI_of (tS_1 C.ct.sh), C.ct.rp, rS_1_2 C.ct.sh, rS_1_3 C.ct.sh, rS_1_4 C.ct.sh, rS_1_5 C.ct.sh, rS_1_6 C.ct.sh, rS_1_7 C.ct.sh, rS_1_8 C.ct.sh, rS_1_9 C.ct.sh, ck_of (tR C.ct.rd.rd), gR_of (tR C.ct.rd.rd), gI_of (tR C.ct.rd.rd), rR_9 C.ct.rd.rd, rR_10 C.ct.rd.rd, rR_11 C.ct.rd.rd, rR_12 C.ct.rd.rd, rR_13 C.ct.rd.rd, rR_14 C.ct.rd.rd, rR_15 C.ct.rd.rd, rR_16 C.ct.rd.rd, rR_17 C.ct.rd.rd, rR_18 C.ct.rd.rd, rR_19 C.ct.rd.rd, aI_of (tR_1 C.ct.rd.rd), aI_of (tR_2 C.ct.rd.rd), aI_of (tR_3 C.ct.rd.rd), aI_of (tR_4 C.ct.rd.rd), aI_of (tR_5 C.ct.rd.rd), aI_of (tR_6 C.ct.rd.rd), aI_of (tR_7 C.ct.rd.rd), aI_of (tR_8 C.ct.rd.rd), aI_of (tR_9 C.ct.rd.rd), C.ct.rd.sc, C.ct.rd.len, C.ct.rd.e1, C.ct.rd.e2, C.ct.rd.min, C.ct.rd.kd, C.ct.rd.gt, C.ct.rd.bt, C.ct.rd.ip, C.ct.rd.hd, c_refuse C.ct.sh, c_answer C.ct.sh]
  unfold f_X7_whatToAsk
  simp (disch := omega) only [ob, nI_lit, nI_add, pk_mul, nI_eq, nI_ltI, nI_leI, if_true, if_false, if_pos, if_neg, ck_of (tS_51 C.ct.sh), c_all W C, q]
  split <;> rfl
theorem c_row (W : IW a) (C : IC h a) (x : Int32) : f_X11_isPlaceInRow h 1 x = some (nI (decide (0 < a 0 0 2) && ix (a 0 0 8 + 1) x).toNat) := by
  have hhe := W.rw.he
  unfold f_X11_isPlaceInRow f_X11_isPlaceInRow_26
  rcases Nat.eq_zero_or_pos (a 0 0 2) with e | e
  · simp (disch := omega) only [ob, nI_lit, nI_add, pk_mul, nI_eq, nI_ltI, nI_leI, if_true, if_false, if_pos, if_neg, ck_of (tS_1 C.ct.sh), gR_of (tS_1 C.ct.sh), gI_of (tS_1 C.ct.sh), pI_of (tS_1 C.ct.sh), C.ct.rp, rS_1_2 C.ct.sh, rS_1_3 C.ct.sh, rS_1_4 C.ct.sh, rS_1_5 C.ct.sh, rS_1_6 C.ct.sh, rS_1_7 C.ct.sh, rS_1_8 C.ct.sh, rS_1_9 C.ct.sh, ck_of (tR C.ct.rd.rd), gR_of (tR C.ct.rd.rd), gI_of (tR C.ct.rd.rd), rR_9 C.ct.rd.rd, rR_10 C.ct.rd.rd, rR_11 C.ct.rd.rd, rR_12 C.ct.rd.rd, rR_13 C.ct.rd.rd, rR_14 C.ct.rd.rd, rR_15 C.ct.rd.rd, rR_16 C.ct.rd.rd, rR_17 C.ct.rd.rd, rR_18 C.ct.rd.rd, rR_19 C.ct.rd.rd, aI_of (tR_1 C.ct.rd.rd), aI_of (tR_2 C.ct.rd.rd), aI_of (tR_3 C.ct.rd.rd), aI_of (tR_4 C.ct.rd.rd), aI_of (tR_5 C.ct.rd.rd), aI_of (tR_6 C.ct.rd.rd), aI_of (tR_7 C.ct.rd.rd), aI_of (tR_8 C.ct.rd.rd), aI_of (tR_9 C.ct.rd.rd), C.ct.rd.sc, C.ct.rd.len, C.ct.rd.e1, C.ct.rd.e2, C.ct.rd.min, C.ct.rd.kd, C.ct.rd.gt, C.ct.rd.bt, C.ct.rd.ip, C.ct.rd.hd, c_refuse C.ct.sh, c_answer C.ct.sh, c_told0 W C e]
    simp [e]
  · have h9 : (nI (a 0 0 8) < x) = (nI (a 0 0 8 + 1) ≤ x) := by
      rw [Int32.lt_iff_toInt_lt, Int32.le_iff_toInt_le, nI_toInt (by omega), nI_toInt (by omega)]
      apply propext
      omega
    rw [decide_eq_true e, Bool.true_and, ← ix_if]
    simp (disch := omega) only [ob, nI_lit, nI_add, pk_mul, nI_eq, nI_ltI, nI_leI, if_true, if_false, if_pos, if_neg, ck_of (tS_1 C.ct.sh), gR_of (tS_1 C.ct.sh), gI_of (tS_1 C.ct.sh), pI_of (tS_1 C.ct.sh), C.ct.rp, rS_1_2 C.ct.sh, rS_1_3 C.ct.sh, rS_1_4 C.ct.sh, rS_1_5 C.ct.sh, rS_1_6 C.ct.sh, rS_1_7 C.ct.sh, rS_1_8 C.ct.sh, rS_1_9 C.ct.sh, ck_of (tR C.ct.rd.rd), gR_of (tR C.ct.rd.rd), gI_of (tR C.ct.rd.rd), rR_9 C.ct.rd.rd, rR_10 C.ct.rd.rd, rR_11 C.ct.rd.rd, rR_12 C.ct.rd.rd, rR_13 C.ct.rd.rd, rR_14 C.ct.rd.rd, rR_15 C.ct.rd.rd, rR_16 C.ct.rd.rd, rR_17 C.ct.rd.rd, rR_18 C.ct.rd.rd, rR_19 C.ct.rd.rd, aI_of (tR_1 C.ct.rd.rd), aI_of (tR_2 C.ct.rd.rd), aI_of (tR_3 C.ct.rd.rd), aI_of (tR_4 C.ct.rd.rd), aI_of (tR_5 C.ct.rd.rd), aI_of (tR_6 C.ct.rd.rd), aI_of (tR_7 C.ct.rd.rd), aI_of (tR_8 C.ct.rd.rd), aI_of (tR_9 C.ct.rd.rd), C.ct.rd.sc, C.ct.rd.len, C.ct.rd.e1, C.ct.rd.e2, C.ct.rd.min, C.ct.rd.kd, C.ct.rd.gt, C.ct.rd.bt, C.ct.rd.ip, C.ct.rd.hd, c_refuse C.ct.sh, c_answer C.ct.sh, c_told1 W C e, h9]
theorem m_row (W : IW a) (M : IM h a) (x : Int32) : f_X13_isHearing h 55 x = some (nI (decide (0 < a 0 0 2) && ix (a 0 0 8 + 1) x).toNat) := by
  have hhe := W.rw.he
  unfold f_X13_isHearing f_X13_isHearing_26
  rcases Nat.eq_zero_or_pos (a 0 0 2) with e | e
  · simp (disch := omega) only [ob, nI_lit, nI_add, pk_mul, nI_eq, nI_ltI, nI_leI, if_true, if_false, if_pos, if_neg, ck_of (tS_55 M.sh), gR_of (tS_55 M.sh), gI_of (tS_55 M.sh), pI_of (tS_55 M.sh), rS_55_16 M.sh, rS_55_17 M.sh, rS_55_18 M.sh, rS_55_21 M.sh, rS_55_25 M.sh, rS_55_26 M.sh, rS_55_27 M.sh, rS_55_28 M.sh, rS_55_32 M.sh, rS_55_33 M.sh, rS_55_34 M.sh, m_refused M.sh, m_good M.sh, m_null M e]
    simp [e]
  · have P := M.told e
    have hz := P.nz
    have h9 : (nI (a 0 0 8) < x) = (nI (a 0 0 8 + 1) ≤ x) := by
      rw [Int32.lt_iff_toInt_lt, Int32.le_iff_toInt_le, nI_toInt (by omega), nI_toInt (by omega)]
      apply propext
      omega
    rw [decide_eq_true e, Bool.true_and, ← ix_if]
    simp (disch := omega) only [ob, nI_lit, nI_add, pk_mul, nI_eq, nI_ltI, nI_leI, if_true, if_false, if_pos, if_neg, ck_of (tS_55 M.sh), gR_of (tS_55 M.sh), gI_of (tS_55 M.sh), pI_of (tS_55 M.sh), rS_55_16 M.sh, rS_55_17 M.sh, rS_55_18 M.sh, rS_55_21 M.sh, rS_55_25 M.sh, rS_55_26 M.sh, rS_55_27 M.sh, rS_55_28 M.sh, rS_55_32 M.sh, rS_55_33 M.sh, rS_55_34 M.sh, m_refused M.sh, m_good M.sh, P.pp, ck_of (tP P.rd.pk), gR_of (tP P.rd.pk), gI_of (tP P.rd.pk), rP_10 P.rd.pk, rP_11 P.rd.pk, rP_12 P.rd.pk, rP_13 P.rd.pk, rP_14 P.rd.pk, rP_15 P.rd.pk, rP_16 P.rd.pk, rP_17 P.rd.pk, rP_18 P.rd.pk, rP_19 P.rd.pk, rP_20 P.rd.pk, rP_21 P.rd.pk, rP_22 P.rd.pk, rP_23 P.rd.pk, rP_24 P.rd.pk, aI_of (tP_1 P.rd.pk), aI_of (tP_2 P.rd.pk), aI_of (tP_3 P.rd.pk), aI_of (tP_4 P.rd.pk), aI_of (tP_5 P.rd.pk), aI_of (tP_6 P.rd.pk), aI_of (tP_7 P.rd.pk), aI_of (tP_8 P.rd.pk), aI_of (tP_9 P.rd.pk), aI_of (tP_10 P.rd.pk), aI_of (tP_11 P.rd.pk), aI_of (tP_12 P.rd.pk), aI_of (tP_13 P.rd.pk), aI_of (tP_14 P.rd.pk), aI_of (tP_15 P.rd.pk), P.rd.sc, P.rd.len, P.rd.note, P.rd.min, P.rd.kd, P.rd.gt, P.rd.e1, P.rd.e2, P.rd.i8, P.rd.i9, P.rd.i10, P.rd.i11, P.rd.hd, h9]
theorem IM.p69 (M : IM h a) (e : 0 < a 0 0 2) : 69 ≤ a 2 0 2 := by
  rcases M.pk with q | q
  · omega
  · exact q.2.2.1
/-- the reference behind its strangers() -/
theorem m_str2 (W : IW a) (M : IM h a) (e : 0 < a 0 0 2) : OK (f_X13_strangers h 55) (fun h' => FM h h' ∧ (∀ k q, k ≤ a 0 0 8 → q < a 0 0 2 → f_X13_rowsBy h' 55 (nI k) (nI q) = some (nI (rwN (a 0) k q))) ∧ mI h' 55 35 = nI (alN (a 0))) := by
  have hhe := W.rw.he
  have hpl := W.rw.pl
  obtain ⟨U, D, e1, g1, g2⟩ := m_str W.rw (M.told e) (M.p69 e)
  refine ⟨_, e1, ⟨((FQ.row _ _ (by decide)).tr (FQ.row _ _ (by decide))).tr (FQ.w _ _ _ (by decide)), ⟨?_, ?_, ?_, ?_⟩, ?_⟩, fun k q hk hq => ?_, ?_⟩
  · rw [mI_wI_at, pk_un (by decide), sdM_o _ _ _ (by decide) (by decide)]
  · rw [mI_wI_at, pk_un (by decide), sdM_o _ _ _ (by decide) (by decide)]
  · rw [mI_wI_at, pk_un (by decide), sdM_o _ _ _ (by decide) (by decide)]
  · rw [mI_wI_at, pk_un (by decide), sdM_o _ _ _ (by decide) (by decide)]
  · rw [mI_wI_ne _ _ _ (by decide), sdM_o _ _ _ (by decide) (by decide)]
  · have S1 : SH (wI (sdM h U D) 55 35 (nI (su (de (a 0) (a 0 0 8)) (a 0 0 2)))) := M.sh
    have e66 : mI (wI (sdM h U D) 55 35 (nI (su (de (a 0) (a 0 0 8)) (a 0 0 2)))) 66 = U := by
      rw [mI_wI_ne _ _ _ (by decide), sdM_66]
    have e67 : mI (wI (sdM h U D) 55 35 (nI (su (de (a 0) (a 0 0 8)) (a 0 0 2)))) 67 = D := by
      rw [mI_wI_ne _ _ _ (by decide), sdM_67]
    unfold f_X13_rowsBy rwN
    simp (disch := omega) only [ob, nI_lit, nI_add, pk_mul, nI_eq, nI_ltI, nI_leI, if_true, if_false, if_pos, if_neg, ck_of (tS_55 S1), gR_of (tS_55 S1), rS_55_33 S1, rS_55_34 S1, aI_of (tS_66 S1), aI_of (tS_67 S1), e66, e67, g1, g2]
  · rw [mI_wI_at, pk_us]
    rfl
theorem m_cb (W : IW a) (M : IM h a) (e : 0 < a 0 0 2) (hr : ∀ k q, k ≤ a 0 0 8 → q < a 0 0 2 → f_X13_rowsBy h 55 (nI k) (nI q) = some (nI (rwN (a 0) k q))) {k : Nat} (hk : k ≤ a 0 0 8) : f_X13_couldBe h 55 (nI k) = some (nI (paN (a 0) k (a 0 0 2))) := by
  have hpl := W.rw.pl
  have P := M.told e
  have q : iter (fun (s : Int32 × Int32) => b_X13_couldBe_4 h 55 (nI k) s.1 s.2) FU (nI 0, nI 0) = some (nI (paN (a 0) k (a 0 0 2))) := by
    refine iter_for (fun i => (nI (paN (a 0) k i), nI i)) (a 0 0 2) (FU_lt (by omega)) (fun i hi => ?_) ?_
    · have h1 := paN_lt (a 0) k i
      have h2 := two_le (show i ≤ 7 by omega)
      have h3 := rwN_le W.rw hk i
      have hsh : nI 1 <<< (nI i &&& nI 31) = nI (2 ^ i) := nI_sh1 (by omega)
      show b_X13_couldBe_4 h 55 (nI k) (nI (paN (a 0) k i)) (nI i) = some (Sum.inl (nI (paN (a 0) k i ||| if 0 < rwN (a 0) k i then 2 ^ i else 0), nI (i + 1)))
      unfold b_X13_couldBe_4 f_X13_couldBe_32
      simp (disch := omega) only [ob, nI_lit, nI_add, pk_mul, nI_eq, nI_ltI, nI_leI, if_true, if_false, if_pos, if_neg, ck_of (tS_55 M.sh), gR_of (tS_55 M.sh), gI_of (tS_55 M.sh), pI_of (tS_55 M.sh), rS_55_16 M.sh, rS_55_17 M.sh, rS_55_18 M.sh, rS_55_21 M.sh, rS_55_25 M.sh, rS_55_26 M.sh, rS_55_27 M.sh, rS_55_28 M.sh, rS_55_32 M.sh, rS_55_33 M.sh, rS_55_34 M.sh, m_refused M.sh, m_good M.sh, P.pp, ck_of (tP P.rd.pk), gR_of (tP P.rd.pk), gI_of (tP P.rd.pk), rP_10 P.rd.pk, rP_11 P.rd.pk, rP_12 P.rd.pk, rP_13 P.rd.pk, rP_14 P.rd.pk, rP_15 P.rd.pk, rP_16 P.rd.pk, rP_17 P.rd.pk, rP_18 P.rd.pk, rP_19 P.rd.pk, rP_20 P.rd.pk, rP_21 P.rd.pk, rP_22 P.rd.pk, rP_23 P.rd.pk, rP_24 P.rd.pk, aI_of (tP_1 P.rd.pk), aI_of (tP_2 P.rd.pk), aI_of (tP_3 P.rd.pk), aI_of (tP_4 P.rd.pk), aI_of (tP_5 P.rd.pk), aI_of (tP_6 P.rd.pk), aI_of (tP_7 P.rd.pk), aI_of (tP_8 P.rd.pk), aI_of (tP_9 P.rd.pk), aI_of (tP_10 P.rd.pk), aI_of (tP_11 P.rd.pk), aI_of (tP_12 P.rd.pk), aI_of (tP_13 P.rd.pk), aI_of (tP_14 P.rd.pk), aI_of (tP_15 P.rd.pk), P.rd.sc, P.rd.len, P.rd.note, P.rd.min, P.rd.kd, P.rd.gt, P.rd.e1, P.rd.e2, P.rd.i8, P.rd.i9, P.rd.i10, P.rd.i11, P.rd.hd, hr k i hk hi, hsh, nI_or]
      rcases Nat.eq_zero_or_pos (rwN (a 0) k i) with e | e
      · rw [if_pos (by omega), if_neg (by omega)]
      · rw [if_neg (by omega), if_pos e]
    · unfold b_X13_couldBe_4
      simp (disch := omega) only [ob, nI_lit, nI_add, pk_mul, nI_eq, nI_ltI, nI_leI, if_true, if_false, if_pos, if_neg, ck_of (tS_55 M.sh), gR_of (tS_55 M.sh), gI_of (tS_55 M.sh), pI_of (tS_55 M.sh), rS_55_16 M.sh, rS_55_17 M.sh, rS_55_18 M.sh, rS_55_21 M.sh, rS_55_25 M.sh, rS_55_26 M.sh, rS_55_27 M.sh, rS_55_28 M.sh, rS_55_32 M.sh, rS_55_33 M.sh, rS_55_34 M.sh, m_refused M.sh, m_good M.sh, P.pp, ck_of (tP P.rd.pk), gR_of (tP P.rd.pk), gI_of (tP P.rd.pk), rP_10 P.rd.pk, rP_11 P.rd.pk, rP_12 P.rd.pk, rP_13 P.rd.pk, rP_14 P.rd.pk, rP_15 P.rd.pk, rP_16 P.rd.pk, rP_17 P.rd.pk, rP_18 P.rd.pk, rP_19 P.rd.pk, rP_20 P.rd.pk, rP_21 P.rd.pk, rP_22 P.rd.pk, rP_23 P.rd.pk, rP_24 P.rd.pk, aI_of (tP_1 P.rd.pk), aI_of (tP_2 P.rd.pk), aI_of (tP_3 P.rd.pk), aI_of (tP_4 P.rd.pk), aI_of (tP_5 P.rd.pk), aI_of (tP_6 P.rd.pk), aI_of (tP_7 P.rd.pk), aI_of (tP_8 P.rd.pk), aI_of (tP_9 P.rd.pk), aI_of (tP_10 P.rd.pk), aI_of (tP_11 P.rd.pk), aI_of (tP_12 P.rd.pk), aI_of (tP_13 P.rd.pk), aI_of (tP_14 P.rd.pk), aI_of (tP_15 P.rd.pk), P.rd.sc, P.rd.len, P.rd.note, P.rd.min, P.rd.kd, P.rd.gt, P.rd.e1, P.rd.e2, P.rd.i8, P.rd.i9, P.rd.i10, P.rd.i11, P.rd.hd]
  unfold f_X13_couldBe
  simp (disch := omega) only [ob, nI_lit, nI_add, pk_mul, nI_eq, nI_ltI, nI_leI, if_true, if_false, if_pos, if_neg, ck_of (tS_55 M.sh), gR_of (tS_55 M.sh), gI_of (tS_55 M.sh), pI_of (tS_55 M.sh), rS_55_16 M.sh, rS_55_17 M.sh, rS_55_18 M.sh, rS_55_21 M.sh, rS_55_25 M.sh, rS_55_26 M.sh, rS_55_27 M.sh, rS_55_28 M.sh, rS_55_32 M.sh, rS_55_33 M.sh, rS_55_34 M.sh, m_refused M.sh, m_good M.sh, q]
end
theorem qq_rows {a : AB} (W : IW a) : ∃ v z, z ≤ 6 ∧ z ≠ 4 ∧ QC a (fun h => f_X11_rows h 1) v z ∧ QM a (fun h => f_X13_rows h 55) v z := by
  rcases Nat.eq_zero_or_pos (a 0 0 2) with e0 | e0
  · refine ⟨-nI 1, 1, by decide, by decide, fun h C => ?_, fun h M0 => ?_⟩
    · unfold f_X11_rows
      simp (disch := omega) only [ob, nI_lit, nI_add, pk_mul, nI_eq, nI_ltI, nI_leI, if_true, if_false, if_pos, if_neg, ck_of (tS_1 C.ct.sh), gR_of (tS_1 C.ct.sh), gI_of (tS_1 C.ct.sh), pI_of (tS_1 C.ct.sh), C.ct.rp, rS_1_2 C.ct.sh, rS_1_3 C.ct.sh, rS_1_4 C.ct.sh, rS_1_5 C.ct.sh, rS_1_6 C.ct.sh, rS_1_7 C.ct.sh, rS_1_8 C.ct.sh, rS_1_9 C.ct.sh, ck_of (tR C.ct.rd.rd), gR_of (tR C.ct.rd.rd), gI_of (tR C.ct.rd.rd), rR_9 C.ct.rd.rd, rR_10 C.ct.rd.rd, rR_11 C.ct.rd.rd, rR_12 C.ct.rd.rd, rR_13 C.ct.rd.rd, rR_14 C.ct.rd.rd, rR_15 C.ct.rd.rd, rR_16 C.ct.rd.rd, rR_17 C.ct.rd.rd, rR_18 C.ct.rd.rd, rR_19 C.ct.rd.rd, aI_of (tR_1 C.ct.rd.rd), aI_of (tR_2 C.ct.rd.rd), aI_of (tR_3 C.ct.rd.rd), aI_of (tR_4 C.ct.rd.rd), aI_of (tR_5 C.ct.rd.rd), aI_of (tR_6 C.ct.rd.rd), aI_of (tR_7 C.ct.rd.rd), aI_of (tR_8 C.ct.rd.rd), aI_of (tR_9 C.ct.rd.rd), C.ct.rd.sc, C.ct.rd.len, C.ct.rd.e1, C.ct.rd.e2, C.ct.rd.min, C.ct.rd.kd, C.ct.rd.gt, C.ct.rd.bt, C.ct.rd.ip, C.ct.rd.hd, c_refuse C.ct.sh, c_answer C.ct.sh, c_told0 W C e0]
      exact qc_end C _ _
    · unfold f_X13_rows
      simp only [ck_of (tS_55 M0.sh), pI_of (tS_55 M0.sh), ob, nI_lit]; obtain ⟨h1, eh, M, F1⟩ : ∃ h1, wI h 55 0 (nI 0) = h1 ∧ IM h1 a ∧ FM h h1 := ⟨_, rfl, M0.th _, FM.w55 h _ (by decide)⟩; rw [eh]
      simp (disch := omega) only [ob, nI_lit, nI_add, pk_mul, nI_eq, nI_ltI, nI_leI, if_true, if_false, if_pos, if_neg, ck_of (tS_55 M.sh), gR_of (tS_55 M.sh), gI_of (tS_55 M.sh), pI_of (tS_55 M.sh), rS_55_16 M.sh, rS_55_17 M.sh, rS_55_18 M.sh, rS_55_21 M.sh, rS_55_25 M.sh, rS_55_26 M.sh, rS_55_27 M.sh, rS_55_28 M.sh, rS_55_32 M.sh, rS_55_33 M.sh, rS_55_34 M.sh, m_refused M.sh, m_good M.sh, m_null M e0]
      exact qm_end F1 _ _
  · refine ⟨nI (alN (a 0)), 0, by decide, by decide, fun h C => ?_, fun h M0 => ?_⟩
    · unfold f_X11_rows
      simp (disch := omega) only [ob, nI_lit, nI_add, pk_mul, nI_eq, nI_ltI, nI_leI, if_true, if_false, if_pos, if_neg, ck_of (tS_1 C.ct.sh), gR_of (tS_1 C.ct.sh), gI_of (tS_1 C.ct.sh), pI_of (tS_1 C.ct.sh), C.ct.rp, rS_1_2 C.ct.sh, rS_1_3 C.ct.sh, rS_1_4 C.ct.sh, rS_1_5 C.ct.sh, rS_1_6 C.ct.sh, rS_1_7 C.ct.sh, rS_1_8 C.ct.sh, rS_1_9 C.ct.sh, ck_of (tR C.ct.rd.rd), gR_of (tR C.ct.rd.rd), gI_of (tR C.ct.rd.rd), rR_9 C.ct.rd.rd, rR_10 C.ct.rd.rd, rR_11 C.ct.rd.rd, rR_12 C.ct.rd.rd, rR_13 C.ct.rd.rd, rR_14 C.ct.rd.rd, rR_15 C.ct.rd.rd, rR_16 C.ct.rd.rd, rR_17 C.ct.rd.rd, rR_18 C.ct.rd.rd, rR_19 C.ct.rd.rd, aI_of (tR_1 C.ct.rd.rd), aI_of (tR_2 C.ct.rd.rd), aI_of (tR_3 C.ct.rd.rd), aI_of (tR_4 C.ct.rd.rd), aI_of (tR_5 C.ct.rd.rd), aI_of (tR_6 C.ct.rd.rd), aI_of (tR_7 C.ct.rd.rd), aI_of (tR_8 C.ct.rd.rd), aI_of (tR_9 C.ct.rd.rd), C.ct.rd.sc, C.ct.rd.len, C.ct.rd.e1, C.ct.rd.e2, C.ct.rd.min, C.ct.rd.kd, C.ct.rd.gt, C.ct.rd.bt, C.ct.rd.ip, C.ct.rd.hd, c_refuse C.ct.sh, c_answer C.ct.sh, c_told1 W C e0, c_all W C]
      exact qc_end C _ _
    · unfold f_X13_rows
      simp only [ck_of (tS_55 M0.sh), pI_of (tS_55 M0.sh), ob, nI_lit]; obtain ⟨h1, eh, M, F1⟩ : ∃ h1, wI h 55 0 (nI 0) = h1 ∧ IM h1 a ∧ FM h h1 := ⟨_, rfl, M0.th _, FM.w55 h _ (by decide)⟩; rw [eh]
      have P := M.told e0
      have hz := P.nz
      obtain ⟨h2, e2, F2, -, e35⟩ := m_str2 W M e0
      have S2 := F2.1.sh M.sh
      simp (disch := omega) only [ob, nI_lit, nI_add, pk_mul, nI_eq, nI_ltI, nI_leI, if_true, if_false, if_pos, if_neg, ck_of (tS_55 M.sh), gR_of (tS_55 M.sh), gI_of (tS_55 M.sh), pI_of (tS_55 M.sh), rS_55_16 M.sh, rS_55_17 M.sh, rS_55_18 M.sh, rS_55_21 M.sh, rS_55_25 M.sh, rS_55_26 M.sh, rS_55_27 M.sh, rS_55_28 M.sh, rS_55_32 M.sh, rS_55_33 M.sh, rS_55_34 M.sh, m_refused M.sh, m_good M.sh, P.pp, e2, gI_of (tS_55 S2), e35, m_good S2]
      exact qm_end (F1.tr F2) _ _
theorem st_29 : StepOK INV lc_29 := by
  intro sc L i h hL hi hI
  unfold lc_29
  exact q2 (f := fun h => f_X11_rows h 1) (g := fun h => f_X13_rows h 55) hI (fun a W => qq_rows W)
theorem qq_could {a : AB} (W : IW a) (x : Int32) : ∃ v z, z ≤ 6 ∧ z ≠ 4 ∧ QC a (fun h => f_X11_could h 1 x) v z ∧ QM a (fun h => f_X13_could h 55 x) v z := by
  have hhe := W.rw.he
  rcases hb : (decide (0 < a 0 0 2) && ix (a 0 0 8 + 1) x) with _ | _
  · refine ⟨-nI 1, 1, by decide, by decide, fun h C => ?_, fun h M0 => ?_⟩
    · unfold f_X11_could
      simp (disch := omega) only [ob, nI_lit, nI_add, pk_mul, nI_eq, nI_ltI, nI_leI, if_true, if_false, if_pos, if_neg, ck_of (tS_1 C.ct.sh), gR_of (tS_1 C.ct.sh), gI_of (tS_1 C.ct.sh), pI_of (tS_1 C.ct.sh), C.ct.rp, rS_1_2 C.ct.sh, rS_1_3 C.ct.sh, rS_1_4 C.ct.sh, rS_1_5 C.ct.sh, rS_1_6 C.ct.sh, rS_1_7 C.ct.sh, rS_1_8 C.ct.sh, rS_1_9 C.ct.sh, ck_of (tR C.ct.rd.rd), gR_of (tR C.ct.rd.rd), gI_of (tR C.ct.rd.rd), rR_9 C.ct.rd.rd, rR_10 C.ct.rd.rd, rR_11 C.ct.rd.rd, rR_12 C.ct.rd.rd, rR_13 C.ct.rd.rd, rR_14 C.ct.rd.rd, rR_15 C.ct.rd.rd, rR_16 C.ct.rd.rd, rR_17 C.ct.rd.rd, rR_18 C.ct.rd.rd, rR_19 C.ct.rd.rd, aI_of (tR_1 C.ct.rd.rd), aI_of (tR_2 C.ct.rd.rd), aI_of (tR_3 C.ct.rd.rd), aI_of (tR_4 C.ct.rd.rd), aI_of (tR_5 C.ct.rd.rd), aI_of (tR_6 C.ct.rd.rd), aI_of (tR_7 C.ct.rd.rd), aI_of (tR_8 C.ct.rd.rd), aI_of (tR_9 C.ct.rd.rd), C.ct.rd.sc, C.ct.rd.len, C.ct.rd.e1, C.ct.rd.e2, C.ct.rd.min, C.ct.rd.kd, C.ct.rd.gt, C.ct.rd.bt, C.ct.rd.ip, C.ct.rd.hd, c_refuse C.ct.sh, c_answer C.ct.sh, c_row W C, hb, Bool.toNat_false]
      exact qc_end C _ _
    · unfold f_X13_could
      simp only [ck_of (tS_55 M0.sh), pI_of (tS_55 M0.sh), ob, nI_lit]; obtain ⟨h1, eh, M, F1⟩ : ∃ h1, wI h 55 0 (nI 0) = h1 ∧ IM h1 a ∧ FM h h1 := ⟨_, rfl, M0.th _, FM.w55 h _ (by decide)⟩; rw [eh]
      simp (disch := omega) only [ob, nI_lit, nI_add, pk_mul, nI_eq, nI_ltI, nI_leI, if_true, if_false, if_pos, if_neg, ck_of (tS_55 M.sh), gR_of (tS_55 M.sh), gI_of (tS_55 M.sh), pI_of (tS_55 M.sh), rS_55_16 M.sh, rS_55_17 M.sh, rS_55_18 M.sh, rS_55_21 M.sh, rS_55_25 M.sh, rS_55_26 M.sh, rS_55_27 M.sh, rS_55_28 M.sh, rS_55_32 M.sh, rS_55_33 M.sh, rS_55_34 M.sh, m_refused M.sh, m_good M.sh, m_row W M, hb, Bool.toNat_false]
      exact qm_end F1 _ _
  · have hb2 := hb
    rw [Bool.and_eq_true, decide_eq_true_iff] at hb2
    obtain ⟨e0, hx⟩ := hb2
    obtain ⟨k, hk, rfl⟩ := ix_t hx (by omega)
    refine ⟨nI (paN (a 0) k (a 0 0 2)), 0, by decide, by decide, fun h C => ?_, fun h M0 => ?_⟩
    · unfold f_X11_could
      simp (disch := omega) only [ob, nI_lit, nI_add, pk_mul, nI_eq, nI_ltI, nI_leI, if_true, if_false, if_pos, if_neg, ck_of (tS_1 C.ct.sh), gR_of (tS_1 C.ct.sh), gI_of (tS_1 C.ct.sh), pI_of (tS_1 C.ct.sh), C.ct.rp, rS_1_2 C.ct.sh, rS_1_3 C.ct.sh, rS_1_4 C.ct.sh, rS_1_5 C.ct.sh, rS_1_6 C.ct.sh, rS_1_7 C.ct.sh, rS_1_8 C.ct.sh, rS_1_9 C.ct.sh, ck_of (tR C.ct.rd.rd), gR_of (tR C.ct.rd.rd), gI_of (tR C.ct.rd.rd), rR_9 C.ct.rd.rd, rR_10 C.ct.rd.rd, rR_11 C.ct.rd.rd, rR_12 C.ct.rd.rd, rR_13 C.ct.rd.rd, rR_14 C.ct.rd.rd, rR_15 C.ct.rd.rd, rR_16 C.ct.rd.rd, rR_17 C.ct.rd.rd, rR_18 C.ct.rd.rd, rR_19 C.ct.rd.rd, aI_of (tR_1 C.ct.rd.rd), aI_of (tR_2 C.ct.rd.rd), aI_of (tR_3 C.ct.rd.rd), aI_of (tR_4 C.ct.rd.rd), aI_of (tR_5 C.ct.rd.rd), aI_of (tR_6 C.ct.rd.rd), aI_of (tR_7 C.ct.rd.rd), aI_of (tR_8 C.ct.rd.rd), aI_of (tR_9 C.ct.rd.rd), C.ct.rd.sc, C.ct.rd.len, C.ct.rd.e1, C.ct.rd.e2, C.ct.rd.min, C.ct.rd.kd, C.ct.rd.gt, C.ct.rd.bt, C.ct.rd.ip, C.ct.rd.hd, c_refuse C.ct.sh, c_answer C.ct.sh, c_row W C, hb, Bool.toNat_true, c_pa W C (show k ≤ a 0 0 8 by omega)]
      exact qc_end C _ _
    · unfold f_X13_could
      simp only [ck_of (tS_55 M0.sh), pI_of (tS_55 M0.sh), ob, nI_lit]; obtain ⟨h1, eh, M, F1⟩ : ∃ h1, wI h 55 0 (nI 0) = h1 ∧ IM h1 a ∧ FM h h1 := ⟨_, rfl, M0.th _, FM.w55 h _ (by decide)⟩; rw [eh]
      obtain ⟨h2, e2, F2, hr, -⟩ := m_str2 W M e0
      have S2 := F2.1.sh M.sh
      have M2 := M.fm F2
      simp (disch := omega) only [ob, nI_lit, nI_add, pk_mul, nI_eq, nI_ltI, nI_leI, if_true, if_false, if_pos, if_neg, ck_of (tS_55 M.sh), gR_of (tS_55 M.sh), gI_of (tS_55 M.sh), pI_of (tS_55 M.sh), rS_55_16 M.sh, rS_55_17 M.sh, rS_55_18 M.sh, rS_55_21 M.sh, rS_55_25 M.sh, rS_55_26 M.sh, rS_55_27 M.sh, rS_55_28 M.sh, rS_55_32 M.sh, rS_55_33 M.sh, rS_55_34 M.sh, m_refused M.sh, m_good M.sh, m_row W M, hb, Bool.toNat_true, e2, m_cb W M2 e0 hr (show k ≤ a 0 0 8 by omega), m_good S2]
      exact qm_end (F1.tr F2) _ _
theorem st_30 : StepOK INV lc_30 := by
  intro sc L i h hL hi hI
  unfold lc_30
  simp only [show (1 : Int32) = nI 1 from rfl, show (2 : Int32) = nI 2 from rfl, show (3 : Int32) = nI 3 from rfl, show (4 : Int32) = nI 4 from rfl, show (5 : Int32) = nI 5 from rfl, nI_add, sc_at hL (show i + 1 < L by omega), sc_at hL (show i + 2 < L by omega), sc_at hL (show i + 3 < L by omega), sc_at hL (show i + 4 < L by omega), sc_at hL (show i + 5 < L by omega), ob]
  exact q2 (f := fun h => f_X11_could h 1 (sc (i + 1))) (g := fun h => f_X13_could h 55 (sc (i + 1))) hI (fun a W => qq_could W _)
theorem qq_surely {a : AB} (W : IW a) (x : Int32) : ∃ v z, z ≤ 6 ∧ z ≠ 4 ∧ QC a (fun h => f_X11_surely h 1 x) v z ∧ QM a (fun h => f_X13_surely h 55 x) v z := by
  have hhe := W.rw.he
  have hpl := W.rw.pl
  rcases hb : (decide (0 < a 0 0 2) && ix (a 0 0 8 + 1) x) with _ | _
  · refine ⟨-nI 1, 1, by decide, by decide, fun h C => ?_, fun h M0 => ?_⟩
    · unfold f_X11_surely
      simp (disch := omega) only [ob, nI_lit, nI_add, pk_mul, nI_eq, nI_ltI, nI_leI, if_true, if_false, if_pos, if_neg, ck_of (tS_1 C.ct.sh), gR_of (tS_1 C.ct.sh), gI_of (tS_1 C.ct.sh), pI_of (tS_1 C.ct.sh), C.ct.rp, rS_1_2 C.ct.sh, rS_1_3 C.ct.sh, rS_1_4 C.ct.sh, rS_1_5 C.ct.sh, rS_1_6 C.ct.sh, rS_1_7 C.ct.sh, rS_1_8 C.ct.sh, rS_1_9 C.ct.sh, ck_of (tR C.ct.rd.rd), gR_of (tR C.ct.rd.rd), gI_of (tR C.ct.rd.rd), rR_9 C.ct.rd.rd, rR_10 C.ct.rd.rd, rR_11 C.ct.rd.rd, rR_12 C.ct.rd.rd, rR_13 C.ct.rd.rd, rR_14 C.ct.rd.rd, rR_15 C.ct.rd.rd, rR_16 C.ct.rd.rd, rR_17 C.ct.rd.rd, rR_18 C.ct.rd.rd, rR_19 C.ct.rd.rd, aI_of (tR_1 C.ct.rd.rd), aI_of (tR_2 C.ct.rd.rd), aI_of (tR_3 C.ct.rd.rd), aI_of (tR_4 C.ct.rd.rd), aI_of (tR_5 C.ct.rd.rd), aI_of (tR_6 C.ct.rd.rd), aI_of (tR_7 C.ct.rd.rd), aI_of (tR_8 C.ct.rd.rd), aI_of (tR_9 C.ct.rd.rd), C.ct.rd.sc, C.ct.rd.len, C.ct.rd.e1, C.ct.rd.e2, C.ct.rd.min, C.ct.rd.kd, C.ct.rd.gt, C.ct.rd.bt, C.ct.rd.ip, C.ct.rd.hd, c_refuse C.ct.sh, c_answer C.ct.sh, c_row W C, hb, Bool.toNat_false]
      exact qc_end C _ _
    · unfold f_X13_surely
      simp only [ck_of (tS_55 M0.sh), pI_of (tS_55 M0.sh), ob, nI_lit]; obtain ⟨h1, eh, M, F1⟩ : ∃ h1, wI h 55 0 (nI 0) = h1 ∧ IM h1 a ∧ FM h h1 := ⟨_, rfl, M0.th _, FM.w55 h _ (by decide)⟩; rw [eh]
      simp (disch := omega) only [ob, nI_lit, nI_add, pk_mul, nI_eq, nI_ltI, nI_leI, if_true, if_false, if_pos, if_neg, ck_of (tS_55 M.sh), gR_of (tS_55 M.sh), gI_of (tS_55 M.sh), pI_of (tS_55 M.sh), rS_55_16 M.sh, rS_55_17 M.sh, rS_55_18 M.sh, rS_55_21 M.sh, rS_55_25 M.sh, rS_55_26 M.sh, rS_55_27 M.sh, rS_55_28 M.sh, rS_55_32 M.sh, rS_55_33 M.sh, rS_55_34 M.sh, m_refused M.sh, m_good M.sh, m_row W M, hb, Bool.toNat_false]
      exact qm_end F1 _ _
  · have hb2 := hb
    rw [Bool.and_eq_true, decide_eq_true_iff] at hb2
    obtain ⟨e0, hx⟩ := hb2
    obtain ⟨k, hk, rfl⟩ := ix_t hx (by omega)
    have hlt := paN_lt (a 0) k (a 0 0 2)
    have h128 : paN (a 0) k (a 0 0 2) < 128 := Nat.lt_of_lt_of_le hlt (two_le (m := 7) hpl)
    have hb1 := bc_one _ h128
    generalize hs : paN (a 0) k (a 0 0 2) = s at *
    have hbc := bcN_le s
    refine ⟨if bcN s = 1 then nI (lb s) else -nI 2, 0, by decide, by decide, fun h C => ?_, fun h M0 => ?_⟩
    · have cp := c_pa W C (show k ≤ a 0 0 8 by omega)
      rw [hs] at cp
      unfold f_X11_surely f_X11_surely_45
      simp (disch := omega) only [ob, nI_lit, nI_add, pk_mul, nI_eq, nI_ltI, nI_leI, if_true, if_false, if_pos, if_neg, ck_of (tS_1 C.ct.sh), gR_of (tS_1 C.ct.sh), gI_of (tS_1 C.ct.sh), pI_of (tS_1 C.ct.sh), C.ct.rp, rS_1_2 C.ct.sh, rS_1_3 C.ct.sh, rS_1_4 C.ct.sh, rS_1_5 C.ct.sh, rS_1_6 C.ct.sh, rS_1_7 C.ct.sh, rS_1_8 C.ct.sh, rS_1_9 C.ct.sh, ck_of (tR C.ct.rd.rd), gR_of (tR C.ct.rd.rd), gI_of (tR C.ct.rd.rd), rR_9 C.ct.rd.rd, rR_10 C.ct.rd.rd, rR_11 C.ct.rd.rd, rR_12 C.ct.rd.rd, rR_13 C.ct.rd.rd, rR_14 C.ct.rd.rd, rR_15 C.ct.rd.rd, rR_16 C.ct.rd.rd, rR_17 C.ct.rd.rd, rR_18 C.ct.rd.rd, rR_19 C.ct.rd.rd, aI_of (tR_1 C.ct.rd.rd), aI_of (tR_2 C.ct.rd.rd), aI_of (tR_3 C.ct.rd.rd), aI_of (tR_4 C.ct.rd.rd), aI_of (tR_5 C.ct.rd.rd), aI_of (tR_6 C.ct.rd.rd), aI_of (tR_7 C.ct.rd.rd), aI_of (tR_8 C.ct.rd.rd), aI_of (tR_9 C.ct.rd.rd), C.ct.rd.sc, C.ct.rd.len, C.ct.rd.e1, C.ct.rd.e2, C.ct.rd.min, C.ct.rd.kd, C.ct.rd.gt, C.ct.rd.bt, C.ct.rd.ip, C.ct.rd.hd, c_refuse C.ct.sh, c_answer C.ct.sh, c_row W C, hb, Bool.toNat_true, cp, h_bc h h128]
      rcases Decidable.em (bcN s = 1) with e | e
      · rw [if_pos e, if_pos e]
        simp (disch := omega) only [ob, nI_lit, nI_add, pk_mul, nI_eq, nI_ltI, nI_leI, if_true, if_false, if_pos, if_neg, ck_of (tS_1 C.ct.sh), gR_of (tS_1 C.ct.sh), gI_of (tS_1 C.ct.sh), pI_of (tS_1 C.ct.sh), C.ct.rp, rS_1_2 C.ct.sh, rS_1_3 C.ct.sh, rS_1_4 C.ct.sh, rS_1_5 C.ct.sh, rS_1_6 C.ct.sh, rS_1_7 C.ct.sh, rS_1_8 C.ct.sh, rS_1_9 C.ct.sh, ck_of (tR C.ct.rd.rd), gR_of (tR C.ct.rd.rd), gI_of (tR C.ct.rd.rd), rR_9 C.ct.rd.rd, rR_10 C.ct.rd.rd, rR_11 C.ct.rd.rd, rR_12 C.ct.rd.rd, rR_13 C.ct.rd.rd, rR_14 C.ct.rd.rd, rR_15 C.ct.rd.rd, rR_16 C.ct.rd.rd, rR_17 C.ct.rd.rd, rR_18 C.ct.rd.rd, rR_19 C.ct.rd.rd, aI_of (tR_1 C.ct.rd.rd), aI_of (tR_2 C.ct.rd.rd), aI_of (tR_3 C.ct.rd.rd), aI_of (tR_4 C.ct.rd.rd), aI_of (tR_5 C.ct.rd.rd), aI_of (tR_6 C.ct.rd.rd), aI_of (tR_7 C.ct.rd.rd), aI_of (tR_8 C.ct.rd.rd), aI_of (tR_9 C.ct.rd.rd), C.ct.rd.sc, C.ct.rd.len, C.ct.rd.e1, C.ct.rd.e2, C.ct.rd.min, C.ct.rd.kd, C.ct.rd.gt, C.ct.rd.bt, C.ct.rd.ip, C.ct.rd.hd, c_refuse C.ct.sh, c_answer C.ct.sh, h_tz h h128 (hb1.mp e).2]
        exact qc_end C _ _
      · rw [if_neg e, if_neg e]
        exact qc_end C _ _
    · unfold f_X13_surely
      simp only [ck_of (tS_55 M0.sh), pI_of (tS_55 M0.sh), ob, nI_lit]; obtain ⟨h1, eh, M, F1⟩ : ∃ h1, wI h 55 0 (nI 0) = h1 ∧ IM h1 a ∧ FM h h1 := ⟨_, rfl, M0.th _, FM.w55 h _ (by decide)⟩; rw [eh]
      obtain ⟨h2, e2, F2, hr, -⟩ := m_str2 W M e0
      have S2 := F2.1.sh M.sh
      have M2 := M.fm F2
      have P2 := M2.told e0
      have cb := m_cb W M2 e0 hr (show k ≤ a 0 0 8 by omega)
      rw [hs] at cb
      have q : iter (fun (s : Int32) => b_X13_surely_25 h2 55 (nI k) s) FU (nI 0) = some (if ff (fun p => decide (s = 2 ^ p)) (a 0 0 2) < a 0 0 2 then Sum.inl (nI (ff (fun p => decide (s = 2 ^ p)) (a 0 0 2))) else Sum.inr ()) := by
        refine iter_ff2 (fun i => nI i) (fun p => decide (s = 2 ^ p)) (a 0 0 2) (fun i => Sum.inl (nI i)) (Sum.inr ()) (FU_lt (by omega)) (fun i hi _ => ?_) (fun _ => ?_)
        · have h2 := two_le (show i ≤ 7 by omega)
          have hsh : nI 1 <<< (nI i &&& nI 31) = nI (2 ^ i) := nI_sh1 (by omega)
          unfold b_X13_surely_25
          simp (disch := omega) only [ob, nI_lit, nI_add, pk_mul, nI_eq, nI_ltI, nI_leI, if_true, if_false, if_pos, if_neg, gR_of (tS_55 S2), P2.pp, gI_of (tP P2.rd.pk), P2.rd.sc, cb, hsh, decide_eq_true_iff]
        · unfold b_X13_surely_25
          simp (disch := omega) only [ob, nI_lit, nI_add, pk_mul, nI_eq, nI_ltI, nI_leI, if_true, if_false, if_pos, if_neg, gR_of (tS_55 S2), P2.pp, gI_of (tP P2.rd.pk), P2.rd.sc]
      have ev : (if ff (fun p => decide (s = 2 ^ p)) (a 0 0 2) < a 0 0 2 then nI (ff (fun p => decide (s = 2 ^ p)) (a 0 0 2)) else -nI 2) = if bcN s = 1 then nI (lb s) else -nI 2 := by
        rcases Decidable.em (bcN s = 1) with e | e
        · have e3 := (hb1.mp e).1
          have hl : lb s < a 0 0 2 := by
            rcases Nat.lt_or_ge (lb s) (a 0 0 2) with c | c
            · exact c
            · have := two_le c
              omega
          have ef : ff (fun p => decide (s = 2 ^ p)) (a 0 0 2) = lb s := ff_eq (by omega) (fun i hi => decide_eq_false (fun e4 => by
            have : (2 : Nat) ^ i < 2 ^ lb s := Nat.pow_lt_pow_right (by decide) hi
            omega)) (fun _ => decide_eq_true e3)
          rw [ef, if_pos hl, if_pos e]
        · have ef : ff (fun p => decide (s = 2 ^ p)) (a 0 0 2) = a 0 0 2 := ff_eq (Nat.le_refl _) (fun i hi => decide_eq_false (fun e4 => e (hb1.mpr ⟨by rw [e4, lb_pow i (by omega)], by
            have := Nat.two_pow_pos i
            omega⟩))) (fun hh => by omega)
          rw [ef, if_neg (by omega), if_neg e]
      rw [← ev]
      simp (disch := omega) only [ob, nI_lit, nI_add, pk_mul, nI_eq, nI_ltI, nI_leI, if_true, if_false, if_pos, if_neg, ck_of (tS_55 M.sh), gR_of (tS_55 M.sh), gI_of (tS_55 M.sh), pI_of (tS_55 M.sh), rS_55_16 M.sh, rS_55_17 M.sh, rS_55_18 M.sh, rS_55_21 M.sh, rS_55_25 M.sh, rS_55_26 M.sh, rS_55_27 M.sh, rS_55_28 M.sh, rS_55_32 M.sh, rS_55_33 M.sh, rS_55_34 M.sh, m_refused M.sh, m_good M.sh, m_row W M, hb, Bool.toNat_true, e2, q, m_good S2]
      split
      · exact qm_end (F1.tr F2) _ _
      · exact qm_end (F1.tr F2) _ _
theorem st_31 : StepOK INV lc_31 := by
  intro sc L i h hL hi hI
  unfold lc_31
  simp only [show (1 : Int32) = nI 1 from rfl, show (2 : Int32) = nI 2 from rfl, show (3 : Int32) = nI 3 from rfl, show (4 : Int32) = nI 4 from rfl, show (5 : Int32) = nI 5 from rfl, nI_add, sc_at hL (show i + 1 < L by omega), sc_at hL (show i + 2 < L by omega), sc_at hL (show i + 3 < L by omega), sc_at hL (show i + 4 < L by omega), sc_at hL (show i + 5 < L by omega), ob]
  exact q2 (f := fun h => f_X11_surely h 1 (sc (i + 1))) (g := fun h => f_X13_surely h 55 (sc (i + 1))) hI (fun a W => qq_surely W _)
/-- toAsk: what is best, and how much it leaves, as a field -/
theorem m_ask {h : Mem} {a : AB} (W : IW a) (M : IM h a) (e0 : 0 < a 0 0 2) : OK (f_X13_toAsk h 55) (fun q => q.1 = (if alN (a 0) = 0 then -nI 2 else nI (akN (a 0) (a 0 0 8 + 1))) ∧ FM h q.2 ∧ mI q.2 55 36 = (if alN (a 0) = 0 then -nI 2 else nI (mlN (a 0) (akN (a 0) (a 0 0 8 + 1)) (a 0 0 2)))) := by
  have hhe := W.rw.he
  have hpl := W.rw.pl
  have hal := alN_le W.rw
  obtain ⟨h2, e2, F2, hr, e35⟩ := m_str2 W M e0
  have S2 := F2.1.sh M.sh
  have M2 := M.fm F2
  have Mv : ∀ v, IM (wI h2 55 36 v) a := fun v => M2.fm (FM.w55 h2 v (by decide))
  have Sv : ∀ v, SH (wI h2 55 36 v) := fun v => S2
  have Pv : ∀ v, MT (wI h2 55 36 v) (a 2 0 2) (a 0) := fun v => (Mv v).told e0
  have hrv : ∀ v k q, k ≤ a 0 0 8 → q < a 0 0 2 → f_X13_rowsBy (wI h2 55 36 v) 55 (nI k) (nI q) = some (nI (rwN (a 0) k q)) := by
    intro v k q hk hq
    have r := hr k q hk hq
    unfold f_X13_rowsBy at r ⊢
    have e66 : mI (wI h2 55 36 v) 66 = mI h2 66 := mI_wI_ne _ _ _ (by decide)
    have e67 : mI (wI h2 55 36 v) 67 = mI h2 67 := mI_wI_ne _ _ _ (by decide)
    simp (disch := omega) only [ob, nI_lit, nI_add, pk_mul, nI_eq, nI_ltI, nI_leI, if_true, if_false, if_pos, if_neg, ck_of (tS_55 S2), gR_of (tS_55 S2), rS_55_33 S2, rS_55_34 S2, aI_of (tS_66 S2), aI_of (tS_67 S2)] at r
    simp (disch := omega) only [ob, nI_lit, nI_add, pk_mul, nI_eq, nI_ltI, nI_leI, if_true, if_false, if_pos, if_neg, ck_of (tS_55 (Sv v)), gR_of (tS_55 (Sv v)), rS_55_33 (Sv v), rS_55_34 (Sv v), aI_of (tS_66 (Sv v)), aI_of (tS_67 (Sv v)), e66, e67]
    exact r
  have e35v : ∀ v, mI (wI h2 55 36 v) 55 35 = nI (alN (a 0)) := fun v => by rw [mI_wI_at, pk_un (by decide), e35]
  -- the greatest of a row
  have g1 : ∀ v (b : Int32) k, k ≤ a 0 0 8 → iter (fun (s : Int32 × Int32) => b_X13_toAsk_38 (wI h2 55 36 v) 55 b (nI k) s.1 s.2) FU (nI 0, nI 0) = some (nI (mlN (a 0) k (a 0 0 2))) := by
    intro v b k hk
    refine iter_for (fun i => (nI (mlN (a 0) k i), nI i)) (a 0 0 2) (FU_lt (by omega)) (fun i hi => ?_) ?_
    · have h1 := mlN_le W.rw hk i
      have h3 := rwN_le W.rw hk i
      show b_X13_toAsk_38 (wI h2 55 36 v) 55 b (nI k) (nI (mlN (a 0) k i)) (nI i) = some (Sum.inl (nI (max (mlN (a 0) k i) (rwN (a 0) k i)), nI (i + 1)))
      unfold b_X13_toAsk_38 f_X13_toAsk_69
      simp (disch := omega) only [ob, nI_lit, nI_add, pk_mul, nI_eq, nI_ltI, nI_leI, if_true, if_false, if_pos, if_neg, gR_of (tS_55 (Sv v)), (Pv v).pp, gI_of (tP (Pv v).rd.pk), (Pv v).rd.sc, hrv v k i hk hi]
      rcases Nat.lt_or_ge (mlN (a 0) k i) (rwN (a 0) k i) with c | c
      · rw [if_neg (by omega), Nat.max_eq_right (by omega)]
      · rw [if_pos c, Nat.max_eq_left c]
    · unfold b_X13_toAsk_38
      simp (disch := omega) only [ob, nI_lit, nI_add, pk_mul, nI_eq, nI_ltI, nI_leI, if_true, if_false, if_pos, if_neg, gR_of (tS_55 (Sv v)), (Pv v).pp, gI_of (tP (Pv v).rd.pk), (Pv v).rd.sc]
  have key : iter (fun (s : Int32 × Int32 × Mem) => b_X13_toAsk_15 s.2.2 55 s.1 s.2.1) FU (-nI 2, nI 0, wI h2 55 36 (-nI 2)) = some (if alN (a 0) = 0 then (-nI 2, wI h2 55 36 (-nI 2)) else (nI (akN (a 0) (a 0 0 8 + 1)), wI h2 55 36 (nI (mlN (a 0) (akN (a 0) (a 0 0 8 + 1)) (a 0 0 2))))) := by
    rcases Nat.eq_zero_or_pos (alN (a 0)) with ea | ea
    · rw [if_pos ea]
      refine iter_exit (n := 99999) ?_
      show b_X13_toAsk_15 (wI h2 55 36 (-nI 2)) 55 (-nI 2) (nI 0) = _
      have e35w := e35v (-nI 2)
      rw [ea] at e35w
      unfold b_X13_toAsk_15
      simp (disch := omega) only [ob, nI_lit, nI_add, pk_mul, nI_eq, nI_ltI, nI_leI, if_true, if_false, if_pos, if_neg, gR_of (tS_55 (Sv _)), (Pv _).pp, gI_of (tP (Pv _).rd.pk), (Pv _).rd.sc, gI_of (tS_55 (Sv _)), e35w]
    · rw [if_neg (by omega)]
      refine iter_for (fun k => if k = 0 then (-nI 2, nI 0, wI h2 55 36 (-nI 2)) else (nI (akN (a 0) k), nI k, wI h2 55 36 (nI (mlN (a 0) (akN (a 0) k) (a 0 0 2))))) (a 0 0 8 + 1) (FU_lt (by omega)) (fun k hk => ?_) ?_
      · rcases Nat.eq_zero_or_pos k with ek | ek
        · subst ek
          have e1 : akN (a 0) 1 = 0 := Nat.le_zero.mp (akN_le (a 0) 0)
          rw [if_pos rfl, if_neg (by omega), Nat.zero_add, e1]
          show b_X13_toAsk_15 (wI h2 55 36 (-nI 2)) 55 (-nI 2) (nI 0) = _
          have gg := g1 (-nI 2) (-nI 2) 0 (by omega)
          unfold b_X13_toAsk_15 f_X13_toAsk_92 f_X13_toAsk_99
          simp (disch := omega) only [ob, nI_lit, nI_add, pk_mul, nI_eq, nI_ltI, nI_leI, if_true, if_false, if_pos, if_neg, gR_of (tS_55 (Sv _)), (Pv _).pp, gI_of (tP (Pv _).rd.pk), (Pv _).rd.sc, gI_of (tS_55 (Sv _)), e35v, gg, pI_of (tS_55 (Sv _)), wI2]
        · obtain ⟨j, rfl⟩ : ∃ j, k = j + 1 := ⟨k - 1, by omega⟩
          have h3 := akN_le (a 0) j
          have h4 := mlN_le W.rw (show j + 1 ≤ a 0 0 8 by omega) (a 0 0 2)
          have h5 := mlN_le W.rw (show akN (a 0) (j + 1) ≤ a 0 0 8 by omega) (a 0 0 2)
          rw [if_neg (by omega), if_neg (by omega)]
          show b_X13_toAsk_15 (wI h2 55 36 (nI (mlN (a 0) (akN (a 0) (j + 1)) (a 0 0 2)))) 55 (nI (akN (a 0) (j + 1))) (nI (j + 1)) = some (Sum.inl (nI (akf (a 0) (j + 1) (akN (a 0) (j + 1))), nI (j + 1 + 1), wI h2 55 36 (nI (mlN (a 0) (akf (a 0) (j + 1) (akN (a 0) (j + 1))) (a 0 0 2)))))
          have gg := g1 (nI (mlN (a 0) (akN (a 0) (j + 1)) (a 0 0 2))) (nI (akN (a 0) (j + 1))) (j + 1) (by omega)
          have e36 : mI (wI h2 55 36 (nI (mlN (a 0) (akN (a 0) (j + 1)) (a 0 0 2)))) 55 36 = nI (mlN (a 0) (akN (a 0) (j + 1)) (a 0 0 2)) := by rw [mI_wI_at, pk_us]
          unfold b_X13_toAsk_15 f_X13_toAsk_92 f_X13_toAsk_99 akf
          simp (disch := omega) only [ob, nI_lit, nI_add, pk_mul, nI_eq, nI_ltI, nI_leI, if_true, if_false, if_pos, if_neg, gR_of (tS_55 (Sv _)), (Pv _).pp, gI_of (tP (Pv _).rd.pk), (Pv _).rd.sc, gI_of (tS_55 (Sv _)), e35v, gg, nI_nem, e36, pI_of (tS_55 (Sv _)), wI2]
          rcases Nat.lt_or_ge (mlN (a 0) (j + 1) (a 0 0 2)) (mlN (a 0) (akN (a 0) (j + 1)) (a 0 0 2)) with c | c
          · simp only [c, if_true]
          · simp only [show ¬ mlN (a 0) (j + 1) (a 0 0 2) < mlN (a 0) (akN (a 0) (j + 1)) (a 0 0 2) by omega, if_false]
      · rw [if_neg (by omega)]
        show b_X13_toAsk_15 (wI h2 55 36 (nI (mlN (a 0) (akN (a 0) (a 0 0 8 + 1)) (a 0 0 2)))) 55 (nI (akN (a 0) (a 0 0 8 + 1))) (nI (a 0 0 8 + 1)) = _
        unfold b_X13_toAsk_15
        simp (disch := omega) only [ob, nI_lit, nI_add, pk_mul, nI_eq, nI_ltI, nI_leI, if_true, if_false, if_pos, if_neg, gR_of (tS_55 (Sv _)), (Pv _).pp, gI_of (tP (Pv _).rd.pk), (Pv _).rd.sc]
  have er : f_X13_toAsk h 55 = some (if alN (a 0) = 0 then (-nI 2, wI h2 55 36 (-nI 2)) else (nI (akN (a 0) (a 0 0 8 + 1)), wI h2 55 36 (nI (mlN (a 0) (akN (a 0) (a 0 0 8 + 1)) (a 0 0 2))))) := by
    unfold f_X13_toAsk
    simp (disch := omega) only [ob, nI_lit, nI_add, pk_mul, nI_eq, nI_ltI, nI_leI, if_true, if_false, if_pos, if_neg, ck_of (tS_55 M.sh), gR_of (tS_55 M.sh), gI_of (tS_55 M.sh), pI_of (tS_55 M.sh), rS_55_16 M.sh, rS_55_17 M.sh, rS_55_18 M.sh, rS_55_21 M.sh, rS_55_25 M.sh, rS_55_26 M.sh, rS_55_27 M.sh, rS_55_28 M.sh, rS_55_32 M.sh, rS_55_33 M.sh, rS_55_34 M.sh, m_refused M.sh, m_good M.sh, e2, pI_of (tS_55 S2), key]
  refine ⟨_, er, ?_, ?_, ?_⟩
  · split <;> rfl
  · split
    · exact F2.tr (FM.w55 h2 _ (by decide))
    · exact F2.tr (FM.w55 h2 _ (by decide))
  · split
    · rw [mI_wI_at, pk_us]
    · rw [mI_wI_at, pk_us]
theorem qq_ask {a : AB} (W : IW a) : ∃ v z, z ≤ 6 ∧ z ≠ 4 ∧ QC a (fun h => f_X11_ask h 1) v z ∧ QM a (fun h => f_X13_ask h 55) v z := by
  rcases Nat.eq_zero_or_pos (a 0 0 2) with e0 | e0
  · refine ⟨-nI 1, 1, by decide, by decide, fun h C => ?_, fun h M0 => ?_⟩
    · unfold f_X11_ask
      simp (disch := omega) only [ob, nI_lit, nI_add, pk_mul, nI_eq, nI_ltI, nI_leI, if_true, if_false, if_pos, if_neg, ck_of (tS_1 C.ct.sh), gR_of (tS_1 C.ct.sh), gI_of (tS_1 C.ct.sh), pI_of (tS_1 C.ct.sh), C.ct.rp, rS_1_2 C.ct.sh, rS_1_3 C.ct.sh, rS_1_4 C.ct.sh, rS_1_5 C.ct.sh, rS_1_6 C.ct.sh, rS_1_7 C.ct.sh, rS_1_8 C.ct.sh, rS_1_9 C.ct.sh, ck_of (tR C.ct.rd.rd), gR_of (tR C.ct.rd.rd), gI_of (tR C.ct.rd.rd), rR_9 C.ct.rd.rd, rR_10 C.ct.rd.rd, rR_11 C.ct.rd.rd, rR_12 C.ct.rd.rd, rR_13 C.ct.rd.rd, rR_14 C.ct.rd.rd, rR_15 C.ct.rd.rd, rR_16 C.ct.rd.rd, rR_17 C.ct.rd.rd, rR_18 C.ct.rd.rd, rR_19 C.ct.rd.rd, aI_of (tR_1 C.ct.rd.rd), aI_of (tR_2 C.ct.rd.rd), aI_of (tR_3 C.ct.rd.rd), aI_of (tR_4 C.ct.rd.rd), aI_of (tR_5 C.ct.rd.rd), aI_of (tR_6 C.ct.rd.rd), aI_of (tR_7 C.ct.rd.rd), aI_of (tR_8 C.ct.rd.rd), aI_of (tR_9 C.ct.rd.rd), C.ct.rd.sc, C.ct.rd.len, C.ct.rd.e1, C.ct.rd.e2, C.ct.rd.min, C.ct.rd.kd, C.ct.rd.gt, C.ct.rd.bt, C.ct.rd.ip, C.ct.rd.hd, c_refuse C.ct.sh, c_answer C.ct.sh, c_told0 W C e0]
      exact qc_end C _ _
    · unfold f_X13_ask
      simp only [ck_of (tS_55 M0.sh), pI_of (tS_55 M0.sh), ob, nI_lit]; obtain ⟨h1, eh, M, F1⟩ : ∃ h1, wI h 55 0 (nI 0) = h1 ∧ IM h1 a ∧ FM h h1 := ⟨_, rfl, M0.th _, FM.w55 h _ (by decide)⟩; rw [eh]
      simp (disch := omega) only [ob, nI_lit, nI_add, pk_mul, nI_eq, nI_ltI, nI_leI, if_true, if_false, if_pos, if_neg, ck_of (tS_55 M.sh), gR_of (tS_55 M.sh), gI_of (tS_55 M.sh), pI_of (tS_55 M.sh), rS_55_16 M.sh, rS_55_17 M.sh, rS_55_18 M.sh, rS_55_21 M.sh, rS_55_25 M.sh, rS_55_26 M.sh, rS_55_27 M.sh, rS_55_28 M.sh, rS_55_32 M.sh, rS_55_33 M.sh, rS_55_34 M.sh, m_refused M.sh, m_good M.sh, m_null M e0]
      exact qm_end F1 _ _
  · refine ⟨if alN (a 0) = 0 then -nI 2 else nI (akN (a 0) (a 0 0 8 + 1)), 0, by decide, by decide, fun h C => ?_, fun h M0 => ?_⟩
    · unfold f_X11_ask
      simp (disch := omega) only [ob, nI_lit, nI_add, pk_mul, nI_eq, nI_ltI, nI_leI, if_true, if_false, if_pos, if_neg, ck_of (tS_1 C.ct.sh), gR_of (tS_1 C.ct.sh), gI_of (tS_1 C.ct.sh), pI_of (tS_1 C.ct.sh), C.ct.rp, rS_1_2 C.ct.sh, rS_1_3 C.ct.sh, rS_1_4 C.ct.sh, rS_1_5 C.ct.sh, rS_1_6 C.ct.sh, rS_1_7 C.ct.sh, rS_1_8 C.ct.sh, rS_1_9 C.ct.sh, ck_of (tR C.ct.rd.rd), gR_of (tR C.ct.rd.rd), gI_of (tR C.ct.rd.rd), rR_9 C.ct.rd.rd, rR_10 C.ct.rd.rd, rR_11 C.ct.rd.rd, rR_12 C.ct.rd.rd, rR_13 C.ct.rd.rd, rR_14 C.ct.rd.rd, rR_15 C.ct.rd.rd, rR_16 C.ct.rd.rd, rR_17 C.ct.rd.rd, rR_18 C.ct.rd.rd, rR_19 C.ct.rd.rd, aI_of (tR_1 C.ct.rd.rd), aI_of (tR_2 C.ct.rd.rd), aI_of (tR_3 C.ct.rd.rd), aI_of (tR_4 C.ct.rd.rd), aI_of (tR_5 C.ct.rd.rd), aI_of (tR_6 C.ct.rd.rd), aI_of (tR_7 C.ct.rd.rd), aI_of (tR_8 C.ct.rd.rd), aI_of (tR_9 C.ct.rd.rd), C.ct.rd.sc, C.ct.rd.len, C.ct.rd.e1, C.ct.rd.e2, C.ct.rd.min, C.ct.rd.kd, C.ct.rd.gt, C.ct.rd.bt, C.ct.rd.ip, C.ct.rd.hd, c_refuse C.ct.sh, c_answer C.ct.sh, c_told1 W C e0, c_ak W C]
      exact qc_end C _ _
    · unfold f_X13_ask
      simp only [ck_of (tS_55 M0.sh), pI_of (tS_55 M0.sh), ob, nI_lit]; obtain ⟨h1, eh, M, F1⟩ : ∃ h1, wI h 55 0 (nI 0) = h1 ∧ IM h1 a ∧ FM h h1 := ⟨_, rfl, M0.th _, FM.w55 h _ (by decide)⟩; rw [eh]
      have P := M.told e0
      have hz := P.nz
      obtain ⟨q2, e2, e3, F2, -⟩ := m_ask W M e0
      have S2 := F2.1.sh M.sh
      simp (disch := omega) only [ob, nI_lit, nI_add, pk_mul, nI_eq, nI_ltI, nI_leI, if_true, if_false, if_pos, if_neg, ck_of (tS_55 M.sh), gR_of (tS_55 M.sh), gI_of (tS_55 M.sh), pI_of (tS_55 M.sh), rS_55_16 M.sh, rS_55_17 M.sh, rS_55_18 M.sh, rS_55_21 M.sh, rS_55_25 M.sh, rS_55_26 M.sh, rS_55_27 M.sh, rS_55_28 M.sh, rS_55_32 M.sh, rS_55_33 M.sh, rS_55_34 M.sh, m_refused M.sh, m_good M.sh, P.pp, e2, e3, m_good S2]
      exact qm_end (F1.tr F2) _ _
theorem st_32 : StepOK INV lc_32 := by
  intro sc L i h hL hi hI
  unfold lc_32
  exact q2 (f := fun h => f_X11_ask h 1) (g := fun h => f_X13_ask h 55) hI (fun a W => qq_ask W)
theorem qq_askLeaves {a : AB} (W : IW a) : ∃ v z, z ≤ 6 ∧ z ≠ 4 ∧ QC a (fun h => f_X11_askLeaves h 1) v z ∧ QM a (fun h => f_X13_askLeaves h 55) v z := by
  have hhe := W.rw.he
  rcases Nat.eq_zero_or_pos (a 0 0 2) with e0 | e0
  · refine ⟨-nI 1, 1, by decide, by decide, fun h C => ?_, fun h M0 => ?_⟩
    · unfold f_X11_askLeaves
      simp (disch := omega) only [ob, nI_lit, nI_add, pk_mul, nI_eq, nI_ltI, nI_leI, if_true, if_false, if_pos, if_neg, ck_of (tS_1 C.ct.sh), gR_of (tS_1 C.ct.sh), gI_of (tS_1 C.ct.sh), pI_of (tS_1 C.ct.sh), C.ct.rp, rS_1_2 C.ct.sh, rS_1_3 C.ct.sh, rS_1_4 C.ct.sh, rS_1_5 C.ct.sh, rS_1_6 C.ct.sh, rS_1_7 C.ct.sh, rS_1_8 C.ct.sh, rS_1_9 C.ct.sh, ck_of (tR C.ct.rd.rd), gR_of (tR C.ct.rd.rd), gI_of (tR C.ct.rd.rd), rR_9 C.ct.rd.rd, rR_10 C.ct.rd.rd, rR_11 C.ct.rd.rd, rR_12 C.ct.rd.rd, rR_13 C.ct.rd.rd, rR_14 C.ct.rd.rd, rR_15 C.ct.rd.rd, rR_16 C.ct.rd.rd, rR_17 C.ct.rd.rd, rR_18 C.ct.rd.rd, rR_19 C.ct.rd.rd, aI_of (tR_1 C.ct.rd.rd), aI_of (tR_2 C.ct.rd.rd), aI_of (tR_3 C.ct.rd.rd), aI_of (tR_4 C.ct.rd.rd), aI_of (tR_5 C.ct.rd.rd), aI_of (tR_6 C.ct.rd.rd), aI_of (tR_7 C.ct.rd.rd), aI_of (tR_8 C.ct.rd.rd), aI_of (tR_9 C.ct.rd.rd), C.ct.rd.sc, C.ct.rd.len, C.ct.rd.e1, C.ct.rd.e2, C.ct.rd.min, C.ct.rd.kd, C.ct.rd.gt, C.ct.rd.bt, C.ct.rd.ip, C.ct.rd.hd, c_refuse C.ct.sh, c_answer C.ct.sh, c_told0 W C e0]
      exact qc_end C _ _
    · unfold f_X13_askLeaves
      simp only [ck_of (tS_55 M0.sh), pI_of (tS_55 M0.sh), ob, nI_lit]; obtain ⟨h1, eh, M, F1⟩ : ∃ h1, wI h 55 0 (nI 0) = h1 ∧ IM h1 a ∧ FM h h1 := ⟨_, rfl, M0.th _, FM.w55 h _ (by decide)⟩; rw [eh]
      simp (disch := omega) only [ob, nI_lit, nI_add, pk_mul, nI_eq, nI_ltI, nI_leI, if_true, if_false, if_pos, if_neg, ck_of (tS_55 M.sh), gR_of (tS_55 M.sh), gI_of (tS_55 M.sh), pI_of (tS_55 M.sh), rS_55_16 M.sh, rS_55_17 M.sh, rS_55_18 M.sh, rS_55_21 M.sh, rS_55_25 M.sh, rS_55_26 M.sh, rS_55_27 M.sh, rS_55_28 M.sh, rS_55_32 M.sh, rS_55_33 M.sh, rS_55_34 M.sh, m_refused M.sh, m_good M.sh, m_null M e0]
      exact qm_end F1 _ _
  · refine ⟨if alN (a 0) = 0 then -nI 2 else nI (mlN (a 0) (akN (a 0) (a 0 0 8 + 1)) (a 0 0 2)), 0, by decide, by decide, fun h C => ?_, fun h M0 => ?_⟩
    · have h3 := akN_le (a 0) (a 0 0 8)
      have hneg : ¬ nI 0 ≤ -nI 2 := by decide
      unfold f_X11_askLeaves f_X11_askLeaves_47
      rcases Decidable.em (alN (a 0) = 0) with e | e
      · have ck := c_ak W C
        rw [if_pos e] at ck
        rw [if_pos e]
        simp (disch := omega) only [ob, nI_lit, nI_add, pk_mul, nI_eq, nI_ltI, nI_leI, if_true, if_false, if_pos, if_neg, ck_of (tS_1 C.ct.sh), gR_of (tS_1 C.ct.sh), gI_of (tS_1 C.ct.sh), pI_of (tS_1 C.ct.sh), C.ct.rp, rS_1_2 C.ct.sh, rS_1_3 C.ct.sh, rS_1_4 C.ct.sh, rS_1_5 C.ct.sh, rS_1_6 C.ct.sh, rS_1_7 C.ct.sh, rS_1_8 C.ct.sh, rS_1_9 C.ct.sh, ck_of (tR C.ct.rd.rd), gR_of (tR C.ct.rd.rd), gI_of (tR C.ct.rd.rd), rR_9 C.ct.rd.rd, rR_10 C.ct.rd.rd, rR_11 C.ct.rd.rd, rR_12 C.ct.rd.rd, rR_13 C.ct.rd.rd, rR_14 C.ct.rd.rd, rR_15 C.ct.rd.rd, rR_16 C.ct.rd.rd, rR_17 C.ct.rd.rd, rR_18 C.ct.rd.rd, rR_19 C.ct.rd.rd, aI_of (tR_1 C.ct.rd.rd), aI_of (tR_2 C.ct.rd.rd), aI_of (tR_3 C.ct.rd.rd), aI_of (tR_4 C.ct.rd.rd), aI_of (tR_5 C.ct.rd.rd), aI_of (tR_6 C.ct.rd.rd), aI_of (tR_7 C.ct.rd.rd), aI_of (tR_8 C.ct.rd.rd), aI_of (tR_9 C.ct.rd.rd), C.ct.rd.sc, C.ct.rd.len, C.ct.rd.e1, C.ct.rd.e2, C.ct.rd.min, C.ct.rd.kd, C.ct.rd.gt, C.ct.rd.bt, C.ct.rd.ip, C.ct.rd.hd, c_refuse C.ct.sh, c_answer C.ct.sh, c_told1 W C e0, ck, hneg]
        exact qc_end C _ _
      · have ck := c_ak W C
        rw [if_neg e] at ck
        rw [if_neg e]
        simp (disch := omega) only [ob, nI_lit, nI_add, pk_mul, nI_eq, nI_ltI, nI_leI, if_true, if_false, if_pos, if_neg, ck_of (tS_1 C.ct.sh), gR_of (tS_1 C.ct.sh), gI_of (tS_1 C.ct.sh), pI_of (tS_1 C.ct.sh), C.ct.rp, rS_1_2 C.ct.sh, rS_1_3 C.ct.sh, rS_1_4 C.ct.sh, rS_1_5 C.ct.sh, rS_1_6 C.ct.sh, rS_1_7 C.ct.sh, rS_1_8 C.ct.sh, rS_1_9 C.ct.sh, ck_of (tR C.ct.rd.rd), gR_of (tR C.ct.rd.rd), gI_of (tR C.ct.rd.rd), rR_9 C.ct.rd.rd, rR_10 C.ct.rd.rd, rR_11 C.ct.rd.rd, rR_12 C.ct.rd.rd, rR_13 C.ct.rd.rd, rR_14 C.ct.rd.rd, rR_15 C.ct.rd.rd, rR_16 C.ct.rd.rd, rR_17 C.ct.rd.rd, rR_18 C.ct.rd.rd, rR_19 C.ct.rd.rd, aI_of (tR_1 C.ct.rd.rd), aI_of (tR_2 C.ct.rd.rd), aI_of (tR_3 C.ct.rd.rd), aI_of (tR_4 C.ct.rd.rd), aI_of (tR_5 C.ct.rd.rd), aI_of (tR_6 C.ct.rd.rd), aI_of (tR_7 C.ct.rd.rd), aI_of (tR_8 C.ct.rd.rd), aI_of (tR_9 C.ct.rd.rd), C.ct.rd.sc, C.ct.rd.len, C.ct.rd.e1, C.ct.rd.e2, C.ct.rd.min, C.ct.rd.kd, C.ct.rd.gt, C.ct.rd.bt, C.ct.rd.ip, C.ct.rd.hd, c_refuse C.ct.sh, c_answer C.ct.sh, c_told1 W C e0, ck, c_ml W C h3]
        exact qc_end C _ _
    · unfold f_X13_askLeaves
      simp only [ck_of (tS_55 M0.sh), pI_of (tS_55 M0.sh), ob, nI_lit]; obtain ⟨h1, eh, M, F1⟩ : ∃ h1, wI h 55 0 (nI 0) = h1 ∧ IM h1 a ∧ FM h h1 := ⟨_, rfl, M0.th _, FM.w55 h _ (by decide)⟩; rw [eh]
      have P := M.told e0
      have hz := P.nz
      obtain ⟨q2, e2, e3, F2, e36⟩ := m_ask W M e0
      have S2 := F2.1.sh M.sh
      simp (disch := omega) only [ob, nI_lit, nI_add, pk_mul, nI_eq, nI_ltI, nI_leI, if_true, if_false, if_pos, if_neg, ck_of (tS_55 M.sh), gR_of (tS_55 M.sh), gI_of (tS_55 M.sh), pI_of (tS_55 M.sh), rS_55_16 M.sh, rS_55_17 M.sh, rS_55_18 M.sh, rS_55_21 M.sh, rS_55_25 M.sh, rS_55_26 M.sh, rS_55_27 M.sh, rS_55_28 M.sh, rS_55_32 M.sh, rS_55_33 M.sh, rS_55_34 M.sh, m_refused M.sh, m_good M.sh, P.pp, e2, gI_of (tS_55 S2), e36, m_good S2]
      exact qm_end (F1.tr F2) _ _
theorem st_33 : StepOK INV lc_33 := by
  intro sc L i h hL hi hI
  unfold lc_33
  exact q2 (f := fun h => f_X11_askLeaves h 1) (g := fun h => f_X13_askLeaves h 55) hI (fun a W => qq_askLeaves W)
