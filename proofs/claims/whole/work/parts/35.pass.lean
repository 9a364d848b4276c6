/-! ===== who may pass, in the class and in the reference ===== -/
theorem m1_and (x : Int32) : -nI 1 &&& x = x := by
  have e : (-nI 1 : Int32) = ~~~ 0 := by decide
  apply Int32.toBitVec_inj.mp
  apply BitVec.eq_of_getLsbD_eq
  intro i hi
  rw [e, Int32.toBitVec_and, Int32.toBitVec_not, BitVec.getLsbD_and, BitVec.getLsbD_not]
  simp [hi]
/-- the class as its questions find it -/
def CT (h : Mem) (r : Nat) (ρ : RO) : Prop := (SH h) ∧ (mR h 1 1 = r) ∧ (CRd h r ρ) ∧ (∀ j, j < ρ 0 3 → mI h (r + 10) j = lk ρ j false) ∧ (∀ j, j < ρ 0 3 → mI h (r + 10) (10 + j) = lk ρ j true)
theorem CT.sh {h : Mem} {r : Nat} {ρ : RO} (H : CT h r ρ) : SH h := H.1
theorem CT.rp {h : Mem} {r : Nat} {ρ : RO} (H : CT h r ρ) : mR h 1 1 = r := H.2.1
theorem CT.rd {h : Mem} {r : Nat} {ρ : RO} (H : CT h r ρ) : CRd h r ρ := H.2.2.1
theorem CT.l0 {h : Mem} {r : Nat} {ρ : RO} (H : CT h r ρ) : ∀ j, j < ρ 0 3 → mI h (r + 10) j = lk ρ j false := H.2.2.2.1
theorem CT.l1 {h : Mem} {r : Nat} {ρ : RO} (H : CT h r ρ) : ∀ j, j < ρ 0 3 → mI h (r + 10) (10 + j) = lk ρ j true := H.2.2.2.2
/-- the reference with a Pike -/
def MT (h : Mem) (p : Nat) (ρ : RO) : Prop := (SH h) ∧ (mR h 55 3 = p) ∧ (p ≠ 0) ∧ (MRd h p ρ)
theorem MT.sh {h : Mem} {p : Nat} {ρ : RO} (H : MT h p ρ) : SH h := H.1
theorem MT.pp {h : Mem} {p : Nat} {ρ : RO} (H : MT h p ρ) : mR h 55 3 = p := H.2.1
theorem MT.nz {h : Mem} {p : Nat} {ρ : RO} (H : MT h p ρ) : p ≠ 0 := H.2.2.1
theorem MT.rd {h : Mem} {p : Nat} {ρ : RO} (H : MT h p ρ) : MRd h p ρ := H.2.2.2
def cNw (h : Mem) (ν : RO) : Prop := rC (mI h 34) 0 ν
def mNw (h : Mem) (ν : RO) : Prop := rM (mI h 57) 0 ν
theorem cNw.at {h : Mem} {ν : RO} (N : cNw h ν) : ∀ x w, x < 4 → w < 5 → mI h 34 (x * 5 + w) = nI (ν w x) := fun x w hx hw => by
  have := N.1 x w hx hw
  rwa [Nat.zero_add] at this
theorem cNw.rn {h : Mem} {ν : RO} (N : cNw h ν) : mI h 34 20 = nI (ν 5 0) := by
  have := N.2
  rwa [Nat.zero_add] at this
theorem mNw.at {h : Mem} {ν : RO} (N : mNw h ν) : ∀ x w, x < 4 → w < 5 → mI h 57 (4 * w + x) = nI (ν w x) := fun x w hx hw => by
  have := N.1 x w hx hw
  rwa [Nat.zero_add] at this
theorem mNw.rn {h : Mem} {ν : RO} (N : mNw h ν) : mI h 57 20 = nI (ν 5 0) := by
  have := N.2
  rwa [Nat.zero_add] at this
/-- it rains; the voices of what one knows and has FORGED -/
def rb (ν : RO) : Bool := decide (ν 5 0 = 1)
def vo (kn fg : Nat) : Nat := (kn ||| fg * 64) ||| 4096
theorem vo_lt {kn fg : Nat} (h1 : kn < 64) (h2 : fg < 64) : vo kn fg < 8192 :=
  Nat.or_lt_two_pow (n := 13) (Nat.or_lt_two_pow (by omega) (by omega)) (by decide)
theorem vo_ne (kn fg : Nat) : vo kn fg ≠ 0 := by
  intro h
  have : (vo kn fg).testBit 12 = true := by
    unfold vo
    rw [Nat.testBit_or, show (4096 : Nat).testBit 12 = true by decide, Bool.or_true]
  rw [h, Nat.zero_testBit] at this
  cases this
theorem b4096 : ∀ t, t < 12 → (4096 : Nat).testBit t = false := by decide
theorem vo_b0 {kn t : Nat} (fg : Nat) (ht : t < 6) : (vo kn fg).testBit t = kn.testBit t := by
  unfold vo
  rw [Nat.testBit_or, Nat.testBit_or, b4096 t (by omega), show fg * 64 = 2 ^ 6 * fg by omega, Nat.testBit_two_pow_mul]
  simp
  omega
theorem vo_b1 {kn fg t : Nat} (hk : kn < 64) (ht : t < 6) : (vo kn fg).testBit (6 + t) = fg.testBit t := by
  unfold vo
  rw [Nat.testBit_or, Nat.testBit_or, b4096 (6 + t) (by omega), show fg * 64 = 2 ^ 6 * fg by omega, Nat.testBit_two_pow_mul, Nat.testBit_lt_two_pow (show kn < 2 ^ (6 + t) from Nat.lt_of_lt_of_le hk (two_le (k := 6) (by omega)))]
  simp
section
variable {h : Mem} {r p : Nat} {ρ ν : RO}
theorem c_open (W : RW ρ) (C : CT h r ρ) {j V : Nat} (ra : Bool) (hj : j < ρ 0 3) (hV : V < 8192) (h0 : V ≠ 0) : f_X1_isOpen h r (nI j) (nI V) (nI ra.toNat) = some (nI (op ρ j V ra).toNat) := by
  have := W.ro
  have key : ∀ ra, (if lk ρ j ra &&& nI V = 0 then some (0 : Int32) else some 1) = some (nI (op ρ j V ra).toNat) := by
    intro ra
    unfold op og lk
    rcases Decidable.em (ρ 6 j = 0) with e | e
    · simp only [e, if_true, m1_and]
      simp (disch := omega) only [ob, nI_lit, nI_add, pk_mul, nI_eq, nI_ltI, nI_leI, if_true, if_false, if_pos, if_neg]
      rfl
    · have hl := lvv_lt ρ (ρ 6 j) (ρ 7 j) ra _ W.tu
      have ha := lv_and ρ W (ρ 6 j) (ρ 7 j) V ra
      have : (lv ρ (ρ 6 j) (ρ 7 j) ra (ρ 0 1) &&& V) < 4096 := Nat.lt_of_le_of_lt Nat.and_le_left hl
      simp only [e, if_false, decide_false, Bool.false_or]
      simp (disch := omega) only [nI_and, nI_lit, nI_eq]
      rcases Decidable.em (lv ρ (ρ 6 j) (ρ 7 j) ra (ρ 0 1) &&& V = 0) with q | q
      · have hq : ex (fun t => V.testBit t && lf ρ (ρ 6 j) (ρ 7 j) t false ra || V.testBit (6 + t) && lf ρ (ρ 6 j) (ρ 7 j) t true ra) (ρ 0 1) = false := by
          rcases hx : ex (fun t => V.testBit t && lf ρ (ρ 6 j) (ρ 7 j) t false ra || V.testBit (6 + t) && lf ρ (ρ 6 j) (ρ 7 j) t true ra) (ρ 0 1) with _ | _
          · rfl
          · exact absurd q (ha.mpr hx)
        rw [if_pos q, hq]
        rfl
      · rw [if_neg q, ha.mp q]
        rfl
  unfold f_X1_isOpen f_X1_isOpen_16
  cases ra
  · have k := key false
    simp only [nI_lit] at k
    simp (disch := omega) only [ob, nI_lit, nI_add, pk_mul, nI_eq, nI_ltI, nI_leI, if_true, if_false, if_pos, if_neg, gR_of (tR C.rd.rd), rR_18 C.rd.rd, aI_of (tR_10 C.rd.rd), C.l0, Bool.toNat_false, k]
  · have k := key true
    simp only [nI_lit] at k
    simp (disch := omega) only [ob, nI_lit, nI_add, pk_mul, nI_eq, nI_ltI, nI_leI, if_true, if_false, if_pos, if_neg, gR_of (tR C.rd.rd), rR_18 C.rd.rd, aI_of (tR_10 C.rd.rd), C.l1, Bool.toNat_true, k]
theorem c_rains (S : SH h) (N : cNw h ν) (hr : ν 5 0 ≤ 1) : f_X2_rains h 33 = some (nI (rb ν).toNat) := by
  unfold f_X2_rains rb
  simp (disch := omega) only [ob, nI_lit, nI_add, pk_mul, nI_eq, nI_ltI, nI_leI, if_true, if_false, if_pos, if_neg, ck_of (tS_33 S), gR_of (tS_33 S), rS_33_0 S, aI_of (tS_34 S), N.rn]
  rcases Decidable.em (ν 5 0 = 1) with e | e <;> simp [e]
theorem c_of (S : SH h) (N : cNw h ν) {x w : Nat} (hx : x < 4) (hw : w < 5) : f_X2_of h 33 (nI x) (nI w) = some (nI (ν w x)) := by
  unfold f_X2_of
  simp (disch := omega) only [ob, nI_lit, nI_add, pk_mul, nI_eq, nI_ltI, nI_leI, if_true, if_false, if_pos, if_neg, ck_of (tS_33 S), gR_of (tS_33 S), rS_33_0 S, aI_of (tS_34 S), N.at]
theorem c_voices (S : SH h) (N : cNw h ν) {x : Nat} (hx : x < 4) (h2 : ν 2 x < 64) (h3 : ν 3 x < 64) : f_X2_voices h 33 (nI x) = some (nI (vo (ν 2 x) (ν 3 x))) := by
  unfold f_X2_voices vo
  have : ν 2 x ||| ν 3 x * 64 < 2 ^ 12 := Nat.or_lt_two_pow (by omega) (by omega)
  simp (disch := omega) only [ob, nI_lit, nI_add, pk_mul, nI_eq, nI_ltI, nI_leI, if_true, if_false, if_pos, if_neg, ck_of (tS_33 S), c_of S N, nI_shl, nI_or, Nat.reducePow]
theorem m_rains (S : SH h) (N : mNw h ν) (hr : ν 5 0 ≤ 1) : f_X13_rains h 55 = some (nI (rb ν).toNat) := by
  unfold f_X13_rains rb
  simp (disch := omega) only [ob, nI_lit, nI_add, pk_mul, nI_eq, nI_ltI, nI_leI, if_true, if_false, if_pos, if_neg, ck_of (tS_55 S), gR_of (tS_55 S), rS_55_16 S, aI_of (tS_57 S), N.rn]
  rcases Decidable.em (ν 5 0 = 1) with e | e <;> simp [e]
theorem m_note (W : RW ρ) (M : MT h p ρ) {t i : Nat} (ht : t < ρ 0 1) (hi : i < ρ 1 t) : f_X12_note h p (nI t) (nI i) = some (nI (ρ 2 (8 * t + i))) := by
  have := W.tu
  have := W.len t ht
  unfold f_X12_note
  simp (disch := omega) only [ob, nI_lit, nI_add, pk_mul, nI_eq, nI_ltI, nI_leI, if_true, if_false, if_pos, if_neg, ck_of (tS_55 M.sh), gR_of (tS_55 M.sh), gI_of (tS_55 M.sh), M.pp, ck_of (tP M.rd.pk), gR_of (tP M.rd.pk), gI_of (tP M.rd.pk), rP_10 M.rd.pk, rP_11 M.rd.pk, rP_12 M.rd.pk, rP_13 M.rd.pk, rP_14 M.rd.pk, rP_15 M.rd.pk, rP_16 M.rd.pk, rP_17 M.rd.pk, rP_18 M.rd.pk, rP_19 M.rd.pk, rP_20 M.rd.pk, rP_21 M.rd.pk, rP_22 M.rd.pk, rP_23 M.rd.pk, rP_24 M.rd.pk, aI_of (tP_1 M.rd.pk), aI_of (tP_2 M.rd.pk), aI_of (tP_3 M.rd.pk), aI_of (tP_4 M.rd.pk), aI_of (tP_5 M.rd.pk), aI_of (tP_6 M.rd.pk), aI_of (tP_7 M.rd.pk), aI_of (tP_8 M.rd.pk), aI_of (tP_9 M.rd.pk), aI_of (tP_10 M.rd.pk), aI_of (tP_11 M.rd.pk), aI_of (tP_12 M.rd.pk), aI_of (tP_13 M.rd.pk), aI_of (tP_14 M.rd.pk), aI_of (tP_15 M.rd.pk), M.rd.sc, M.rd.len, M.rd.note, M.rd.min, M.rd.kd, M.rd.gt, M.rd.e1, M.rd.e2, M.rd.i8, M.rd.i9, M.rd.i10, M.rd.i11, M.rd.hd]
theorem m_len (W : RW ρ) (M : MT h p ρ) {t : Nat} (ht : t < ρ 0 1) : aI h (p + 1) (nI t) = some (nI (ρ 1 t)) := by
  have := W.tu
  simp (disch := omega) only [ck_of (tS_55 M.sh), gR_of (tS_55 M.sh), gI_of (tS_55 M.sh), M.pp, ck_of (tP M.rd.pk), gR_of (tP M.rd.pk), gI_of (tP M.rd.pk), rP_10 M.rd.pk, rP_11 M.rd.pk, rP_12 M.rd.pk, rP_13 M.rd.pk, rP_14 M.rd.pk, rP_15 M.rd.pk, rP_16 M.rd.pk, rP_17 M.rd.pk, rP_18 M.rd.pk, rP_19 M.rd.pk, rP_20 M.rd.pk, rP_21 M.rd.pk, rP_22 M.rd.pk, rP_23 M.rd.pk, rP_24 M.rd.pk, aI_of (tP_1 M.rd.pk), aI_of (tP_2 M.rd.pk), aI_of (tP_3 M.rd.pk), aI_of (tP_4 M.rd.pk), aI_of (tP_5 M.rd.pk), aI_of (tP_6 M.rd.pk), aI_of (tP_7 M.rd.pk), aI_of (tP_8 M.rd.pk), aI_of (tP_9 M.rd.pk), aI_of (tP_10 M.rd.pk), aI_of (tP_11 M.rd.pk), aI_of (tP_12 M.rd.pk), aI_of (tP_13 M.rd.pk), aI_of (tP_14 M.rd.pk), aI_of (tP_15 M.rd.pk), M.rd.sc, M.rd.len, M.rd.note, M.rd.min, M.rd.kd, M.rd.gt, M.rd.e1, M.rd.e2, M.rd.i8, M.rd.i9, M.rd.i10, M.rd.i11, M.rd.hd]
theorem m_sung (W : RW ρ) (M : MT h p ρ) {t i : Nat} (fo ra : Bool) (ht : t < ρ 0 1) (hi : i < ρ 1 t) : f_X13_sungBy h 55 (nI t) (nI i) (nI fo.toNat) (nI ra.toNat) = some (nI (sg ρ t i fo ra)) := by
  have := W.tu
  have := W.len t ht
  have := W.note t i ht hi
  unfold f_X13_sungBy f_X13_sungBy_48 f_X13_sungBy_50 f_X13_sungBy_67 sg
  simp (disch := omega) only [ob, nI_lit, nI_add, pk_mul, nI_eq, nI_ltI, nI_leI, if_true, if_false, if_pos, if_neg, ck_of (tS_55 M.sh), gR_of (tS_55 M.sh), gI_of (tS_55 M.sh), M.pp, ck_of (tP M.rd.pk), gR_of (tP M.rd.pk), gI_of (tP M.rd.pk), rP_10 M.rd.pk, rP_11 M.rd.pk, rP_12 M.rd.pk, rP_13 M.rd.pk, rP_14 M.rd.pk, rP_15 M.rd.pk, rP_16 M.rd.pk, rP_17 M.rd.pk, rP_18 M.rd.pk, rP_19 M.rd.pk, rP_20 M.rd.pk, rP_21 M.rd.pk, rP_22 M.rd.pk, rP_23 M.rd.pk, rP_24 M.rd.pk, aI_of (tP_1 M.rd.pk), aI_of (tP_2 M.rd.pk), aI_of (tP_3 M.rd.pk), aI_of (tP_4 M.rd.pk), aI_of (tP_5 M.rd.pk), aI_of (tP_6 M.rd.pk), aI_of (tP_7 M.rd.pk), aI_of (tP_8 M.rd.pk), aI_of (tP_9 M.rd.pk), aI_of (tP_10 M.rd.pk), aI_of (tP_11 M.rd.pk), aI_of (tP_12 M.rd.pk), aI_of (tP_13 M.rd.pk), aI_of (tP_14 M.rd.pk), aI_of (tP_15 M.rd.pk), M.rd.sc, M.rd.len, M.rd.note, M.rd.min, M.rd.kd, M.rd.gt, M.rd.e1, M.rd.e2, M.rd.i8, M.rd.i9, M.rd.i10, M.rd.i11, M.rd.hd, m_note W M ht hi, pk_sub]
  rcases Decidable.em (i + 1 = ρ 1 t) with e | e
  · cases fo <;> cases ra <;> rcases Decidable.em (ρ 2 (8 * t + i) = 0) with e0 | e0 <;> rcases Decidable.em (ρ 2 (8 * t + i) = 6) with e6 | e6 <;> first | (exfalso; omega) | simp (disch := omega) [ob, nI_lit, nI_add, pk_mul, nI_eq, nI_ltI, nI_leI, if_true, if_false, if_pos, if_neg, e, e6, e0, Bool.toNat, pk_sub, nI_m1]
  · simp (disch := omega) only [ob, nI_lit, nI_add, pk_mul, nI_eq, nI_ltI, nI_leI, if_true, if_false, if_pos, if_neg]
theorem m_unlike (W : RW ρ) (M : MT h p ρ) {own t : Nat} (fo ra : Bool) (v5 : Int32) (ho : own < ρ 0 1) (ht : t < ρ 0 1) (he : ρ 1 own = ρ 1 t) : iter (fun (s : Int32 × Int32) => b_X13_liftsTo_73 h 55 (nI t) (nI fo.toNat) (nI ra.toNat) v5 (nI own) s.1 s.2) FU (0, 0) = some (nI (ul ρ own t fo ra)) := by
  have := W.len t ht
  have := W.tu
  refine iter_fo (fun a i => (nI a, nI i)) (fun i a => a + (decide (ρ 2 (8 * own + i) ≠ sg ρ t i fo ra)).toNat) 0 (ρ 1 t) (FU_lt (by omega)) (fun i a hi => ?_) ?_
  · have := W.note own i ho (by omega)
    have := sg_lt W fo ra ht hi
    unfold b_X13_liftsTo_73 f_X13_liftsTo_119
    simp (disch := omega) only [ob, nI_lit, nI_add, pk_mul, nI_eq, nI_ltI, nI_leI, if_true, if_false, if_pos, if_neg, ck_of (tS_55 M.sh), gR_of (tS_55 M.sh), gI_of (tS_55 M.sh), M.pp, ck_of (tP M.rd.pk), gR_of (tP M.rd.pk), gI_of (tP M.rd.pk), rP_10 M.rd.pk, rP_11 M.rd.pk, rP_12 M.rd.pk, rP_13 M.rd.pk, rP_14 M.rd.pk, rP_15 M.rd.pk, rP_16 M.rd.pk, rP_17 M.rd.pk, rP_18 M.rd.pk, rP_19 M.rd.pk, rP_20 M.rd.pk, rP_21 M.rd.pk, rP_22 M.rd.pk, rP_23 M.rd.pk, rP_24 M.rd.pk, aI_of (tP_1 M.rd.pk), aI_of (tP_2 M.rd.pk), aI_of (tP_3 M.rd.pk), aI_of (tP_4 M.rd.pk), aI_of (tP_5 M.rd.pk), aI_of (tP_6 M.rd.pk), aI_of (tP_7 M.rd.pk), aI_of (tP_8 M.rd.pk), aI_of (tP_9 M.rd.pk), aI_of (tP_10 M.rd.pk), aI_of (tP_11 M.rd.pk), aI_of (tP_12 M.rd.pk), aI_of (tP_13 M.rd.pk), aI_of (tP_14 M.rd.pk), aI_of (tP_15 M.rd.pk), M.rd.sc, M.rd.len, M.rd.note, M.rd.min, M.rd.kd, M.rd.gt, M.rd.e1, M.rd.e2, M.rd.i8, M.rd.i9, M.rd.i10, M.rd.i11, M.rd.hd, m_note W M ho (show i < ρ 1 own by omega), m_sung W M fo ra ht hi]
    rcases Decidable.em (ρ 2 (8 * own + i) = sg ρ t i fo ra) with e | e <;> simp [e, nI_1, nI_add]
  · unfold b_X13_liftsTo_73
    simp (disch := omega) only [ob, nI_lit, nI_add, pk_mul, nI_eq, nI_ltI, nI_leI, if_true, if_false, if_pos, if_neg, ck_of (tS_55 M.sh), gR_of (tS_55 M.sh), gI_of (tS_55 M.sh), M.pp, ck_of (tP M.rd.pk), gR_of (tP M.rd.pk), gI_of (tP M.rd.pk), rP_10 M.rd.pk, rP_11 M.rd.pk, rP_12 M.rd.pk, rP_13 M.rd.pk, rP_14 M.rd.pk, rP_15 M.rd.pk, rP_16 M.rd.pk, rP_17 M.rd.pk, rP_18 M.rd.pk, rP_19 M.rd.pk, rP_20 M.rd.pk, rP_21 M.rd.pk, rP_22 M.rd.pk, rP_23 M.rd.pk, rP_24 M.rd.pk, aI_of (tP_1 M.rd.pk), aI_of (tP_2 M.rd.pk), aI_of (tP_3 M.rd.pk), aI_of (tP_4 M.rd.pk), aI_of (tP_5 M.rd.pk), aI_of (tP_6 M.rd.pk), aI_of (tP_7 M.rd.pk), aI_of (tP_8 M.rd.pk), aI_of (tP_9 M.rd.pk), aI_of (tP_10 M.rd.pk), aI_of (tP_11 M.rd.pk), aI_of (tP_12 M.rd.pk), aI_of (tP_13 M.rd.pk), aI_of (tP_14 M.rd.pk), aI_of (tP_15 M.rd.pk), M.rd.sc, M.rd.len, M.rd.note, M.rd.min, M.rd.kd, M.rd.gt, M.rd.e1, M.rd.e2, M.rd.i8, M.rd.i9, M.rd.i10, M.rd.i11, M.rd.hd]
    rfl
end
