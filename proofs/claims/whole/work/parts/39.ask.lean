/-! ===== refusals, answers, bounds ===== -/
theorem c_refuse {h : Mem} (S : SH h) (v : Int32) : f_X11_refuse h 1 v = some (-nI 1, wI h 1 0 v) := by
  unfold f_X11_refuse
  simp only [ob, nI_lit, nI_add, pk_mul, nI_eq, nI_ltI, nI_leI, if_true, if_false, if_pos, if_neg, ck_of (tS_1 S), pI_of (tS_1 S)]
theorem c_answer {h : Mem} (S : SH h) (v : Int32) : f_X11_answer h 1 v = some (v, wI h 1 0 (nI 0)) := by
  unfold f_X11_answer
  simp only [ob, nI_lit, nI_add, pk_mul, nI_eq, nI_ltI, nI_leI, if_true, if_false, if_pos, if_neg, ck_of (tS_1 S), pI_of (tS_1 S)]
theorem SH.wI {h : Mem} (S : SH h) (a k : Nat) (v : Int32) : SH (wI h a k v) := S
theorem m_refused {h : Mem} (S : SH h) (v : Int32) : f_X13_refused h 55 v = some (-nI 1, wI (wI h 55 1 v) 55 2 (-nI 1)) := by
  unfold f_X13_refused
  simp only [ob, nI_lit, nI_add, pk_mul, nI_eq, nI_ltI, nI_leI, if_true, if_false, if_pos, if_neg, ck_of (tS_55 S), pI_of (tS_55 S), pI_of (tS_55 (S.wI 55 1 v))]
theorem m_good {h : Mem} (S : SH h) (v : Int32) : f_X13_good h 55 v = some (v, wI (wI h 55 1 (nI 0)) 55 2 (-nI 1)) := by
  unfold f_X13_good
  simp only [ob, nI_lit, nI_add, pk_mul, nI_eq, nI_ltI, nI_leI, if_true, if_false, if_pos, if_neg, ck_of (tS_55 S), pI_of (tS_55 S), pI_of (tS_55 (S.wI 55 1 (nI 0)))]
theorem IM.th {h : Mem} {a : AB} (M : IM h a) (v : Int32) : IM (wI h 55 0 v) a := by
  have f := FM.w55 h (k := 0) v (by decide)
  exact M.fr (f.1.sh M.sh) (fun x _ hx => f.1.2.2.2.2 x hx) f.2.1.1 f.2.1.2.1 f.2.1.2.2.1 f.2.1.2.2.2 f.2.2 (fun _ _ => rfl) (fun _ _ => rfl) rfl
theorem IM.fm {h h' : Mem} {a : AB} (M : IM h a) (f : FM h h') : IM h' a := M.fr (f.1.sh M.sh) (fun x _ hx => f.1.2.2.2.2 x hx) f.2.1.1 f.2.1.2.1 f.2.1.2.2.1 f.2.1.2.2.2 f.2.2 (fun x _ => by rw [f.1.2.1]) (fun x _ => by rw [f.1.1]) f.1.2.2.2.1
theorem qc_end {h : Mem} {a : AB} (C : IC h a) (v : Int32) (z : Nat) : OK (some (v, wI h 1 0 (nI z))) (fun q => q.1 = v ∧ FQ LQ h q.2 ∧ SK q.2 (a 0) ∧ mI q.2 1 0 = nI z) := by
  refine ⟨_, rfl, rfl, FQ.w h 0 _ (by decide), C.so.fr ?_ ?_ ?_ ?_, ?_⟩
  · exact mI_wI_ne h 0 _ (by decide)
  · exact mI_wI_ne h 0 _ (by decide)
  · exact mI_wI_ne h 0 _ (by decide)
  · exact mI_wI_ne h 0 _ (by decide)
  · show mI (wI h 1 0 (nI z)) 1 0 = _
    rw [mI_wI_at, pk_us]
/-- .. at a later memory -/
theorem qc_end2 {h h1 : Mem} {a : AB} (F : FQ LQ h h1) (so : SK h1 (a 0)) (v : Int32) (z : Nat) : OK (some (v, wI h1 1 0 (nI z))) (fun q => q.1 = v ∧ FQ LQ h q.2 ∧ SK q.2 (a 0) ∧ mI q.2 1 0 = nI z) := by
  refine ⟨_, rfl, rfl, F.tr (FQ.w h1 0 _ (by decide)), so.fr ?_ ?_ ?_ ?_, ?_⟩
  · exact mI_wI_ne h1 0 _ (by decide)
  · exact mI_wI_ne h1 0 _ (by decide)
  · exact mI_wI_ne h1 0 _ (by decide)
  · exact mI_wI_ne h1 0 _ (by decide)
  · show mI (wI h1 1 0 (nI z)) 1 0 = _
    rw [mI_wI_at, pk_us]
theorem qm_end {h h1 : Mem} (F : FM h h1) (v : Int32) (z : Nat) : OK (some (v, wI (wI h1 55 1 (nI z)) 55 2 (-nI 1))) (fun q => q.1 = v ∧ FM h q.2 ∧ mI q.2 55 1 = nI z ∧ mI q.2 55 2 = -nI 1) := by
  refine ⟨_, rfl, rfl, F.tr ((FM.w55 h1 _ (by decide)).tr (FM.w55 _ _ (by decide))), ?_, ?_⟩
  · show mI (wI (wI h1 55 1 (nI z)) 55 2 (-nI 1)) 55 1 = _
    rw [mI_wI_at, pk_un (by decide), mI_wI_at, pk_us]
  · show mI (wI (wI h1 55 1 (nI z)) 55 2 (-nI 1)) 55 2 = _
    rw [mI_wI_at, pk_us]
/-- a number within 0 .. n - 1 -/
def ix (n : Nat) (x : Int32) : Bool := decide (¬ x < nI 0) && decide (¬ nI n ≤ x)
theorem ix_if (n : Nat) (x : Int32) : (if x < nI 0 then some (nI 0) else if nI n ≤ x then some (nI 0) else some (nI 1)) = some (nI (ix n x).toNat) := by
  unfold ix
  rcases Decidable.em (x < nI 0) with e | e
  · simp [e]
  · rcases Decidable.em (nI n ≤ x) with e2 | e2 <;> simp [e, e2]
theorem ix_0 (x : Int32) : ix 0 x = false := by
  unfold ix
  rcases Decidable.em (x < nI 0) with e | e
  · simp [e]
  · have : nI 0 ≤ x := by
      rw [Int32.le_iff_toInt_le]
      rw [Int32.lt_iff_toInt_lt] at e
      omega
    simp [e, this]
theorem ix_t {n : Nat} {x : Int32} (h : ix n x = true) (hn : n < 2 ^ 31) : ∃ j, j < n ∧ x = nI j := by
  unfold ix at h
  simp only [Bool.and_eq_true, decide_eq_true_iff] at h
  rcases pk_ix x hn with q | q | q
  · exact absurd q h.1
  · exact absurd q h.2
  · exact q
theorem ix_n {n j : Nat} (h : j < n) (hn : n < 2 ^ 31) : ix n (nI j) = true := by
  unfold ix
  simp only [Bool.and_eq_true, decide_eq_true_iff]
  exact ⟨nI_pos (by omega), nI_ge h hn⟩
theorem told_of {a : AB} (W : IW a) {i j : Nat} (h : a 0 i j ≠ 0) : 0 < a 0 0 2 := by
  rcases Nat.eq_zero_or_pos (a 0 0 2) with e | e
  · exact absurd ((W.un e).2.2.1 i j) h
  · exact e
theorem IM.told {h : Mem} {a : AB} (M : IM h a) (ht : 0 < a 0 0 2) : MT h (a 2 0 2) (a 0) := by
  rcases M.pk with q | q
  · omega
  · exact q.2.1
section
variable {h : Mem} {a : AB}
theorem c_isTune (W : IW a) (C : IC h a) (x : Int32) : f_X11_isTune h 1 x = some (nI (ix (a 0 0 1) x).toNat) := by
  unfold f_X11_isTune f_X11_isTune_19
  simp (disch := omega) only [ob, nI_lit, nI_add, pk_mul, nI_eq, nI_ltI, nI_leI, if_true, if_false, if_pos, if_neg, ck_of (tS_1 C.ct.sh), gR_of (tS_1 C.ct.sh), gI_of (tS_1 C.ct.sh), pI_of (tS_1 C.ct.sh), C.ct.rp, rS_1_2 C.ct.sh, rS_1_3 C.ct.sh, rS_1_4 C.ct.sh, rS_1_5 C.ct.sh, rS_1_6 C.ct.sh, rS_1_7 C.ct.sh, rS_1_8 C.ct.sh, rS_1_9 C.ct.sh, ck_of (tR C.ct.rd.rd), gR_of (tR C.ct.rd.rd), gI_of (tR C.ct.rd.rd), rR_9 C.ct.rd.rd, rR_10 C.ct.rd.rd, rR_11 C.ct.rd.rd, rR_12 C.ct.rd.rd, rR_13 C.ct.rd.rd, rR_14 C.ct.rd.rd, rR_15 C.ct.rd.rd, rR_16 C.ct.rd.rd, rR_17 C.ct.rd.rd, rR_18 C.ct.rd.rd, rR_19 C.ct.rd.rd, aI_of (tR_1 C.ct.rd.rd), aI_of (tR_2 C.ct.rd.rd), aI_of (tR_3 C.ct.rd.rd), aI_of (tR_4 C.ct.rd.rd), aI_of (tR_5 C.ct.rd.rd), aI_of (tR_6 C.ct.rd.rd), aI_of (tR_7 C.ct.rd.rd), aI_of (tR_8 C.ct.rd.rd), aI_of (tR_9 C.ct.rd.rd), C.ct.rd.sc, C.ct.rd.len, C.ct.rd.e1, C.ct.rd.e2, C.ct.rd.min, C.ct.rd.kd, C.ct.rd.gt, C.ct.rd.bt, C.ct.rd.ip, C.ct.rd.hd, c_refuse C.ct.sh, c_answer C.ct.sh]
  exact ix_if _ _
theorem c_isPlace (W : IW a) (C : IC h a) (x : Int32) : f_X11_isPlace h 1 x = some (nI (ix (a 0 0 2) x).toNat) := by
  unfold f_X11_isPlace f_X11_isPlace_19
  simp (disch := omega) only [ob, nI_lit, nI_add, pk_mul, nI_eq, nI_ltI, nI_leI, if_true, if_false, if_pos, if_neg, ck_of (tS_1 C.ct.sh), gR_of (tS_1 C.ct.sh), gI_of (tS_1 C.ct.sh), pI_of (tS_1 C.ct.sh), C.ct.rp, rS_1_2 C.ct.sh, rS_1_3 C.ct.sh, rS_1_4 C.ct.sh, rS_1_5 C.ct.sh, rS_1_6 C.ct.sh, rS_1_7 C.ct.sh, rS_1_8 C.ct.sh, rS_1_9 C.ct.sh, ck_of (tR C.ct.rd.rd), gR_of (tR C.ct.rd.rd), gI_of (tR C.ct.rd.rd), rR_9 C.ct.rd.rd, rR_10 C.ct.rd.rd, rR_11 C.ct.rd.rd, rR_12 C.ct.rd.rd, rR_13 C.ct.rd.rd, rR_14 C.ct.rd.rd, rR_15 C.ct.rd.rd, rR_16 C.ct.rd.rd, rR_17 C.ct.rd.rd, rR_18 C.ct.rd.rd, rR_19 C.ct.rd.rd, aI_of (tR_1 C.ct.rd.rd), aI_of (tR_2 C.ct.rd.rd), aI_of (tR_3 C.ct.rd.rd), aI_of (tR_4 C.ct.rd.rd), aI_of (tR_5 C.ct.rd.rd), aI_of (tR_6 C.ct.rd.rd), aI_of (tR_7 C.ct.rd.rd), aI_of (tR_8 C.ct.rd.rd), aI_of (tR_9 C.ct.rd.rd), C.ct.rd.sc, C.ct.rd.len, C.ct.rd.e1, C.ct.rd.e2, C.ct.rd.min, C.ct.rd.kd, C.ct.rd.gt, C.ct.rd.bt, C.ct.rd.ip, C.ct.rd.hd, c_refuse C.ct.sh, c_answer C.ct.sh]
  exact ix_if _ _
theorem c_isInn (W : IW a) (C : IC h a) (x : Int32) : f_X11_isInn h 1 x = some (nI (ix (a 0 0 5) x).toNat) := by
  unfold f_X11_isInn f_X11_isInn_19
  simp (disch := omega) only [ob, nI_lit, nI_add, pk_mul, nI_eq, nI_ltI, nI_leI, if_true, if_false, if_pos, if_neg, ck_of (tS_1 C.ct.sh), gR_of (tS_1 C.ct.sh), gI_of (tS_1 C.ct.sh), pI_of (tS_1 C.ct.sh), C.ct.rp, rS_1_2 C.ct.sh, rS_1_3 C.ct.sh, rS_1_4 C.ct.sh, rS_1_5 C.ct.sh, rS_1_6 C.ct.sh, rS_1_7 C.ct.sh, rS_1_8 C.ct.sh, rS_1_9 C.ct.sh, ck_of (tR C.ct.rd.rd), gR_of (tR C.ct.rd.rd), gI_of (tR C.ct.rd.rd), rR_9 C.ct.rd.rd, rR_10 C.ct.rd.rd, rR_11 C.ct.rd.rd, rR_12 C.ct.rd.rd, rR_13 C.ct.rd.rd, rR_14 C.ct.rd.rd, rR_15 C.ct.rd.rd, rR_16 C.ct.rd.rd, rR_17 C.ct.rd.rd, rR_18 C.ct.rd.rd, rR_19 C.ct.rd.rd, aI_of (tR_1 C.ct.rd.rd), aI_of (tR_2 C.ct.rd.rd), aI_of (tR_3 C.ct.rd.rd), aI_of (tR_4 C.ct.rd.rd), aI_of (tR_5 C.ct.rd.rd), aI_of (tR_6 C.ct.rd.rd), aI_of (tR_7 C.ct.rd.rd), aI_of (tR_8 C.ct.rd.rd), aI_of (tR_9 C.ct.rd.rd), C.ct.rd.sc, C.ct.rd.len, C.ct.rd.e1, C.ct.rd.e2, C.ct.rd.min, C.ct.rd.kd, C.ct.rd.gt, C.ct.rd.bt, C.ct.rd.ip, C.ct.rd.hd, c_refuse C.ct.sh, c_answer C.ct.sh]
  exact ix_if _ _
theorem c_isPerson (W : IW a) (C : IC h a) (x : Int32) : f_X11_isPerson h 1 x = some (nI (ix (a 0 0 6) x).toNat) := by
  unfold f_X11_isPerson f_X11_isPerson_19
  simp (disch := omega) only [ob, nI_lit, nI_add, pk_mul, nI_eq, nI_ltI, nI_leI, if_true, if_false, if_pos, if_neg, ck_of (tS_1 C.ct.sh), gR_of (tS_1 C.ct.sh), gI_of (tS_1 C.ct.sh), pI_of (tS_1 C.ct.sh), C.ct.rp, rS_1_2 C.ct.sh, rS_1_3 C.ct.sh, rS_1_4 C.ct.sh, rS_1_5 C.ct.sh, rS_1_6 C.ct.sh, rS_1_7 C.ct.sh, rS_1_8 C.ct.sh, rS_1_9 C.ct.sh, ck_of (tR C.ct.rd.rd), gR_of (tR C.ct.rd.rd), gI_of (tR C.ct.rd.rd), rR_9 C.ct.rd.rd, rR_10 C.ct.rd.rd, rR_11 C.ct.rd.rd, rR_12 C.ct.rd.rd, rR_13 C.ct.rd.rd, rR_14 C.ct.rd.rd, rR_15 C.ct.rd.rd, rR_16 C.ct.rd.rd, rR_17 C.ct.rd.rd, rR_18 C.ct.rd.rd, rR_19 C.ct.rd.rd, aI_of (tR_1 C.ct.rd.rd), aI_of (tR_2 C.ct.rd.rd), aI_of (tR_3 C.ct.rd.rd), aI_of (tR_4 C.ct.rd.rd), aI_of (tR_5 C.ct.rd.rd), aI_of (tR_6 C.ct.rd.rd), aI_of (tR_7 C.ct.rd.rd), aI_of (tR_8 C.ct.rd.rd), aI_of (tR_9 C.ct.rd.rd), C.ct.rd.sc, C.ct.rd.len, C.ct.rd.e1, C.ct.rd.e2, C.ct.rd.min, C.ct.rd.kd, C.ct.rd.gt, C.ct.rd.bt, C.ct.rd.ip, C.ct.rd.hd, c_refuse C.ct.sh, c_answer C.ct.sh]
  exact ix_if _ _
theorem c_isTold (W : IW a) (C : IC h a) : f_X11_isTold h 1 = some (nI (decide (0 < a 0 0 2)).toNat) := by
  have := W.rw.pl
  unfold f_X11_isTold
  simp (disch := omega) only [ob, nI_lit, nI_add, pk_mul, nI_eq, nI_ltI, nI_leI, if_true, if_false, if_pos, if_neg, ck_of (tS_1 C.ct.sh), gR_of (tS_1 C.ct.sh), gI_of (tS_1 C.ct.sh), pI_of (tS_1 C.ct.sh), C.ct.rp, rS_1_2 C.ct.sh, rS_1_3 C.ct.sh, rS_1_4 C.ct.sh, rS_1_5 C.ct.sh, rS_1_6 C.ct.sh, rS_1_7 C.ct.sh, rS_1_8 C.ct.sh, rS_1_9 C.ct.sh, ck_of (tR C.ct.rd.rd), gR_of (tR C.ct.rd.rd), gI_of (tR C.ct.rd.rd), rR_9 C.ct.rd.rd, rR_10 C.ct.rd.rd, rR_11 C.ct.rd.rd, rR_12 C.ct.rd.rd, rR_13 C.ct.rd.rd, rR_14 C.ct.rd.rd, rR_15 C.ct.rd.rd, rR_16 C.ct.rd.rd, rR_17 C.ct.rd.rd, rR_18 C.ct.rd.rd, rR_19 C.ct.rd.rd, aI_of (tR_1 C.ct.rd.rd), aI_of (tR_2 C.ct.rd.rd), aI_of (tR_3 C.ct.rd.rd), aI_of (tR_4 C.ct.rd.rd), aI_of (tR_5 C.ct.rd.rd), aI_of (tR_6 C.ct.rd.rd), aI_of (tR_7 C.ct.rd.rd), aI_of (tR_8 C.ct.rd.rd), aI_of (tR_9 C.ct.rd.rd), C.ct.rd.sc, C.ct.rd.len, C.ct.rd.e1, C.ct.rd.e2, C.ct.rd.min, C.ct.rd.kd, C.ct.rd.gt, C.ct.rd.bt, C.ct.rd.ip, C.ct.rd.hd, c_refuse C.ct.sh, c_answer C.ct.sh]
  rcases Nat.eq_zero_or_pos (a 0 0 2) with e | e
  · simp [e]
  · simp [e, show ¬ a 0 0 2 = 0 by omega]
/-- two different ones of 0 .. n - 1 -/
def i2 (n : Nat) (x y : Int32) : Bool := ix n x && ix n y && decide (x ≠ y)
theorem c_areTwoPlaces (W : IW a) (C : IC h a) (x y : Int32) : f_X11_areTwoPlaces h 1 x y = some (nI (i2 (a 0 0 2) x y).toNat) := by
  unfold f_X11_areTwoPlaces f_X11_areTwoPlaces_25 i2
  simp only [ob, nI_lit, nI_add, pk_mul, nI_eq, nI_ltI, nI_leI, if_true, if_false, if_pos, if_neg, ck_of (tS_1 C.ct.sh), gR_of (tS_1 C.ct.sh), gI_of (tS_1 C.ct.sh), pI_of (tS_1 C.ct.sh), C.ct.rp, rS_1_2 C.ct.sh, rS_1_3 C.ct.sh, rS_1_4 C.ct.sh, rS_1_5 C.ct.sh, rS_1_6 C.ct.sh, rS_1_7 C.ct.sh, rS_1_8 C.ct.sh, rS_1_9 C.ct.sh, ck_of (tR C.ct.rd.rd), gR_of (tR C.ct.rd.rd), gI_of (tR C.ct.rd.rd), rR_9 C.ct.rd.rd, rR_10 C.ct.rd.rd, rR_11 C.ct.rd.rd, rR_12 C.ct.rd.rd, rR_13 C.ct.rd.rd, rR_14 C.ct.rd.rd, rR_15 C.ct.rd.rd, rR_16 C.ct.rd.rd, rR_17 C.ct.rd.rd, rR_18 C.ct.rd.rd, rR_19 C.ct.rd.rd, aI_of (tR_1 C.ct.rd.rd), aI_of (tR_2 C.ct.rd.rd), aI_of (tR_3 C.ct.rd.rd), aI_of (tR_4 C.ct.rd.rd), aI_of (tR_5 C.ct.rd.rd), aI_of (tR_6 C.ct.rd.rd), aI_of (tR_7 C.ct.rd.rd), aI_of (tR_8 C.ct.rd.rd), aI_of (tR_9 C.ct.rd.rd), C.ct.rd.sc, C.ct.rd.len, C.ct.rd.e1, C.ct.rd.e2, C.ct.rd.min, C.ct.rd.kd, C.ct.rd.gt, C.ct.rd.bt, C.ct.rd.ip, C.ct.rd.hd, c_refuse C.ct.sh, c_answer C.ct.sh, c_isPlace W C, nI_b0]
  rcases ix (a 0 0 2) x with _ | _ <;> rcases ix (a 0 0 2) y with _ | _ <;> rcases Decidable.em (x = y) with e | e <;> simp [e]
theorem c_areTwoTunes (W : IW a) (C : IC h a) (x y : Int32) : f_X11_areTwoTunes h 1 x y = some (nI (i2 (a 0 0 1) x y).toNat) := by
  unfold f_X11_areTwoTunes f_X11_areTwoTunes_25 i2
  simp only [ob, nI_lit, nI_add, pk_mul, nI_eq, nI_ltI, nI_leI, if_true, if_false, if_pos, if_neg, ck_of (tS_1 C.ct.sh), gR_of (tS_1 C.ct.sh), gI_of (tS_1 C.ct.sh), pI_of (tS_1 C.ct.sh), C.ct.rp, rS_1_2 C.ct.sh, rS_1_3 C.ct.sh, rS_1_4 C.ct.sh, rS_1_5 C.ct.sh, rS_1_6 C.ct.sh, rS_1_7 C.ct.sh, rS_1_8 C.ct.sh, rS_1_9 C.ct.sh, ck_of (tR C.ct.rd.rd), gR_of (tR C.ct.rd.rd), gI_of (tR C.ct.rd.rd), rR_9 C.ct.rd.rd, rR_10 C.ct.rd.rd, rR_11 C.ct.rd.rd, rR_12 C.ct.rd.rd, rR_13 C.ct.rd.rd, rR_14 C.ct.rd.rd, rR_15 C.ct.rd.rd, rR_16 C.ct.rd.rd, rR_17 C.ct.rd.rd, rR_18 C.ct.rd.rd, rR_19 C.ct.rd.rd, aI_of (tR_1 C.ct.rd.rd), aI_of (tR_2 C.ct.rd.rd), aI_of (tR_3 C.ct.rd.rd), aI_of (tR_4 C.ct.rd.rd), aI_of (tR_5 C.ct.rd.rd), aI_of (tR_6 C.ct.rd.rd), aI_of (tR_7 C.ct.rd.rd), aI_of (tR_8 C.ct.rd.rd), aI_of (tR_9 C.ct.rd.rd), C.ct.rd.sc, C.ct.rd.len, C.ct.rd.e1, C.ct.rd.e2, C.ct.rd.min, C.ct.rd.kd, C.ct.rd.gt, C.ct.rd.bt, C.ct.rd.ip, C.ct.rd.hd, c_refuse C.ct.sh, c_answer C.ct.sh, c_isTune W C, nI_b0]
  rcases ix (a 0 0 1) x with _ | _ <;> rcases ix (a 0 0 1) y with _ | _ <;> rcases Decidable.em (x = y) with e | e <;> simp [e]
theorem m_isTune (W : IW a) (M : IM h a) (x : Int32) : f_X13_isTune h 55 x = some (nI (ix (a 0 0 1) x).toNat) := by
  unfold f_X13_isTune f_X13_isTune_26
  rcases M.pk with ⟨e, e1⟩ | ⟨-, P, -, -⟩
  · rw [(W.un e).2.2.1, ix_0]
    simp [ob, nI_lit, nI_add, pk_mul, nI_eq, nI_ltI, nI_leI, if_true, if_false, if_pos, if_neg, ck_of (tS_55 M.sh), gR_of (tS_55 M.sh), gI_of (tS_55 M.sh), pI_of (tS_55 M.sh), rS_55_16 M.sh, rS_55_17 M.sh, rS_55_18 M.sh, rS_55_21 M.sh, rS_55_25 M.sh, rS_55_26 M.sh, rS_55_27 M.sh, rS_55_28 M.sh, rS_55_32 M.sh, rS_55_33 M.sh, rS_55_34 M.sh, m_refused M.sh, m_good M.sh, e1]
  · have hz := P.nz
    simp (disch := omega) only [ob, nI_lit, nI_add, pk_mul, nI_eq, nI_ltI, nI_leI, if_true, if_false, if_pos, if_neg, ck_of (tS_55 M.sh), gR_of (tS_55 M.sh), gI_of (tS_55 M.sh), pI_of (tS_55 M.sh), rS_55_16 M.sh, rS_55_17 M.sh, rS_55_18 M.sh, rS_55_21 M.sh, rS_55_25 M.sh, rS_55_26 M.sh, rS_55_27 M.sh, rS_55_28 M.sh, rS_55_32 M.sh, rS_55_33 M.sh, rS_55_34 M.sh, m_refused M.sh, m_good M.sh, P.pp, ck_of (tP P.rd.pk), gR_of (tP P.rd.pk), gI_of (tP P.rd.pk), rP_10 P.rd.pk, rP_11 P.rd.pk, rP_12 P.rd.pk, rP_13 P.rd.pk, rP_14 P.rd.pk, rP_15 P.rd.pk, rP_16 P.rd.pk, rP_17 P.rd.pk, rP_18 P.rd.pk, rP_19 P.rd.pk, rP_20 P.rd.pk, rP_21 P.rd.pk, rP_22 P.rd.pk, rP_23 P.rd.pk, rP_24 P.rd.pk, aI_of (tP_1 P.rd.pk), aI_of (tP_2 P.rd.pk), aI_of (tP_3 P.rd.pk), aI_of (tP_4 P.rd.pk), aI_of (tP_5 P.rd.pk), aI_of (tP_6 P.rd.pk), aI_of (tP_7 P.rd.pk), aI_of (tP_8 P.rd.pk), aI_of (tP_9 P.rd.pk), aI_of (tP_10 P.rd.pk), aI_of (tP_11 P.rd.pk), aI_of (tP_12 P.rd.pk), aI_of (tP_13 P.rd.pk), aI_of (tP_14 P.rd.pk), aI_of (tP_15 P.rd.pk), P.rd.sc, P.rd.len, P.rd.note, P.rd.min, P.rd.kd, P.rd.gt, P.rd.e1, P.rd.e2, P.rd.i8, P.rd.i9, P.rd.i10, P.rd.i11, P.rd.hd]
    exact ix_if _ _
theorem m_isPlace (W : IW a) (M : IM h a) (x : Int32) : f_X13_isPlace h 55 x = some (nI (ix (a 0 0 2) x).toNat) := by
  unfold f_X13_isPlace f_X13_isPlace_26
  rcases M.pk with ⟨e, e1⟩ | ⟨-, P, -, -⟩
  · rw [(W.un e).2.2.1, ix_0]
    simp [ob, nI_lit, nI_add, pk_mul, nI_eq, nI_ltI, nI_leI, if_true, if_false, if_pos, if_neg, ck_of (tS_55 M.sh), gR_of (tS_55 M.sh), gI_of (tS_55 M.sh), pI_of (tS_55 M.sh), rS_55_16 M.sh, rS_55_17 M.sh, rS_55_18 M.sh, rS_55_21 M.sh, rS_55_25 M.sh, rS_55_26 M.sh, rS_55_27 M.sh, rS_55_28 M.sh, rS_55_32 M.sh, rS_55_33 M.sh, rS_55_34 M.sh, m_refused M.sh, m_good M.sh, e1]
  · have hz := P.nz
    simp (disch := omega) only [ob, nI_lit, nI_add, pk_mul, nI_eq, nI_ltI, nI_leI, if_true, if_false, if_pos, if_neg, ck_of (tS_55 M.sh), gR_of (tS_55 M.sh), gI_of (tS_55 M.sh), pI_of (tS_55 M.sh), rS_55_16 M.sh, rS_55_17 M.sh, rS_55_18 M.sh, rS_55_21 M.sh, rS_55_25 M.sh, rS_55_26 M.sh, rS_55_27 M.sh, rS_55_28 M.sh, rS_55_32 M.sh, rS_55_33 M.sh, rS_55_34 M.sh, m_refused M.sh, m_good M.sh, P.pp, ck_of (tP P.rd.pk), gR_of (tP P.rd.pk), gI_of (tP P.rd.pk), rP_10 P.rd.pk, rP_11 P.rd.pk, rP_12 P.rd.pk, rP_13 P.rd.pk, rP_14 P.rd.pk, rP_15 P.rd.pk, rP_16 P.rd.pk, rP_17 P.rd.pk, rP_18 P.rd.pk, rP_19 P.rd.pk, rP_20 P.rd.pk, rP_21 P.rd.pk, rP_22 P.rd.pk, rP_23 P.rd.pk, rP_24 P.rd.pk, aI_of (tP_1 P.rd.pk), aI_of (tP_2 P.rd.pk), aI_of (tP_3 P.rd.pk), aI_of (tP_4 P.rd.pk), aI_of (tP_5 P.rd.pk), aI_of (tP_6 P.rd.pk), aI_of (tP_7 P.rd.pk), aI_of (tP_8 P.rd.pk), aI_of (tP_9 P.rd.pk), aI_of (tP_10 P.rd.pk), aI_of (tP_11 P.rd.pk), aI_of (tP_12 P.rd.pk), aI_of (tP_13 P.rd.pk), aI_of (tP_14 P.rd.pk), aI_of (tP_15 P.rd.pk), P.rd.sc, P.rd.len, P.rd.note, P.rd.min, P.rd.kd, P.rd.gt, P.rd.e1, P.rd.e2, P.rd.i8, P.rd.i9, P.rd.i10, P.rd.i11, P.rd.hd]
    exact ix_if _ _
theorem m_isPerson (W : IW a) (M : IM h a) (x : Int32) : f_X13_isPerson h 55 x = some (nI (ix (a 0 0 6) x).toNat) := by
  unfold f_X13_isPerson f_X13_isPerson_26
  rcases M.pk with ⟨e, e1⟩ | ⟨-, P, -, -⟩
  · rw [(W.un e).2.2.1, ix_0]
    simp [ob, nI_lit, nI_add, pk_mul, nI_eq, nI_ltI, nI_leI, if_true, if_false, if_pos, if_neg, ck_of (tS_55 M.sh), gR_of (tS_55 M.sh), gI_of (tS_55 M.sh), pI_of (tS_55 M.sh), rS_55_16 M.sh, rS_55_17 M.sh, rS_55_18 M.sh, rS_55_21 M.sh, rS_55_25 M.sh, rS_55_26 M.sh, rS_55_27 M.sh, rS_55_28 M.sh, rS_55_32 M.sh, rS_55_33 M.sh, rS_55_34 M.sh, m_refused M.sh, m_good M.sh, e1]
  · have hz := P.nz
    simp (disch := omega) only [ob, nI_lit, nI_add, pk_mul, nI_eq, nI_ltI, nI_leI, if_true, if_false, if_pos, if_neg, ck_of (tS_55 M.sh), gR_of (tS_55 M.sh), gI_of (tS_55 M.sh), pI_of (tS_55 M.sh), rS_55_16 M.sh, rS_55_17 M.sh, rS_55_18 M.sh, rS_55_21 M.sh, rS_55_25 M.sh, rS_55_26 M.sh, rS_55_27 M.sh, rS_55_28 M.sh, rS_55_32 M.sh, rS_55_33 M.sh, rS_55_34 M.sh, m_refused M.sh, m_good M.sh, P.pp, ck_of (tP P.rd.pk), gR_of (tP P.rd.pk), gI_of (tP P.rd.pk), rP_10 P.rd.pk, rP_11 P.rd.pk, rP_12 P.rd.pk, rP_13 P.rd.pk, rP_14 P.rd.pk, rP_15 P.rd.pk, rP_16 P.rd.pk, rP_17 P.rd.pk, rP_18 P.rd.pk, rP_19 P.rd.pk, rP_20 P.rd.pk, rP_21 P.rd.pk, rP_22 P.rd.pk, rP_23 P.rd.pk, rP_24 P.rd.pk, aI_of (tP_1 P.rd.pk), aI_of (tP_2 P.rd.pk), aI_of (tP_3 P.rd.pk), aI_of (tP_4 P.rd.pk), aI_of (tP_5 P.rd.pk), aI_of (tP_6 P.rd.pk), aI_of (tP_7 P.rd.pk), aI_of (tP_8 P.rd.pk), aI_of (tP_9 P.rd.pk), aI_of (tP_10 P.rd.pk), aI_of (tP_11 P.rd.pk), aI_of (tP_12 P.rd.pk), aI_of (tP_13 P.rd.pk), aI_of (tP_14 P.rd.pk), aI_of (tP_15 P.rd.pk), P.rd.sc, P.rd.len, P.rd.note, P.rd.min, P.rd.kd, P.rd.gt, P.rd.e1, P.rd.e2, P.rd.i8, P.rd.i9, P.rd.i10, P.rd.i11, P.rd.hd]
    exact ix_if _ _
theorem m_areTwo (W : IW a) (M : IM h a) (x y : Int32) : f_X13_areTwo h 55 x y = some (nI (i2 (a 0 0 2) x y).toNat) := by
  unfold f_X13_areTwo f_X13_areTwo_25 i2
  simp only [ob, nI_lit, nI_add, pk_mul, nI_eq, nI_ltI, nI_leI, if_true, if_false, if_pos, if_neg, ck_of (tS_55 M.sh), gR_of (tS_55 M.sh), gI_of (tS_55 M.sh), pI_of (tS_55 M.sh), rS_55_16 M.sh, rS_55_17 M.sh, rS_55_18 M.sh, rS_55_21 M.sh, rS_55_25 M.sh, rS_55_26 M.sh, rS_55_27 M.sh, rS_55_28 M.sh, rS_55_32 M.sh, rS_55_33 M.sh, rS_55_34 M.sh, m_refused M.sh, m_good M.sh, m_isPlace W M, nI_b0]
  rcases ix (a 0 0 2) x with _ | _ <;> rcases ix (a 0 0 2) y with _ | _ <;> rcases Decidable.em (x = y) with e | e <;> simp [e]
theorem m_areTwoTunes (W : IW a) (M : IM h a) (x y : Int32) : f_X13_areTwoTunes h 55 x y = some (nI (i2 (a 0 0 1) x y).toNat) := by
  unfold f_X13_areTwoTunes f_X13_areTwoTunes_25 i2
  simp only [ob, nI_lit, nI_add, pk_mul, nI_eq, nI_ltI, nI_leI, if_true, if_false, if_pos, if_neg, ck_of (tS_55 M.sh), gR_of (tS_55 M.sh), gI_of (tS_55 M.sh), pI_of (tS_55 M.sh), rS_55_16 M.sh, rS_55_17 M.sh, rS_55_18 M.sh, rS_55_21 M.sh, rS_55_25 M.sh, rS_55_26 M.sh, rS_55_27 M.sh, rS_55_28 M.sh, rS_55_32 M.sh, rS_55_33 M.sh, rS_55_34 M.sh, m_refused M.sh, m_good M.sh, m_isTune W M, nI_b0]
  rcases ix (a 0 0 1) x with _ | _ <;> rcases ix (a 0 0 1) y with _ | _ <;> rcases Decidable.em (x = y) with e | e <;> simp [e]
end
/-! ===== length ===== -/
theorem qq_length {a : AB} (W : IW a) (x : Int32) : ∃ v z, z ≤ 6 ∧ z ≠ 4 ∧ QC a (fun h => f_X11_length h 1 x) v z ∧ QM a (fun h => f_X13_length h 55 x) v z := by
  have := W.rw.tu
  rcases hx : ix (a 0 0 1) x with _ | _
  · refine ⟨-nI 1, 1, by decide, by decide, fun h C => ?_, fun h M0 => ?_⟩
    · simp only [f_X11_length, ob, nI_lit, nI_add, pk_mul, nI_eq, nI_ltI, nI_leI, if_true, if_false, if_pos, if_neg, ck_of (tS_1 C.ct.sh), gR_of (tS_1 C.ct.sh), gI_of (tS_1 C.ct.sh), pI_of (tS_1 C.ct.sh), C.ct.rp, rS_1_2 C.ct.sh, rS_1_3 C.ct.sh, rS_1_4 C.ct.sh, rS_1_5 C.ct.sh, rS_1_6 C.ct.sh, rS_1_7 C.ct.sh, rS_1_8 C.ct.sh, rS_1_9 C.ct.sh, ck_of (tR C.ct.rd.rd), gR_of (tR C.ct.rd.rd), gI_of (tR C.ct.rd.rd), rR_9 C.ct.rd.rd, rR_10 C.ct.rd.rd, rR_11 C.ct.rd.rd, rR_12 C.ct.rd.rd, rR_13 C.ct.rd.rd, rR_14 C.ct.rd.rd, rR_15 C.ct.rd.rd, rR_16 C.ct.rd.rd, rR_17 C.ct.rd.rd, rR_18 C.ct.rd.rd, rR_19 C.ct.rd.rd, aI_of (tR_1 C.ct.rd.rd), aI_of (tR_2 C.ct.rd.rd), aI_of (tR_3 C.ct.rd.rd), aI_of (tR_4 C.ct.rd.rd), aI_of (tR_5 C.ct.rd.rd), aI_of (tR_6 C.ct.rd.rd), aI_of (tR_7 C.ct.rd.rd), aI_of (tR_8 C.ct.rd.rd), aI_of (tR_9 C.ct.rd.rd), C.ct.rd.sc, C.ct.rd.len, C.ct.rd.e1, C.ct.rd.e2, C.ct.rd.min, C.ct.rd.kd, C.ct.rd.gt, C.ct.rd.bt, C.ct.rd.ip, C.ct.rd.hd, c_refuse C.ct.sh, c_answer C.ct.sh, c_isTune W C, hx, Bool.toNat_false]
      exact qc_end C _ _
    · simp only [f_X13_length, ck_of (tS_55 M0.sh), pI_of (tS_55 M0.sh), ob, nI_lit]
      obtain ⟨h1, eh, M, F1⟩ : ∃ h1, wI h 55 0 (nI 0) = h1 ∧ IM h1 a ∧ FM h h1 := ⟨_, rfl, M0.th _, FM.w55 h _ (by decide)⟩
      rw [eh]
      simp only [ob, nI_lit, nI_add, pk_mul, nI_eq, nI_ltI, nI_leI, if_true, if_false, if_pos, if_neg, ck_of (tS_55 M.sh), gR_of (tS_55 M.sh), gI_of (tS_55 M.sh), pI_of (tS_55 M.sh), rS_55_16 M.sh, rS_55_17 M.sh, rS_55_18 M.sh, rS_55_21 M.sh, rS_55_25 M.sh, rS_55_26 M.sh, rS_55_27 M.sh, rS_55_28 M.sh, rS_55_32 M.sh, rS_55_33 M.sh, rS_55_34 M.sh, m_refused M.sh, m_good M.sh, m_isTune W M, hx, Bool.toNat_false]
      exact qm_end F1 _ _
  · obtain ⟨t, ht, rfl⟩ := ix_t hx (by omega)
    refine ⟨nI (a 0 1 t), 0, by decide, by decide, fun h C => ?_, fun h M0 => ?_⟩
    · unfold f_X11_length
      simp (disch := omega) only [ob, nI_lit, nI_add, pk_mul, nI_eq, nI_ltI, nI_leI, if_true, if_false, if_pos, if_neg, ck_of (tS_1 C.ct.sh), gR_of (tS_1 C.ct.sh), gI_of (tS_1 C.ct.sh), pI_of (tS_1 C.ct.sh), C.ct.rp, rS_1_2 C.ct.sh, rS_1_3 C.ct.sh, rS_1_4 C.ct.sh, rS_1_5 C.ct.sh, rS_1_6 C.ct.sh, rS_1_7 C.ct.sh, rS_1_8 C.ct.sh, rS_1_9 C.ct.sh, ck_of (tR C.ct.rd.rd), gR_of (tR C.ct.rd.rd), gI_of (tR C.ct.rd.rd), rR_9 C.ct.rd.rd, rR_10 C.ct.rd.rd, rR_11 C.ct.rd.rd, rR_12 C.ct.rd.rd, rR_13 C.ct.rd.rd, rR_14 C.ct.rd.rd, rR_15 C.ct.rd.rd, rR_16 C.ct.rd.rd, rR_17 C.ct.rd.rd, rR_18 C.ct.rd.rd, rR_19 C.ct.rd.rd, aI_of (tR_1 C.ct.rd.rd), aI_of (tR_2 C.ct.rd.rd), aI_of (tR_3 C.ct.rd.rd), aI_of (tR_4 C.ct.rd.rd), aI_of (tR_5 C.ct.rd.rd), aI_of (tR_6 C.ct.rd.rd), aI_of (tR_7 C.ct.rd.rd), aI_of (tR_8 C.ct.rd.rd), aI_of (tR_9 C.ct.rd.rd), C.ct.rd.sc, C.ct.rd.len, C.ct.rd.e1, C.ct.rd.e2, C.ct.rd.min, C.ct.rd.kd, C.ct.rd.gt, C.ct.rd.bt, C.ct.rd.ip, C.ct.rd.hd, c_refuse C.ct.sh, c_answer C.ct.sh, c_isTune W C, hx, Bool.toNat_true]
      exact qc_end C _ _
    · simp only [f_X13_length, ck_of (tS_55 M0.sh), pI_of (tS_55 M0.sh), ob, nI_lit]
      obtain ⟨h1, eh, M, F1⟩ : ∃ h1, wI h 55 0 (nI 0) = h1 ∧ IM h1 a ∧ FM h h1 := ⟨_, rfl, M0.th _, FM.w55 h _ (by decide)⟩
      have P := M.told (told_of W (i := 0) (j := 1) (by omega))
      rw [eh]
      simp (disch := omega) only [ob, nI_lit, nI_add, pk_mul, nI_eq, nI_ltI, nI_leI, if_true, if_false, if_pos, if_neg, ck_of (tS_55 M.sh), gR_of (tS_55 M.sh), gI_of (tS_55 M.sh), pI_of (tS_55 M.sh), rS_55_16 M.sh, rS_55_17 M.sh, rS_55_18 M.sh, rS_55_21 M.sh, rS_55_25 M.sh, rS_55_26 M.sh, rS_55_27 M.sh, rS_55_28 M.sh, rS_55_32 M.sh, rS_55_33 M.sh, rS_55_34 M.sh, m_refused M.sh, m_good M.sh, P.pp, ck_of (tP P.rd.pk), gR_of (tP P.rd.pk), gI_of (tP P.rd.pk), rP_10 P.rd.pk, rP_11 P.rd.pk, rP_12 P.rd.pk, rP_13 P.rd.pk, rP_14 P.rd.pk, rP_15 P.rd.pk, rP_16 P.rd.pk, rP_17 P.rd.pk, rP_18 P.rd.pk, rP_19 P.rd.pk, rP_20 P.rd.pk, rP_21 P.rd.pk, rP_22 P.rd.pk, rP_23 P.rd.pk, rP_24 P.rd.pk, aI_of (tP_1 P.rd.pk), aI_of (tP_2 P.rd.pk), aI_of (tP_3 P.rd.pk), aI_of (tP_4 P.rd.pk), aI_of (tP_5 P.rd.pk), aI_of (tP_6 P.rd.pk), aI_of (tP_7 P.rd.pk), aI_of (tP_8 P.rd.pk), aI_of (tP_9 P.rd.pk), aI_of (tP_10 P.rd.pk), aI_of (tP_11 P.rd.pk), aI_of (tP_12 P.rd.pk), aI_of (tP_13 P.rd.pk), aI_of (tP_14 P.rd.pk), aI_of (tP_15 P.rd.pk), P.rd.sc, P.rd.len, P.rd.note, P.rd.min, P.rd.kd, P.rd.gt, P.rd.e1, P.rd.e2, P.rd.i8, P.rd.i9, P.rd.i10, P.rd.i11, P.rd.hd, m_isTune W M, hx, Bool.toNat_true]
      exact qm_end F1 _ _
theorem st_4 : StepOK INV lc_4 := by
  intro sc L i h hL hi hI
  unfold lc_4
  simp only [show (1 : Int32) = nI 1 from rfl, nI_add, sc_at hL (show i + 1 < L by omega), ob]
  exact q2 (f := fun h => f_X11_length h 1 (sc (i + 1))) (g := fun h => f_X13_length h 55 (sc (i + 1))) hI (fun a W => qq_length W _)
