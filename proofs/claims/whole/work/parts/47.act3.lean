/-! ===== buy, teach, rain ===== -/
theorem FHi.f1 {h h1 h' : Mem} (F1 : FM h h1) (hc : FHi h1 h') : FHi h h' := by
  refine ⟨fun x hx => (hc.1 x hx).trans (by rw [F1.1.1]), fun x hx => ?_, Nat.le_trans (by rw [F1.1.2.2.2.1]; exact Nat.le_refl _) hc.2.2⟩
  have hx9 : x ∉ LM := by
    intro hq
    simp only [LM, List.mem_cons, List.not_mem_nil, or_false] at hq
    omega
  have q := hc.2.1 x hx
  exact ⟨q.1.trans (F1.1.2.2.2.2 x hx9), q.2.1.trans (by rw [F1.1.2.1]), q.2.2.trans (by rw [F1.1.2.2.1])⟩
theorem FQ.lo {l : List Nat} {h h' : Mem} (f : FQ l h h') (hl : ∀ x, 55 ≤ x → x ∉ l) : FLo h h' := ⟨fun x => by rw [f.1], fun x hx => ⟨f.2.2.2.2 x (hl x hx), by rw [f.2.1]⟩, f.2.2.2.1⟩
theorem FQ.hi {l : List Nat} {h h' : Mem} (f : FQ l h h') (hl : ∀ x, x < 55 → x ∉ l) : FHi h h' := ⟨fun x _ => by rw [f.1], fun x hx => ⟨f.2.2.2.2 x (hl x hx), by rw [f.2.1], by rw [f.2.2.1]⟩, by rw [f.2.2.2.1]; exact Nat.le_refl _⟩
theorem and_pow0 (n t : Nat) : (n &&& 2 ^ t = 0) = (n.testBit t = false) := by
  apply propext
  constructor
  · intro h
    rcases hb : n.testBit t with _ | _
    · rfl
    · have : (n &&& 2 ^ t).testBit t = true := by rw [Nat.testBit_and, hb, bit_pow]; simp
      rw [h, Nat.zero_testBit] at this
      cases this
  · intro h
    apply Nat.eq_of_testBit_eq
    intro i
    rw [Nat.testBit_and, bit_pow, Nat.zero_testBit]
    rcases Decidable.em (t = i) with e | e
    · subst e; simp [h]
    · simp [e]
theorem retZ0 {α : Type} (x : α) : retZ (nI 0) x = some x := if_pos (Or.inl rfl)
theorem retZ1 {α : Type} (x : α) : retZ (nI 1) x = some x := if_pos (Or.inr rfl)
theorem c_allow0 {h : Mem} (S : SH h) : f_X11_isAllowed h 1 (nI 0) = some (nI 1, wI h 1 0 (nI 0)) := by
  unfold f_X11_isAllowed
  simp (disch := omega) only [ob, nI_lit, nI_add, pk_mul, nI_eq, nI_ltI, nI_leI, if_true, if_false, if_pos, if_neg, ck_of (tS_1 S), pI_of (tS_1 S)]
theorem c_allow1 {h : Mem} (S : SH h) {z : Nat} (h0 : 0 < z) (hz : z < 7) : f_X11_isAllowed h 1 (nI z) = some (nI 0, wI h 1 0 (nI z)) := by
  unfold f_X11_isAllowed
  simp (disch := omega) only [ob, nI_lit, nI_add, pk_mul, nI_eq, nI_ltI, nI_leI, if_true, if_false, if_pos, if_neg, ck_of (tS_1 S), pI_of (tS_1 S)]
theorem m_denied {h : Mem} (S : SH h) (v : Int32) : f_X13_denied h 55 v = some (nI 0, wI (wI h 55 1 v) 55 2 (-nI 1)) := by
  unfold f_X13_denied
  simp (disch := omega) only [ob, nI_lit, nI_add, pk_mul, nI_eq, nI_ltI, nI_leI, if_true, if_false, if_pos, if_neg, ck_of (tS_55 S), m_refused S]
theorem m_granted {h : Mem} (S : SH h) : f_X13_granted h 55 = some (nI 1, wI (wI h 55 1 (nI 0)) 55 2 (-nI 1)) := by
  unfold f_X13_granted
  simp (disch := omega) only [ob, nI_lit, nI_add, pk_mul, nI_eq, nI_ltI, nI_leI, if_true, if_false, if_pos, if_neg, ck_of (tS_55 S), m_good S]
theorem IC.inn {h : Mem} {a : AB} (W : IW a) (C : IC h a) {k : Nat} (hk : k < a 0 0 5) : (f_X5_innPart h (a 2 0 0) (nI k) (nI 0) = some (nI (a 0 8 k)) ∧ f_X5_innPart h (a 2 0 0) (nI k) (nI 1) = some (nI (a 0 9 k))) ∧ f_X5_innPart h (a 2 0 0) (nI k) (nI 2) = some (nI (a 0 10 k)) ∧ f_X5_innPart h (a 2 0 0) (nI k) (nI 3) = some (nI (a 0 11 k)) :=
  ⟨⟨c_inn W C hk (w := 0) (by decide), c_inn W C hk (w := 1) (by decide)⟩, c_inn W C hk (w := 2) (by decide), c_inn W C hk (w := 3) (by decide)⟩
/-- behind keeping: the person's part w becomes v, then part w2 becomes v2 -/
theorem qq_buy {a : AB} (W : IW a) (z : Nat) (x y : Int32) : ∃ a' v z', IW a' ∧ z' ≤ 6 ∧ AC a z a' z' (fun h => f_X11_buy h 1 x y) v ∧ AM a z a' z' (fun h => f_X13_buy h 55 x y) v := by
  have hpe := W.rw.pe
  have hin := W.rw.inn
  have hpl := W.rw.pl
  have htu := W.rw.tu
  rcases hx : ix (a 0 0 6) x with _ | _
  · refine ⟨a, -nI 1, 1, W, by decide, AC.ofQ W (fun h C => ?_) z, AM.ofQ (fun h M0 => ?_) (by decide) z⟩
    · unfold f_X11_buy f_X11_buy_16
      simp (disch := omega) only [ob, nI_lit, nI_add, pk_mul, nI_eq, nI_ltI, nI_leI, if_true, if_false, if_pos, if_neg, ck_of (tS_1 C.ct.sh), gR_of (tS_1 C.ct.sh), gI_of (tS_1 C.ct.sh), pI_of (tS_1 C.ct.sh), C.ct.rp, rS_1_2 C.ct.sh, rS_1_3 C.ct.sh, rS_1_4 C.ct.sh, rS_1_5 C.ct.sh, rS_1_6 C.ct.sh, rS_1_7 C.ct.sh, rS_1_8 C.ct.sh, rS_1_9 C.ct.sh, ck_of (tR C.ct.rd.rd), gR_of (tR C.ct.rd.rd), gI_of (tR C.ct.rd.rd), rR_9 C.ct.rd.rd, rR_10 C.ct.rd.rd, rR_11 C.ct.rd.rd, rR_12 C.ct.rd.rd, rR_13 C.ct.rd.rd, rR_14 C.ct.rd.rd, rR_15 C.ct.rd.rd, rR_16 C.ct.rd.rd, rR_17 C.ct.rd.rd, rR_18 C.ct.rd.rd, rR_19 C.ct.rd.rd, aI_of (tR_1 C.ct.rd.rd), aI_of (tR_2 C.ct.rd.rd), aI_of (tR_3 C.ct.rd.rd), aI_of (tR_4 C.ct.rd.rd), aI_of (tR_5 C.ct.rd.rd), aI_of (tR_6 C.ct.rd.rd), aI_of (tR_7 C.ct.rd.rd), aI_of (tR_8 C.ct.rd.rd), aI_of (tR_9 C.ct.rd.rd), C.ct.rd.sc, C.ct.rd.len, C.ct.rd.e1, C.ct.rd.e2, C.ct.rd.min, C.ct.rd.kd, C.ct.rd.gt, C.ct.rd.bt, C.ct.rd.ip, C.ct.rd.hd, c_refuse C.ct.sh, c_answer C.ct.sh, c_isPerson W C, hx, Bool.toNat_false]
      exact qc_end C _ _
    · unfold f_X13_buy f_X13_buy_28
      simp only [ck_of (tS_55 M0.sh), pI_of (tS_55 M0.sh), ob, nI_lit]; obtain ⟨h1, eh, M, F1⟩ : ∃ h1, wI h 55 0 (nI 0) = h1 ∧ IM h1 a ∧ FM h h1 := ⟨_, rfl, M0.th _, FM.w55 h _ (by decide)⟩; rw [eh]
      simp (disch := omega) only [ob, nI_lit, nI_add, pk_mul, nI_eq, nI_ltI, nI_leI, if_true, if_false, if_pos, if_neg, ck_of (tS_55 M.sh), gR_of (tS_55 M.sh), gI_of (tS_55 M.sh), pI_of (tS_55 M.sh), rS_55_16 M.sh, rS_55_17 M.sh, rS_55_18 M.sh, rS_55_21 M.sh, rS_55_25 M.sh, rS_55_26 M.sh, rS_55_27 M.sh, rS_55_28 M.sh, rS_55_32 M.sh, rS_55_33 M.sh, rS_55_34 M.sh, m_refused M.sh, m_good M.sh, m_isPerson W M, hx, Bool.toNat_false]
      exact qm_end F1 _ _
  · obtain ⟨k, hk, rfl⟩ := ix_t hx (by omega)
    have ti := told_of W (i := 0) (j := 6) (by omega)
    rcases hy : ix (a 0 0 5) y with _ | _
    · refine ⟨a, -nI 1, 1, W, by decide, AC.ofQ W (fun h C => ?_) z, AM.ofQ (fun h M0 => ?_) (by decide) z⟩
      · unfold f_X11_buy f_X11_buy_16
        simp (disch := omega) only [ob, nI_lit, nI_add, pk_mul, nI_eq, nI_ltI, nI_leI, if_true, if_false, if_pos, if_neg, ck_of (tS_1 C.ct.sh), gR_of (tS_1 C.ct.sh), gI_of (tS_1 C.ct.sh), pI_of (tS_1 C.ct.sh), C.ct.rp, rS_1_2 C.ct.sh, rS_1_3 C.ct.sh, rS_1_4 C.ct.sh, rS_1_5 C.ct.sh, rS_1_6 C.ct.sh, rS_1_7 C.ct.sh, rS_1_8 C.ct.sh, rS_1_9 C.ct.sh, ck_of (tR C.ct.rd.rd), gR_of (tR C.ct.rd.rd), gI_of (tR C.ct.rd.rd), rR_9 C.ct.rd.rd, rR_10 C.ct.rd.rd, rR_11 C.ct.rd.rd, rR_12 C.ct.rd.rd, rR_13 C.ct.rd.rd, rR_14 C.ct.rd.rd, rR_15 C.ct.rd.rd, rR_16 C.ct.rd.rd, rR_17 C.ct.rd.rd, rR_18 C.ct.rd.rd, rR_19 C.ct.rd.rd, aI_of (tR_1 C.ct.rd.rd), aI_of (tR_2 C.ct.rd.rd), aI_of (tR_3 C.ct.rd.rd), aI_of (tR_4 C.ct.rd.rd), aI_of (tR_5 C.ct.rd.rd), aI_of (tR_6 C.ct.rd.rd), aI_of (tR_7 C.ct.rd.rd), aI_of (tR_8 C.ct.rd.rd), aI_of (tR_9 C.ct.rd.rd), C.ct.rd.sc, C.ct.rd.len, C.ct.rd.e1, C.ct.rd.e2, C.ct.rd.min, C.ct.rd.kd, C.ct.rd.gt, C.ct.rd.bt, C.ct.rd.ip, C.ct.rd.hd, c_refuse C.ct.sh, c_answer C.ct.sh, c_isPerson W C, hx, Bool.toNat_true, c_isInn W C, hy, Bool.toNat_false]
        exact qc_end C _ _
      · unfold f_X13_buy f_X13_buy_28
        simp only [ck_of (tS_55 M0.sh), pI_of (tS_55 M0.sh), ob, nI_lit]; obtain ⟨h1, eh, M, F1⟩ : ∃ h1, wI h 55 0 (nI 0) = h1 ∧ IM h1 a ∧ FM h h1 := ⟨_, rfl, M0.th _, FM.w55 h _ (by decide)⟩; rw [eh]
        have P := M.told ti
        rcases ix_f hy (by omega) with e | ⟨e, e2, -⟩
        · simp (disch := omega) only [ob, nI_lit, nI_add, pk_mul, nI_eq, nI_ltI, nI_leI, if_true, if_false, if_pos, if_neg, ck_of (tS_55 M.sh), gR_of (tS_55 M.sh), gI_of (tS_55 M.sh), pI_of (tS_55 M.sh), rS_55_16 M.sh, rS_55_17 M.sh, rS_55_18 M.sh, rS_55_21 M.sh, rS_55_25 M.sh, rS_55_26 M.sh, rS_55_27 M.sh, rS_55_28 M.sh, rS_55_32 M.sh, rS_55_33 M.sh, rS_55_34 M.sh, m_refused M.sh, m_good M.sh, P.pp, ck_of (tP P.rd.pk), gR_of (tP P.rd.pk), gI_of (tP P.rd.pk), rP_10 P.rd.pk, rP_11 P.rd.pk, rP_12 P.rd.pk, rP_13 P.rd.pk, rP_14 P.rd.pk, rP_15 P.rd.pk, rP_16 P.rd.pk, rP_17 P.rd.pk, rP_18 P.rd.pk, rP_19 P.rd.pk, rP_20 P.rd.pk, rP_21 P.rd.pk, rP_22 P.rd.pk, rP_23 P.rd.pk, rP_24 P.rd.pk, aI_of (tP_1 P.rd.pk), aI_of (tP_2 P.rd.pk), aI_of (tP_3 P.rd.pk), aI_of (tP_4 P.rd.pk), aI_of (tP_5 P.rd.pk), aI_of (tP_6 P.rd.pk), aI_of (tP_7 P.rd.pk), aI_of (tP_8 P.rd.pk), aI_of (tP_9 P.rd.pk), aI_of (tP_10 P.rd.pk), aI_of (tP_11 P.rd.pk), aI_of (tP_12 P.rd.pk), aI_of (tP_13 P.rd.pk), aI_of (tP_14 P.rd.pk), aI_of (tP_15 P.rd.pk), P.rd.sc, P.rd.len, P.rd.note, P.rd.min, P.rd.kd, P.rd.gt, P.rd.e1, P.rd.e2, P.rd.i8, P.rd.i9, P.rd.i10, P.rd.i11, P.rd.hd, m_isPerson W M, hx, Bool.toNat_true, e]
          exact qm_end F1 _ _
        · simp (disch := omega) only [ob, nI_lit, nI_add, pk_mul, nI_eq, nI_ltI, nI_leI, if_true, if_false, if_pos, if_neg, ck_of (tS_55 M.sh), gR_of (tS_55 M.sh), gI_of (tS_55 M.sh), pI_of (tS_55 M.sh), rS_55_16 M.sh, rS_55_17 M.sh, rS_55_18 M.sh, rS_55_21 M.sh, rS_55_25 M.sh, rS_55_26 M.sh, rS_55_27 M.sh, rS_55_28 M.sh, rS_55_32 M.sh, rS_55_33 M.sh, rS_55_34 M.sh, m_refused M.sh, m_good M.sh, P.pp, ck_of (tP P.rd.pk), gR_of (tP P.rd.pk), gI_of (tP P.rd.pk), rP_10 P.rd.pk, rP_11 P.rd.pk, rP_12 P.rd.pk, rP_13 P.rd.pk, rP_14 P.rd.pk, rP_15 P.rd.pk, rP_16 P.rd.pk, rP_17 P.rd.pk, rP_18 P.rd.pk, rP_19 P.rd.pk, rP_20 P.rd.pk, rP_21 P.rd.pk, rP_22 P.rd.pk, rP_23 P.rd.pk, rP_24 P.rd.pk, aI_of (tP_1 P.rd.pk), aI_of (tP_2 P.rd.pk), aI_of (tP_3 P.rd.pk), aI_of (tP_4 P.rd.pk), aI_of (tP_5 P.rd.pk), aI_of (tP_6 P.rd.pk), aI_of (tP_7 P.rd.pk), aI_of (tP_8 P.rd.pk), aI_of (tP_9 P.rd.pk), aI_of (tP_10 P.rd.pk), aI_of (tP_11 P.rd.pk), aI_of (tP_12 P.rd.pk), aI_of (tP_13 P.rd.pk), aI_of (tP_14 P.rd.pk), aI_of (tP_15 P.rd.pk), P.rd.sc, P.rd.len, P.rd.note, P.rd.min, P.rd.kd, P.rd.gt, P.rd.e1, P.rd.e2, P.rd.i8, P.rd.i9, P.rd.i10, P.rd.i11, P.rd.hd, m_isPerson W M, hx, Bool.toNat_true, e, e2]
          exact qm_end F1 _ _
    · obtain ⟨i, hi, rfl⟩ := ix_t hy (by omega)
      have hip := W.rw.ip i hi
      have hat := W.nf.pl k hk
      have hco := W.nf.co k hk
      obtain ⟨s, hs, hs2⟩ : ∃ s, (s = 2 ∨ s = 3) ∧ s = if a 0 10 i = 1 then 3 else 2 := ⟨_, by split <;> simp, rfl⟩
      have hsv : a 1 s k < 64 := by
        rcases hs with e | e <;> rw [e]
        · exact W.nf.kn k hk
        · exact W.nf.fg k hk
      have h2t : 2 ^ a 0 9 i ≤ 2 ^ 5 := two_le (by omega)
      have hand : a 1 s k &&& 2 ^ a 0 9 i < 64 := Nat.lt_of_le_of_lt Nat.and_le_left hsv
      have hor : a 1 s k ||| 2 ^ a 0 9 i < 2 ^ 6 := Nat.or_lt_two_pow hsv (by omega)
      have hsh : nI 1 <<< (nI (a 0 9 i) &&& nI 31) = nI (2 ^ a 0 9 i) := nI_sh1 (by omega)
      have haf : (nI (a 1 s k) &&& nI (2 ^ a 0 9 i) = nI 0) = ((a 1 s k).testBit (a 0 9 i) = false) := by
        rw [nI_and (by omega) (by omega), nI_eq (by omega) (by decide), and_pow0]
      have cb : ∀ h, IC h a → f_X11_buy h 1 (nI k) (nI i) = f_X11_buy_40 h 1 (nI k) (nI i) (nI s) := by
        intro h C
        have pi := C.inn W hi
        unfold f_X11_buy
        simp (disch := omega) only [ob, nI_lit, nI_add, pk_mul, nI_eq, nI_ltI, nI_leI, if_true, if_false, if_pos, if_neg, ck_of (tS_1 C.ct.sh), gR_of (tS_1 C.ct.sh), gI_of (tS_1 C.ct.sh), pI_of (tS_1 C.ct.sh), C.ct.rp, rS_1_2 C.ct.sh, rS_1_3 C.ct.sh, rS_1_4 C.ct.sh, rS_1_5 C.ct.sh, rS_1_6 C.ct.sh, rS_1_7 C.ct.sh, rS_1_8 C.ct.sh, rS_1_9 C.ct.sh, ck_of (tR C.ct.rd.rd), gR_of (tR C.ct.rd.rd), gI_of (tR C.ct.rd.rd), rR_9 C.ct.rd.rd, rR_10 C.ct.rd.rd, rR_11 C.ct.rd.rd, rR_12 C.ct.rd.rd, rR_13 C.ct.rd.rd, rR_14 C.ct.rd.rd, rR_15 C.ct.rd.rd, rR_16 C.ct.rd.rd, rR_17 C.ct.rd.rd, rR_18 C.ct.rd.rd, rR_19 C.ct.rd.rd, aI_of (tR_1 C.ct.rd.rd), aI_of (tR_2 C.ct.rd.rd), aI_of (tR_3 C.ct.rd.rd), aI_of (tR_4 C.ct.rd.rd), aI_of (tR_5 C.ct.rd.rd), aI_of (tR_6 C.ct.rd.rd), aI_of (tR_7 C.ct.rd.rd), aI_of (tR_8 C.ct.rd.rd), aI_of (tR_9 C.ct.rd.rd), C.ct.rd.sc, C.ct.rd.len, C.ct.rd.e1, C.ct.rd.e2, C.ct.rd.min, C.ct.rd.kd, C.ct.rd.gt, C.ct.rd.bt, C.ct.rd.ip, C.ct.rd.hd, c_refuse C.ct.sh, c_answer C.ct.sh, c_isPerson W C, hx, Bool.toNat_true, c_isInn W C, hy, pi.2.1]
        rw [hs2]
        split <;> rfl
      have mb : ∀ h, IM h a → f_X13_buy h 55 (nI k) (nI i) = f_X13_buy_54 (wI h 55 0 (nI 0)) 55 (nI k) (nI i) (nI (4 * s)) := by
        intro h M0
        unfold f_X13_buy
        simp only [ck_of (tS_55 M0.sh), pI_of (tS_55 M0.sh), ob, nI_lit]
        obtain ⟨h1, eh, M⟩ : ∃ h1, wI h 55 0 (nI 0) = h1 ∧ IM h1 a := ⟨_, rfl, M0.th _⟩
        rw [eh]
        have P := M.told ti
        simp (disch := omega) only [ob, nI_lit, nI_add, pk_mul, nI_eq, nI_ltI, nI_leI, if_true, if_false, if_pos, if_neg, ck_of (tS_55 M.sh), gR_of (tS_55 M.sh), gI_of (tS_55 M.sh), pI_of (tS_55 M.sh), rS_55_16 M.sh, rS_55_17 M.sh, rS_55_18 M.sh, rS_55_21 M.sh, rS_55_25 M.sh, rS_55_26 M.sh, rS_55_27 M.sh, rS_55_28 M.sh, rS_55_32 M.sh, rS_55_33 M.sh, rS_55_34 M.sh, m_refused M.sh, m_good M.sh, P.pp, ck_of (tP P.rd.pk), gR_of (tP P.rd.pk), gI_of (tP P.rd.pk), rP_10 P.rd.pk, rP_11 P.rd.pk, rP_12 P.rd.pk, rP_13 P.rd.pk, rP_14 P.rd.pk, rP_15 P.rd.pk, rP_16 P.rd.pk, rP_17 P.rd.pk, rP_18 P.rd.pk, rP_19 P.rd.pk, rP_20 P.rd.pk, rP_21 P.rd.pk, rP_22 P.rd.pk, rP_23 P.rd.pk, rP_24 P.rd.pk, aI_of (tP_1 P.rd.pk), aI_of (tP_2 P.rd.pk), aI_of (tP_3 P.rd.pk), aI_of (tP_4 P.rd.pk), aI_of (tP_5 P.rd.pk), aI_of (tP_6 P.rd.pk), aI_of (tP_7 P.rd.pk), aI_of (tP_8 P.rd.pk), aI_of (tP_9 P.rd.pk), aI_of (tP_10 P.rd.pk), aI_of (tP_11 P.rd.pk), aI_of (tP_12 P.rd.pk), aI_of (tP_13 P.rd.pk), aI_of (tP_14 P.rd.pk), aI_of (tP_15 P.rd.pk), P.rd.sc, P.rd.len, P.rd.note, P.rd.min, P.rd.kd, P.rd.gt, P.rd.e1, P.rd.e2, P.rd.i8, P.rd.i9, P.rd.i10, P.rd.i11, P.rd.hd, m_isPerson W M, hx, Bool.toNat_true]
        rw [hs2]
        split <;> rfl
      have ee0 : ∀ (h : Mem) (M : IM h a), mI h 57 (0 + k) = nI (a 1 0 k) ∧ mI h 57 (4 + k) = nI (a 1 1 k) ∧ mI h 57 (4 * s + k) = nI (a 1 s k) := fun h M => ⟨by have := M.nw.at k 0 (by omega) (by decide); simpa using this, by have := M.nw.at k 1 (by omega) (by decide); simpa using this, M.nw.at k s (by omega) (by omega)⟩
      rcases Decidable.em (a 1 0 k = a 0 8 i ∧ (a 1 s k).testBit (a 0 9 i) = false) with hg | hg
      · rcases Nat.lt_or_ge (a 1 1 k) (a 0 11 i) with hc | hc
        · refine ⟨a, -nI 1, 6, W, by decide, AC.ofQ W (fun h C => ?_) z, AM.ofQ (fun h M0 => ?_) (by decide) z⟩
          · have pi := C.inn W hi
            have hneg : ¬ nI 0 ≤ nI (a 1 1 k) - nI (a 0 11 i) := by
              have := pk_sneg (a := a 1 1 k) (b := a 0 11 i) (by omega) hc
              rw [le_not]
              exact fun q => q this
            show OK (f_X11_buy h 1 (nI k) (nI i)) _
            rw [cb h C]
            unfold f_X11_buy_40
            simp (disch := omega) only [ob, nI_lit, nI_add, pk_mul, nI_eq, nI_ltI, nI_leI, if_true, if_false, if_pos, if_neg, ck_of (tS_1 C.ct.sh), gR_of (tS_1 C.ct.sh), gI_of (tS_1 C.ct.sh), pI_of (tS_1 C.ct.sh), C.ct.rp, rS_1_2 C.ct.sh, rS_1_3 C.ct.sh, rS_1_4 C.ct.sh, rS_1_5 C.ct.sh, rS_1_6 C.ct.sh, rS_1_7 C.ct.sh, rS_1_8 C.ct.sh, rS_1_9 C.ct.sh, ck_of (tR C.ct.rd.rd), gR_of (tR C.ct.rd.rd), gI_of (tR C.ct.rd.rd), rR_9 C.ct.rd.rd, rR_10 C.ct.rd.rd, rR_11 C.ct.rd.rd, rR_12 C.ct.rd.rd, rR_13 C.ct.rd.rd, rR_14 C.ct.rd.rd, rR_15 C.ct.rd.rd, rR_16 C.ct.rd.rd, rR_17 C.ct.rd.rd, rR_18 C.ct.rd.rd, rR_19 C.ct.rd.rd, aI_of (tR_1 C.ct.rd.rd), aI_of (tR_2 C.ct.rd.rd), aI_of (tR_3 C.ct.rd.rd), aI_of (tR_4 C.ct.rd.rd), aI_of (tR_5 C.ct.rd.rd), aI_of (tR_6 C.ct.rd.rd), aI_of (tR_7 C.ct.rd.rd), aI_of (tR_8 C.ct.rd.rd), aI_of (tR_9 C.ct.rd.rd), C.ct.rd.sc, C.ct.rd.len, C.ct.rd.e1, C.ct.rd.e2, C.ct.rd.min, C.ct.rd.kd, C.ct.rd.gt, C.ct.rd.bt, C.ct.rd.ip, C.ct.rd.hd, c_refuse C.ct.sh, c_answer C.ct.sh, pi.1.1, pi.1.2, pi.2.2, c_of C.ct.sh C.nw, hsh, haf, hg.1, hg.2, hneg]
            exact qc_end C _ _
          · show OK (f_X13_buy h 55 (nI k) (nI i)) _
            rw [mb h M0]
            obtain ⟨h1, eh, M, F1⟩ : ∃ h1, wI h 55 0 (nI 0) = h1 ∧ IM h1 a ∧ FM h h1 := ⟨_, rfl, M0.th _, FM.w55 h _ (by decide)⟩
            rw [eh]
            have P := M.told ti
            obtain ⟨n0, n1, ns⟩ := ee0 h1 M
            unfold f_X13_buy_54
            simp (disch := omega) only [ob, nI_lit, nI_add, pk_mul, nI_eq, nI_ltI, nI_leI, if_true, if_false, if_pos, if_neg, ck_of (tS_55 M.sh), gR_of (tS_55 M.sh), gI_of (tS_55 M.sh), pI_of (tS_55 M.sh), rS_55_16 M.sh, rS_55_17 M.sh, rS_55_18 M.sh, rS_55_21 M.sh, rS_55_25 M.sh, rS_55_26 M.sh, rS_55_27 M.sh, rS_55_28 M.sh, rS_55_32 M.sh, rS_55_33 M.sh, rS_55_34 M.sh, m_refused M.sh, m_good M.sh, P.pp, ck_of (tP P.rd.pk), gR_of (tP P.rd.pk), gI_of (tP P.rd.pk), rP_10 P.rd.pk, rP_11 P.rd.pk, rP_12 P.rd.pk, rP_13 P.rd.pk, rP_14 P.rd.pk, rP_15 P.rd.pk, rP_16 P.rd.pk, rP_17 P.rd.pk, rP_18 P.rd.pk, rP_19 P.rd.pk, rP_20 P.rd.pk, rP_21 P.rd.pk, rP_22 P.rd.pk, rP_23 P.rd.pk, rP_24 P.rd.pk, aI_of (tP_1 P.rd.pk), aI_of (tP_2 P.rd.pk), aI_of (tP_3 P.rd.pk), aI_of (tP_4 P.rd.pk), aI_of (tP_5 P.rd.pk), aI_of (tP_6 P.rd.pk), aI_of (tP_7 P.rd.pk), aI_of (tP_8 P.rd.pk), aI_of (tP_9 P.rd.pk), aI_of (tP_10 P.rd.pk), aI_of (tP_11 P.rd.pk), aI_of (tP_12 P.rd.pk), aI_of (tP_13 P.rd.pk), aI_of (tP_14 P.rd.pk), aI_of (tP_15 P.rd.pk), P.rd.sc, P.rd.len, P.rd.note, P.rd.min, P.rd.kd, P.rd.gt, P.rd.e1, P.rd.e2, P.rd.i8, P.rd.i9, P.rd.i10, P.rd.i11, P.rd.hd, aI_of (tS_57 M.sh), n0, n1, ns, hg.1, h_bit, hg.2, Bool.toNat_false]
            exact qm_end F1 _ _
        · have hN : NF (a 0) (nu (nu (a 1) 1 k (a 1 1 k - a 0 11 i)) s k (a 1 s k ||| 2 ^ a 0 9 i)) := by
            refine ⟨fun x hx => ?_, fun x hx => ?_, fun x hx => ?_, fun x hx => ?_, ?_⟩
            · rw [nu_w _ _ _ _ (by omega), nu_w _ _ _ _ (by decide)]; exact W.nf.pl x hx
            · rw [nu_w _ _ _ _ (by omega)]
              unfold nu
              split
              · omega
              · exact W.nf.co x hx
            · unfold nu
              split
              · exact hor
              · rw [if_neg (by omega)]
                exact W.nf.kn x hx
            · unfold nu
              split
              · exact hor
              · rw [if_neg (by omega)]
                exact W.nf.fg x hx
            · rw [nu_w _ _ _ _ (by omega), nu_w _ _ _ _ (by decide)]; exact W.nf.rn
          refine ⟨actA a (nu (nu (a 1) 1 k (a 1 1 k - a 0 11 i)) s k (a 1 s k ||| 2 ^ a 0 9 i)), nI (a 1 1 k - a 0 11 i), 0, act_w W ti hN, by decide, fun h C _ => ?_, fun h M0 _ _ => ?_⟩
          · have pi := C.inn W hi
            have S := C.ct.sh
            have e4 : mI (wI (kpM h a) 34 (k * 5 + 1) (nI (a 1 1 k - a 0 11 i))) 34 (k * 5 + s) = nI (a 1 s k) := by
              rw [mI_wI_at, pk_un (by omega), kpM_34]
              exact C.nw.at k s (by omega) (by omega)
            show OK (f_X11_buy h 1 (nI k) (nI i)) _
            rw [cb h C]
            unfold f_X11_buy_40
            simp (disch := omega) only [ob, nI_lit, nI_add, pk_mul, nI_eq, nI_ltI, nI_leI, if_true, if_false, if_pos, if_neg, ck_of (tS_1 C.ct.sh), gR_of (tS_1 C.ct.sh), gI_of (tS_1 C.ct.sh), pI_of (tS_1 C.ct.sh), C.ct.rp, rS_1_2 C.ct.sh, rS_1_3 C.ct.sh, rS_1_4 C.ct.sh, rS_1_5 C.ct.sh, rS_1_6 C.ct.sh, rS_1_7 C.ct.sh, rS_1_8 C.ct.sh, rS_1_9 C.ct.sh, ck_of (tR C.ct.rd.rd), gR_of (tR C.ct.rd.rd), gI_of (tR C.ct.rd.rd), rR_9 C.ct.rd.rd, rR_10 C.ct.rd.rd, rR_11 C.ct.rd.rd, rR_12 C.ct.rd.rd, rR_13 C.ct.rd.rd, rR_14 C.ct.rd.rd, rR_15 C.ct.rd.rd, rR_16 C.ct.rd.rd, rR_17 C.ct.rd.rd, rR_18 C.ct.rd.rd, rR_19 C.ct.rd.rd, aI_of (tR_1 C.ct.rd.rd), aI_of (tR_2 C.ct.rd.rd), aI_of (tR_3 C.ct.rd.rd), aI_of (tR_4 C.ct.rd.rd), aI_of (tR_5 C.ct.rd.rd), aI_of (tR_6 C.ct.rd.rd), aI_of (tR_7 C.ct.rd.rd), aI_of (tR_8 C.ct.rd.rd), aI_of (tR_9 C.ct.rd.rd), C.ct.rd.sc, C.ct.rd.len, C.ct.rd.e1, C.ct.rd.e2, C.ct.rd.min, C.ct.rd.kd, C.ct.rd.gt, C.ct.rd.bt, C.ct.rd.ip, C.ct.rd.hd, c_refuse C.ct.sh, c_answer C.ct.sh, pi.1.1, pi.1.2, pi.2.2, c_of S C.nw, hsh, haf, hg.1, hg.2, pk_sub, c_keep2 W C, gR_of (tS_1 (S.kp a)), rS_1_3 (S.kp a), c_set (S.kp a), gR_of (tS_1 ((S.kp a).wI 34 (k * 5 + 1) (nI (a 1 1 k - a 0 11 i)))), rS_1_3 ((S.kp a).wI 34 (k * 5 + 1) (nI (a 1 1 k - a 0 11 i))), c_of2 ((S.kp a).wI 34 (k * 5 + 1) (nI (a 1 1 k - a 0 11 i))), e4, nI_or, c_set ((S.kp a).wI 34 (k * 5 + 1) (nI (a 1 1 k - a 0 11 i))), c_answer (((S.kp a).wI 34 (k * 5 + 1) (nI (a 1 1 k - a 0 11 i))).wI 34 (k * 5 + s) (nI (a 1 s k ||| 2 ^ a 0 9 i)))]
            have hc := act_c (h' := wI (wI (wI (kpM h a) 34 (k * 5 + 1) (nI (a 1 1 k - a 0 11 i))) 34 (k * 5 + s) (nI (a 1 s k ||| 2 ^ a 0 9 i))) 1 0 (nI 0)) (ν' := nu (nu (a 1) 1 k (a 1 1 k - a 0 11 i)) s k (a 1 s k ||| 2 ^ a 0 9 i)) W C (((FQ.w _ _ _ (by decide)).tr (FQ.w _ _ _ (by decide))).tr (FQ.w _ _ _ (by decide))) (by
              show rC (mI _ 34) 0 _
              rw [mI_wI_ne _ _ _ (by decide), mI_wI_at, mI_wI_at, kpM_34]
              exact rC_set (rC_set C.nw _ (by omega) (by decide)) _ (by omega) (by omega))
            exact ⟨_, rfl, rfl, hc.1, hc.2, by rw [mI_wI_at, pk_us]⟩
          · show OK (f_X13_buy h 55 (nI k) (nI i)) _
            rw [mb h M0]
            obtain ⟨h1, eh, M, F1⟩ : ∃ h1, wI h 55 0 (nI 0) = h1 ∧ IM h1 a ∧ FM h h1 := ⟨_, rfl, M0.th _, FM.w55 h _ (by decide)⟩
            rw [eh]
            have P := M.told ti
            have S := M.sh
            obtain ⟨n0, n1, ns⟩ := ee0 h1 M
            have hpp := M.pk
            have eJ : ∀ (q : Mem), FQ [55, 57] (rmM h1 a) q → ∀ j, 0 < j → mI q (a 2 0 2 + j) = mI h1 (a 2 0 2 + j) := by
              intro q f j hj
              rw [f.2.2.2.2 _ (by
                intro hq
                simp only [List.mem_cons, List.not_mem_nil, or_false] at hq
                omega)]
              refine (rmM_f h1 a).2.2.2.2 _ ?_
              intro hq
              simp only [List.mem_cons, List.not_mem_nil, or_false] at hq
              omega
            have eJ0 := eJ (rmM h1 a) (FQ.rf _ _)
            have eJ1 := eJ (wI (rmM h1 a) 57 (4 + k) (nI (a 1 1 k - a 0 11 i))) (FQ.w _ _ _ (by decide))
            have R0 : PK (rmM h1 a) (a 2 0 2) := P.rd.pk
            have R1 : PK (wI (rmM h1 a) 57 (4 + k) (nI (a 1 1 k - a 0 11 i))) (a 2 0 2) := P.rd.pk
            have eR0 : mR (rmM h1 a) = mR h1 := rfl
            have eR1 : mR (wI (rmM h1 a) 57 (4 + k) (nI (a 1 1 k - a 0 11 i))) = mR h1 := rfl
            have e57 : mI (rmM h1 a) 57 = mI h1 57 := rmM_57 h1 a
            have ns1 : mI (wI (rmM h1 a) 57 (4 + k) (nI (a 1 1 k - a 0 11 i))) 57 (4 * s + k) = nI (a 1 s k) := by
              rw [mI_wI_at, pk_un (by omega), e57]
              exact ns
            have n12 : mI (wI (wI (rmM h1 a) 57 (4 + k) (nI (a 1 1 k - a 0 11 i))) 57 (4 * s + k) (nI (a 1 s k ||| 2 ^ a 0 9 i))) 57 (4 + k) = nI (a 1 1 k - a 0 11 i) := by
              rw [mI_wI_at, pk_un (by omega), mI_wI_at, pk_us]
            unfold f_X13_buy_54
            simp (disch := omega) only [ob, nI_lit, nI_add, pk_mul, nI_eq, nI_ltI, nI_leI, if_true, if_false, if_pos, if_neg, ck_of (tS_55 M.sh), gR_of (tS_55 M.sh), gI_of (tS_55 M.sh), pI_of (tS_55 M.sh), rS_55_16 M.sh, rS_55_17 M.sh, rS_55_18 M.sh, rS_55_21 M.sh, rS_55_25 M.sh, rS_55_26 M.sh, rS_55_27 M.sh, rS_55_28 M.sh, rS_55_32 M.sh, rS_55_33 M.sh, rS_55_34 M.sh, m_refused M.sh, m_good M.sh, P.pp, ck_of (tP P.rd.pk), gR_of (tP P.rd.pk), gI_of (tP P.rd.pk), rP_10 P.rd.pk, rP_11 P.rd.pk, rP_12 P.rd.pk, rP_13 P.rd.pk, rP_14 P.rd.pk, rP_15 P.rd.pk, rP_16 P.rd.pk, rP_17 P.rd.pk, rP_18 P.rd.pk, rP_19 P.rd.pk, rP_20 P.rd.pk, rP_21 P.rd.pk, rP_22 P.rd.pk, rP_23 P.rd.pk, rP_24 P.rd.pk, aI_of (tP_1 P.rd.pk), aI_of (tP_2 P.rd.pk), aI_of (tP_3 P.rd.pk), aI_of (tP_4 P.rd.pk), aI_of (tP_5 P.rd.pk), aI_of (tP_6 P.rd.pk), aI_of (tP_7 P.rd.pk), aI_of (tP_8 P.rd.pk), aI_of (tP_9 P.rd.pk), aI_of (tP_10 P.rd.pk), aI_of (tP_11 P.rd.pk), aI_of (tP_12 P.rd.pk), aI_of (tP_13 P.rd.pk), aI_of (tP_14 P.rd.pk), aI_of (tP_15 P.rd.pk), P.rd.sc, P.rd.len, P.rd.note, P.rd.min, P.rd.kd, P.rd.gt, P.rd.e1, P.rd.e2, P.rd.i8, P.rd.i9, P.rd.i10, P.rd.i11, P.rd.hd, aI_of (tS_57 S), n0, n1, ns, hg.1, h_bit, hg.2, Bool.toNat_false, m_rem2 W M, gR_of (tS_55 (S.rm a)), eR0, aI_of (tS_57 (S.rm a)), e57, gR_of (tP R0), aI_of (tP_11 R0), eJ0, pk_sub, sI_of (tS_57 (S.rm a)), gR_of (tS_55 ((S.rm a).wI 57 (4 + k) (nI (a 1 1 k - a 0 11 i)))), eR1, aI_of (tS_57 ((S.rm a).wI 57 (4 + k) (nI (a 1 1 k - a 0 11 i)))), ns1, gR_of (tP R1), aI_of (tP_9 R1), eJ1, hsh, nI_or, sI_of (tS_57 ((S.rm a).wI 57 (4 + k) (nI (a 1 1 k - a 0 11 i)))), gR_of (tS_55 (((S.rm a).wI 57 (4 + k) (nI (a 1 1 k - a 0 11 i))).wI 57 (4 * s + k) (nI (a 1 s k ||| 2 ^ a 0 9 i)))), rS_55_16 (((S.rm a).wI 57 (4 + k) (nI (a 1 1 k - a 0 11 i))).wI 57 (4 * s + k) (nI (a 1 s k ||| 2 ^ a 0 9 i))), aI_of (tS_57 (((S.rm a).wI 57 (4 + k) (nI (a 1 1 k - a 0 11 i))).wI 57 (4 * s + k) (nI (a 1 s k ||| 2 ^ a 0 9 i)))), n12, m_good (((S.rm a).wI 57 (4 + k) (nI (a 1 1 k - a 0 11 i))).wI 57 (4 * s + k) (nI (a 1 s k ||| 2 ^ a 0 9 i)))]
            have hc := act_m (h' := wI (wI (wI (wI (rmM h1 a) 57 (4 + k) (nI (a 1 1 k - a 0 11 i))) 57 (4 * s + k) (nI (a 1 s k ||| 2 ^ a 0 9 i))) 55 1 (nI 0)) 55 2 (-nI 1)) (ν' := nu (nu (a 1) 1 k (a 1 1 k - a 0 11 i)) s k (a 1 s k ||| 2 ^ a 0 9 i)) W M ((((FQ.w _ _ _ (by decide)).tr (FQ.w _ _ _ (by decide))).tr (FQ.w _ _ _ (by decide))).tr (FQ.w _ _ _ (by decide))) (fun i hi => by
                rw [mI_wI_at, pk_un (by omega), mI_wI_at, pk_un (by omega), mI_wI_ne _ _ _ (by decide), mI_wI_ne _ _ _ (by decide)]) (by
              show rM (mI _ 57) 0 _
              rw [mI_wI_ne _ _ _ (by decide), mI_wI_ne _ _ _ (by decide), mI_wI_at, mI_wI_at, rmM_57]
              have r1 := rM_set (w := 1) M.nw (a 1 1 k - a 0 11 i) (show k < 4 by omega) (by decide)
              exact rM_set r1 _ (by omega) (by omega))
            refine ⟨_, rfl, rfl, FHi.f1 F1 hc.1, hc.2, ?_, ?_⟩
            · rw [mI_wI_at, pk_un (by decide), mI_wI_at, pk_us]
            · rw [mI_wI_at, pk_us]
              try rfl
      · refine ⟨a, -nI 1, 5, W, by decide, AC.ofQ W (fun h C => ?_) z, AM.ofQ (fun h M0 => ?_) (by decide) z⟩
        · have pi := C.inn W hi
          show OK (f_X11_buy h 1 (nI k) (nI i)) _
          rw [cb h C]
          unfold f_X11_buy_40 f_X11_buy_90
          simp (disch := omega) only [ob, nI_lit, nI_add, pk_mul, nI_eq, nI_ltI, nI_leI, if_true, if_false, if_pos, if_neg, ck_of (tS_1 C.ct.sh), gR_of (tS_1 C.ct.sh), gI_of (tS_1 C.ct.sh), pI_of (tS_1 C.ct.sh), C.ct.rp, rS_1_2 C.ct.sh, rS_1_3 C.ct.sh, rS_1_4 C.ct.sh, rS_1_5 C.ct.sh, rS_1_6 C.ct.sh, rS_1_7 C.ct.sh, rS_1_8 C.ct.sh, rS_1_9 C.ct.sh, ck_of (tR C.ct.rd.rd), gR_of (tR C.ct.rd.rd), gI_of (tR C.ct.rd.rd), rR_9 C.ct.rd.rd, rR_10 C.ct.rd.rd, rR_11 C.ct.rd.rd, rR_12 C.ct.rd.rd, rR_13 C.ct.rd.rd, rR_14 C.ct.rd.rd, rR_15 C.ct.rd.rd, rR_16 C.ct.rd.rd, rR_17 C.ct.rd.rd, rR_18 C.ct.rd.rd, rR_19 C.ct.rd.rd, aI_of (tR_1 C.ct.rd.rd), aI_of (tR_2 C.ct.rd.rd), aI_of (tR_3 C.ct.rd.rd), aI_of (tR_4 C.ct.rd.rd), aI_of (tR_5 C.ct.rd.rd), aI_of (tR_6 C.ct.rd.rd), aI_of (tR_7 C.ct.rd.rd), aI_of (tR_8 C.ct.rd.rd), aI_of (tR_9 C.ct.rd.rd), C.ct.rd.sc, C.ct.rd.len, C.ct.rd.e1, C.ct.rd.e2, C.ct.rd.min, C.ct.rd.kd, C.ct.rd.gt, C.ct.rd.bt, C.ct.rd.ip, C.ct.rd.hd, c_refuse C.ct.sh, c_answer C.ct.sh, pi.1.1, pi.1.2, pi.2.2, c_of C.ct.sh C.nw, hsh, haf]
          rcases Decidable.em (a 1 0 k = a 0 8 i) with e | e
          · have e2 : ¬ (a 1 s k).testBit (a 0 9 i) = false := fun q => hg ⟨e, q⟩
            simp only [e, e2, if_true, if_false]
            exact qc_end C _ _
          · simp only [e, if_false]
            exact qc_end C _ _
        · show OK (f_X13_buy h 55 (nI k) (nI i)) _
          rw [mb h M0]
          obtain ⟨h1, eh, M, F1⟩ : ∃ h1, wI h 55 0 (nI 0) = h1 ∧ IM h1 a ∧ FM h h1 := ⟨_, rfl, M0.th _, FM.w55 h _ (by decide)⟩
          rw [eh]
          have P := M.told ti
          obtain ⟨n0, n1, ns⟩ := ee0 h1 M
          unfold f_X13_buy_54 f_X13_buy_98
          simp (disch := omega) only [ob, nI_lit, nI_add, pk_mul, nI_eq, nI_ltI, nI_leI, if_true, if_false, if_pos, if_neg, ck_of (tS_55 M.sh), gR_of (tS_55 M.sh), gI_of (tS_55 M.sh), pI_of (tS_55 M.sh), rS_55_16 M.sh, rS_55_17 M.sh, rS_55_18 M.sh, rS_55_21 M.sh, rS_55_25 M.sh, rS_55_26 M.sh, rS_55_27 M.sh, rS_55_28 M.sh, rS_55_32 M.sh, rS_55_33 M.sh, rS_55_34 M.sh, m_refused M.sh, m_good M.sh, P.pp, ck_of (tP P.rd.pk), gR_of (tP P.rd.pk), gI_of (tP P.rd.pk), rP_10 P.rd.pk, rP_11 P.rd.pk, rP_12 P.rd.pk, rP_13 P.rd.pk, rP_14 P.rd.pk, rP_15 P.rd.pk, rP_16 P.rd.pk, rP_17 P.rd.pk, rP_18 P.rd.pk, rP_19 P.rd.pk, rP_20 P.rd.pk, rP_21 P.rd.pk, rP_22 P.rd.pk, rP_23 P.rd.pk, rP_24 P.rd.pk, aI_of (tP_1 P.rd.pk), aI_of (tP_2 P.rd.pk), aI_of (tP_3 P.rd.pk), aI_of (tP_4 P.rd.pk), aI_of (tP_5 P.rd.pk), aI_of (tP_6 P.rd.pk), aI_of (tP_7 P.rd.pk), aI_of (tP_8 P.rd.pk), aI_of (tP_9 P.rd.pk), aI_of (tP_10 P.rd.pk), aI_of (tP_11 P.rd.pk), aI_of (tP_12 P.rd.pk), aI_of (tP_13 P.rd.pk), aI_of (tP_14 P.rd.pk), aI_of (tP_15 P.rd.pk), P.rd.sc, P.rd.len, P.rd.note, P.rd.min, P.rd.kd, P.rd.gt, P.rd.e1, P.rd.e2, P.rd.i8, P.rd.i9, P.rd.i10, P.rd.i11, P.rd.hd, aI_of (tS_57 M.sh), n0, n1, ns, h_bit, nI_b0]
          rcases Decidable.em (a 1 0 k = a 0 8 i) with e | e
          · have e2 : ¬ (a 1 s k).testBit (a 0 9 i) = false := fun q => hg ⟨e, q⟩
            simp only [e, e2, if_true, if_false]
            exact qm_end F1 _ _
          · simp only [e, if_false]
            exact qm_end F1 _ _
theorem st_42 : StepOK INV lc_42 := by
  intro sc L i h hL hi hI
  unfold lc_42
  simp only [show (1 : Int32) = nI 1 from rfl, show (2 : Int32) = nI 2 from rfl, show (3 : Int32) = nI 3 from rfl, show (4 : Int32) = nI 4 from rfl, show (5 : Int32) = nI 5 from rfl, nI_add, sc_at hL (show i + 1 < L by omega), sc_at hL (show i + 2 < L by omega), sc_at hL (show i + 3 < L by omega), sc_at hL (show i + 4 < L by omega), sc_at hL (show i + 5 < L by omega), ob]
  exact a2 (f := fun h => f_X11_buy h 1 (sc (i + 1)) (sc (i + 2))) (g := fun h => f_X13_buy h 55 (sc (i + 1)) (sc (i + 2))) hI (fun a z W _ => qq_buy W z _ _)
