/-! ===== the reference goes on from token to token ===== -/
def MP (h : Mem) (b : Nat → Nat) (n : Nat) : Prop := (SH h) ∧ (mI h 55 7 = nI n) ∧ (n ≤ 1000) ∧ (∀ i, i < n → mI h 56 i &&& nI 255 = nI (b i)) ∧ (∀ i, i < n → b i < 256)
theorem MP.sh {h : Mem} {b : Nat → Nat} {n : Nat} (H : MP h b n) : SH h := H.1
theorem MP.sz {h : Mem} {b : Nat → Nat} {n : Nat} (H : MP h b n) : mI h 55 7 = nI n := H.2.1
theorem MP.n1 {h : Mem} {b : Nat → Nat} {n : Nat} (H : MP h b n) : n ≤ 1000 := H.2.2.1
theorem MP.tp {h : Mem} {b : Nat → Nat} {n : Nat} (H : MP h b n) : ∀ i, i < n → mI h 56 i &&& nI 255 = nI (b i) := H.2.2.2.1
theorem MP.by {h : Mem} {b : Nat → Nat} {n : Nat} (H : MP h b n) : ∀ i, i < n → b i < 256 := H.2.2.2.2
/-- what going on leaves as it was -/
def FG (h h' : Mem) : Prop := (mT h' = mT h ∧ mR h' = mR h ∧ mN h' = mN h) ∧ (∀ x, x ≠ 55 → mI h' x = mI h x) ∧ (∀ x, x ≠ 55 → mL h' x = mL h x) ∧ ∀ k, k ≠ 8 → k ≠ 9 → k ≠ 10 → k ≠ 11 → k ≠ 14 → mI h' 55 k = mI h 55 k
theorem FG.rf (h : Mem) : FG h h := ⟨⟨rfl, rfl, rfl⟩, fun _ _ => rfl, fun _ _ => rfl, fun _ _ _ _ _ _ => rfl⟩
theorem FG.tr {h h1 h2 : Mem} (a : FG h h1) (c : FG h1 h2) : FG h h2 := ⟨⟨c.1.1.trans a.1.1, c.1.2.1.trans a.1.2.1, c.1.2.2.trans a.1.2.2⟩, fun x hx => (c.2.1 x hx).trans (a.2.1 x hx), fun x hx => (c.2.2.1 x hx).trans (a.2.2.1 x hx), fun k p q r s t => (c.2.2.2 k p q r s t).trans (a.2.2.2 k p q r s t)⟩
theorem FG.w (h : Mem) {k : Nat} (v : Int32) (hk : k = 8 ∨ k = 9 ∨ k = 10 ∨ k = 11 ∨ k = 14) : FG h (wI h 55 k v) := ⟨⟨rfl, rfl, rfl⟩, fun x hx => mI_wI_ne _ _ _ hx, fun _ _ => rfl, fun j p q r s t => by rw [mI_wI_at, pk_un (by omega)]⟩
theorem FG.l (h : Mem) (k : Nat) (v : Int64) : FG h (wL h 55 k v) := ⟨⟨rfl, rfl, rfl⟩, fun _ _ => rfl, fun x hx => mL_wL_ne _ _ _ hx, fun _ _ _ _ _ _ => rfl⟩
def km (k : Nat) : Nat := if k = 4 then 0 else k + 1
def KT (h : Mem) (b : Nat → Nat) (n i : Nat) : Prop := (mI h 55 10 = nI (sp b n i)) ∧ (mI h 55 9 = nI (km (tk b n i))) ∧ (tk b n i ≠ 4 → mI h 55 8 = nI (ta b n i)) ∧ (tk b n i = 1 → mL h 55 15 = lN (wv b (sp b n i) (nl b n (sp b n i))) ∧ mI h 55 14 = nI (nl b n (sp b n i))) ∧ (tk b n i = 2 → mI h 55 11 = nI (nv b (sp b n i) (ndg b n (sp b n i))))
theorem KT.at {h : Mem} {b : Nat → Nat} {n i : Nat} (H : KT h b n i) : mI h 55 10 = nI (sp b n i) := H.1
theorem KT.kd {h : Mem} {b : Nat → Nat} {n i : Nat} (H : KT h b n i) : mI h 55 9 = nI (km (tk b n i)) := H.2.1
theorem KT.af {h : Mem} {b : Nat → Nat} {n i : Nat} (H : KT h b n i) : tk b n i ≠ 4 → mI h 55 8 = nI (ta b n i) := H.2.2.1
theorem KT.wo {h : Mem} {b : Nat → Nat} {n i : Nat} (H : KT h b n i) : tk b n i = 1 → mL h 55 15 = lN (wv b (sp b n i) (nl b n (sp b n i))) ∧ mI h 55 14 = nI (nl b n (sp b n i)) := H.2.2.2.1
theorem KT.nu {h : Mem} {b : Nat → Nat} {n i : Nat} (H : KT h b n i) : tk b n i = 2 → mI h 55 11 = nI (nv b (sp b n i) (ndg b n (sp b n i))) := H.2.2.2.2
section
variable {h : Mem} {b : Nat → Nat} {n : Nat}
theorem MP.fg {h' : Mem} (T : MP h b n) (f : FG h h') : MP h' b n := by
  refine ⟨?_, ?_, T.n1, ?_, T.by⟩
  · have := T.sh
    unfold SH at *
    rw [f.1.1, f.1.2.1, f.1.2.2]
    exact this
  · rw [f.2.2.2 7 (by decide) (by decide) (by decide) (by decide) (by decide)]
    exact T.sz
  · rw [f.2.1 56 (by decide)]
    exact T.tp
theorem m_byte (T : MP h b n) {k : Nat} (hk : k ≤ 1000) : f_X13_byteAt h 55 (nI k) = some (if k < n then nI (b k) else -nI 1) := by
  have hn := T.n1
  have S := T.sh
  unfold f_X13_byteAt
  rcases Nat.lt_or_ge k n with c | c
  · simp (disch := omega) only [ob, nI_lit, nI_leI, if_neg, if_pos, ck_of (tS_55 S), gI_of (tS_55 S), T.sz, gR_of (tS_55 S), rS_55_5 S, aB_of (tS_56 S), T.tp k c]
  · simp (disch := omega) only [ob, nI_lit, nI_leI, if_neg, if_pos, ck_of (tS_55 S), gI_of (tS_55 S), T.sz]
theorem nI_ng1 : (-nI 1 : Int32) < nI 48 ∧ (-nI 1 : Int32) < nI 97 ∧ (-nI 1 : Int32) ≠ nI 32 := by decide
theorem m_isL (h : Mem) {c : Nat} (hc : c < 256) : f_X13_isLetter h (nI c) = some (nI (isL c).toNat) := by
  unfold f_X13_isLetter f_X13_isLetter_16 isL
  simp (disch := omega) only [nI_lit, nI_ltI]
  rcases Nat.lt_or_ge c 97 with d | d
  · rw [if_pos d, decide_eq_false (by omega)]
    rfl
  · rw [if_neg (by omega), decide_eq_true d]
    rcases Nat.lt_or_ge 122 c with e | e
    · rw [if_pos e, decide_eq_false (by omega)]
      rfl
    · rw [if_neg (by omega), decide_eq_true e]
      rfl
theorem m_isD (h : Mem) {c : Nat} (hc : c < 256) : f_X13_isDigit h (nI c) = some (nI (isD c).toNat) := by
  unfold f_X13_isDigit f_X13_isDigit_16 isD
  simp (disch := omega) only [nI_lit, nI_ltI]
  rcases Nat.lt_or_ge c 48 with d | d
  · rw [if_pos d, decide_eq_false (by omega)]
    rfl
  · rw [if_neg (by omega), decide_eq_true d]
    rcases Nat.lt_or_ge 57 c with e | e
    · rw [if_pos e, decide_eq_false (by omega)]
      rfl
    · rw [if_neg (by omega), decide_eq_true e]
      rfl
theorem m_isLn (h : Mem) : f_X13_isLetter h (-nI 1) = some (nI 0) := by
  unfold f_X13_isLetter f_X13_isLetter_16
  exact if_pos (by decide)
theorem m_isDn (h : Mem) : f_X13_isDigit h (-nI 1) = some (nI 0) := by
  unfold f_X13_isDigit f_X13_isDigit_16
  exact if_pos (by decide)
theorem m_skip (T : MP h b n) {i : Nat} (hi : i ≤ n) (h8 : mI h 55 8 = nI i) : iter (fun (s : Mem) => b_X13_goesOn_9 s 55) FU h = some (wI h 55 8 (nI (sp b n i))) := by
  have hn := T.n1
  have g8 : ∀ v, mI (wI h 55 8 v) 55 8 = v := fun v => by rw [mI_wI_at, pk_us]
  have hid : h = wI h 55 8 (nI (i + 0)) := (wI_same h8).symm
  have T1 : ∀ v, MP (wI h 55 8 v) b n := fun v => T.fg (FG.w h v (by omega))
  have key : iter (fun (s : Mem) => b_X13_goesOn_9 s 55) FU (wI h 55 8 (nI (i + 0))) = some (wI h 55 8 (nI (sp b n i))) := by
    refine iter_ff (fun k => wI h 55 8 (nI (i + k))) (fun k => decide (b (i + k) ≠ 32)) (n - i) (FU_lt (by omega)) (fun k hk hp => ?_) ?_
    · have T2 := T1 (nI (i + k))
      have hb : b (i + k) = 32 := by simpa using hp
      have hq := m_byte T2 (k := i + k) (by omega)
      rw [if_pos (by omega), hb] at hq
      unfold b_X13_goesOn_9
      simp (disch := omega) only [ob, nI_lit, nI_add, pk_mul, nI_eq, nI_ltI, nI_leI, if_true, if_false, if_pos, if_neg, gI_of (tS_55 T2.sh), g8, hq, pI_of (tS_55 T2.sh), wI2]
      rfl
    · have T2 := T1 (nI (sp b n i))
      show b_X13_goesOn_9 (wI h 55 8 (nI (sp b n i))) 55 = _
      have hle := sp_le b hi
      have hq := m_byte T2 (k := sp b n i) (by omega)
      unfold b_X13_goesOn_9
      rcases Nat.lt_or_ge (sp b n i) n with c | c
      · have hb : b (sp b n i) ≠ 32 := by
          have hq : ff (fun k => decide (b (i + k) ≠ 32)) (n - i) < n - i := by
            unfold sp at c
            omega
          have this : decide (b (sp b n i) ≠ 32) = true := ff_at _ _ hq
          exact of_decide_eq_true this
        have hb2 := T.by (sp b n i) c
        rw [if_pos c] at hq
        simp (disch := omega) only [ob, nI_lit, nI_add, pk_mul, nI_eq, nI_ltI, nI_leI, if_true, if_false, if_pos, if_neg, gI_of (tS_55 T2.sh), g8, hq]
      · rw [if_neg (by omega)] at hq
        simp (disch := omega) only [ob, nI_lit, gI_of (tS_55 T2.sh), g8, hq]
        rw [if_neg nI_ng1.2.2]
  rw [← hid] at key
  exact key
theorem wv_min (b : Nat → Nat) (a k : Nat) (hk : k < 8) : wv b a (min (k + 1) 8) = wv b a (min k 8) * 32 + (b (a + k) - 96) := by
  rw [Nat.min_eq_left (by omega), Nat.min_eq_left (by omega)]
  rfl
theorem nv_min (b : Nat → Nat) (a k : Nat) (hk : k < 3) : nv b a (min (k + 1) 3) = nv b a (min k 3) * 10 + (b (a + k) - 48) := by
  rw [Nat.min_eq_left (by omega), Nat.min_eq_left (by omega)]
  rfl
theorem m_letters (T : MP h b n) {a : Nat} (ha : a ≤ n) (h8 : mI h 55 8 = nI a) : iter (fun (s : Int32 × Mem) => b_X13_goesOn_84 s.2 55 s.1) FU (nI 0, wL h 55 15 (lN 0)) = some (nI (nl b n a), wI (wL h 55 15 (lN (wv b a (min (nl b n a) 8)))) 55 8 (nI (a + nl b n a))) := by
  have hn := T.n1
  have hl := nl_le b n a
  have g8 : ∀ u v, mI (wI (wL h 55 15 u) 55 8 v) 55 8 = v := fun u v => by rw [mI_wI_at, pk_us]
  have g15 : ∀ u v, mL (wI (wL h 55 15 u) 55 8 v) 55 15 = u := fun u v => by
    show mL (wL h 55 15 u) 55 15 = u
    rw [mL_wL]
  have T1 : ∀ u v, MP (wI (wL h 55 15 u) 55 8 v) b n := fun u v => T.fg ((FG.l h 15 u).tr (FG.w _ v (by omega)))
  have hid : wL h 55 15 (lN 0) = wI (wL h 55 15 (lN (wv b a (min 0 8)))) 55 8 (nI (a + 0)) := by
    symm
    refine wI_same ?_
    exact h8
  rw [hid]
  refine iter_ff (fun k => (nI k, wI (wL h 55 15 (lN (wv b a (min k 8)))) 55 8 (nI (a + k)))) (fun k => !isL (b (a + k))) (n - a) (FU_lt (by omega)) (fun k hk hp => ?_) ?_
  · have hL : isL (b (a + k)) = true := by simpa using hp
    have hb : 97 ≤ b (a + k) ∧ b (a + k) ≤ 122 := isL_iff.1 hL
    have T2 := T1 (lN (wv b a (min k 8))) (nI (a + k))
    have hq := m_byte T2 (k := a + k) (by omega)
    rw [if_pos (by omega)] at hq
    have hq2 := m_isL (wI (wL h 55 15 (lN (wv b a (min k 8)))) 55 8 (nI (a + k))) (c := b (a + k)) (by omega)
    rw [hL] at hq2
    show b_X13_goesOn_84 (wI (wL h 55 15 (lN (wv b a (min k 8)))) 55 8 (nI (a + k))) 55 (nI k) = _
    unfold b_X13_goesOn_84 f_X13_goesOn_131
    rcases Nat.lt_or_ge k 8 with c | c
    · have e1 : lN 32 * lN (wv b a (min k 8)) + ((nI (b (a + k)) - nI 97 + nI 1).toInt64) = lN (wv b a (min (k + 1) 8)) := by
        rw [pk_sub (by omega), nI_add, nI_64 (by omega), lN_mul, lN_add, wv_min b a k c]
        congr 1
        omega
      have e2 : wL (wI (wL h 55 15 (lN (wv b a (min k 8)))) 55 8 (nI (a + k))) 55 15 (lN (wv b a (min (k + 1) 8))) = wI (wL h 55 15 (lN (wv b a (min (k + 1) 8)))) 55 8 (nI (a + k)) := by
        rw [wLI, wL2]
      have T3 := T1 (lN (wv b a (min (k + 1) 8))) (nI (a + k))
      have h32 : (32 : Int64) = lN 32 := rfl
      simp (disch := omega) only [ob, nI_lit, h32, nI_eq, nI_leI, if_neg, Bool.toNat_true, gI_of (tS_55 T2.sh), g8, hq, hq2, gL_of (tS_55 T2.sh), g15, e1, pL_of (tS_55 T2.sh), e2, gI_of (tS_55 T3.sh), pI_of (tS_55 T3.sh), wI2, nI_add]
      rfl
    · have e0 : min k 8 = min (k + 1) 8 := by omega
      simp (disch := omega) only [ob, nI_lit, nI_eq, nI_leI, if_neg, if_pos, Bool.toNat_true, gI_of (tS_55 T2.sh), g8, hq, hq2, pI_of (tS_55 T2.sh), wI2, nI_add]
      rw [e0]
      rfl
  · have T2 := T1 (lN (wv b a (min (nl b n a) 8))) (nI (a + nl b n a))
    have hq := m_byte T2 (k := a + nl b n a) (by omega)
    show b_X13_goesOn_84 (wI (wL h 55 15 (lN (wv b a (min (nl b n a) 8)))) 55 8 (nI (a + nl b n a))) 55 (nI (nl b n a)) = _
    unfold b_X13_goesOn_84
    rcases Nat.lt_or_ge (a + nl b n a) n with c | c
    · have hb : (!isL (b (a + nl b n a))) = true := ff_at (fun k => !isL (b (a + k))) (n - a) (by
        have : nl b n a < n - a := by omega
        exact this)
      have hb : isL (b (a + nl b n a)) = false := by simpa using hb
      have hq2 := m_isL (wI (wL h 55 15 (lN (wv b a (min (nl b n a) 8)))) 55 8 (nI (a + nl b n a))) (T.by _ c)
      rw [hb] at hq2
      rw [if_pos c] at hq
      simp (disch := omega) only [ob, nI_lit, nI_eq, if_pos, if_true, Bool.toNat_false, gI_of (tS_55 T2.sh), g8, hq, hq2]
    · rw [if_neg (by omega)] at hq
      simp (disch := omega) only [ob, nI_lit, nI_eq, if_pos, if_true, gI_of (tS_55 T2.sh), g8, hq, m_isLn]
theorem m_digits (T : MP h b n) {a : Nat} (ha : a ≤ n) (h8 : mI h 55 8 = nI a) : iter (fun (s : Int32 × Mem) => b_X13_goesOn_178 s.2 55 s.1) FU (nI 0, wI h 55 11 (nI 0)) = some (nI (ndg b n a), wI (wI h 55 11 (nI (nv b a (min (ndg b n a) 3)))) 55 8 (nI (a + ndg b n a))) := by
  have hn := T.n1
  have hl := ndg_le b n a
  have g8 : ∀ u v, mI (wI (wI h 55 11 u) 55 8 v) 55 8 = v := fun u v => by rw [mI_wI_at, pk_us]
  have g11 : ∀ u v, mI (wI (wI h 55 11 u) 55 8 v) 55 11 = u := fun u v => by rw [mI_wI_at, pk_un (by decide), mI_wI_at, pk_us]
  have T1 : ∀ u v, MP (wI (wI h 55 11 u) 55 8 v) b n := fun u v => T.fg ((FG.w h u (by omega)).tr (FG.w _ v (by omega)))
  have hid : wI h 55 11 (nI 0) = wI (wI h 55 11 (nI (nv b a (min 0 3)))) 55 8 (nI (a + 0)) := by
    symm
    refine wI_same ?_
    rw [mI_wI_at, pk_un (by decide)]
    exact h8
  rw [hid]
  refine iter_ff (fun k => (nI k, wI (wI h 55 11 (nI (nv b a (min k 3)))) 55 8 (nI (a + k)))) (fun k => !isD (b (a + k))) (n - a) (FU_lt (by omega)) (fun k hk hp => ?_) ?_
  · have hD : isD (b (a + k)) = true := by simpa using hp
    have hb : 48 ≤ b (a + k) ∧ b (a + k) ≤ 57 := isD_iff.1 hD
    have T2 := T1 (nI (nv b a (min k 3))) (nI (a + k))
    have hq := m_byte T2 (k := a + k) (by omega)
    rw [if_pos (by omega)] at hq
    have hq2 := m_isD (wI (wI h 55 11 (nI (nv b a (min k 3)))) 55 8 (nI (a + k))) (c := b (a + k)) (by omega)
    rw [hD] at hq2
    show b_X13_goesOn_178 (wI (wI h 55 11 (nI (nv b a (min k 3)))) 55 8 (nI (a + k))) 55 (nI k) = _
    unfold b_X13_goesOn_178 f_X13_goesOn_220
    rcases Nat.lt_or_ge k 3 with c | c
    · have e1 : nI 10 * nI (nv b a (min k 3)) + nI (b (a + k)) - nI 48 = nI (nv b a (min (k + 1) 3)) := by
        rw [pk_mul, nI_add, pk_sub (by omega), nv_min b a k c]
        congr 1
        omega
      have e2 : wI (wI (wI h 55 11 (nI (nv b a (min k 3)))) 55 8 (nI (a + k))) 55 11 (nI (nv b a (min (k + 1) 3))) = wI (wI h 55 11 (nI (nv b a (min (k + 1) 3)))) 55 8 (nI (a + k)) := by
        rw [wI_comm _ _ _ _ (by decide), wI2]
      have T3 := T1 (nI (nv b a (min (k + 1) 3))) (nI (a + k))
      simp (disch := omega) only [ob, nI_lit, nI_eq, nI_leI, if_neg, Bool.toNat_true, gI_of (tS_55 T2.sh), g8, g11, hq, hq2, e1, pI_of (tS_55 T2.sh), e2, gI_of (tS_55 T3.sh), pI_of (tS_55 T3.sh), wI2]
      rw [nI_add, nI_add]
      rfl
    · have e0 : min k 3 = min (k + 1) 3 := by omega
      simp (disch := omega) only [ob, nI_lit, nI_eq, nI_leI, if_neg, if_pos, Bool.toNat_true, gI_of (tS_55 T2.sh), g8, hq, hq2, pI_of (tS_55 T2.sh), wI2, nI_add]
      rw [e0]
      rfl
  · have T2 := T1 (nI (nv b a (min (ndg b n a) 3))) (nI (a + ndg b n a))
    have hq := m_byte T2 (k := a + ndg b n a) (by omega)
    show b_X13_goesOn_178 (wI (wI h 55 11 (nI (nv b a (min (ndg b n a) 3)))) 55 8 (nI (a + ndg b n a))) 55 (nI (ndg b n a)) = _
    unfold b_X13_goesOn_178
    rcases Nat.lt_or_ge (a + ndg b n a) n with c | c
    · have hb : (!isD (b (a + ndg b n a))) = true := ff_at (fun k => !isD (b (a + k))) (n - a) (by
        have : ndg b n a < n - a := by omega
        exact this)
      have hb : isD (b (a + ndg b n a)) = false := by simpa using hb
      have hq2 := m_isD (wI (wI h 55 11 (nI (nv b a (min (ndg b n a) 3)))) 55 8 (nI (a + ndg b n a))) (T.by _ c)
      rw [hb] at hq2
      rw [if_pos c] at hq
      simp (disch := omega) only [ob, nI_lit, nI_eq, if_pos, if_true, Bool.toNat_false, gI_of (tS_55 T2.sh), g8, hq, hq2]
    · rw [if_neg (by omega)] at hq
      simp (disch := omega) only [ob, nI_lit, nI_eq, if_pos, if_true, gI_of (tS_55 T2.sh), g8, hq, m_isDn]
end
