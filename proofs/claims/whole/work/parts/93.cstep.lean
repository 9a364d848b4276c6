/-! ===== the class steps from token to token ===== -/
def TP (h : Mem) (b : Nat → Nat) (n : Nat) : Prop := (SH h) ∧ (mI h 14 8 = nI n) ∧ (n ≤ 1000) ∧ (∀ i, i < n → mI h 15 i = nI (b i)) ∧ (∀ i, i < n → b i < 256) ∧ (∀ k, k < 20 → mL h 16 k = lN (me k))
theorem TP.sh {h : Mem} {b : Nat → Nat} {n : Nat} (H : TP h b n) : SH h := H.1
theorem TP.en {h : Mem} {b : Nat → Nat} {n : Nat} (H : TP h b n) : mI h 14 8 = nI n := H.2.1
theorem TP.n1 {h : Mem} {b : Nat → Nat} {n : Nat} (H : TP h b n) : n ≤ 1000 := H.2.2.1
theorem TP.tp {h : Mem} {b : Nat → Nat} {n : Nat} (H : TP h b n) : ∀ i, i < n → mI h 15 i = nI (b i) := H.2.2.2.1
theorem TP.by {h : Mem} {b : Nat → Nat} {n : Nat} (H : TP h b n) : ∀ i, i < n → b i < 256 := H.2.2.2.2.1
theorem TP.me {h : Mem} {b : Nat → Nat} {n : Nat} (H : TP h b n) : ∀ k, k < 20 → mL h 16 k = lN (me k) := H.2.2.2.2.2
section
variable {h : Mem} {b : Nat → Nat} {n : Nat}
theorem TP.wI (T : TP h b n) {k : Nat} (v : Int32) (hk : k ≠ 8) : TP (wI h 14 k v) b n := by
  refine ⟨T.sh, ?_, T.n1, ?_, T.by, T.me⟩
  · rw [mI_wI_at, pk_un (fun e => hk e.symm)]
    exact T.en
  · rw [mI_wI_ne _ _ _ (by decide)]
    exact T.tp
theorem TP.wL (T : TP h b n) (k : Nat) (v : Int64) : TP (wL h 14 k v) b n := by
  refine ⟨T.sh, T.en, T.n1, T.tp, T.by, ?_⟩
  rw [mL_wL_ne _ _ _ (by decide)]
  exact T.me
theorem c_skip (T : TP h b n) {i : Nat} (hi : i ≤ n) : iter (fun (s : Mem) => b_X4_step_8 s 14) FU (wI h 14 9 (nI i)) = some (wI h 14 9 (nI (sp b n i))) := by
  have hn := T.n1
  have g9 : ∀ v, mI (wI h 14 9 v) 14 9 = v := fun v => by rw [mI_wI_at, pk_us]
  refine iter_ff (fun k => wI h 14 9 (nI (i + k))) (fun k => decide (b (i + k) ≠ 32)) (n - i) (FU_lt (by omega)) (fun k hk hp => ?_) ?_
  · have T1 := T.wI (k := 9) (nI (i + k)) (by decide)
    have hb : b (i + k) = 32 := by simpa using hp
    unfold b_X4_step_8
    simp (disch := omega) only [ob, nI_lit, nI_add, pk_mul, nI_eq, nI_ltI, nI_leI, if_true, if_false, if_pos, if_neg, gI_of (tS_14 T1.sh), g9, T1.en, gR_of (tS_14 T1.sh), rS_14_0 T1.sh, aI_of (tS_15 T1.sh), T1.tp (i + k) (by omega), hb, pI_of (tS_14 T1.sh), wI2]
    rfl
  · have T1 := T.wI (k := 9) (nI (sp b n i)) (by decide)
    show b_X4_step_8 (wI h 14 9 (nI (sp b n i))) 14 = _
    have hle := sp_le b hi
    unfold b_X4_step_8
    rcases Nat.lt_or_ge (sp b n i) n with c | c
    · have hb : b (sp b n i) ≠ 32 := by
        have hq : ff (fun k => decide (b (i + k) ≠ 32)) (n - i) < n - i := by
          unfold sp at c
          omega
        have this : decide (b (sp b n i) ≠ 32) = true := ff_at _ _ hq
        exact of_decide_eq_true this
      have hb2 := T.by (sp b n i) c
      simp (disch := omega) only [ob, nI_lit, nI_add, pk_mul, nI_eq, nI_ltI, nI_leI, if_true, if_false, if_pos, if_neg, gI_of (tS_14 T1.sh), g9, T1.en, gR_of (tS_14 T1.sh), rS_14_0 T1.sh, aI_of (tS_15 T1.sh), T1.tp (sp b n i) c]
    · simp (disch := omega) only [ob, nI_lit, nI_add, pk_mul, nI_eq, nI_ltI, nI_leI, if_true, if_false, if_pos, if_neg, gI_of (tS_14 T1.sh), g9, T1.en]
/-- a memory with what was read of a word or of a number -/
theorem c_letters (T : TP h b n) {a : Nat} (ha : a ≤ n) (h9 : mI h 14 9 = nI a) (h10 : mI h 14 10 = nI a) : f_X4_takeLetters h 14 = some (wI (wI (wL h 14 12 (lN (wv b a (nl b n a)))) 14 10 (nI (a + nl b n a))) 14 11 (nI (if nl b n a ≤ 8 then 1 else 4))) := by
  have hn := T.n1
  have hl := nl_le b n a
  have g10 : ∀ u v, mI (wI (wL h 14 12 u) 14 10 v) 14 10 = v := fun u v => by rw [mI_wI_at, pk_us]
  have g9 : ∀ u v, mI (wI (wL h 14 12 u) 14 10 v) 14 9 = nI a := fun u v => by rw [mI_wI_at, pk_un (by decide)]; exact h9
  have g12 : ∀ u v, mL (wI (wL h 14 12 u) 14 10 v) 14 12 = u := fun u v => by
    show mL (wL h 14 12 u) 14 12 = u
    rw [mL_wL]
  have T1 : ∀ u v, TP (wI (wL h 14 12 u) 14 10 v) b n := fun u v => (T.wL 12 u).wI (k := 10) v (by decide)
  have hid : wL h 14 12 (lN 0) = wI (wL h 14 12 (lN (wv b a 0))) 14 10 (nI (a + 0)) := by
    refine mem_ext (fun x => ?_) rfl rfl rfl rfl
    rcases Decidable.em (x = 14) with e | e
    · subst e
      rw [mI_wI_at]
      funext k
      rcases Decidable.em (k = 10) with e2 | e2
      · rw [e2, pk_us]
        exact h10
      · rw [pk_un e2]
        rfl
    · rw [mI_wI_ne _ _ _ e]
      rfl
  have q : iter (fun (s : Mem) => b_X4_takeLetters_5 s 14) FU (wL h 14 12 (lN 0)) = some (wI (wL h 14 12 (lN (wv b a (nl b n a)))) 14 10 (nI (a + nl b n a))) := by
    rw [hid]
    refine iter_ff (fun k => wI (wL h 14 12 (lN (wv b a k))) 14 10 (nI (a + k))) (fun k => !isL (b (a + k))) (n - a) (FU_lt (by omega)) (fun k hk hp => ?_) ?_
    · have hb : 97 ≤ b (a + k) ∧ b (a + k) ≤ 122 := isL_iff.1 (by simpa using hp)
      have T2 := T1 (lN (wv b a k)) (nI (a + k))
      have T3 := T1 (lN (wv b a (k + 1))) (nI (a + k))
      have e1 : lN (wv b a k) * 32 + ((nI (b (a + k)) - nI 97 + nI 1).toInt64) = lN (wv b a (k + 1)) := by
        rw [pk_sub (by omega), nI_add, nI_64 (by omega)]
        show lN (wv b a k) * lN 32 + _ = _
        rw [lN_mul, lN_add]
        show _ = lN (wv b a k * 32 + (b (a + k) - 96))
        congr 2
        omega
      have e2 : wL (wI (wL h 14 12 (lN (wv b a k))) 14 10 (nI (a + k))) 14 12 (lN (wv b a (k + 1))) = wI (wL h 14 12 (lN (wv b a (k + 1)))) 14 10 (nI (a + k)) := by
        rw [wLI, wL2]
      unfold b_X4_takeLetters_5
      have hrd : (97 : Int32) = nI 97 := rfl
      have hrd2 : (122 : Int32) = nI 122 := rfl
      have hrd3 : (1 : Int32) = nI 1 := rfl
      simp (disch := omega) only [ob, hrd, hrd2, hrd3, nI_ltI, nI_leI, if_false, if_neg, gI_of (tS_14 T2.sh), gL_of (tS_14 T2.sh), g10, g12, T2.en, gR_of (tS_14 T2.sh), rS_14_0 T2.sh, aI_of (tS_15 T2.sh), T2.tp (a + k) (by omega), pL_of (tS_14 T2.sh), e1, e2, gI_of (tS_14 T3.sh), pI_of (tS_14 T3.sh), wI2, nI_add]
      rfl
    · have T2 := T1 (lN (wv b a (nl b n a))) (nI (a + nl b n a))
      show b_X4_takeLetters_5 (wI (wL h 14 12 (lN (wv b a (nl b n a)))) 14 10 (nI (a + nl b n a))) 14 = _
      unfold b_X4_takeLetters_5
      rcases Nat.lt_or_ge (a + nl b n a) n with c | c
      · have hq : ff (fun k => !isL (b (a + k))) (n - a) < n - a := by
          have : nl b n a < n - a := by omega
          exact this
        have hb : (!isL (b (a + nl b n a))) = true := ff_at _ _ hq
        have hb : isL (b (a + nl b n a)) = false := by simpa using hb
        have hb2 := T.by (a + nl b n a) c
        simp (disch := omega) only [ob, nI_lit, nI_add, pk_mul, nI_eq, nI_ltI, nI_leI, if_true, if_false, if_pos, if_neg, gI_of (tS_14 T2.sh), g10, T2.en, gR_of (tS_14 T2.sh), rS_14_0 T2.sh, aI_of (tS_15 T2.sh), T2.tp (a + nl b n a) c]
        rcases Nat.lt_or_ge (b (a + nl b n a)) 97 with d | d
        · rw [if_pos d]
        · rw [if_neg (by omega)]
          have : 122 < b (a + nl b n a) := by
            rcases Nat.lt_or_ge 122 (b (a + nl b n a)) with w | w
            · exact w
            · rw [isL_iff.2 ⟨d, w⟩] at hb
              cases hb
          rw [if_pos this]
      · simp (disch := omega) only [ob, nI_lit, nI_add, pk_mul, nI_eq, nI_ltI, nI_leI, if_true, if_false, if_pos, if_neg, gI_of (tS_14 T2.sh), g10, T2.en]
  have T2 := T1 (lN (wv b a (nl b n a))) (nI (a + nl b n a))
  unfold f_X4_takeLetters
  have hL0 : (0 : Int64) = lN 0 := rfl
  have hr8 : (8 : Int32) = nI 8 := rfl
  have hsub : nI (a + nl b n a) - nI a = nI (nl b n a) := by
    rw [pk_sub (by omega)]
    congr 1
    omega
  simp (disch := omega) only [ob, hL0, hr8, ck_of (tS_14 T.sh), pL_of (tS_14 T.sh), q, gI_of (tS_14 T2.sh), g10, g9, hsub, nI_ltI, pI_of (tS_14 T2.sh)]
  rcases Nat.lt_or_ge 8 (nl b n a) with c | c
  · rw [if_pos c, if_neg (by omega)]
    rfl
  · rw [if_neg (by omega), if_pos c]
    rfl
end
