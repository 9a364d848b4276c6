/-! ===== the class's step ===== -/
theorem wI_comm (h : Mem) (x : Nat) {j k : Nat} (u v : Int32) (e : j ≠ k) : wI (wI h x j u) x k v = wI (wI h x k v) x j u := by
  refine mem_ext (fun y => ?_) rfl rfl rfl rfl
  rcases Decidable.em (y = x) with q | q
  · subst q
    rw [mI_wI_at, mI_wI_at, mI_wI_at, mI_wI_at]
    funext i
    unfold upd
    rcases Decidable.em (i = k) with a | a
    · subst a
      simp [show ¬ i = j from fun z => e z.symm]
    · simp [a]
  · rw [mI_wI_ne _ _ _ q, mI_wI_ne _ _ _ q, mI_wI_ne _ _ _ q, mI_wI_ne _ _ _ q]
theorem wI_same {h : Mem} {x k : Nat} {v : Int32} (e : mI h x k = v) : wI h x k v = h := by
  refine mem_ext (fun y => ?_) rfl rfl rfl rfl
  rcases Decidable.em (y = x) with q | q
  · subst q
    rw [mI_wI_at]
    funext i
    rcases Decidable.em (i = k) with a | a
    · rw [a, pk_us, e]
    · rw [pk_un a]
  · rw [mI_wI_ne _ _ _ q]
/-- what a step leaves as it was -/
def FT (h h' : Mem) : Prop := (mT h' = mT h ∧ mR h' = mR h ∧ mN h' = mN h) ∧ (∀ x, x ≠ 14 → mI h' x = mI h x) ∧ (∀ x, x ≠ 14 → mL h' x = mL h x) ∧ ∀ k, k ≠ 9 → k ≠ 10 → k ≠ 11 → k ≠ 13 → k ≠ 14 → mI h' 14 k = mI h 14 k
theorem FT.rf (h : Mem) : FT h h := ⟨⟨rfl, rfl, rfl⟩, fun _ _ => rfl, fun _ _ => rfl, fun _ _ _ _ _ _ => rfl⟩
theorem FT.tr {h h1 h2 : Mem} (a : FT h h1) (c : FT h1 h2) : FT h h2 := ⟨⟨c.1.1.trans a.1.1, c.1.2.1.trans a.1.2.1, c.1.2.2.trans a.1.2.2⟩, fun x hx => (c.2.1 x hx).trans (a.2.1 x hx), fun x hx => (c.2.2.1 x hx).trans (a.2.2.1 x hx), fun k p q r s t => (c.2.2.2 k p q r s t).trans (a.2.2.2 k p q r s t)⟩
theorem FT.w (h : Mem) {k : Nat} (v : Int32) (hk : k = 9 ∨ k = 10 ∨ k = 11 ∨ k = 13 ∨ k = 14) : FT h (wI h 14 k v) := ⟨⟨rfl, rfl, rfl⟩, fun x hx => mI_wI_ne _ _ _ hx, fun _ _ => rfl, fun j p q r s t => by rw [mI_wI_at, pk_un (by omega)]⟩
theorem FT.l (h : Mem) (k : Nat) (v : Int64) : FT h (wL h 14 k v) := ⟨⟨rfl, rfl, rfl⟩, fun _ _ => rfl, fun x hx => mL_wL_ne _ _ _ hx, fun _ _ _ _ _ _ => rfl⟩
/-- where a word stands in a row of words, and 1; 0 if it doesn't -/
def pw (f : Nat → Int64) (m : Nat) (w : Int64) : Nat := if ff (fun k => decide (f k = w)) m < m then ff (fun k => decide (f k = w)) m + 1 else 0
def mg (w : Int64) : Nat := pw (fun k => lN (me k)) 20 w
section
variable {h : Mem} {b : Nat → Nat} {n : Nat}
theorem TP.ft {h' : Mem} (T : TP h b n) (f : FT h h') : TP h' b n := by
  refine ⟨?_, ?_, T.n1, ?_, T.by, ?_⟩
  · have := T.sh
    unfold SH at *
    rw [f.1.1, f.1.2.1, f.1.2.2]
    exact this
  · rw [f.2.2.2 8 (by decide) (by decide) (by decide) (by decide) (by decide)]
    exact T.en
  · rw [f.2.1 15 (by decide)]
    exact T.tp
  · rw [f.2.2.1 16 (by decide)]
    exact T.me
theorem c_digits (T : TP h b n) {a : Nat} (ha : a ≤ n) (h9 : mI h 14 9 = nI a) (h10 : mI h 14 10 = nI a) : f_X4_takeDigits h 14 = some (wI (wI (wI h 14 14 (nI (nv b a (ndg b n a)))) 14 10 (nI (a + ndg b n a))) 14 11 (nI (if ndg b n a ≤ 3 then 2 else 4))) := by
  have hn := T.n1
  have hl := ndg_le b n a
  have g10 : ∀ u v, mI (wI (wI h 14 14 u) 14 10 v) 14 10 = v := fun u v => by rw [mI_wI_at, pk_us]
  have g9 : ∀ u v, mI (wI (wI h 14 14 u) 14 10 v) 14 9 = nI a := fun u v => by rw [mI_wI_at, pk_un (by decide), mI_wI_at, pk_un (by decide)]; exact h9
  have g14 : ∀ u v, mI (wI (wI h 14 14 u) 14 10 v) 14 14 = u := fun u v => by rw [mI_wI_at, pk_un (by decide), mI_wI_at, pk_us]
  have T1 : ∀ u v, TP (wI (wI h 14 14 u) 14 10 v) b n := fun u v => (T.wI (k := 14) u (by decide)).wI (k := 10) v (by decide)
  have hid : wI h 14 14 (nI 0) = wI (wI h 14 14 (nI (nv b a 0))) 14 10 (nI (a + 0)) := by
    symm
    refine wI_same ?_
    rw [mI_wI_at, pk_un (by decide)]
    exact h10
  have q : iter (fun (s : Mem) => b_X4_takeDigits_5 s 14) FU (wI h 14 14 (nI 0)) = some (wI (wI h 14 14 (nI (nv b a (ndg b n a)))) 14 10 (nI (a + ndg b n a))) := by
    rw [hid]
    refine iter_ff (fun k => wI (wI h 14 14 (nI (nv b a k))) 14 10 (nI (a + k))) (fun k => !isD (b (a + k))) (n - a) (FU_lt (by omega)) (fun k hk hp => ?_) ?_
    · have hb : 48 ≤ b (a + k) ∧ b (a + k) ≤ 57 := isD_iff.1 (by simpa using hp)
      have T2 := T1 (nI (nv b a k)) (nI (a + k))
      have T3 := T1 (nI (nv b a (k + 1))) (nI (a + k))
      have e1 : nI (nv b a k) * nI 10 + (nI (b (a + k)) - nI 48) = nI (nv b a (k + 1)) := by
        rw [pk_sub (by omega), pk_mul, nI_add]
        rfl
      have e2 : wI (wI (wI h 14 14 (nI (nv b a k))) 14 10 (nI (a + k))) 14 14 (nI (nv b a (k + 1))) = wI (wI h 14 14 (nI (nv b a (k + 1)))) 14 10 (nI (a + k)) := by
        rw [wI_comm _ _ _ _ (by decide), wI2]
      unfold b_X4_takeDigits_5
      simp (disch := omega) only [ob, nI_lit, nI_ltI, nI_leI, if_false, if_neg, gI_of (tS_14 T2.sh), g10, g14, T2.en, gR_of (tS_14 T2.sh), rS_14_0 T2.sh, aI_of (tS_15 T2.sh), T2.tp (a + k) (by omega), pI_of (tS_14 T2.sh), e1, e2, gI_of (tS_14 T3.sh), pI_of (tS_14 T3.sh), wI2, nI_add]
      rfl
    · have T2 := T1 (nI (nv b a (ndg b n a))) (nI (a + ndg b n a))
      show b_X4_takeDigits_5 (wI (wI h 14 14 (nI (nv b a (ndg b n a)))) 14 10 (nI (a + ndg b n a))) 14 = _
      unfold b_X4_takeDigits_5
      rcases Nat.lt_or_ge (a + ndg b n a) n with c | c
      · have hq : ff (fun k => !isD (b (a + k))) (n - a) < n - a := by
          have : ndg b n a < n - a := by omega
          exact this
        have hb : (!isD (b (a + ndg b n a))) = true := ff_at _ _ hq
        have hb : isD (b (a + ndg b n a)) = false := by simpa using hb
        have hb2 := T.by (a + ndg b n a) c
        simp (disch := omega) only [ob, nI_lit, nI_add, pk_mul, nI_eq, nI_ltI, nI_leI, if_true, if_false, if_pos, if_neg, gI_of (tS_14 T2.sh), g10, T2.en, gR_of (tS_14 T2.sh), rS_14_0 T2.sh, aI_of (tS_15 T2.sh), T2.tp (a + ndg b n a) c]
        rcases Nat.lt_or_ge (b (a + ndg b n a)) 48 with d | d
        · rw [if_pos d]
        · rw [if_neg (by omega)]
          have : 57 < b (a + ndg b n a) := by
            rcases Nat.lt_or_ge 57 (b (a + ndg b n a)) with w | w
            · exact w
            · rw [isD_iff.2 ⟨d, w⟩] at hb
              cases hb
          rw [if_pos this]
      · simp (disch := omega) only [ob, nI_lit, nI_add, pk_mul, nI_eq, nI_ltI, nI_leI, if_true, if_false, if_pos, if_neg, gI_of (tS_14 T2.sh), g10, T2.en]
  have T2 := T1 (nI (nv b a (ndg b n a))) (nI (a + ndg b n a))
  have hsub : nI (a + ndg b n a) - nI a = nI (ndg b n a) := by
    rw [pk_sub (by omega)]
    congr 1
    omega
  unfold f_X4_takeDigits
  simp (disch := omega) only [ob, nI_lit, ck_of (tS_14 T.sh), pI_of (tS_14 T.sh), q, gI_of (tS_14 T2.sh), g10, g9, hsub, nI_ltI, pI_of (tS_14 T2.sh)]
  rcases Nat.lt_or_ge 3 (ndg b n a) with c | c
  · rw [if_pos c, if_neg (by omega)]
  · rw [if_neg (by omega), if_pos c]
theorem c_place (S : SH h) {x m N : Nat} (hx : mT h x = (101, N)) (hm : m ≤ N) (hN : N < 1000) : f_X4_placeOfWord h 14 x (nI m) = some (nI (pw (mL h x) m (mL h 14 12)) - nI 1) := by
  have q : iter (fun (s : Int32) => b_X4_placeOfWord_2 h 14 x (nI m) s) FU (nI 0) = some (if ff (fun k => decide (mL h x k = mL h 14 12)) m < m then Sum.inl (nI (ff (fun k => decide (mL h x k = mL h 14 12)) m)) else Sum.inr ()) := by
    refine iter_ff (fun k => nI k) (fun k => decide (mL h x k = mL h 14 12)) m (FU_lt (by omega)) (fun k hk hp => ?_) ?_
    · have hp : ¬ mL h x k = mL h 14 12 := of_decide_eq_false hp
      have hc : ¬ lg_cmp (mL h x k) (mL h 14 12) = nI 0 := fun e => hp ((lg_cmp_eq _ _).1 e)
      unfold b_X4_placeOfWord_2
      simp (disch := omega) only [ob, nI_lit, nI_add, pk_mul, nI_eq, nI_ltI, nI_leI, if_true, if_false, if_pos, if_neg, aL_of hx, gL_of (tS_14 S), hc]
    · unfold b_X4_placeOfWord_2
      rcases Nat.lt_or_ge (ff (fun k => decide (mL h x k = mL h 14 12)) m) m with c | c
      · have hp : mL h x (ff (fun k => decide (mL h x k = mL h 14 12)) m) = mL h 14 12 := of_decide_eq_true (ff_at (fun k => decide (mL h x k = mL h 14 12)) m c)
        have hc : lg_cmp (mL h x (ff (fun k => decide (mL h x k = mL h 14 12)) m)) (mL h 14 12) = nI 0 := (lg_cmp_eq _ _).2 hp
        simp (disch := omega) only [ob, nI_lit, nI_add, pk_mul, nI_eq, nI_ltI, nI_leI, if_true, if_false, if_pos, if_neg, aL_of hx, gL_of (tS_14 S), hc]
      · have := ff_le (fun k => decide (mL h x k = mL h 14 12)) m
        simp (disch := omega) only [ob, nI_lit, nI_add, pk_mul, nI_eq, nI_ltI, nI_leI, if_true, if_false, if_pos, if_neg]
  unfold f_X4_placeOfWord pw
  simp (disch := omega) only [ob, nI_lit, nI_add, pk_mul, nI_eq, nI_ltI, nI_leI, if_true, if_false, if_pos, if_neg, ck_of (tS_14 S), q]
  split
  · rw [pk_sub (by omega)]
    rfl
  · rfl
end
