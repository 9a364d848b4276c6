theorem tV_lt {b : Nat → Nat} {n i : Nat} (e : tk b n i = 2) : tV b n i < 1000 := by
  have h3 : ndg b n (sp b n i) ≤ 3 := by
    rcases Nat.lt_or_ge 3 (ndg b n (sp b n i)) with q | q
    · exfalso
      unfold tk at e
      repeat' split at e
      all_goals first | omega | cases e
    · exact q
  have hd : ∀ m, m ≤ ndg b n (sp b n i) → nv b (sp b n i) m < 10 ^ m := by
    intro m
    induction m with
    | zero => intro _; exact Nat.one_pos
    | succ m ih =>
      intro hm
      have h1 := ih (by omega)
      have h2 := isD_iff.1 (ndg_in b n (sp b n i) m (by omega))
      show nv b (sp b n i) m * 10 + (b (sp b n i + m) - 48) < 10 ^ (m + 1)
      rw [Nat.pow_succ]
      omega
  have h4 := hd _ (Nat.le_refl _)
  have h5 : (10 : Nat) ^ ndg b n (sp b n i) ≤ 10 ^ 3 := Nat.pow_le_pow_right (by decide) h3
  show nv b (sp b n i) (ndg b n (sp b n i)) < 1000
  omega
section
variable {h0 : Mem} {p : Nat} {f : FA} {h : Mem}
theorem MO.whole33 (O : MO h0 p f h) (lo : Int32) : f_X13_readWhole_33 h 55 lo = some (lo, h) := by
  unfold f_X13_readWhole_33 f_X13_readWhole_49
  simp only [ob, nI_lit, gI_of (tS_55 O.sh), O.o5, if_true, O.goes]
theorem MO.fresh12 (O : MO h0 p f h) : f_X13_readFresh_12 h 55 = some (mL h 55 15, h) := by
  obtain ⟨k, hk, e⟩ := O.nd
  unfold f_X13_readFresh_12 f_X13_readFresh_32
  simp only [ob, nI_lit, O.flaw, gR_of (tS_55 O.sh), O.rp, gL_of (tS_55 O.sh), m_find O.pk e hk, O.goes, ite_self]
theorem MO.known47 (O : MO h0 p f h) (k : Int32) : f_X13_knownOne_47 h 55 k = some (nI 0, h) := by
  unfold f_X13_knownOne_47
  simp only [ob, nI_lit, gI_of (tS_55 O.sh), O.o5, if_true]
theorem MO.known12 (O : MO h0 p f h) (s : Int32) : f_X13_knownOne_12 h 55 s = some (nI 0, h) := by
  obtain ⟨k, hk, e⟩ := O.nd
  have hp := pw_le (mL h (p + 16)) k (mL h 55 15)
  unfold f_X13_knownOne_12 f_X13_knownOne_42
  simp (disch := omega) only [ob, nI_lit, O.flaw, gR_of (tS_55 O.sh), O.rp, gL_of (tS_55 O.sh), m_find O.pk e hk, O.known47, kN_m1]
  split
  · rfl
  · simp (disch := omega) only [ob, pk_sub, gR_of (tP O.pk), rP_26 O.pk, aI_of (tP_17 O.pk), ite_self]
theorem MO.lb10 (O : MO h0 p f h) : f_X13_lineBegins_10 h 55 = some h := by
  unfold f_X13_lineBegins_10 f_X13_lineBegins_27
  simp only [ob, nI_lit, O.flaw, gR_of (tS_55 O.sh), O.rp, gI_of (tP O.pk), O.goes, ite_self]
end
theorem sm_inj {s t : Nat} (hs : s = 1 ∨ s = 2 ∨ s = 6) (ht : t = 1 ∨ t = 2 ∨ t = 6) : sm s = sm t ↔ s = t := by
  unfold sm
  rcases hs with e | e | e <;> rcases ht with g | g | g <;> subst e <;> subst g <;> decide
theorem sm_lt (s : Nat) : sm s < 3 := by
  unfold sm
  repeat' split
  all_goals decide
section
variable {h0 : Mem} {p : Nat} {b : Nat → Nat} {n : Nat} {ρ τ : RO} {i : Nat} {h : Mem}
theorem MS.num (M : MS h0 p b n ρ τ i h) (h17 : τ 3 0 ≤ 17) {lo hi : Nat} (hlo : lo ≤ 1000) (hhi : hi ≤ 1000) : OK (f_X13_readWhole h 55 (nI lo) (nI hi)) (sN h0 p b n ρ τ (ta b n i) (pNum b n lo hi i)) := by
  have S := M.mp.sh
  have hl := tk_lt b n i
  have hm := km_i hl
  unfold f_X13_readWhole pNum
  rcases Decidable.em (tk b n i = 2) with e | e
  · have k3 : km (tk b n i) = 3 := hm.2.2.2.1.2 e
    have hv : mI h 55 11 = nI (tV b n i) := M.kt.nu e
    have hb := tV_lt e
    rw [if_pos e]
    unfold f_X13_in f_X13_in_14
    rcases Decidable.em (lo ≤ tV b n i ∧ tV b n i ≤ hi) with c | c
    · obtain ⟨h1, e1, M1⟩ := M.goes (by rw [e]; decide)
      rw [if_pos c]
      have n35 : (nI 3 = nI 5) = False := eq_false (by decide)
      unfold f_X13_readWhole_33 f_X13_readWhole_49
      simp (disch := omega) only [ob, nI_lit, ck_of (tS_55 S), gI_of (tS_55 S), M.kt.kd, k3, if_true, hv, nI_ltI, if_neg, nI_10, if_false, n35, e1]
      exact ⟨_, rfl, rfl, M1⟩
    · obtain ⟨h1, e1, O⟩ := M.flaw h17 4
      rw [if_neg c]
      have hz : (if tV b n i < lo then some (nI 0) else if hi < tV b n i then some (nI 0) else some (nI 1)) = some (nI 0) := by
        rcases Nat.lt_or_ge (tV b n i) lo with d | d
        · rw [if_pos d]
        · rw [if_neg (by omega), if_pos (by omega)]
      simp (disch := omega) only [ob, nI_lit, ck_of (tS_55 S), gI_of (tS_55 S), M.kt.kd, k3, if_true, hv, nI_ltI, hz, e1, O.whole33]
      exact ⟨_, rfl, O⟩
  · obtain ⟨h1, e1, O⟩ := M.flaw h17 1
    rw [if_neg e]
    simp (disch := omega) only [ob, nI_lit, ck_of (tS_55 S), gI_of (tS_55 S), M.kt.kd, nI_eq, if_neg, e1, O.whole33]
    exact ⟨_, rfl, O⟩
theorem MS.part (M : MS h0 p b n ρ τ i h) (h17 : τ 3 0 ≤ 17) {k lo hi : Nat} (hk : k < 20) (hlo : lo ≤ 1000) (hhi : hi ≤ 1000) : OK (f_X13_readPart h 55 k (nI lo) (nI hi)) (sN h0 p b n ρ τ (ta b n (ta b n i)) (eb (pWord b n k i) fun _ => pNum b n lo hi (ta b n i))) := by
  have S := M.mp.sh
  obtain ⟨h1, e1, k1⟩ := M.needs h17 hk
  unfold f_X13_readPart
  rcases w : pWord b n k i with f | u
  · rw [w] at k1
    have O : MO h0 p f h1 := k1
    simp only [ob, ck_of (tS_55 S), e1, O.num, eb_l]
    exact ⟨_, rfl, O⟩
  · rw [w] at k1
    have M1 : MS h0 p b n ρ τ (ta b n i) h1 := k1
    obtain ⟨q, e2, k2⟩ := M1.num h17 hlo hhi
    simp only [ob, ck_of (tS_55 S), e1, e2, eb_r]
    exact ⟨_, rfl, k2⟩
theorem MS.fresh (M : MS h0 p b n ρ τ i h) (h17 : τ 3 0 ≤ 17) : OK (f_X13_readFresh h 55) (fun q => match pNew b n τ i with
    | .inl f => MO h0 p f q.2
    | .inr _ => q.1 = lN (tW b n i) ∧ MS h0 p b n ρ τ (ta b n i) q.2) := by
  have S := M.mp.sh
  unfold f_X13_readFresh pNew
  simp only [ob, nI_lit, ck_of (tS_55 S), M.isn, nI_b0]
  rcases e : isN b n i with _ | _
  · obtain ⟨h1, e1, O⟩ := M.flaw h17 1
    simp only [if_true, Bool.false_eq_true, if_false, e1, ob, O.fresh12]
    exact ⟨_, rfl, O⟩
  · have t1 := isN_tk e
    have h15 : mL h 55 15 = lN (tW b n i) := (M.kt.wo t1).1
    have hw : fN τ (tW b n i) ≤ τ 3 0 := pw_le _ _ _
    unfold f_X13_readFresh_12 f_X13_readFresh_32
    simp (disch := omega) only [Bool.true_eq_false, if_false, if_true, ob, nI_lit, gR_of (tS_55 S), M.rp, gL_of (tS_55 S), h15, M.find h17, kN_m1]
    rcases Decidable.em (fN τ (tW b n i) = 0) with d | d
    · obtain ⟨h1, e1, M1⟩ := M.goes (by rw [t1]; decide)
      simp only [if_pos d, e1, ob]
      exact ⟨_, rfl, rfl, M1⟩
    · obtain ⟨h1, e1, O⟩ := M.flaw h17 3
      simp only [if_neg d, e1, ob, gL_of (tS_55 O.sh), O.goes]
      exact ⟨_, rfl, O⟩
theorem MS.known1 (M : MS h0 p b n ρ τ i h) (h17 : τ 3 0 ≤ 17) {s : Nat} (hs : s = 1 ∨ s = 2 ∨ s = 6) (hn : ∀ k, k < τ 3 0 → τ 1 k = 1 ∨ τ 1 k = 2 ∨ τ 1 k = 6) : OK (f_X13_knownOne h 55 (nI (sm s))) (sN h0 p b n ρ τ i (pName b n τ s i)) := by
  have S := M.mp.sh
  have hl := tk_lt b n i
  have hm := km_i hl
  unfold f_X13_knownOne pName
  simp only [ob, nI_lit, ck_of (tS_55 S), M.isn, nI_b0]
  rcases e : isN b n i with _ | _
  · obtain ⟨h1, e1, O⟩ := M.flaw h17 1
    simp only [if_true, Bool.false_eq_true, if_false, e1, ob, O.known12]
    exact ⟨_, rfl, O⟩
  · have t1 := isN_tk e
    have h15 : mL h 55 15 = lN (tW b n i) := (M.kt.wo t1).1
    have hw : fN τ (tW b n i) ≤ τ 3 0 := pw_le _ _ _
    unfold f_X13_knownOne_12 f_X13_knownOne_42
    obtain ⟨h1, e1, O⟩ := M.flaw h17 2
    simp (disch := omega) only [Bool.true_eq_false, if_false, if_true, ob, nI_lit, gR_of (tS_55 S), M.rp, gL_of (tS_55 S), h15, M.find h17, kN_m1, e1, O.known47]
    rcases Decidable.em (fN τ (tW b n i) = 0) with d | d
    · simp only [if_pos d]
      exact ⟨_, rfl, O⟩
    · have g1 := sm_lt (τ 1 (fN τ (tW b n i) - 1))
      have g2 := sm_lt s
      have g3 := sm_inj (hn (fN τ (tW b n i) - 1) (by omega)) hs
      have hk5 : ¬ km (tk b n i) = 5 := by omega
      unfold f_X13_knownOne_47
      simp (disch := omega) only [if_neg d, pk_sub, gR_of (tP M.bo.pk), rP_26 M.bo.pk, aI_of (tP_17 M.bo.pk), M.nm.ns, ob, nI_eq]
      rcases Decidable.em (τ 1 (fN τ (tW b n i) - 1) = s) with g | g
      · simp (disch := omega) only [if_pos (g3.2 g), if_pos g, nI_lit, gI_of (tS_55 S), M.kt.kd, nI_eq, if_neg hk5, gR_of (tS_55 S), M.rp, gR_of (tP M.bo.pk), rP_27 M.bo.pk, aI_of (tP_18 M.bo.pk), M.nm.nn, ob]
        exact ⟨_, rfl, rfl, M⟩
      · simp only [if_neg (fun z => g (g3.1 z)), if_neg g]
        exact ⟨_, rfl, O⟩
theorem MS.known (M : MS h0 p b n ρ τ i h) (h17 : τ 3 0 ≤ 17) {s : Nat} (hs : s = 1 ∨ s = 2 ∨ s = 6) (hn : ∀ k, k < τ 3 0 → τ 1 k = 1 ∨ τ 1 k = 2 ∨ τ 1 k = 6) : OK (f_X13_readKnown h 55 (nI (sm s))) (sN h0 p b n ρ τ (ta b n i) (pName b n τ s i)) := by
  have S := M.mp.sh
  obtain ⟨⟨v, h1⟩, e1, k1⟩ := M.known1 h17 hs hn
  unfold f_X13_readKnown
  rcases w : pName b n τ s i with f | k
  · rw [w] at k1
    have O : MO h0 p f h1 := k1
    simp only [ob, ck_of (tS_55 S), e1, O.goes]
    exact ⟨_, rfl, O⟩
  · rw [w] at k1
    obtain ⟨rfl, k1⟩ := k1
    have M1 : MS h0 p b n ρ τ i h1 := k1
    obtain ⟨h2, e2, M2⟩ := M1.goes (by rw [(pName_r w).1]; decide)
    simp only [ob, ck_of (tS_55 S), e1, e2]
    exact ⟨_, rfl, rfl, M2⟩
theorem MS.rain (M : MS h0 p b n ρ τ i h) (hr : ρ 0 0 < 1024) : (mI h p 0 = -nI 1) = (τ 3 1 = 0) := by
  rw [M.bo.rn]
  split
  · rename_i e
    simp [e]
  · rename_i e
    rw [nI_nem (by omega) (by omega) (by omega)]
    simp [e]
theorem MS.lb (M : MS h0 p b n ρ τ i h) (ht : tk b n i ≠ 4) (hr : ρ 0 0 < 1024) (h1 : τ 3 1 ≠ 0) {v w : Nat} (hv : v < 2000) (hw : w < 2000) (hne : v ≠ w) : OK (f_X13_lineBegins h 55 (nI v) (nI w)) (MS h0 p b n ρ τ (ta b n i)) := by
  have S := M.mp.sh
  have hq := M.rain hr
  obtain ⟨h2, e2, M2⟩ := M.goes ht
  unfold f_X13_lineBegins f_X13_lineBegins_10 f_X13_lineBegins_27
  simp (disch := omega) only [ob, nI_lit, ck_of (tS_55 S), nI_eq, if_neg hne, gR_of (tS_55 S), M.rp, gI_of (tP M.bo.pk), hq, if_neg h1, e2]
  exact ⟨_, rfl, M2⟩
theorem MS.lbm (M : MS h0 p b n ρ τ i h) (h17 : τ 3 0 ≤ 17) {v : Nat} : OK (f_X13_lineBegins h 55 (nI v) (nI v)) (MO h0 p (5, sp b n i)) := by
  have S := M.mp.sh
  obtain ⟨h2, e2, O⟩ := M.flaw h17 5
  unfold f_X13_lineBegins
  simp (disch := omega) only [ob, nI_lit, ck_of (tS_55 S), if_true, e2, O.lb10]
  exact ⟨_, rfl, O⟩
theorem MS.lbl (M : MS h0 p b n ρ τ i h) (h17 : τ 3 0 ≤ 17) (hr : ρ 0 0 < 1024) (h1 : τ 3 1 = 0) {v w : Nat} (hv : v < 2000) (hw : w < 2000) (hne : v ≠ w) : OK (f_X13_lineBegins h 55 (nI v) (nI w)) (MO h0 p (6, sp b n i)) := by
  have S := M.mp.sh
  have hq := M.rain hr
  obtain ⟨h2, e2, O⟩ := M.flaw h17 6
  unfold f_X13_lineBegins f_X13_lineBegins_10 f_X13_lineBegins_27
  simp (disch := omega) only [ob, nI_lit, ck_of (tS_55 S), nI_eq, if_neg hne, gR_of (tS_55 S), M.rp, gI_of (tP M.bo.pk), hq, if_pos h1, e2, O.goes]
  exact ⟨_, rfl, O⟩
/-- a write into the Pike -/
theorem MS.body (M : MS h0 p b n ρ τ i h) {h' : Mem} {ρ' τ' : RO} (et : mT h' = mT h) (er : mR h' = mR h) (en : mN h' = mN h) (el : mL h' = mL h) (ei : ∀ x, x < p → mI h' x = mI h x) (e9 : mI h' p 9 = mI h p 9) (e17 : mI h' (p + 17) = mI h (p + 17)) (e18 : mI h' (p + 18) = mI h (p + 18)) (eτ : τ' 0 = τ 0 ∧ τ' 1 = τ 1 ∧ τ' 2 = τ 2 ∧ τ' 3 0 = τ 3 0) (B : MB h' p ρ' τ') : MS h0 p b n ρ' τ' i h' := by
  have pp := M.pp
  have e55 := ei 55 (by omega)
  have T := M.mp
  refine ⟨M.fr.tr ⟨⟨fun x _ => by rw [et], fun x _ => by rw [er], en⟩, fun x q _ => ei x q, fun x _ _ => by rw [el], fun k _ => by rw [e55]⟩, pp, ⟨?_, ?_, T.n1, ?_, T.by⟩, ?_, M.le, by rw [er]; exact M.rp, B, M.nm.fr e9 (by rw [el]) e17 e18 eτ, by rw [e55]; exact M.fl⟩
  · have := T.sh
    unfold SH at *
    rw [et, er, en]
    exact this
  · rw [e55]; exact T.sz
  · rw [ei 56 (by omega)]; exact T.tp
  · have K := M.kt
    unfold KT at *
    rw [e55, el]
    exact K
theorem MS.namesX (M : MS h0 p b n ρ τ i h) (h17 : τ 3 0 < 17) (w s k : Nat) : OK (f_X13_names h 55 (lN w) (nI (sm s)) (nI k)) (fun h' => (∀ k, 1 ≤ k → k < 16 → mI h' (p + k) = mI h (p + k)) ∧ MS h0 p b n ρ (addN τ w s k) i h') := by
  have S := M.mp.sh
  have pp := M.pp
  have B := M.bo
  have T := M.mp
  obtain ⟨h5, e5⟩ : ∃ h5, wL h (p + 16) (τ 3 0) (lN w) = h5 := ⟨_, rfl⟩
  obtain ⟨h10, e10⟩ : ∃ h10, wI h5 (p + 17) (τ 3 0) (nI (sm s)) = h10 := ⟨_, rfl⟩
  obtain ⟨h15, e15⟩ : ∃ h15, wI h10 (p + 18) (τ 3 0) (nI k) = h15 := ⟨_, rfl⟩
  obtain ⟨h18, e18⟩ : ∃ h18, wI h15 p 9 (nI (τ 3 0 + 1)) = h18 := ⟨_, rfl⟩
  have S5 : SH h5 := e5 ▸ S
  have S10 : SH h10 := e10 ▸ S5
  have S15 : SH h15 := e15 ▸ S10
  have K5 : PK h5 p := e5 ▸ B.pk
  have K10 : PK h10 p := e10 ▸ K5
  have K15 : PK h15 p := e15 ▸ K10
  have r5 : mR h5 55 4 = p := by
    rw [← e5]
    exact M.rp
  have r10 : mR h10 55 4 = p := by
    rw [← e10]
    exact r5
  have r15 : mR h15 55 4 = p := by
    rw [← e15]
    exact r10
  have n5 : mI h5 p 9 = nI (τ 3 0) := by
    rw [← e5]
    exact M.nm.nd
  have n10 : mI h10 p 9 = nI (τ 3 0) := by rw [← e10, mI_wI_ne _ _ _ (by omega), n5]
  have n15 : mI h15 p 9 = nI (τ 3 0) := by rw [← e15, mI_wI_ne _ _ _ (by omega), n10]
  have xI : ∀ x, x ≠ p → x ≠ p + 17 → x ≠ p + 18 → mI h18 x = mI h x := fun x q1 q2 q3 => by
    rw [← e18, mI_wI_ne _ _ _ q1, ← e15, mI_wI_ne _ _ _ q3, ← e10, mI_wI_ne _ _ _ q2, ← e5]
    rfl
  have xp : ∀ j, j ≠ 9 → mI h18 p j = mI h p j := fun j hj => by
    rw [← e18, mI_wI_at, pk_un hj, ← e15, mI_wI_ne _ _ _ (by omega), ← e10, mI_wI_ne _ _ _ (by omega), ← e5]
    rfl
  have xL : ∀ x, x ≠ p + 16 → mL h18 x = mL h x := fun x q1 => by
    rw [← e18, mL_wI, ← e15, mL_wI, ← e10, mL_wI, ← e5, mL_wL_ne _ _ _ q1]
  have xt : mT h18 = mT h := by
    rw [← e18, ← e15, ← e10, ← e5]
    rfl
  have xr : mR h18 = mR h := by
    rw [← e18, ← e15, ← e10, ← e5]
    rfl
  have xn : mN h18 = mN h := by
    rw [← e18, ← e15, ← e10, ← e5]
    rfl
  have x16 : ∀ j, mL h18 (p + 16) j = if j = τ 3 0 then lN w else mL h (p + 16) j := fun j => by
    rw [← e18, mL_wI, ← e15, mL_wI, ← e10, mL_wI, ← e5, mL_if]
    simp only [true_and]
  have x17 : ∀ j, mI h18 (p + 17) j = if j = τ 3 0 then nI (sm s) else mI h (p + 17) j := fun j => by
    rw [← e18, mI_wI_ne _ _ _ (by omega), ← e15, mI_wI_ne _ _ _ (by omega), ← e10, mI_if, ← e5]
    simp only [true_and]
    rfl
  have x18 : ∀ j, mI h18 (p + 18) j = if j = τ 3 0 then nI k else mI h (p + 18) j := fun j => by
    rw [← e18, mI_wI_ne _ _ _ (by omega), ← e15, mI_if, ← e10, mI_wI_ne _ _ _ (by omega), ← e5]
    simp only [true_and]
    rfl
  have e55 := xI 55 (by omega) (by omega) (by omega)
  have l55 := xL 55 (by omega)
  refine ⟨h18, ?_, fun k h1 h2 => xI _ (by omega) (by omega) (by omega), M.fr.tr ⟨⟨fun x _ => by rw [xt], fun x _ => by rw [xr], xn⟩, fun x q _ => xI x (by omega) (by omega) (by omega), fun x q _ => xL x (by omega), fun j _ => by rw [e55]⟩, pp, ⟨?_, ?_, T.n1, ?_, T.by⟩, ?_, M.le, by rw [xr]; exact M.rp, ?_, ⟨?_, ?_, ?_, ?_⟩, by rw [e55]; exact M.fl⟩
  · unfold f_X13_names
    simp (disch := omega) only [ob, ck_of (tS_55 S), gR_of (tS_55 S), M.rp, gR_of (tP B.pk), rP_25 B.pk, gI_of (tP B.pk), M.nm.nd, sL_of (tP_16 B.pk), e5, gR_of (tS_55 S5), r5, gR_of (tP K5), rP_26 K5, gI_of (tP K5), n5, sI_of (tP_17 K5), e10, gR_of (tS_55 S10), r10, gR_of (tP K10), rP_27 K10, gI_of (tP K10), n10, sI_of (tP_18 K10), e15, gR_of (tS_55 S15), r15, gI_of (tP K15), n15, nI_lit, nI_add, pI_of (tP K15), e18]
  · have := T.sh
    unfold SH at *
    rw [xt, xr, xn]
    exact this
  · rw [e55]; exact T.sz
  · rw [xI 56 (by omega) (by omega) (by omega)]; exact T.tp
  · have K := M.kt
    unfold KT at *
    rw [e55, l55]
    exact K
  · have B1 : MB h18 p ρ τ := by
      have ek : ∀ k, 1 ≤ k → k < 16 → mI h18 (p + k) = mI h (p + k) := fun k h1 h2 => xI _ (by omega) (by omega) (by omega)
      refine ⟨B.pk.fr (fun k _ => by rw [xt]) (by rw [xr]), by rw [xp 0 (by decide)]; exact B.rn, fun k h1 h2 => by rw [xp k (by omega)]; exact B.sc k h1 h2, ?_⟩
      rw [ek 1 (by decide) (by decide), ek 2 (by decide) (by decide), ek 3 (by decide) (by decide), ek 4 (by decide) (by decide), ek 5 (by decide) (by decide), ek 6 (by decide) (by decide), ek 7 (by decide) (by decide), ek 8 (by decide) (by decide), ek 9 (by decide) (by decide), ek 10 (by decide) (by decide), ek 11 (by decide) (by decide), ek 12 (by decide) (by decide), ek 13 (by decide) (by decide), ek 14 (by decide) (by decide), ek 15 (by decide) (by decide)]
      exact ⟨B.len, B.note, B.min, B.kd, B.gt, B.e1, B.e2, B.i8, B.i9, B.i10, B.i11, B.at, B.co, B.kn, B.hd⟩
    refine ⟨B1.pk, ?_, B1.sc, B1.len, B1.note, B1.min, B1.kd, B1.gt, B1.e1, B1.e2, B1.i8, B1.i9, B1.i10, B1.i11, ?_, ?_, ?_, B1.hd⟩
    · rw [addN_31]; exact B1.rn
    · rw [addN_4 _ _ _ _ (by omega)]; exact B1.at
    · rw [addN_4 _ _ _ _ (by omega)]; exact B1.co
    · rw [addN_4 _ _ _ _ (by omega)]; exact B1.kn
  · rw [addN_3, ← e18, mI_wI_at, pk_us]
  · intro j hj
    rw [addN_3] at hj
    rw [x16, addN_0]
    split
    · rfl
    · exact M.nm.nw j (by omega)
  · intro j hj
    rw [addN_3] at hj
    rw [x17, addN_1]
    split
    · rfl
    · exact M.nm.ns j (by omega)
  · intro j hj
    rw [addN_3] at hj
    rw [x18, addN_2]
    split
    · rfl
    · exact M.nm.nn j (by omega)
theorem MS.names (M : MS h0 p b n ρ τ i h) (h17 : τ 3 0 < 17) (w s k : Nat) : OK (f_X13_names h 55 (lN w) (nI (sm s)) (nI k)) (MS h0 p b n ρ (addN τ w s k) i) := by
  obtain ⟨h', e, -, m⟩ := M.namesX h17 w s k
  exact ⟨h', e, m⟩
theorem MS.goesX (M : MS h0 p b n ρ τ i h) (hk : tk b n i ≠ 4) : OK (f_X13_goesOn h 55) (fun h' => (∀ k, mI h' (p + k) = mI h (p + k)) ∧ MS h0 p b n ρ τ (ta b n i) h') := by
  have hl := tk_lt b n i
  have pp := M.pp
  obtain ⟨h', e, F, K⟩ := m_goesOn M.mp (ta_le b M.le) (M.kt.af hk) ⟨_, (km_i hl).1, M.kt.kd⟩
  obtain ⟨h2, e2, M2⟩ := M.goes hk
  rw [e] at e2
  have e2 := Option.some.inj e2
  subst e2
  exact ⟨h', e, fun k => F.2.1 _ (by omega), M2⟩
end
