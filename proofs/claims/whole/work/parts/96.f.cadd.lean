/-! ===== the class's ROAD grows ===== -/
theorem ck_d (h : Mem) (a c : Nat) : ck h a c = if (mT h a).1 = c then some () else none := rfl
theorem pI_d (h : Mem) (a k c : Nat) (v : Int32) : pI h a k c v = if (mT h a).1 = c then some (wI h a k v) else none := rfl
theorem gI_d (h : Mem) (a k c : Nat) : gI h a k c = if (mT h a).1 = c then some (mI h a k) else none := rfl
theorem gL_d (h : Mem) (a k c : Nat) : gL h a k c = if (mT h a).1 = c then some (mL h a k) else none := rfl
theorem gR_d (h : Mem) (a k c : Nat) : gR h a k c = if (mT h a).1 = c then some (mR h a k) else none := rfl
theorem sI_n {h : Mem} {a i : Nat} {v : Int32} (hi : i < 2 ^ 30) : sI h a (nI i) v = if (mT h a).1 = 100 ∧ i < (mT h a).2 then some (wI h a i v) else none := by
  unfold sI
  rw [nI_toInt (by omega), nI_clamp (by omega)]
  rcases Decidable.em ((mT h a).1 = 100 ∧ i < (mT h a).2) with q | q
  · rw [if_pos q, if_pos (by omega)]
  · rw [if_neg q, if_neg (by omega)]
theorem aI_n {h : Mem} {a i : Nat} (hi : i < 2 ^ 30) : aI h a (nI i) = if (mT h a).1 = 100 ∧ i < (mT h a).2 then some (mI h a i) else none := by
  unfold aI
  rw [nI_toInt (by omega), nI_clamp (by omega)]
  rcases Decidable.em ((mT h a).1 = 100 ∧ i < (mT h a).2) with q | q
  · rw [if_pos q, if_pos (by omega)]
  · rw [if_neg q, if_neg (by omega)]
theorem rup_at (ρ : RO) (i j v : Nat) : rup ρ i j v i j = v := if_pos ⟨rfl, rfl⟩
theorem rup_ne (ρ : RO) (i j v : Nat) {a c : Nat} (h : ¬ (a = i ∧ c = j)) : rup ρ i j v a c = ρ a c := if_neg h
section
variable {h : Mem} {r : Nat} {ρ τ : RO}
theorem CB.sc1 (B : CB h r ρ τ) {ρ' : RO} {c v : Nat} (e : ∀ k, ρ' 0 k = if k = c then v else ρ 0 k) : ∀ k, k < 9 → mI (wI h r c (nI v)) r k = nI (ρ' 0 k) := by
  intro k hk
  rw [e]
  rcases Decidable.em (k = c) with q | q
  · rw [if_pos q, q, mI_wI_at, pk_us]
  · rw [if_neg q, mI_wI_at, pk_un q]
    exact B.sc k hk
/-- a count alone -/
theorem CB.cnt (B : CB h r ρ τ) {ρ' τ' : RO} {c v : Nat} (e : ∀ k, ρ' 0 k = if k = c then v else ρ 0 k) (ec : c ≠ 1 ∧ c ≠ 3 ∧ c ≠ 5 ∧ c ≠ 8) (er : ∀ k, k ≠ 0 → ρ' k = ρ k) (et : ∀ k, 4 ≤ k → τ' k = τ k) : CB (wI h r c (nI v)) r ρ' τ' := by
  have eN : ∀ k, 1 ≤ k → mI (wI h r c (nI v)) (r + k) = mI h (r + k) := fun k hk => mI_wI_ne _ _ _ (by omega)
  have e1 : ρ' 0 1 = ρ 0 1 := by rw [e, if_neg (fun q => ec.1 q.symm)]
  have e3 : ρ' 0 3 = ρ 0 3 := by rw [e, if_neg (fun q => ec.2.1 q.symm)]
  have e5 : ρ' 0 5 = ρ 0 5 := by rw [e, if_neg (fun q => ec.2.2.1 q.symm)]
  have e8 : ρ' 0 8 = ρ 0 8 := by rw [e, if_neg (fun q => ec.2.2.2 q.symm)]
  refine ⟨B.rd, B.sc1 e, ?_⟩
  rw [eN 1 (by decide), eN 2 (by decide), eN 3 (by decide), eN 4 (by decide), eN 5 (by decide), eN 6 (by decide), eN 7 (by decide), eN 8 (by decide), eN 9 (by decide), eN 11 (by decide), e1, e3, e5, e8, er 1 (by decide), er 2 (by decide), er 3 (by decide), er 4 (by decide), er 5 (by decide), er 6 (by decide), er 7 (by decide), er 12 (by decide), er 13 (by decide), et 9 (by decide)]
  refine ⟨B.len, B.note, B.e1, B.e2, B.min, B.kd, B.gt, B.bt, fun k w hk hw => ?_, B.hd, fun x w hx hw => ?_, B.s2⟩
  · rw [er (8 + w) (by omega)]
    exact B.ip k w hk hw
  · rw [et (4 + w) (by omega)]
    exact B.st x w hx hw
/-! a road -/
theorem c_addRoad (B : CB h r ρ τ) {p q m : Nat} (hp : p < 7) (hq : q < 7) (hR : ρ 0 3 < 10) : f_X5_addRoad h r (nI p) (nI q) (nI m) = some (wI (wI (wI (wI (wI (wI h (r + 3) (ρ 0 3 * 2) (nI p)) (r + 3) (ρ 0 3 * 2 + 1) (nI q)) (r + 4) (ρ 0 3) (nI m)) (r + 7) (p * 7 + q) (nI (ρ 0 3))) (r + 7) (q * 7 + p) (nI (ρ 0 3))) r 3 (nI (ρ 0 3 + 1))) := by
  unfold f_X5_addRoad
  simp (disch := omega) only [ob, ck_d, pI_d, gI_d, gR_d, sI_n, aI_n, mT_wI, mR_wI, mI_if, nI_lit, nI_add, pk_mul, eq_self, true_and, and_true, if_true, if_pos, if_neg, tR B.rd, tR_1 B.rd, tR_2 B.rd, tR_3 B.rd, tR_4 B.rd, tR_5 B.rd, tR_6 B.rd, tR_7 B.rd, tR_8 B.rd, tR_9 B.rd, tR_11 B.rd, rR_9 B.rd, rR_10 B.rd, rR_11 B.rd, rR_12 B.rd, rR_13 B.rd, rR_14 B.rd, rR_15 B.rd, rR_16 B.rd, rR_17 B.rd, rR_19 B.rd, B.sc 3]
theorem CB.road (B : CB h r ρ τ) {p q m : Nat} (hp : p < 7) (hq : q < 7) (hR : ρ 0 3 < 10) : CB (wI (wI (wI (wI (wI (wI h (r + 3) (ρ 0 3 * 2) (nI p)) (r + 3) (ρ 0 3 * 2 + 1) (nI q)) (r + 4) (ρ 0 3) (nI m)) (r + 7) (p * 7 + q) (nI (ρ 0 3))) (r + 7) (q * 7 + p) (nI (ρ 0 3))) r 3 (nI (ρ 0 3 + 1))) r (roadR ρ p q m) τ := by
  have a0 : ∀ k, roadR ρ p q m 0 k = if k = 3 then ρ 0 3 + 1 else ρ 0 k := fun k => by simp [roadR]
  have a3 : ∀ k, roadR ρ p q m 3 k = if k = ρ 0 3 then p else ρ 3 k := fun k => by simp [roadR]
  have a4 : ∀ k, roadR ρ p q m 4 k = if k = ρ 0 3 then q else ρ 4 k := fun k => by simp [roadR]
  have a5 : ∀ k, roadR ρ p q m 5 k = if k = ρ 0 3 then m else ρ 5 k := fun k => by simp [roadR]
  have a13 : ∀ k, roadR ρ p q m 13 k = if k = 7 * p + q ∨ k = 7 * q + p then ρ 0 3 + 1 else ρ 13 k := fun k => by simp [roadR]
  have ar : ∀ a, a ≠ 0 → a ≠ 3 → a ≠ 4 → a ≠ 5 → a ≠ 13 → roadR ρ p q m a = ρ a := fun a h0 h3 h4 h5 h6 => by
    funext k
    simp [roadR, h0, h3, h4, h5, h6]
  refine ⟨B.rd, ?_, ?_, ?_, ?_, ?_, ?_, ?_, ?_, ?_, ?_, ?_, ?_, ?_⟩
  · intro k hk
    rw [a0]
    rcases Decidable.em (k = 3) with c | c
    · simp (disch := omega) only [mI_if, and_self, true_and, if_true, if_pos, c]
    · simp (disch := omega) only [mI_if, if_neg]
      exact B.sc k hk
  · intro t ht
    rw [a0, if_neg (by decide)] at ht
    rw [ar 1 (by decide) (by decide) (by decide) (by decide) (by decide)]
    simp (disch := omega) only [mI_if, if_neg]
    exact B.len t ht
  · intro t i ht hi
    rw [a0, if_neg (by decide)] at ht
    rw [ar 1 (by decide) (by decide) (by decide) (by decide) (by decide)] at hi
    rw [ar 2 (by decide) (by decide) (by decide) (by decide) (by decide)]
    simp (disch := omega) only [mI_if, if_neg]
    exact B.note t i ht hi
  · intro j hj
    rw [a0, if_pos rfl] at hj
    rw [a3]
    rcases Decidable.em (j = ρ 0 3) with c | c
    · simp (disch := omega) only [mI_if, and_self, true_and, if_true, if_pos, if_neg, c]
    · simp (disch := omega) only [mI_if, if_neg]
      exact B.e1 j (by omega)
  · intro j hj
    rw [a0, if_pos rfl] at hj
    rw [a4]
    rcases Decidable.em (j = ρ 0 3) with c | c
    · simp (disch := omega) only [mI_if, and_self, true_and, if_true, if_pos, if_neg, c]
    · simp (disch := omega) only [mI_if, if_neg]
      exact B.e2 j (by omega)
  · intro j hj
    rw [a0, if_pos rfl] at hj
    rw [a5]
    rcases Decidable.em (j = ρ 0 3) with c | c
    · simp (disch := omega) only [mI_if, and_self, true_and, if_true, if_pos, if_neg, c]
    · simp (disch := omega) only [mI_if, if_neg]
      exact B.min j (by omega)
  · intro j hj
    rw [ar 6 (by decide) (by decide) (by decide) (by decide) (by decide)]
    simp (disch := omega) only [mI_if, if_neg]
    exact B.kd j hj
  · intro j hj hn
    rw [ar 6 (by decide) (by decide) (by decide) (by decide) (by decide)] at hn
    rw [ar 7 (by decide) (by decide) (by decide) (by decide) (by decide)]
    simp (disch := omega) only [mI_if, if_neg]
    exact B.gt j hj hn
  · intro a c ha hc
    rw [a13]
    have hs : nI (ρ 0 3 + 1) - nI 1 = nI (ρ 0 3) := by
      rw [pk_sub (by omega)]
      rfl
    rcases Decidable.em (a * 7 + c = q * 7 + p) with d | d
    · rw [if_pos (by omega), hs]
      simp (disch := omega) only [mI_if, and_self, true_and, if_true, if_pos, if_neg]
    · rcases Decidable.em (a * 7 + c = p * 7 + q) with g | g
      · rw [if_pos (by omega), hs]
        simp (disch := omega) only [mI_if, and_self, true_and, if_true, if_pos, if_neg]
      · rw [if_neg (by omega)]
        simp (disch := omega) only [mI_if, if_neg]
        exact B.bt a c ha hc
  · intro k w hk hw
    rw [a0, if_neg (by decide)] at hk
    rw [ar (8 + w) (by omega) (by omega) (by omega) (by omega) (by omega)]
    simp (disch := omega) only [mI_if, if_neg]
    exact B.ip k w hk hw
  · intro k hk
    rw [a0, if_neg (by decide)] at hk
    rw [ar 12 (by decide) (by decide) (by decide) (by decide) (by decide)]
    simp (disch := omega) only [mI_if, if_neg]
    exact B.hd k hk
  · intro x w hx hw
    simp (disch := omega) only [mI_if, if_neg]
    exact B.st x w hx hw
  · simp (disch := omega) only [mI_if, if_neg]
    exact B.s2
/-! a gate -/
theorem c_addGate (B : CB h r ρ τ) {j k t : Nat} (hj : j < 10) : f_X5_addGate h r (nI j) (nI k) (nI t) = some (wI (wI (wI h (r + 5) j (nI k)) (r + 6) j (nI t)) r 4 (nI (ρ 0 4 + 1))) := by
  unfold f_X5_addGate
  simp (disch := omega) only [ob, ck_d, pI_d, gI_d, gR_d, sI_n, aI_n, mT_wI, mR_wI, mI_if, nI_lit, nI_add, pk_mul, eq_self, true_and, and_true, if_true, if_pos, if_neg, tR B.rd, tR_1 B.rd, tR_2 B.rd, tR_3 B.rd, tR_4 B.rd, tR_5 B.rd, tR_6 B.rd, tR_7 B.rd, tR_8 B.rd, tR_9 B.rd, tR_11 B.rd, rR_9 B.rd, rR_10 B.rd, rR_11 B.rd, rR_12 B.rd, rR_13 B.rd, rR_14 B.rd, rR_15 B.rd, rR_16 B.rd, rR_17 B.rd, rR_19 B.rd, B.sc 4]
theorem CB.gate (B : CB h r ρ τ) {j0 k0 t0 : Nat} (hj : j0 < 10) : CB (wI (wI (wI h (r + 5) j0 (nI k0)) (r + 6) j0 (nI t0)) r 4 (nI (ρ 0 4 + 1))) r (gateR ρ j0 k0 t0) τ := by
  have a0 : ∀ k, gateR ρ j0 k0 t0 0 k = if k = 4 then ρ 0 4 + 1 else ρ 0 k := fun k => by simp [gateR]
  have a6 : ∀ k, gateR ρ j0 k0 t0 6 k = if k = j0 then k0 + 1 else ρ 6 k := fun k => by simp [gateR]
  have a7 : ∀ k, gateR ρ j0 k0 t0 7 k = if k = j0 then t0 else ρ 7 k := fun k => by simp [gateR]
  have ar : ∀ a, a ≠ 0 → a ≠ 6 → a ≠ 7 → gateR ρ j0 k0 t0 a = ρ a := fun a h0 h3 h4 => by
    funext k
    simp [gateR, h0, h3, h4]
  have eN : ∀ k, 1 ≤ k → k ≠ 5 → k ≠ 6 → mI (wI (wI (wI h (r + 5) j0 (nI k0)) (r + 6) j0 (nI t0)) r 4 (nI (ρ 0 4 + 1))) (r + k) = mI h (r + k) := fun k h1 h2 h3 => by
    rw [mI_wI_ne _ _ _ (by omega), mI_wI_ne _ _ _ (by omega), mI_wI_ne _ _ _ (by omega)]
  refine ⟨B.rd, ?_, ?_⟩
  · intro k hk
    rw [a0]
    rcases Decidable.em (k = 4) with c | c
    · simp (disch := omega) only [mI_if, and_self, true_and, if_true, if_pos, c]
    · simp (disch := omega) only [mI_if, if_neg]
      exact B.sc k hk
  · rw [eN 1 (by decide) (by decide) (by decide), eN 2 (by decide) (by decide) (by decide), eN 3 (by decide) (by decide) (by decide), eN 4 (by decide) (by decide) (by decide), eN 7 (by decide) (by decide) (by decide), eN 8 (by decide) (by decide) (by decide), eN 9 (by decide) (by decide) (by decide), eN 11 (by decide) (by decide) (by decide), a0 1, a0 3, a0 5, a0 8, ar 1 (by decide) (by decide) (by decide), ar 2 (by decide) (by decide) (by decide), ar 3 (by decide) (by decide) (by decide), ar 4 (by decide) (by decide) (by decide), ar 5 (by decide) (by decide) (by decide), ar 12 (by decide) (by decide) (by decide), ar 13 (by decide) (by decide) (by decide)]
    refine ⟨B.len, B.note, B.e1, B.e2, B.min, fun j hj => ?_, fun j hj hn => ?_, B.bt, fun k w hk hw => ?_, B.hd, B.st, B.s2⟩
    · rw [a6]
      rcases Decidable.em (j = j0) with c | c
      · have hs : nI (k0 + 1) - nI 1 = nI k0 := by
          rw [pk_sub (by omega)]
          rfl
        rw [if_pos c, hs]
        simp (disch := omega) only [mI_if, and_self, true_and, if_true, if_pos, if_neg, c]
      · simp (disch := omega) only [mI_if, if_neg]
        exact B.kd j hj
    · rw [a6] at hn
      rw [a7]
      rcases Decidable.em (j = j0) with c | c
      · simp (disch := omega) only [mI_if, and_self, true_and, if_true, if_pos, if_neg, c]
      · rw [if_neg c] at hn
        simp (disch := omega) only [mI_if, if_neg]
        exact B.gt j hj hn
    · rw [ar (8 + w) (by omega) (by omega) (by omega)]
      exact B.ip k w hk hw
/-! an inn -/
theorem c_addInn (B : CB h r ρ τ) {p t f m : Nat} (hf : f ≤ 1) (hR : ρ 0 5 < 6) : f_X5_addInn h r (nI p) (nI t) (nI f) (nI m) = some (wI (wI (wI (wI (wI h (r + 8) (ρ 0 5 * 4 + 0) (nI p)) (r + 8) (ρ 0 5 * 4 + 1) (nI t)) (r + 8) (ρ 0 5 * 4 + 2) (nI f)) (r + 8) (ρ 0 5 * 4 + 3) (nI m)) r 5 (nI (ρ 0 5 + 1))) := by
  unfold f_X5_addInn f_X5_addInn_45
  rcases (show f = 0 ∨ f = 1 by omega) with e | e
  · subst e
    simp (disch := omega) only [ob, ck_d, pI_d, gI_d, gR_d, sI_n, aI_n, mT_wI, mR_wI, mI_if, nI_lit, nI_add, pk_mul, eq_self, true_and, and_true, if_true, if_pos, if_neg, tR B.rd, tR_1 B.rd, tR_2 B.rd, tR_3 B.rd, tR_4 B.rd, tR_5 B.rd, tR_6 B.rd, tR_7 B.rd, tR_8 B.rd, tR_9 B.rd, tR_11 B.rd, rR_9 B.rd, rR_10 B.rd, rR_11 B.rd, rR_12 B.rd, rR_13 B.rd, rR_14 B.rd, rR_15 B.rd, rR_16 B.rd, rR_17 B.rd, rR_19 B.rd, B.sc 5]
  · subst e
    have e0 : (nI 1 = nI 0) = False := eq_false (by decide)
    simp (disch := omega) only [ob, ck_d, pI_d, gI_d, gR_d, sI_n, aI_n, mT_wI, mR_wI, mI_if, nI_lit, nI_add, pk_mul, eq_self, true_and, and_true, if_true, if_pos, if_neg, tR B.rd, tR_1 B.rd, tR_2 B.rd, tR_3 B.rd, tR_4 B.rd, tR_5 B.rd, tR_6 B.rd, tR_7 B.rd, tR_8 B.rd, tR_9 B.rd, tR_11 B.rd, rR_9 B.rd, rR_10 B.rd, rR_11 B.rd, rR_12 B.rd, rR_13 B.rd, rR_14 B.rd, rR_15 B.rd, rR_16 B.rd, rR_17 B.rd, rR_19 B.rd, B.sc 5, e0, if_false]
theorem CB.inn (B : CB h r ρ τ) {p t f m : Nat} (hR : ρ 0 5 < 6) : CB (wI (wI (wI (wI (wI h (r + 8) (ρ 0 5 * 4 + 0) (nI p)) (r + 8) (ρ 0 5 * 4 + 1) (nI t)) (r + 8) (ρ 0 5 * 4 + 2) (nI f)) (r + 8) (ρ 0 5 * 4 + 3) (nI m)) r 5 (nI (ρ 0 5 + 1))) r (innR ρ p t f m) τ := by
  have a0 : ∀ k, innR ρ p t f m 0 k = if k = 5 then ρ 0 5 + 1 else ρ 0 k := fun k => by simp [innR]
  have a8 : ∀ k, innR ρ p t f m 8 k = if k = ρ 0 5 then p else ρ 8 k := fun k => by simp [innR]
  have a9 : ∀ k, innR ρ p t f m 9 k = if k = ρ 0 5 then t else ρ 9 k := fun k => by simp [innR]
  have a10 : ∀ k, innR ρ p t f m 10 k = if k = ρ 0 5 then f else ρ 10 k := fun k => by simp [innR]
  have a11 : ∀ k, innR ρ p t f m 11 k = if k = ρ 0 5 then m else ρ 11 k := fun k => by simp [innR]
  have ar : ∀ a, a ≠ 0 → a ≠ 8 → a ≠ 9 → a ≠ 10 → a ≠ 11 → innR ρ p t f m a = ρ a := fun a h0 h3 h4 h5 h6 => by
    funext k
    simp [innR, h0, h3, h4, h5, h6]
  have eN : ∀ k, 1 ≤ k → k ≠ 8 → mI (wI (wI (wI (wI (wI h (r + 8) (ρ 0 5 * 4 + 0) (nI p)) (r + 8) (ρ 0 5 * 4 + 1) (nI t)) (r + 8) (ρ 0 5 * 4 + 2) (nI f)) (r + 8) (ρ 0 5 * 4 + 3) (nI m)) r 5 (nI (ρ 0 5 + 1))) (r + k) = mI h (r + k) := fun k h1 h2 => by
    rw [mI_wI_ne _ _ _ (by omega), mI_wI_ne _ _ _ (by omega), mI_wI_ne _ _ _ (by omega), mI_wI_ne _ _ _ (by omega), mI_wI_ne _ _ _ (by omega)]
  refine ⟨B.rd, ?_, ?_⟩
  · intro k hk
    rw [a0]
    rcases Decidable.em (k = 5) with c | c
    · simp (disch := omega) only [mI_if, and_self, true_and, if_true, if_pos, c]
    · simp (disch := omega) only [mI_if, if_neg]
      exact B.sc k hk
  · rw [eN 1 (by decide) (by decide), eN 2 (by decide) (by decide), eN 3 (by decide) (by decide), eN 4 (by decide) (by decide), eN 5 (by decide) (by decide), eN 6 (by decide) (by decide), eN 7 (by decide) (by decide), eN 9 (by decide) (by decide), eN 11 (by decide) (by decide), a0 1, a0 3, a0 5, a0 8, ar 1 (by decide) (by decide) (by decide) (by decide) (by decide), ar 2 (by decide) (by decide) (by decide) (by decide) (by decide), ar 3 (by decide) (by decide) (by decide) (by decide) (by decide), ar 4 (by decide) (by decide) (by decide) (by decide) (by decide), ar 5 (by decide) (by decide) (by decide) (by decide) (by decide), ar 6 (by decide) (by decide) (by decide) (by decide) (by decide), ar 7 (by decide) (by decide) (by decide) (by decide) (by decide), ar 12 (by decide) (by decide) (by decide) (by decide) (by decide), ar 13 (by decide) (by decide) (by decide) (by decide) (by decide)]
    refine ⟨B.len, B.note, B.e1, B.e2, B.min, B.kd, B.gt, B.bt, fun k w hk hw => ?_, B.hd, B.st, B.s2⟩
    have hk : k < ρ 0 5 + 1 := hk
    rcases Decidable.em (k = ρ 0 5) with c | c
    · subst c
      rcases (show w = 0 ∨ w = 1 ∨ w = 2 ∨ w = 3 by omega) with e | e | e | e
      · subst e
        show _ = nI (innR ρ p t f m 8 (ρ 0 5))
        rw [a8]
        simp (disch := omega) only [mI_if, and_self, true_and, if_true, if_pos, if_neg]
      · subst e
        show _ = nI (innR ρ p t f m 9 (ρ 0 5))
        rw [a9]
        simp (disch := omega) only [mI_if, and_self, true_and, if_true, if_pos, if_neg]
      · subst e
        show _ = nI (innR ρ p t f m 10 (ρ 0 5))
        rw [a10]
        simp (disch := omega) only [mI_if, and_self, true_and, if_true, if_pos, if_neg]
      · subst e
        show _ = nI (innR ρ p t f m 11 (ρ 0 5))
        rw [a11]
        simp (disch := omega) only [mI_if, and_self, true_and, if_true, if_pos, if_neg]
    · have e : innR ρ p t f m (8 + w) k = ρ (8 + w) k := by
        simp [innR, c]
      rw [e]
      simp (disch := omega) only [mI_if, if_neg]
      exact B.ip k w (by omega) hw
end
