section
variable {h0 : Mem} {p : Nat} {f : FA} {h : Mem}
theorem MO.road60 (O : MO h0 p f h) (v w : Int32) : f_X13_readRoad_60 h 55 v w = some h := by
  unfold f_X13_readRoad_60
  simp only [ob, nI_lit, O.goes, O.part, gI_of (tS_55 O.sh), O.o5, if_true]
theorem MO.gate158 (O : MO h0 p f h) (v w u : Int32) : f_X13_readGate_158 h 55 v w u = some h := by
  unfold f_X13_readGate_158
  simp only [ob, nI_lit, O.goes, O.known, gI_of (tS_55 O.sh), O.o5, if_true]
theorem MO.gate147 (O : MO h0 p f h) (v w u : Int32) : f_X13_readGate_147 h 55 v w u = some h := by
  unfold f_X13_readGate_147
  simp only [ob, O.flaw, O.gate158, ite_self]
theorem MO.gate86 (O : MO h0 p f h) (v w : Int32) : f_X13_readGate_86 h 55 v w = some h := by
  unfold f_X13_readGate_86
  simp only [ob, nI_lit, O.goes, O.isw, if_true, O.gate147]
theorem MO.gate55 (O : MO h0 p f h) (v w : Int32) : f_X13_readGate_55 h 55 v w = some h := by
  unfold f_X13_readGate_55
  simp only [ob, nI_lit, gI_of (tS_55 O.sh), O.o5, if_true, O.gate86]
theorem MO.inn46 (O : MO h0 p f h) (v w : Int32) : f_X13_readInn_46 h 55 v w = some h := by
  unfold f_X13_readInn_46
  simp only [ob, nI_lit, O.goes, O.known, O.part, gI_of (tS_55 O.sh), O.o5, if_true]
theorem MO.tune59 (O : MO h0 p f h) (v : Int64) : f_X13_readTune_59 h 55 v = some h := by
  unfold f_X13_readTune_59
  simp only [ob, nI_lit, O.goes, gI_of (tS_55 O.sh), O.o5, if_true]
theorem MO.tune31 (O : MO h0 p f h) (v : Int64) : f_X13_readTune_31 h 55 v = some h := by
  unfold f_X13_readTune_31
  simp only [ob, nI_lit, O.tune59, gI_of (tS_55 O.sh), O.o5, if_true]
theorem MO.know54 (O : MO h0 p f h) (v w : Int32) : f_X13_readKnows_54 h 55 v w = some h := by
  unfold f_X13_readKnows_54
  simp only [ob, nI_lit, O.goes, gI_of (tS_55 O.sh), O.o5, if_true]
theorem MO.turn16 (O : MO h0 p f h) : f_X13_readTurnpike_16 h 55 = some h := by
  unfold f_X13_readTurnpike_16
  simp only [ob, nI_lit, O.goes, O.part, gI_of (tS_55 O.sh), O.o5, if_true]
end
theorem qm_congr {ρ ρ' : RO} (e13 : ρ' 13 = ρ 13) (e5 : ρ' 5 = ρ 5) (a c : Nat) : qm ρ' a c = qm ρ a c := by
  unfold qm
  rw [e13, e5]
theorem qk_congr {ρ ρ' : RO} (e13 : ρ' 13 = ρ 13) (e5 : ρ' 6 = ρ 6) (a c : Nat) : qk ρ' a c = qk ρ a c := by
  unfold qk
  rw [e13, e5]
theorem qt_congr {ρ ρ' : RO} (e13 : ρ' 13 = ρ 13) (e5 : ρ' 7 = ρ 7) (a c : Nat) : qt ρ' a c = qt ρ a c := by
  unfold qt
  rw [e13, e5]
section
variable {h : Mem} {p : Nat} {ρ τ : RO}
/-- a count alone -/
theorem MB.cnt (B : MB h p ρ τ) {ρ' τ' : RO} {c v : Nat} (hc : 1 ≤ c) (e : ∀ k, ρ' 0 k = if k = c then v else ρ 0 k) (ec : c ≠ 1 ∧ c ≠ 3 ∧ c ≠ 5 ∧ c ≠ 6 ∧ c ≠ 8) (er : ∀ k, k ≠ 0 → ρ' k = ρ k) (et : ∀ k, 4 ≤ k → τ' k = τ k) (e31 : τ' 3 1 = τ 3 1) : MB (wI h p c (nI v)) p ρ' τ' := by
  have eN : ∀ k, 1 ≤ k → mI (wI h p c (nI v)) (p + k) = mI h (p + k) := fun k hk => mI_wI_ne _ _ _ (by omega)
  have e0 : ρ' 0 0 = ρ 0 0 := by rw [e, if_neg (by omega)]
  have e1 : ρ' 0 1 = ρ 0 1 := by rw [e, if_neg (fun q => ec.1 q.symm)]
  have e3 : ρ' 0 3 = ρ 0 3 := by rw [e, if_neg (fun q => ec.2.1 q.symm)]
  have e5 : ρ' 0 5 = ρ 0 5 := by rw [e, if_neg (fun q => ec.2.2.1 q.symm)]
  have e6 : ρ' 0 6 = ρ 0 6 := by rw [e, if_neg (fun q => ec.2.2.2.1 q.symm)]
  have e8 : ρ' 0 8 = ρ 0 8 := by rw [e, if_neg (fun q => ec.2.2.2.2 q.symm)]
  have qm' : ∀ a c, qm ρ' a c = qm ρ a c := qm_congr (er 13 (by decide)) (er 5 (by decide))
  have qk' : ∀ a c, qk ρ' a c = qk ρ a c := qk_congr (er 13 (by decide)) (er 6 (by decide))
  have qt' : ∀ a c, qt ρ' a c = qt ρ a c := qt_congr (er 13 (by decide)) (er 7 (by decide))
  refine ⟨B.pk, ?_, fun k h1 h9 => ?_, ?_⟩
  · rw [mI_wI_at, pk_un (by omega), e31, e0]
    exact B.rn
  · rw [mI_if, e]
    rcases Decidable.em (k = c) with z | z
    · rw [if_pos ⟨rfl, z⟩, if_pos z]
    · rw [if_neg (fun y => z y.2), if_neg z]
      exact B.sc k h1 h9
  simp only [eN 1 (by decide), eN 2 (by decide), eN 3 (by decide), eN 4 (by decide), eN 5 (by decide), eN 6 (by decide), eN 7 (by decide), eN 8 (by decide), eN 9 (by decide), eN 10 (by decide), eN 11 (by decide), eN 12 (by decide), eN 13 (by decide), eN 14 (by decide), eN 15 (by decide), e1, e3, e5, e6, e8, er 1 (by decide), er 2 (by decide), er 3 (by decide), er 4 (by decide), er 8 (by decide), er 9 (by decide), er 10 (by decide), er 11 (by decide), er 12 (by decide), et 4 (by decide), et 5 (by decide), et 6 (by decide), qm', qk', qt']
  exact ⟨B.len, B.note, B.min, B.kd, B.gt, B.e1, B.e2, B.i8, B.i9, B.i10, B.i11, B.at, B.co, B.kn, B.hd⟩
theorem MB.turn (B : MB h p ρ τ) (v : Nat) : MB (wI h p 0 (nI v)) p (rup ρ 0 0 v) (rup τ 3 1 1) := by
  have eN : ∀ k, 1 ≤ k → mI (wI h p 0 (nI v)) (p + k) = mI h (p + k) := fun k hk => mI_wI_ne _ _ _ (by omega)
  refine ⟨B.pk, ?_, fun k h1 h9 => ?_, ?_⟩
  · rw [mI_wI_at, pk_us, rup_at, rup_at, if_neg (by decide)]
  · rw [mI_wI_at, pk_un (by omega), rup_ne _ _ _ _ (by omega)]
    exact B.sc k h1 h9
  have er : ∀ a, a ≠ 0 → rup ρ 0 0 v a = ρ a := fun a ha => by
    funext k
    exact rup_ne _ _ _ _ (by omega)
  have et : ∀ a, a ≠ 3 → rup τ 3 1 1 a = τ a := fun a ha => by
    funext k
    exact rup_ne _ _ _ _ (by omega)
  have e0 : ∀ k, k ≠ 0 → rup ρ 0 0 v 0 k = ρ 0 k := fun k hk => rup_ne _ _ _ _ (by omega)
  have qm' : ∀ a c, qm (rup ρ 0 0 v) a c = qm ρ a c := qm_congr (er 13 (by decide)) (er 5 (by decide))
  have qk' : ∀ a c, qk (rup ρ 0 0 v) a c = qk ρ a c := qk_congr (er 13 (by decide)) (er 6 (by decide))
  have qt' : ∀ a c, qt (rup ρ 0 0 v) a c = qt ρ a c := qt_congr (er 13 (by decide)) (er 7 (by decide))
  simp only [eN 1 (by decide), eN 2 (by decide), eN 3 (by decide), eN 4 (by decide), eN 5 (by decide), eN 6 (by decide), eN 7 (by decide), eN 8 (by decide), eN 9 (by decide), eN 10 (by decide), eN 11 (by decide), eN 12 (by decide), eN 13 (by decide), eN 14 (by decide), eN 15 (by decide), e0 1 (by decide), e0 3 (by decide), e0 5 (by decide), e0 6 (by decide), e0 8 (by decide), er 1 (by decide), er 2 (by decide), er 3 (by decide), er 4 (by decide), er 8 (by decide), er 9 (by decide), er 10 (by decide), er 11 (by decide), er 12 (by decide), et 4 (by decide), et 5 (by decide), et 6 (by decide), qm', qk', qt']
  exact ⟨B.len, B.note, B.min, B.kd, B.gt, B.e1, B.e2, B.i8, B.i9, B.i10, B.i11, B.at, B.co, B.kn, B.hd⟩
theorem MB.hear (B : MB h p ρ τ) (t : Nat) : MB (wI (wI h (p + 15) (ρ 0 8) (nI t)) p 8 (nI (ρ 0 8 + 1))) p (heardR ρ t) τ := by
  have a0 : ∀ k, heardR ρ t 0 k = if k = 8 then ρ 0 8 + 1 else ρ 0 k := fun k => by simp [heardR]
  have a12 : ∀ k, heardR ρ t 12 k = if k = ρ 0 8 then t else ρ 12 k := fun k => by simp [heardR]
  have er : ∀ a, a ≠ 0 → a ≠ 12 → heardR ρ t a = ρ a := fun a h0 h1 => by
    funext k
    simp [heardR, h0, h1]
  have b0 : heardR ρ t 0 0 = ρ 0 0 := a0 0
  have b1 : heardR ρ t 0 1 = ρ 0 1 := a0 1
  have b3 : heardR ρ t 0 3 = ρ 0 3 := a0 3
  have b5 : heardR ρ t 0 5 = ρ 0 5 := a0 5
  have b6 : heardR ρ t 0 6 = ρ 0 6 := a0 6
  have b8 : heardR ρ t 0 8 = ρ 0 8 + 1 := a0 8
  have eN : ∀ k, 1 ≤ k → k ≠ 15 → mI (wI (wI h (p + 15) (ρ 0 8) (nI t)) p 8 (nI (ρ 0 8 + 1))) (p + k) = mI h (p + k) := fun k h1 h2 => by
    rw [mI_wI_ne _ _ _ (by omega), mI_wI_ne _ _ _ (by omega)]
  have qm' : ∀ a c, qm (heardR ρ t) a c = qm ρ a c := qm_congr (er 13 (by decide) (by decide)) (er 5 (by decide) (by decide))
  have qk' : ∀ a c, qk (heardR ρ t) a c = qk ρ a c := qk_congr (er 13 (by decide) (by decide)) (er 6 (by decide) (by decide))
  have qt' : ∀ a c, qt (heardR ρ t) a c = qt ρ a c := qt_congr (er 13 (by decide) (by decide)) (er 7 (by decide) (by decide))
  refine ⟨B.pk, ?_, fun k h1 h9 => ?_, ?_⟩
  · rw [mI_wI_at, pk_un (by decide), mI_wI_ne _ _ _ (by omega), b0]
    exact B.rn
  · rw [a0]
    rcases Decidable.em (k = 8) with c | c
    · simp (disch := omega) only [mI_if, and_self, true_and, if_true, if_pos, c]
    · simp (disch := omega) only [mI_if, if_neg]
      exact B.sc k h1 h9
  simp only [eN 1 (by decide) (by decide), eN 2 (by decide) (by decide), eN 3 (by decide) (by decide), eN 4 (by decide) (by decide), eN 5 (by decide) (by decide), eN 6 (by decide) (by decide), eN 7 (by decide) (by decide), eN 8 (by decide) (by decide), eN 9 (by decide) (by decide), eN 10 (by decide) (by decide), eN 11 (by decide) (by decide), eN 12 (by decide) (by decide), eN 13 (by decide) (by decide), eN 14 (by decide) (by decide), b1, b3, b5, b6, b8, er 1 (by decide) (by decide), er 2 (by decide) (by decide), er 3 (by decide) (by decide), er 4 (by decide) (by decide), er 8 (by decide) (by decide), er 9 (by decide) (by decide), er 10 (by decide) (by decide), er 11 (by decide) (by decide), qm', qk', qt']
  refine ⟨B.len, B.note, B.min, B.kd, B.gt, B.e1, B.e2, B.i8, B.i9, B.i10, B.i11, B.at, B.co, B.kn, fun k hk => ?_⟩
  rw [a12]
  rcases Decidable.em (k = ρ 0 8) with c | c
  · simp (disch := omega) only [mI_if, and_self, true_and, if_true, if_pos, if_neg, c]
  · simp (disch := omega) only [mI_if, if_neg]
    exact B.hd k (by omega)
theorem MB.know (B : MB h p ρ τ) {x v : Nat} (hx : x < 4) : MB (wI (wI h (p + 14) x (nI v)) p 7 (nI (ρ 0 7 + 1))) p (rup ρ 0 7 (ρ 0 7 + 1)) (rup τ 6 x v) := by
  have a0 : ∀ k, rup ρ 0 7 (ρ 0 7 + 1) 0 k = if k = 7 then ρ 0 7 + 1 else ρ 0 k := fun k => by simp [rup]
  have er : ∀ a, a ≠ 0 → rup ρ 0 7 (ρ 0 7 + 1) a = ρ a := fun a h0 => by
    funext k
    simp [rup, h0]
  have et : ∀ a, a ≠ 6 → rup τ 6 x v a = τ a := fun a h1 => by
    funext k
    rw [rup_ne _ _ _ _ (by omega)]
  have b0 : rup ρ 0 7 (ρ 0 7 + 1) 0 0 = ρ 0 0 := a0 0
  have b1 : rup ρ 0 7 (ρ 0 7 + 1) 0 1 = ρ 0 1 := a0 1
  have b3 : rup ρ 0 7 (ρ 0 7 + 1) 0 3 = ρ 0 3 := a0 3
  have b5 : rup ρ 0 7 (ρ 0 7 + 1) 0 5 = ρ 0 5 := a0 5
  have b6 : rup ρ 0 7 (ρ 0 7 + 1) 0 6 = ρ 0 6 := a0 6
  have b8 : rup ρ 0 7 (ρ 0 7 + 1) 0 8 = ρ 0 8 := a0 8
  have eN : ∀ k, 1 ≤ k → k ≠ 14 → mI (wI (wI h (p + 14) x (nI v)) p 7 (nI (ρ 0 7 + 1))) (p + k) = mI h (p + k) := fun k h1 h2 => by
    rw [mI_wI_ne _ _ _ (by omega), mI_wI_ne _ _ _ (by omega)]
  have qm' : ∀ a c, qm (rup ρ 0 7 (ρ 0 7 + 1)) a c = qm ρ a c := qm_congr (er 13 (by decide)) (er 5 (by decide))
  have qk' : ∀ a c, qk (rup ρ 0 7 (ρ 0 7 + 1)) a c = qk ρ a c := qk_congr (er 13 (by decide)) (er 6 (by decide))
  have qt' : ∀ a c, qt (rup ρ 0 7 (ρ 0 7 + 1)) a c = qt ρ a c := qt_congr (er 13 (by decide)) (er 7 (by decide))
  refine ⟨B.pk, ?_, fun k h1 h9 => ?_, ?_⟩
  · rw [mI_wI_at, pk_un (by decide), mI_wI_ne _ _ _ (by omega), b0, et 3 (by decide)]
    exact B.rn
  · rw [a0]
    rcases Decidable.em (k = 7) with c | c
    · simp (disch := omega) only [mI_if, and_self, true_and, if_true, if_pos, c]
    · simp (disch := omega) only [mI_if, if_neg]
      exact B.sc k h1 h9
  simp only [eN 1 (by decide) (by decide), eN 2 (by decide) (by decide), eN 3 (by decide) (by decide), eN 4 (by decide) (by decide), eN 5 (by decide) (by decide), eN 6 (by decide) (by decide), eN 7 (by decide) (by decide), eN 8 (by decide) (by decide), eN 9 (by decide) (by decide), eN 10 (by decide) (by decide), eN 11 (by decide) (by decide), eN 12 (by decide) (by decide), eN 13 (by decide) (by decide), eN 15 (by decide) (by decide), b1, b3, b5, b6, b8, er 1 (by decide), er 2 (by decide), er 3 (by decide), er 4 (by decide), er 8 (by decide), er 9 (by decide), er 10 (by decide), er 11 (by decide), er 12 (by decide), et 4 (by decide), et 5 (by decide), qm', qk', qt']
  refine ⟨B.len, B.note, B.min, B.kd, B.gt, B.e1, B.e2, B.i8, B.i9, B.i10, B.i11, B.at, B.co, fun y hy => ?_, B.hd⟩
  rcases Decidable.em (y = x) with c | c
  · rw [c, rup_at]
    simp (disch := omega) only [mI_if, and_self, true_and, if_true, if_pos, if_neg]
  · rw [rup_ne _ _ _ _ (by omega)]
    simp (disch := omega) only [mI_if, if_neg]
    exact B.kn y hy
theorem MB.pers (B : MB h p ρ τ) {q m : Nat} : MB (wI (wI (wI h (p + 12) (ρ 0 6) (nI q)) (p + 13) (ρ 0 6) (nI m)) p 6 (nI (ρ 0 6 + 1))) p (rup ρ 0 6 (ρ 0 6 + 1)) (rup (rup τ 4 (ρ 0 6) q) 5 (ρ 0 6) m) := by
  have a0 : ∀ k, rup ρ 0 6 (ρ 0 6 + 1) 0 k = if k = 6 then ρ 0 6 + 1 else ρ 0 k := fun k => by simp [rup]
  have er : ∀ a, a ≠ 0 → rup ρ 0 6 (ρ 0 6 + 1) a = ρ a := fun a h0 => by
    funext k
    simp [rup, h0]
  have et : ∀ a, a ≠ 4 → a ≠ 5 → rup (rup τ 4 (ρ 0 6) q) 5 (ρ 0 6) m a = τ a := fun a h1 h2 => by
    funext k
    rw [rup_ne _ _ _ _ (by omega), rup_ne _ _ _ _ (by omega)]
  have b0 : rup ρ 0 6 (ρ 0 6 + 1) 0 0 = ρ 0 0 := a0 0
  have b1 : rup ρ 0 6 (ρ 0 6 + 1) 0 1 = ρ 0 1 := a0 1
  have b3 : rup ρ 0 6 (ρ 0 6 + 1) 0 3 = ρ 0 3 := a0 3
  have b5 : rup ρ 0 6 (ρ 0 6 + 1) 0 5 = ρ 0 5 := a0 5
  have b6 : rup ρ 0 6 (ρ 0 6 + 1) 0 6 = ρ 0 6 + 1 := a0 6
  have b8 : rup ρ 0 6 (ρ 0 6 + 1) 0 8 = ρ 0 8 := a0 8
  have eN : ∀ k, 1 ≤ k → k ≠ 12 → k ≠ 13 → mI (wI (wI (wI h (p + 12) (ρ 0 6) (nI q)) (p + 13) (ρ 0 6) (nI m)) p 6 (nI (ρ 0 6 + 1))) (p + k) = mI h (p + k) := fun k h1 h2 h3 => by
    rw [mI_wI_ne _ _ _ (by omega), mI_wI_ne _ _ _ (by omega), mI_wI_ne _ _ _ (by omega)]
  have qm' : ∀ a c, qm (rup ρ 0 6 (ρ 0 6 + 1)) a c = qm ρ a c := qm_congr (er 13 (by decide)) (er 5 (by decide))
  have qk' : ∀ a c, qk (rup ρ 0 6 (ρ 0 6 + 1)) a c = qk ρ a c := qk_congr (er 13 (by decide)) (er 6 (by decide))
  have qt' : ∀ a c, qt (rup ρ 0 6 (ρ 0 6 + 1)) a c = qt ρ a c := qt_congr (er 13 (by decide)) (er 7 (by decide))
  refine ⟨B.pk, ?_, fun k h1 h9 => ?_, ?_⟩
  · rw [mI_wI_at, pk_un (by decide), mI_wI_ne _ _ _ (by omega), mI_wI_ne _ _ _ (by omega), b0, et 3 (by decide) (by decide)]
    exact B.rn
  · rw [a0]
    rcases Decidable.em (k = 6) with c | c
    · simp (disch := omega) only [mI_if, and_self, true_and, if_true, if_pos, c]
    · simp (disch := omega) only [mI_if, if_neg]
      exact B.sc k h1 h9
  simp only [eN 1 (by decide) (by decide) (by decide), eN 2 (by decide) (by decide) (by decide), eN 3 (by decide) (by decide) (by decide), eN 4 (by decide) (by decide) (by decide), eN 5 (by decide) (by decide) (by decide), eN 6 (by decide) (by decide) (by decide), eN 7 (by decide) (by decide) (by decide), eN 8 (by decide) (by decide) (by decide), eN 9 (by decide) (by decide) (by decide), eN 10 (by decide) (by decide) (by decide), eN 11 (by decide) (by decide) (by decide), eN 14 (by decide) (by decide) (by decide), eN 15 (by decide) (by decide) (by decide), b1, b3, b5, b6, b8, er 1 (by decide), er 2 (by decide), er 3 (by decide), er 4 (by decide), er 8 (by decide), er 9 (by decide), er 10 (by decide), er 11 (by decide), er 12 (by decide), et 6 (by decide) (by decide), qm', qk', qt']
  refine ⟨B.len, B.note, B.min, B.kd, B.gt, B.e1, B.e2, B.i8, B.i9, B.i10, B.i11, fun y hy => ?_, fun y hy => ?_, B.kn, B.hd⟩
  · rcases Decidable.em (y = ρ 0 6) with c | c
    · rw [c, rup_ne _ _ _ _ (by omega), rup_at]
      simp (disch := omega) only [mI_if, and_self, true_and, if_true, if_pos, if_neg]
    · rw [rup_ne _ _ _ _ (by omega), rup_ne _ _ _ _ (by omega)]
      simp (disch := omega) only [mI_if, if_neg]
      exact B.at y (by omega)
  · rcases Decidable.em (y = ρ 0 6) with c | c
    · rw [c, rup_at]
      simp (disch := omega) only [mI_if, and_self, true_and, if_true, if_pos, if_neg]
    · rw [rup_ne _ _ _ _ (by omega), rup_ne _ _ _ _ (by omega)]
      simp (disch := omega) only [mI_if, if_neg]
      exact B.co y (by omega)
theorem MB.inn (B : MB h p ρ τ) {q t f m : Nat} : MB (wI (wI (wI (wI (wI h (p + 8) (ρ 0 5) (nI q)) (p + 9) (ρ 0 5) (nI t)) (p + 10) (ρ 0 5) (nI f)) (p + 11) (ρ 0 5) (nI m)) p 5 (nI (ρ 0 5 + 1))) p (innR ρ q t f m) τ := by
  have a0 : ∀ k, innR ρ q t f m 0 k = if k = 5 then ρ 0 5 + 1 else ρ 0 k := fun k => by simp [innR]
  have a8 : ∀ k, innR ρ q t f m 8 k = if k = ρ 0 5 then q else ρ 8 k := fun k => by simp [innR]
  have a9 : ∀ k, innR ρ q t f m 9 k = if k = ρ 0 5 then t else ρ 9 k := fun k => by simp [innR]
  have a10 : ∀ k, innR ρ q t f m 10 k = if k = ρ 0 5 then f else ρ 10 k := fun k => by simp [innR]
  have a11 : ∀ k, innR ρ q t f m 11 k = if k = ρ 0 5 then m else ρ 11 k := fun k => by simp [innR]
  have er : ∀ a, a ≠ 0 → (a < 8 ∨ 11 < a) → innR ρ q t f m a = ρ a := fun a h0 h3 => by
    funext k
    unfold innR
    rw [if_neg (by omega), if_neg (by omega), if_neg (by omega), if_neg (by omega), if_neg (by omega)]
  have b0 : innR ρ q t f m 0 0 = ρ 0 0 := a0 0
  have b1 : innR ρ q t f m 0 1 = ρ 0 1 := a0 1
  have b3 : innR ρ q t f m 0 3 = ρ 0 3 := a0 3
  have b5 : innR ρ q t f m 0 5 = ρ 0 5 + 1 := a0 5
  have b6 : innR ρ q t f m 0 6 = ρ 0 6 := a0 6
  have b8 : innR ρ q t f m 0 8 = ρ 0 8 := a0 8
  have eN : ∀ k, 1 ≤ k → (k < 8 ∨ 11 < k) → mI (wI (wI (wI (wI (wI h (p + 8) (ρ 0 5) (nI q)) (p + 9) (ρ 0 5) (nI t)) (p + 10) (ρ 0 5) (nI f)) (p + 11) (ρ 0 5) (nI m)) p 5 (nI (ρ 0 5 + 1))) (p + k) = mI h (p + k) := fun k h1 h2 => by
    rw [mI_wI_ne _ _ _ (by omega), mI_wI_ne _ _ _ (by omega), mI_wI_ne _ _ _ (by omega), mI_wI_ne _ _ _ (by omega), mI_wI_ne _ _ _ (by omega)]
  have qm' : ∀ a c, qm (innR ρ q t f m) a c = qm ρ a c := qm_congr (er 13 (by decide) (by decide)) (er 5 (by decide) (by decide))
  have qk' : ∀ a c, qk (innR ρ q t f m) a c = qk ρ a c := qk_congr (er 13 (by decide) (by decide)) (er 6 (by decide) (by decide))
  have qt' : ∀ a c, qt (innR ρ q t f m) a c = qt ρ a c := qt_congr (er 13 (by decide) (by decide)) (er 7 (by decide) (by decide))
  refine ⟨B.pk, ?_, fun k h1 h9 => ?_, ?_⟩
  · rw [mI_wI_at, pk_un (by decide), mI_wI_ne _ _ _ (by omega), mI_wI_ne _ _ _ (by omega), mI_wI_ne _ _ _ (by omega), mI_wI_ne _ _ _ (by omega), b0]
    exact B.rn
  · rw [a0]
    rcases Decidable.em (k = 5) with c | c
    · simp (disch := omega) only [mI_if, and_self, true_and, if_true, if_pos, c]
    · simp (disch := omega) only [mI_if, if_neg]
      exact B.sc k h1 h9
  simp only [eN 1 (by decide) (by decide), eN 2 (by decide) (by decide), eN 3 (by decide) (by decide), eN 4 (by decide) (by decide), eN 5 (by decide) (by decide), eN 6 (by decide) (by decide), eN 7 (by decide) (by decide), eN 12 (by decide) (by decide), eN 13 (by decide) (by decide), eN 14 (by decide) (by decide), eN 15 (by decide) (by decide), b1, b3, b5, b6, b8, er 1 (by decide) (by decide), er 2 (by decide) (by decide), er 3 (by decide) (by decide), er 4 (by decide) (by decide), er 12 (by decide) (by decide), qm', qk', qt']
  refine ⟨B.len, B.note, B.min, B.kd, B.gt, B.e1, B.e2, fun k hk => ?_, fun k hk => ?_, fun k hk => ?_, fun k hk => ?_, B.at, B.co, B.kn, B.hd⟩
  · rw [a8]
    rcases Decidable.em (k = ρ 0 5) with c | c
    · simp (disch := omega) only [mI_if, and_self, true_and, if_true, if_pos, if_neg, c]
    · simp (disch := omega) only [mI_if, if_neg]
      exact B.i8 k (by omega)
  · rw [a9]
    rcases Decidable.em (k = ρ 0 5) with c | c
    · simp (disch := omega) only [mI_if, and_self, true_and, if_true, if_pos, if_neg, c]
    · simp (disch := omega) only [mI_if, if_neg]
      exact B.i9 k (by omega)
  · rw [a10]
    rcases Decidable.em (k = ρ 0 5) with c | c
    · simp (disch := omega) only [mI_if, and_self, true_and, if_true, if_pos, if_neg, c]
    · simp (disch := omega) only [mI_if, if_neg]
      exact B.i10 k (by omega)
  · rw [a11]
    rcases Decidable.em (k = ρ 0 5) with c | c
    · simp (disch := omega) only [mI_if, and_self, true_and, if_true, if_pos, if_neg, c]
    · simp (disch := omega) only [mI_if, if_neg]
      exact B.i11 k (by omega)
end
