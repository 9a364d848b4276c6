/-! ===== the class reads a line, a text ===== -/
def mxl (s : Nat) : Nat := [1, 6, 7, 10, 1000, 6, 4, 8, 5].getD s 0
theorem xAI_n : ∀ s, s < 9 → xAI (nI s) = some (nI (mxl s)) := by decide +kernel
def rK (h0 : Mem) (r : Nat) (b : Nat → Nat) (n : Nat) (e : LR) (q : Int32 × Mem) : Prop := match e with
  | .inl f => q.1 = nI 0 ∧ CF h0 r f q.2
  | .inr s => q.1 = nI 1 ∧ CS h0 r b n s.1 s.2.1 (cl s.1 s.2.1) s.2.2 q.2
section
variable {h0 : Mem} {r : Nat} {b : Nat → Nat} {n : Nat} {ρ τ : RO} {L : Nat → Nat} {i : Nat} {h : Mem}
theorem CS.lc {L' : Nat → Nat} (C : CS h0 r b n ρ τ L i h) (e : ∀ k, k < 9 → L k = L' k) : CS h0 r b n ρ τ L' i h :=
  ⟨C.fr, C.rr, C.tp, C.kt, C.le, C.rp, C.bo, C.nm, fun k hk => by rw [← e k hk]; exact C.ls k hk, C.fd, C.fl, C.fa⟩
theorem rL_ret {o : Option (Int32 × Mem)} {e : LR} (k : OK o (rL h0 r b n L e)) (hc : ∀ s, e = .inr s → ∀ k, k < 9 → L k = cl s.1 s.2.1 k) : OK (o.bind fun q => retZ q.1 (q.1, q.2)) (rK h0 r b n e) := by
  obtain ⟨⟨v, h1⟩, e1, k⟩ := k
  rcases e with f | s
  · obtain ⟨rfl, k⟩ := k
    rw [e1]
    exact ⟨(nI 0, h1), (show retZ (nI 0) (nI 0, h1) = some (nI 0, h1) from if_pos (Or.inl rfl)), rfl, k⟩
  · obtain ⟨rfl, k⟩ := k
    rw [e1]
    exact ⟨(nI 1, h1), (show retZ (nI 1) (nI 1, h1) = some (nI 1, h1) from if_pos (Or.inr rfl)), rfl, CS.lc k (hc s rfl)⟩
theorem CS.inc (C : CS h0 r b n ρ τ L i h) {s : Nat} (hs : s < 9) : CS h0 r b n ρ τ (fun k => if k = s then L s + 1 else L k) i (wI h 20 s (nI (L s + 1))) := by
  have rr := C.rr
  have xI : ∀ x, x ≠ 20 → mI (wI h 20 s (nI (L s + 1))) x = mI h x := fun x hx => mI_wI_ne _ _ _ hx
  have T := C.tp
  have K := C.kt
  have e14 := xI 14 (by decide)
  refine ⟨C.fr.tr (FR.w h s _ (by omega)), rr, ⟨T.sh, ?_, T.n1, ?_, T.by, T.me⟩, ?_, C.le, C.rp, CB.fr (h := h) (h' := wI h 20 s (nI (L s + 1))) rfl rfl (fun k hk => xI _ (by omega)) C.bo, C.nm.fr (by rw [e14]) rfl (xI 18 (by decide)) (xI 19 (by decide)) ⟨rfl, rfl, rfl, rfl⟩, fun k hk => ?_, ?_, ?_, ?_⟩
  · rw [e14]; exact T.en
  · rw [xI 15 (by decide)]; exact T.tp
  · unfold TK at *
    rw [e14]
    exact K
  · rw [mI_if]
    show _ = nI (if k = s then L s + 1 else L k)
    rcases Decidable.em (k = s) with c | c
    · rw [if_pos ⟨rfl, c⟩, if_pos c]
    · rw [if_neg (fun z => c z.2), if_neg c]
      exact C.ls k hk
  · rw [e14]; exact C.fd
  · rw [e14]; exact C.fl
  · rw [e14]; exact C.fa
theorem l68_cl {s : RO × RO × Nat} {c j : Nat} (X : XO n ρ τ j c s) (hc : c = 0 → τ 3 1 = 0) : ∀ k, k < 9 → (fun k => if k = c then cl ρ τ c + 1 else cl ρ τ k) k = cl s.1 s.2.1 k := fun k _ => (X.cls hc k).symm
set_option maxHeartbeats 4000000 in
theorem CS.line (C : CS h0 r b n ρ τ (cl ρ τ) i h) (P : PV ρ τ) (h4 : ρ 0 4 ≤ i) : OK (f_X4_readLine h 14) (rK h0 r b n (pLine b n ρ τ i)) := by
  have S := C.tp.sh
  have rr := C.rr
  have hn := C.tp.n1
  have htk := tk_lt b n i
  have hle := C.le
  have hta := ta_le b hle
  have P7 := P.k7
  have q1 := P.rw.tu
  have q2 := P.rw.pl
  have q3 := P.rw.ro
  have q5 := P.rw.inn
  have q6 := P.rw.pe
  have q8 := P.rw.he
  have qt := P.t1
  unfold pLine
  rcases Decidable.em (tk b n i = 1) with t1 | t1
  · have hgt := ta_gt t1
    have hm := tM_le b n i
    have h13 : mI h 14 13 = nI (tM b n i) - nI 1 := (C.kt.wo t1).2
    have l0 : mI h 20 0 = nI (τ 3 1) := C.ls 0 (by decide)
    rw [if_pos t1]
    rcases Decidable.em (tM b n i = 0 ∨ 10 ≤ tM b n i) with m0 | m0
    · rw [if_neg (by omega), if_pos m0]
      unfold f_X4_readLine f_X4_readLine_23
      rcases m0 with m0 | m0
      · have lt0 : (nI (tM b n i) - nI 1 < nI 0) = True := by rw [kN_neg (by omega)]; exact eq_true m0
        simp (disch := omega) only [ob, nI_lit, eq_self, if_true, if_false, nI_10, n1_lt0, n1_ge0, eb_l, eb_r, ck_of (tS_14 S), gI_of (tS_14 S), h13, C.kt.kd, nI_eq, t1, lt0]
        exact C.ret 1
      · have lt0 : (nI (tM b n i) - nI 1 < nI 0) = False := by rw [kN_neg (by omega)]; exact eq_false (by omega)
        have lt9 : (nI (tM b n i) - nI 1 < nI 9) = False := by rw [kN_lt (by omega) (by omega) (by omega)]; exact eq_false (by omega)
        simp (disch := omega) only [ob, nI_lit, eq_self, if_true, if_false, nI_10, n1_lt0, n1_ge0, eb_l, eb_r, ck_of (tS_14 S), gI_of (tS_14 S), h13, C.kt.kd, nI_eq, t1, lt0, lt9]
        exact C.ret 1
    · obtain ⟨m, em⟩ : ∃ m, tM b n i = m + 1 := ⟨tM b n i - 1, by omega⟩
      have hm9 : m < 9 := by omega
      have h13 : mI h 14 13 = nI m := by
        rw [h13, em, pk_sub (by omega)]
        rfl
      have hx := xAI_n m hm9
      have lm := C.ls m hm9
      have C1 := C.inc hm9
      obtain ⟨h2, e2, C2⟩ := C1.step
      rw [em]
      unfold f_X4_readLine f_X4_readLine_48
      rcases Decidable.em (m = 0) with z | z
      · subst z
        rw [if_pos rfl]
        have lm : mI h 20 0 = nI (τ 3 1) := l0
        rcases Decidable.em (τ 3 1 = 0) with t0 | t0
        · rw [t0] at lm
          rw [if_pos t0]
          have hL : cl ρ τ 0 + 1 = 1 := by
            show τ 3 1 + 1 = 1
            omega
          rw [hL] at e2
          have kk := rL_ret C2.lTurn (fun s hs => l68_cl (XO.turn P hta hs) (fun _ => t0))
          unfold f_X4_readLine_68
          have hx : xAI (nI 0) = some (nI 1) := hx
          simp (disch := omega) only [ob, nI_lit, eq_self, if_true, if_false, nI_10, n1_lt0, n1_ge0, eb_l, eb_r, ck_of (tS_14 S), gI_of (tS_14 S), h13, C.kt.kd, nI_eq, t1, nI_ltI, Nat.lt_irrefl, Nat.reduceLT, gR_of (tS_14 S), rS_14_5 S, aI_of (tS_20 S), lm, nI_leI, Nat.le_refl, hx, nI_add, Nat.zero_add, sI_of (tS_20 S), e2]
          exact kk
        · rw [if_neg t0]
          simp (disch := omega) only [ob, nI_lit, eq_self, if_true, if_false, nI_10, n1_lt0, n1_ge0, eb_l, eb_r, ck_of (tS_14 S), gI_of (tS_14 S), h13, C.kt.kd, nI_eq, t1, nI_ltI, Nat.lt_irrefl, Nat.reduceLT, gR_of (tS_14 S), rS_14_5 S, aI_of (tS_20 S), lm, nI_leI, if_neg]
          exact C.ret 3
      · rw [if_neg (by omega), if_neg (by omega)]
        rcases Decidable.em (τ 3 1 = 0) with t0 | t0
        · rw [if_pos t0]
          rw [t0] at l0
          simp (disch := omega) only [ob, nI_lit, eq_self, if_true, if_false, nI_10, n1_lt0, n1_ge0, eb_l, eb_r, ck_of (tS_14 S), gI_of (tS_14 S), h13, C.kt.kd, nI_eq, t1, nI_ltI, Nat.not_lt_zero, if_pos hm9, if_neg z, gR_of (tS_14 S), rS_14_5 S, aI_of (tS_20 S), l0]
          exact C.ret 6
        · rw [if_neg t0]
          have hcl : cl ρ τ m = ρ 0 m := if_neg z
          rw [hcl] at lm e2
          have hal := P.rw.all 0 m
          have hmx : mxl m ≤ 1000 := by
            rcases (show m = 0 ∨ m = 1 ∨ m = 2 ∨ m = 3 ∨ m = 4 ∨ m = 5 ∨ m = 6 ∨ m = 7 ∨ m = 8 by omega) with w | w | w | w | w | w | w | w | w <;> subst w <;> decide
          have full : ¬ ρ 0 m < mxl m → OK (f_X4_readLine_68 h 14 (nI m)) (rK h0 r b n (.inl (5, sp b n i))) := by
            intro hf
            unfold f_X4_readLine_68
            simp (disch := omega) only [ob, nI_lit, eq_self, if_true, if_false, nI_10, n1_lt0, n1_ge0, eb_l, eb_r, gR_of (tS_14 S), rS_14_5 S, aI_of (tS_20 S), lm, hx, nI_ltI, if_neg hf]
            exact C.ret 5
          have head : ∀ {Q : Int32 × Mem → Prop}, OK (f_X4_readLine_68 h 14 (nI m)) Q → OK ((ck h 14 3).bind fun _ => (gI h 14 13 3).bind fun x1 => (gI h 14 11 3).bind fun x2 => (if x2 = 1 then (if x1 < 0 then f_X4_readLine_23 h 14 else (if x1 < 9 then (if x1 = 0 then (gR h 14 5 3).bind fun r48 => (aI h r48 0).bind fun x49 => (if x49 ≤ 0 then (if x1 = 0 then f_X4_readLine_68 h 14 x1 else (gR h 14 5 3).bind fun r43 => (aI h r43 0).bind fun x44 => (if x44 = 0 then (f_X4_fail h 14 6).bind fun q47 => retZ q47.1 (q47.1, q47.2) else f_X4_readLine_68 h 14 x1)) else (f_X4_fail h 14 3).bind fun q52 => retZ q52.1 (q52.1, q52.2)) else (if x1 = 0 then f_X4_readLine_68 h 14 x1 else (gR h 14 5 3).bind fun r43 => (aI h r43 0).bind fun x44 => (if x44 = 0 then (f_X4_fail h 14 6).bind fun q47 => retZ q47.1 (q47.1, q47.2) else f_X4_readLine_68 h 14 x1))) else f_X4_readLine_23 h 14)) else f_X4_readLine_23 h 14)) Q := by
            intro Q hQ
            simp (disch := omega) only [ob, nI_lit, eq_self, if_true, if_false, nI_10, n1_lt0, n1_ge0, eb_l, eb_r, ck_of (tS_14 S), gI_of (tS_14 S), h13, C.kt.kd, nI_eq, t1, nI_ltI, Nat.not_lt_zero, if_pos hm9, if_neg z, gR_of (tS_14 S), rS_14_5 S, aI_of (tS_20 S), l0, if_neg t0]
            exact hQ
          refine head ?_
          rcases (show m = 1 ∨ m = 2 ∨ m = 3 ∨ m = 4 ∨ m = 5 ∨ m = 6 ∨ m = 7 ∨ m = 8 by omega) with w | w | w | w | w | w | w | w
          · subst w
            rw [if_pos rfl]
            rcases Decidable.em (ρ 0 1 = 6) with g | g
            · rw [if_pos g]
              exact full (by rw [g]; decide)
            · rw [if_neg g]
              have kk := rL_ret (C2.lTune P rfl (by omega)) (fun s hs => l68_cl (XO.tune P hta g t0 hs) (fun w => by cases w))
              have hx : xAI (nI 1) = some (nI 6) := hx
              unfold f_X4_readLine_68
              simp (disch := omega) only [ob, nI_lit, eq_self, if_true, if_false, nI_10, n1_lt0, n1_ge0, eb_l, eb_r, gR_of (tS_14 S), rS_14_5 S, aI_of (tS_20 S), lm, hx, nI_ltI, if_pos, nI_add, sI_of (tS_20 S), e2, nI_eq, Nat.reduceEqDiff]
              exact kk
          · subst w
            rw [if_neg (by decide), if_pos rfl]
            rcases Decidable.em (ρ 0 2 = 7) with g | g
            · rw [if_pos g]
              exact full (by rw [g]; decide)
            · rw [if_neg g]
              have hnm := P.nm
              have kk := rL_ret (C2.lPlace (by omega) rfl (by omega)) (fun s hs => l68_cl (XO.place P hta g t0 hs) (fun w => by cases w))
              have hx : xAI (nI 2) = some (nI 7) := hx
              unfold f_X4_readLine_68
              simp (disch := omega) only [ob, nI_lit, eq_self, if_true, if_false, nI_10, n1_lt0, n1_ge0, eb_l, eb_r, gR_of (tS_14 S), rS_14_5 S, aI_of (tS_20 S), lm, hx, nI_ltI, if_pos, nI_add, sI_of (tS_20 S), e2, nI_eq, Nat.reduceEqDiff]
              exact kk
          · subst w
            rw [if_neg (by decide), if_neg (by decide), if_pos rfl]
            rcases Decidable.em (ρ 0 3 = 10) with g | g
            · rw [if_pos g]
              exact full (by rw [g]; decide)
            · rw [if_neg g]
              have kk := rL_ret (C2.lRoad P (by omega)) (fun s hs => l68_cl (XO.road P hta g t0 hs) (fun w => by cases w))
              have hx : xAI (nI 3) = some (nI 10) := hx
              unfold f_X4_readLine_68
              simp (disch := omega) only [ob, nI_lit, eq_self, if_true, if_false, nI_10, n1_lt0, n1_ge0, eb_l, eb_r, gR_of (tS_14 S), rS_14_5 S, aI_of (tS_20 S), lm, hx, nI_ltI, if_pos, nI_add, sI_of (tS_20 S), e2, nI_eq, Nat.reduceEqDiff]
              exact kk
          · subst w
            rw [if_neg (by decide), if_neg (by decide), if_neg (by decide), if_pos rfl]
            have kk := rL_ret (C2.lGate P) (fun s hs => l68_cl (XO.gate P hta (by omega) t0 hs) (fun w => by cases w))
            have hx : xAI (nI 4) = some (nI 1000) := hx
            unfold f_X4_readLine_68
            simp (disch := omega) only [ob, nI_lit, eq_self, if_true, if_false, nI_10, n1_lt0, n1_ge0, eb_l, eb_r, gR_of (tS_14 S), rS_14_5 S, aI_of (tS_20 S), lm, hx, nI_ltI, if_pos, nI_add, sI_of (tS_20 S), e2, nI_eq, Nat.reduceEqDiff]
            exact kk
          · subst w
            rw [if_neg (by decide), if_neg (by decide), if_neg (by decide), if_neg (by decide), if_pos rfl]
            rcases Decidable.em (ρ 0 5 = 6) with g | g
            · rw [if_pos g]
              exact full (by rw [g]; decide)
            · rw [if_neg g]
              have kk := rL_ret (C2.lInn P (by omega)) (fun s hs => l68_cl (XO.inn P hta g t0 hs) (fun w => by cases w))
              have hx : xAI (nI 5) = some (nI 6) := hx
              unfold f_X4_readLine_68
              simp (disch := omega) only [ob, nI_lit, eq_self, if_true, if_false, nI_10, n1_lt0, n1_ge0, eb_l, eb_r, gR_of (tS_14 S), rS_14_5 S, aI_of (tS_20 S), lm, hx, nI_ltI, if_pos, nI_add, sI_of (tS_20 S), e2, nI_eq, Nat.reduceEqDiff]
              exact kk
          · subst w
            rw [if_neg (by decide), if_neg (by decide), if_neg (by decide), if_neg (by decide), if_neg (by decide), if_pos rfl]
            rcases Decidable.em (ρ 0 6 = 4) with g | g
            · rw [if_pos g]
              exact full (by rw [g]; decide)
            · rw [if_neg g]
              have kk := rL_ret (C2.lPers P rfl (by omega)) (fun s hs => l68_cl (XO.pers P hta g t0 hs) (fun w => by cases w))
              have hx : xAI (nI 6) = some (nI 4) := hx
              unfold f_X4_readLine_68
              simp (disch := omega) only [ob, nI_lit, eq_self, if_true, if_false, nI_10, n1_lt0, n1_ge0, eb_l, eb_r, gR_of (tS_14 S), rS_14_5 S, aI_of (tS_20 S), lm, hx, nI_ltI, if_pos, nI_add, sI_of (tS_20 S), e2, nI_eq, Nat.reduceEqDiff]
              exact kk
          · subst w
            rw [if_neg (by decide), if_neg (by decide), if_neg (by decide), if_neg (by decide), if_neg (by decide), if_neg (by decide), if_pos rfl]
            rcases Decidable.em (ρ 0 7 = 8) with g | g
            · rw [if_pos g]
              exact full (by rw [g]; decide)
            · rw [if_neg g]
              have kk := rL_ret (C2.lKnow P) (fun s hs => l68_cl (XO.know P hta g t0 hs) (fun w => by cases w))
              have hx : xAI (nI 7) = some (nI 8) := hx
              unfold f_X4_readLine_68
              simp (disch := omega) only [ob, nI_lit, eq_self, if_true, if_false, nI_10, n1_lt0, n1_ge0, eb_l, eb_r, gR_of (tS_14 S), rS_14_5 S, aI_of (tS_20 S), lm, hx, nI_ltI, if_pos, nI_add, sI_of (tS_20 S), e2, nI_eq, Nat.reduceEqDiff]
              exact kk
          · subst w
            rw [if_neg (by decide), if_neg (by decide), if_neg (by decide), if_neg (by decide), if_neg (by decide), if_neg (by decide), if_neg (by decide)]
            rcases Decidable.em (ρ 0 8 = 5) with g | g
            · rw [if_pos g]
              exact full (by rw [g]; decide)
            · rw [if_neg g]
              have kk := rL_ret (C2.lHear P (by omega)) (fun s hs => l68_cl (XO.hear P hta g t0 hs) (fun w => by cases w))
              have hx : xAI (nI 8) = some (nI 5) := hx
              unfold f_X4_readLine_68
              simp (disch := omega) only [ob, nI_lit, eq_self, if_true, if_false, nI_10, n1_lt0, n1_ge0, eb_l, eb_r, gR_of (tS_14 S), rS_14_5 S, aI_of (tS_20 S), lm, hx, nI_ltI, if_pos, nI_add, sI_of (tS_20 S), e2, nI_eq, Nat.reduceEqDiff]
              exact kk
  · rw [if_neg t1]
    unfold f_X4_readLine f_X4_readLine_23
    simp (disch := omega) only [ob, nI_lit, eq_self, if_true, if_false, nI_10, n1_lt0, n1_ge0, eb_l, eb_r, ck_of (tS_14 S), gI_of (tS_14 S), C.kt.kd, nI_eq, if_neg t1]
    exact C.ret 1
end
