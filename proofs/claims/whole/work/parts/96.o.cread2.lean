/-! ===== the class reads a text ===== -/
section
variable {b : Nat → Nat} {n : Nat} {ρ τ : RO} {i : Nat} {s : RO × RO × Nat}
theorem pLine_ok (P : PV ρ τ) (hi : i ≤ n) (hn : n ≤ 1000) (h4 : ρ 0 4 ≤ i) (e : pLine b n ρ τ i = .inr s) : PV s.1 s.2.1 ∧ i < s.2.2 ∧ s.2.2 ≤ n ∧ s.1 0 4 ≤ s.2.2 := by
  have key : tk b n i = 1 ∧ ∃ c, XO n ρ τ (ta b n i) c s := by
    unfold pLine at e
    rcases Decidable.em (tk b n i = 1) with t1 | t1
    · rw [if_pos t1] at e
      refine ⟨t1, ?_⟩
      have hta := ta_le b hi
      rcases Decidable.em (tM b n i = 1) with m1 | m1
      · rw [if_pos m1] at e
        rcases Decidable.em (τ 3 1 = 0) with h1 | h1
        · rw [if_pos h1] at e
          exact ⟨0, XO.turn P hta e⟩
        · rw [if_neg h1] at e
          cases e
      · rw [if_neg m1] at e
        rcases Decidable.em (tM b n i = 0 ∨ 10 ≤ tM b n i) with m0 | m0
        · rw [if_pos m0] at e
          cases e
        · rw [if_neg m0] at e
          rcases Decidable.em (τ 3 1 = 0) with h1 | h1
          · rw [if_pos h1] at e
            cases e
          · rw [if_neg h1] at e
            rcases Decidable.em (tM b n i = 2) with m2 | m2
            · rw [if_pos m2] at e
              rcases Decidable.em (ρ 0 1 = 6) with g | g
              · rw [if_pos g] at e
                cases e
              · rw [if_neg g] at e
                exact ⟨1, XO.tune P hta g h1 e⟩
            rw [if_neg m2] at e
            rcases Decidable.em (tM b n i = 3) with m3 | m3
            · rw [if_pos m3] at e
              rcases Decidable.em (ρ 0 2 = 7) with g | g
              · rw [if_pos g] at e
                cases e
              · rw [if_neg g] at e
                exact ⟨2, XO.place P hta g h1 e⟩
            rw [if_neg m3] at e
            rcases Decidable.em (tM b n i = 4) with m4 | m4
            · rw [if_pos m4] at e
              rcases Decidable.em (ρ 0 3 = 10) with g | g
              · rw [if_pos g] at e
                cases e
              · rw [if_neg g] at e
                exact ⟨3, XO.road P hta g h1 e⟩
            rw [if_neg m4] at e
            rcases Decidable.em (tM b n i = 5) with m5 | m5
            · rw [if_pos m5] at e
              exact ⟨4, XO.gate P hta (by omega) h1 e⟩
            rw [if_neg m5] at e
            rcases Decidable.em (tM b n i = 6) with m6 | m6
            · rw [if_pos m6] at e
              rcases Decidable.em (ρ 0 5 = 6) with g | g
              · rw [if_pos g] at e
                cases e
              · rw [if_neg g] at e
                exact ⟨5, XO.inn P hta g h1 e⟩
            rw [if_neg m6] at e
            rcases Decidable.em (tM b n i = 7) with m7 | m7
            · rw [if_pos m7] at e
              rcases Decidable.em (ρ 0 6 = 4) with g | g
              · rw [if_pos g] at e
                cases e
              · rw [if_neg g] at e
                exact ⟨6, XO.pers P hta g h1 e⟩
            rw [if_neg m7] at e
            rcases Decidable.em (tM b n i = 8) with m8 | m8
            · rw [if_pos m8] at e
              rcases Decidable.em (ρ 0 7 = 8) with g | g
              · rw [if_pos g] at e
                cases e
              · rw [if_neg g] at e
                exact ⟨7, XO.know P hta g h1 e⟩
            rw [if_neg m8] at e
            rcases Decidable.em (ρ 0 8 = 5) with g | g
            · rw [if_pos g] at e
              cases e
            · rw [if_neg g] at e
              exact ⟨8, XO.hear P hta g h1 e⟩
    · rw [if_neg t1] at e
      cases e
  obtain ⟨t1, c, X1, X2, X3, X4, X5⟩ := key
  have h1 := ta_gt t1
  have x4 := X4 4 (by decide)
  refine ⟨X1, by omega, X3, ?_⟩
  rw [x4]
  split <;> omega
end
abbrev Z0 : RO := fun _ _ => 0
theorem PV.zero : PV Z0 Z0 := by
  refine ⟨⟨?_, ?_, ?_, ?_, ?_, ?_, ?_, ?_, ?_, ?_, ?_, ?_, ?_, ?_, ?_, ?_, ?_, ?_, ?_, ?_⟩, ?_, ?_, ?_, ?_, ?_, ⟨?_, ?_, ?_, ?_, ?_⟩, ?_, ?_, ?_, ?_, ?_⟩
  all_goals simp [Z0]
theorem c_clear {h : Mem} {r : Nat} (R : RD h r) : OK (f_X5_clear h r) (fun h' => (mT h' = mT h ∧ mR h' = mR h ∧ mN h' = mN h ∧ mL h' = mL h) ∧ (∀ x, x < r ∨ r + 12 ≤ x → mI h' x = mI h x) ∧ (∀ k, k < 9 → mI h' r k = nI 0) ∧ (∀ j, j < 10 → mI h' (r + 5) j = -nI 1) ∧ (∀ j, j < 49 → mI h' (r + 7) j = -nI 1) ∧ ∀ j, j < 21 → mI h' (r + 11) j = nI 0) := by
  obtain ⟨h9, e9⟩ : ∃ h9, wI (wI (wI (wI (wI (wI (wI (wI (wI h r 0 (nI 0)) r 1 (nI 0)) r 2 (nI 0)) r 3 (nI 0)) r 4 (nI 0)) r 5 (nI 0)) r 6 (nI 0)) r 7 (nI 0)) r 8 (nI 0) = h9 := ⟨_, rfl⟩
  obtain ⟨h11, e11⟩ : ∃ h11, rowI h9 (r + 5) (fun j => if 0 ≤ j ∧ j < 0 + 10 then -nI 1 else mI h9 (r + 5) j) = h11 := ⟨_, rfl⟩
  obtain ⟨h13, e13⟩ : ∃ h13, rowI h11 (r + 7) (fun j => if 0 ≤ j ∧ j < 0 + 49 then -nI 1 else mI h11 (r + 7) j) = h13 := ⟨_, rfl⟩
  obtain ⟨h15, e15⟩ : ∃ h15, rowI h13 (r + 11) (fun j => if 0 ≤ j ∧ j < 0 + 21 then nI 0 else mI h13 (r + 11) j) = h15 := ⟨_, rfl⟩
  have R9 : RD h9 r := e9 ▸ R
  have R11 : RD h11 r := e11 ▸ R9
  have R13 : RD h13 r := e13 ▸ R11
  have x9 : ∀ x, x ≠ r → mI h9 x = mI h x := fun x hx => by
    rw [← e9, mI_wI_ne _ _ _ hx, mI_wI_ne _ _ _ hx, mI_wI_ne _ _ _ hx, mI_wI_ne _ _ _ hx, mI_wI_ne _ _ _ hx, mI_wI_ne _ _ _ hx, mI_wI_ne _ _ _ hx, mI_wI_ne _ _ _ hx, mI_wI_ne _ _ _ hx]
  have y9 : ∀ k, k < 9 → mI h9 r k = nI 0 := fun k hk => by
    rw [← e9]
    rcases (show k = 0 ∨ k = 1 ∨ k = 2 ∨ k = 3 ∨ k = 4 ∨ k = 5 ∨ k = 6 ∨ k = 7 ∨ k = 8 by omega) with w | w | w | w | w | w | w | w | w <;> subst w <;> simp [mI_if]
  have z11 : ∀ x, x ≠ r + 5 → mI h11 x = mI h9 x := fun x hx => by rw [← e11, mI_row_ne _ _ hx]
  have z13 : ∀ x, x ≠ r + 7 → mI h13 x = mI h11 x := fun x hx => by rw [← e13, mI_row_ne _ _ hx]
  have z15 : ∀ x, x ≠ r + 11 → mI h15 x = mI h13 x := fun x hx => by rw [← e15, mI_row_ne _ _ hx]
  have f1 := h_fill (tR_5 R9) (by decide) (-nI 1)
  have f2 := h_fill (tR_7 R11) (by decide) (-nI 1)
  have f3 := h_fill (tR_11 R13) (by decide) (nI 0)
  rw [e11] at f1
  rw [e13] at f2
  rw [e15] at f3
  refine ⟨h15, ?_, ⟨?_, ?_, ?_, ?_⟩, fun x hx => ?_, fun k hk => ?_, fun j hj => ?_, fun j hj => ?_, fun j hj => ?_⟩
  · unfold f_X5_clear
    simp only [ob, nI_lit, ck_d, pI_d, mT_wI, tR R, eq_self, if_true, e9, gR_of (tR R9), rR_13 R9, f1, gR_of (tR R11), rR_15 R11, f2, gR_of (tR R13), rR_19 R13, f3]
  · rw [← e15, ← e13, ← e11, ← e9]; rfl
  · rw [← e15, ← e13, ← e11, ← e9]; rfl
  · rw [← e15, ← e13, ← e11, ← e9]; rfl
  · rw [← e15, ← e13, ← e11, ← e9]; rfl
  · rw [z15 x (by omega), z13 x (by omega), z11 x (by omega), x9 x (by omega)]
  · rw [z15 r (by omega), z13 r (by omega), z11 r (by omega), y9 k hk]
  · rw [z15 _ (by omega), z13 _ (by omega), ← e11, mI_row]
    exact if_pos (by omega)
  · rw [z15 _ (by omega), ← e13, mI_row]
    exact if_pos (by omega)
  · rw [← e15, mI_row]
    exact if_pos (by omega)
theorem nI_0m1 : nI 0 - nI 1 = -nI 1 := by decide
theorem c_begin {h : Mem} {a : AB} (W : IW a) (C : IC h a) {n : Nat} (hn : n ≤ a 2 0 6) : OK (f_X4_begin h 14 (nI n)) (CS h (a 2 0 1) (a 3 0) n Z0 Z0 (cl Z0 Z0) 0) := by
  have S := C.ct.sh
  have hfd := W.fd
  have rr : a 2 0 1 = 2 ∨ a 2 0 1 = 21 := by
    rcases W.rr with q | q
    · exact Or.inr q.2
    · exact Or.inl q.2
  obtain ⟨r, er⟩ : ∃ r, a 2 0 1 = r := ⟨_, rfl⟩
  rw [er] at rr ⊢
  have hrp : mR h 14 6 = r := by rw [C.r2, er]
  have R : RD h r := by
    rcases rr with q | q
    · subst q
      exact ⟨tS_2 S, rS_2_9 S, rS_2_10 S, rS_2_11 S, rS_2_12 S, rS_2_13 S, rS_2_14 S, rS_2_15 S, rS_2_16 S, rS_2_17 S, rS_2_18 S, rS_2_19 S, tS_3 S, tS_4 S, tS_5 S, tS_6 S, tS_7 S, tS_8 S, tS_9 S, tS_10 S, tS_11 S, tS_12 S, tS_13 S⟩
    · subst q
      exact ⟨tS_21 S, rS_21_9 S, rS_21_10 S, rS_21_11 S, rS_21_12 S, rS_21_13 S, rS_21_14 S, rS_21_15 S, rS_21_16 S, rS_21_17 S, rS_21_18 S, rS_21_19 S, tS_22 S, tS_23 S, tS_24 S, tS_25 S, tS_26 S, tS_27 S, tS_28 S, tS_29 S, tS_30 S, tS_31 S, tS_32 S⟩
  obtain ⟨h2, c1, ⟨c2, c3, c4, c5⟩, c6, c7, c8, c9, c10⟩ := c_clear R
  have S2 : SH h2 := by
    unfold SH at *
    rw [c2, c3, c4]
    exact S
  obtain ⟨h4, e4⟩ : ∃ h4, rowI h2 20 (fun j => if 0 ≤ j ∧ j < 0 + 9 then nI 0 else mI h2 20 j) = h4 := ⟨_, rfl⟩
  have S4 : SH h4 := e4 ▸ S2
  have f4 := h_fill (tS_20 S2) (by decide) (nI 0)
  rw [e4] at f4
  obtain ⟨h11, e11⟩ : ∃ h11, wI (wI (wI (wI (wI (wI h4 14 7 (nI 0)) 14 8 (nI n)) 14 15 (nI 0)) 14 10 (nI 0)) 14 16 (nI 0)) 14 17 (-nI 1) = h11 := ⟨_, rfl⟩
  have S11 : SH h11 := e11 ▸ S4
  have z4 : ∀ x, x ≠ 20 → mI h4 x = mI h2 x := fun x hx => by rw [← e4, mI_row_ne _ _ hx]
  have x11 : ∀ x, x ≠ 14 → mI h11 x = mI h4 x := fun x hx => by
    rw [← e11, mI_wI_ne _ _ _ hx, mI_wI_ne _ _ _ hx, mI_wI_ne _ _ _ hx, mI_wI_ne _ _ _ hx, mI_wI_ne _ _ _ hx, mI_wI_ne _ _ _ hx]
  have hfed : mI (wI h4 14 7 (nI 0)) 14 15 = nI (a 2 0 6) := by
    rw [mI_wI_at, pk_un (by decide), z4 14 (by decide), c6 14 (by omega)]
    exact C.fd
  have hmin : mMin (nI n) (nI (a 2 0 6)) = nI n := by rw [mMin_n (by omega) (by omega), Nat.min_eq_left hn]
  have xT : mT h11 = mT h := by
    rw [← e11, ← e4]
    exact c2
  have xR : mR h11 = mR h := by
    rw [← e11, ← e4]
    exact c3
  have xN : mN h11 = mN h := by
    rw [← e11, ← e4]
    exact c4
  have xL : mL h11 = mL h := by
    rw [← e11, ← e4]
    exact c5
  have T : TP h11 (a 3 0) n := by
    refine ⟨S11, ?_, by omega, fun i hi => ?_, fun i hi => W.tp i (by omega), fun k hk => ?_⟩
    · rw [← e11]
      simp [mI_if]
    · rw [x11 15 (by decide), z4 15 (by decide), c6 15 (by omega)]
      exact C.tp i (by omega)
    · rw [xL]
      exact C.me k hk
  have h10 : mI h11 14 10 = nI 0 := by
    rw [← e11]
    simp [mI_if]
  obtain ⟨h12, e12, F, K⟩ := c_step T (Nat.zero_le n) h10
  have xI : ∀ x, x ≠ 14 → x ≠ 20 → mI h12 x = mI h2 x := fun x p q => by rw [F.2.1 x p, x11 x p, z4 x q]
  have B : CB h12 r Z0 Z0 := by
    have eI : ∀ k, k < 12 → mI h12 (r + k) = mI h2 (r + k) := fun k hk => xI _ (by omega) (by omega)
    have e0 := eI 0 (by decide)
    rw [Nat.add_zero] at e0
    refine ⟨R.fr (fun k _ => by rw [F.1.1, xT]) (by rw [F.1.2.1, xR]), ?_, ?_, ?_, ?_, ?_, ?_, ?_, ?_, ?_, ?_, ?_, ?_, ?_⟩
    · rw [e0]; exact c7
    · exact fun t ht => absurd ht (Nat.not_lt_zero _)
    · exact fun t i ht => absurd ht (Nat.not_lt_zero _)
    · exact fun t ht => absurd ht (Nat.not_lt_zero _)
    · exact fun t ht => absurd ht (Nat.not_lt_zero _)
    · exact fun t ht => absurd ht (Nat.not_lt_zero _)
    · intro j hj
      rw [eI 5 (by decide), c8 j hj]
      exact nI_0m1.symm
    · exact fun j _ hn => absurd rfl hn
    · intro p q hp hq
      rw [eI 7 (by decide), c9 _ (by omega)]
      exact nI_0m1.symm
    · exact fun t w ht => absurd ht (Nat.not_lt_zero _)
    · exact fun t ht => absurd ht (Nat.not_lt_zero _)
    · intro x w hx hw
      rw [eI 11 (by decide), c10 _ (by omega)]
    · rw [eI 11 (by decide), c10 _ (by omega)]
  refine ⟨h12, ?_, ⟨⟨F.1.1.trans xT, F.1.2.1.trans xR, F.1.2.2.trans xN⟩, fun x p1 p2 p3 p4 p5 => by rw [xI x p1 p4, c6 x p5], fun x p1 _ => by rw [F.2.2.1 x p1, xL]⟩, rr, T.ft F, K, Nat.zero_le n, by rw [F.1.2.1, xR]; exact hrp, B, ⟨?_, ?_, ?_, ?_⟩, fun k hk => ?_, ?_, ?_, ?_⟩
  · unfold f_X4_begin
    simp only [ob, nI_lit, ck_of (tS_14 S), gR_of (tS_14 S), hrp, c1, gR_of (tS_14 S2), rS_14_5 S2, f4, pI_d, gI_d, mT_wI, tS_14 S4, eq_self, if_true, hfed, hmin, e11, e12]
  · rw [F.2.2.2 7 (by decide) (by decide) (by decide) (by decide) (by decide), ← e11]
    simp [mI_if]
  · exact fun k hk => absurd hk (Nat.not_lt_zero _)
  · exact fun k hk => absurd hk (Nat.not_lt_zero _)
  · exact fun k hk => absurd hk (Nat.not_lt_zero _)
  · rw [F.2.1 20 (by decide), x11 20 (by decide), ← e4, mI_row]
    show (if 0 ≤ k ∧ k < 0 + 9 then nI 0 else mI h2 20 k) = _
    rw [if_pos (by omega)]
    unfold cl
    split <;> rfl
  · rw [F.2.2.2 15 (by decide) (by decide) (by decide) (by decide) (by decide), ← e11]
    simp [mI_if]
  · rw [F.2.2.2 16 (by decide) (by decide) (by decide) (by decide) (by decide), ← e11]
    simp [mI_if]
  · rw [F.2.2.2 17 (by decide) (by decide) (by decide) (by decide) (by decide), ← e11]
    simp [mI_if]
def rA (h0 : Mem) (r : Nat) (b : Nat → Nat) (n : Nat) (e : FA ⊕ (RO × RO)) (q : Int32 × Mem) : Prop := match e with
  | .inl f => q.1 = nI 0 ∧ CF h0 r f q.2
  | .inr s => q.1 = nI 1 ∧ PV s.1 s.2 ∧ 0 < s.1 0 2 ∧ ∃ i, CS h0 r b n s.1 s.2 (cl s.1 s.2) i q.2
theorem c_read {h : Mem} {a : AB} (W : IW a) (C : IC h a) {n : Nat} (hn : n ≤ a 2 0 6) : OK (f_X4_read h 14 (nI n)) (rA h (a 2 0 1) (a 3 0) n (pAll (a 3 0) n (n + 1) Z0 Z0 0)) := by
  have S := C.ct.sh
  have hfd := W.fd
  obtain ⟨h1, e1, C1⟩ := c_begin W C hn
  obtain ⟨r, er⟩ : ∃ r, a 2 0 1 = r := ⟨_, rfl⟩
  obtain ⟨b, eb0⟩ : ∃ b, a 3 0 = b := ⟨_, rfl⟩
  rw [er, eb0] at C1 ⊢
  obtain ⟨Rz, eR⟩ : ∃ Rz, pAll b n (n + 1) Z0 Z0 0 = Rz := ⟨_, rfl⟩
  rw [eR]
  have loop : OK (iter (fun (s : Int32 × Mem) => b_X4_read_7 s.2 14 s.1) FU (nI 0, h1)) (fun q => match q with
      | .inl e => ∃ f, Rz = .inl f ∧ CF h r f e
      | .inr (.inl e) => ∃ ρ τ i, CS h r b n ρ τ (cl ρ τ) i e ∧ PV ρ τ ∧ Rz = if 0 < ρ 0 2 then .inr (ρ, τ) else .inl (6, sp b n i)
      | .inr (.inr (.inl e)) => ∃ ρ τ i, CS h r b n ρ τ (cl ρ τ) i e ∧ Rz = .inl (1, sp b n i)
      | .inr (.inr (.inr _)) => False) := by
    refine iter_ok (fun k s => s.1 = nI k ∧ ∃ ρ τ i, CS h r b n ρ τ (cl ρ τ) i s.2 ∧ PV ρ τ ∧ ρ 0 4 ≤ i ∧ k ≤ i ∧ pAll b n (n + 1 - k) ρ τ i = Rz) n (FU_lt (by omega)) (fun k s hk hI => ?_) ⟨rfl, Z0, Z0, 0, C1, PV.zero, Nat.le_refl 0, Nat.le_refl 0, eR⟩
    obtain ⟨v, h2⟩ := s
    obtain ⟨rfl, ρ, τ, i, C2, P, h4, hki, hp⟩ := hI
    have C2 : CS h r b n ρ τ (cl ρ τ) i h2 := C2
    have S2 := C2.tp.sh
    have hle := C2.le
    obtain ⟨⟨v3, h3⟩, e3, k3⟩ := C2.line P h4
    rw [show n + 1 - k = (n - k) + 1 by omega] at hp
    unfold pAll at hp
    show OK (b_X4_read_7 h2 14 (nI k)) _
    unfold b_X4_read_7
    rcases e : pLine b n ρ τ i with f | s
    · rw [e] at k3 hp
      obtain ⟨rfl, k3⟩ := k3
      simp (disch := omega) only [ob, nI_lit, eq_self, if_true, if_false, nI_10, n1_lt0, n1_ge0, eb_l, eb_r, gI_of (tS_14 S2), C2.tp.en, nI_ltI, if_neg, e3]
      exact ⟨_, rfl, f, hp.symm, k3⟩
    · rw [e] at k3 hp
      obtain ⟨rfl, k3⟩ := k3
      have k3 : CS h r b n s.1 s.2.1 (cl s.1 s.2.1) s.2.2 h3 := k3
      obtain ⟨o1, o2, o3, o4⟩ := pLine_ok P hle C2.tp.n1 h4 e
      have S3 := k3.tp.sh
      have htk := tk_lt b n s.2.2
      rw [eb_r] at hp
      rcases Decidable.em (tk b n s.2.2 = 0) with t0 | t0
      · rw [if_pos t0] at hp
        simp (disch := omega) only [ob, nI_lit, eq_self, if_true, if_false, nI_10, n1_lt0, n1_ge0, eb_l, eb_r, gI_of (tS_14 S2), C2.tp.en, nI_ltI, if_neg, e3, gI_of (tS_14 S3), k3.kt.kd, nI_eq, t0]
        exact ⟨_, rfl, s.1, s.2.1, s.2.2, k3, o1, hp.symm⟩
      · rw [if_neg t0] at hp
        rcases Decidable.em (tk b n s.2.2 = 3) with t3 | t3
        · rw [if_pos t3] at hp
          have hgt := tk_end t3
          obtain ⟨h4', e4, k4⟩ := k3.step
          have hle4 := k4.le
          simp (disch := omega) only [ob, nI_lit, eq_self, if_true, if_false, nI_10, n1_lt0, n1_ge0, eb_l, eb_r, gI_of (tS_14 S2), C2.tp.en, nI_ltI, if_neg, e3, gI_of (tS_14 S3), k3.kt.kd, nI_eq, if_neg t0, t3, e4, nI_add]
          refine ⟨_, rfl, by omega, rfl, s.1, s.2.1, ta b n s.2.2, k4, o1, by omega, by omega, ?_⟩
          rw [show n + 1 - (k + 1) = n - k by omega]
          exact hp
        · rw [if_neg t3] at hp
          simp (disch := omega) only [ob, nI_lit, eq_self, if_true, if_false, nI_10, n1_lt0, n1_ge0, eb_l, eb_r, gI_of (tS_14 S2), C2.tp.en, nI_ltI, if_neg, e3, gI_of (tS_14 S3), k3.kt.kd, nI_eq, if_neg t0, if_neg t3]
          exact ⟨_, rfl, s.1, s.2.1, s.2.2, k3, hp.symm⟩
  obtain ⟨q, e2, hq⟩ := loop
  unfold f_X4_read f_X4_read_50
  simp only [ob, nI_lit, ck_of (tS_14 S), e1, e2]
  rcases q with e | e | e | e
  · obtain ⟨f, g1, g2⟩ := hq
    subst g1
    exact ⟨_, rfl, rfl, g2⟩
  · obtain ⟨ρ, τ, i, g1, g2, g3⟩ := hq
    have S3 := g1.tp.sh
    have hal := g2.rw.pl
    simp only [Sum.elim_inr, Sum.elim_inl]
    rcases Nat.eq_zero_or_pos (ρ 0 2) with z | z
    · rw [if_neg (by omega)] at g3
      subst g3
      obtain ⟨⟨v5, h5⟩, e5, k5, k6⟩ := g1.fail 6
      have k5 : v5 = nI 0 := k5
      subst k5
      simp (disch := omega) only [ob, nI_lit, eq_self, if_true, if_false, nI_10, n1_lt0, n1_ge0, eb_l, eb_r, gR_of (tS_14 S3), g1.rp, gI_of (tR g1.bo.rd), g1.bo.sc 2, z, nI_ltI, Nat.lt_irrefl, e5]
      exact ⟨_, rfl, rfl, k6⟩
    · rw [if_pos z] at g3
      subst g3
      simp (disch := omega) only [ob, nI_lit, eq_self, if_true, if_false, nI_10, n1_lt0, n1_ge0, eb_l, eb_r, gR_of (tS_14 S3), g1.rp, gI_of (tR g1.bo.rd), g1.bo.sc 2, nI_ltI, if_pos]
      exact ⟨_, rfl, rfl, g2, z, i, g1⟩
  · obtain ⟨ρ, τ, i, g1, g2⟩ := hq
    subst g2
    simp only [Sum.elim_inr, Sum.elim_inl]
    exact g1.ret 1
  · exact hq.elim
