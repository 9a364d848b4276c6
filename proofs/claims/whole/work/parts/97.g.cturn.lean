/-! ===== the class takes a text ===== -/
def cU (a : AB) (p : Nat) (h : Mem) (e : FA ⊕ (RO × RO)) (q : Int32 × Mem) : Prop := FLo h q.2 ∧ match e with
  | .inl f => q.1 = -nI 1 ∧ IC q.2 (badA a f) ∧ mI q.2 1 0 = nI 4
  | .inr s => q.1 = nI (s.1 0 2) ∧ IC q.2 (newA a p s.1 s.2) ∧ mI q.2 1 0 = nI 0
theorem CB.crd {h : Mem} {r : Nat} {ρ τ : RO} (B : CB h r ρ τ) (W : RW ρ) : CRd h r ρ := by
  have h1 := W.ro
  have h2 := W.pl
  exact ⟨B.rd, B.sc, B.len, B.note, B.e1, B.e2, B.min, fun j hj => B.kd j (by omega), fun j hj => B.gt j (by omega), fun x y hx hy => B.bt x y (by omega) (by omega), B.ip, B.hd⟩
theorem FR.sh {r : Nat} {h q : Mem} (f : FR r h q) (S : SH h) : SH q := by
  unfold SH at *
  rw [f.1.1, f.1.2.1, f.1.2.2]
  exact S
theorem c_bad {h h9 : Mem} {a : AB} {f : FA} (W : IW a) (C : IC h a) (O : CF h (a 2 0 1) f h9) : FLo h (wI h9 1 0 (nI 4)) ∧ IC (wI h9 1 0 (nI 4)) (badA a f) := by
  have F := O.fr
  have S9 := F.sh C.ct.sh
  have hrr := W.rr
  obtain ⟨q, eq⟩ : ∃ q, wI h9 1 0 (nI 4) = q := ⟨_, rfl⟩
  have Sq : SH q := by rw [← eq]; exact S9
  have Tq : mT q = mT h := by rw [← eq]; exact F.1.1
  have Rq : mR q = mR h := by rw [← eq]; exact F.1.2.1
  have Nq : mN q = mN h := by rw [← eq]; exact F.1.2.2
  have Lq : mL q 16 = mL h 16 := by rw [← eq]; exact F.2.2 16 (by decide) (by decide)
  have I14 : mI q 14 = mI h9 14 := by rw [← eq, mI_wI_ne _ _ _ (by decide)]
  have hno : ∀ x, x ≠ 1 → x ≠ 14 → x ≠ 18 → x ≠ 19 → x ≠ 20 → x < a 2 0 1 ∨ a 2 0 1 + 12 ≤ x → mI q x = mI h x := fun x x1 x2 x3 x4 x5 x6 => by
    rw [← eq, mI_wI_ne _ _ _ x1]
    exact F.2.1 x x2 x3 x4 x5 x6
  have hi : ∀ x, 33 ≤ x → mI q x = mI h x := fun x hx => hno x (by omega) (by omega) (by omega) (by omega) (by omega) (by omega)
  have e15 : mI q 15 = mI h 15 := hno 15 (by decide) (by decide) (by decide) (by decide) (by decide) (by omega)
  have eI2 : ∀ k, k < 12 → mI q (a 2 0 0 + k) = mI h (a 2 0 0 + k) := fun k hk => hno _ (by omega) (by omega) (by omega) (by omega) (by omega) (by omega)
  rw [eq]
  refine ⟨⟨fun x => by rw [Tq], fun x hx => ⟨hi x (by omega), by rw [Rq]⟩, Nq⟩, ?_⟩
  obtain ⟨⟨-, c1, c2, c3, c4⟩, k1, k2, k3, k4, k5, k6, k7, k8, k9, k10, k11, k12, k15, k13, k14⟩ := C
  refine ⟨⟨Sq, ?_, c2.fr (fun k hk => by rw [Tq]) (by rw [Rq]) (fun k hk => eI2 k (by omega)), ?_, ?_⟩, ?_, ?_, ?_, ?_, fun j hj => ?_, fun j hj => ?_, ?_, fun j hj => (Nat.not_lt_zero _ hj).elim, ?_, ?_, ?_, ?_, k15.fr (hi 43 (by decide)) (hi 44 (by decide)) (hi 45 (by decide)) (hi 46 (by decide)), k13.fr (hi 48 (by decide)) (hi 50 (by decide)), k14.fr (hi 52 (by decide)) (hi 53 (by decide))⟩
  · rw [Rq]; exact c1
  · show ∀ j, j < a 0 0 3 → mI q (a 2 0 0 + 10) j = _
    rw [eI2 10 (by decide)]; exact c3
  · show ∀ j, j < a 0 0 3 → mI q (a 2 0 0 + 10) (10 + j) = _
    rw [eI2 10 (by decide)]; exact c4
  · show rC (mI q 34) 0 (a 1)
    rw [hi 34 (by decide)]; exact k1
  · rw [hi 33 (by decide)]; exact k2
  · rw [hi 33 (by decide)]; exact k3
  · rw [hi 33 (by decide)]; exact k4
  · rw [badA_i a f (i := 10 + j) (by omega), hi 35 (by decide)]; exact k5 j hj
  · rw [badA_i a f (i := 30 + j) (by omega), hi 36 (by decide)]; exact k6 j hj
  · rw [I14]; exact O.fd
  · rw [I14]; exact O.fl
  · rw [I14, O.fa]
    show nI f.2 = nI (f.2 + 1) - nI 1
    rw [pk_sub (by omega), Nat.add_sub_cancel]
  · rw [Rq]; exact k11
  · rw [Lq]; exact k12
/-! ===== a road that was read becomes the ROAD ===== -/
theorem c_new {h h9 : Mem} {a : AB} {b : Nat → Nat} {n i p : Nat} {ρ τ : RO} {L : Nat → Nat} (W : IW a) (C : IC h a) (P : PV ρ τ) (M : CS h (a 2 0 1) b n ρ τ L i h9) (hn : n ≤ a 2 0 6) (e9 : f_X4_read h 14 (nI n) = some (nI 1, h9)) (h2 : 0 < ρ 0 2) : OK (f_X11_turnpike h 1 (nI n)) (cU a p h (.inr (ρ, τ))) := by
  have F := M.fr
  have S := C.ct.sh
  have S9 := F.sh S
  have hrr := W.rr
  have hfd := W.fd
  have hpl := P.rw.pl
  obtain ⟨r, er⟩ : ∃ r, a 2 0 1 = r := ⟨_, rfl⟩
  obtain ⟨r0, er0⟩ : ∃ r0, a 2 0 0 = r0 := ⟨_, rfl⟩
  rw [er, er0] at hrr
  rw [er] at M F
  have rp9 : mR h9 1 1 = r0 := by rw [F.1.2.1, C.ct.rp, er0]
  have rq9 : mR h9 14 6 = r := M.rp
  have C9 : CRd h9 r ρ := M.bo.crd P.rw
  obtain ⟨h14, e14⟩ : ∃ h14, wR h9 14 6 r0 = h14 := ⟨_, rfl⟩
  obtain ⟨h15, e15⟩ : ∃ h15, wR h14 1 1 r = h15 := ⟨_, rfl⟩
  have t14 : mT h14 1 = (9, 0) := by
    rw [← e14]
    show mT h9 1 = (9, 0)
    exact tS_1 S9
  have I15 : mI h15 = mI h9 := by rw [← e15, ← e14]; rfl
  have L15 : mL h15 = mL h9 := by rw [← e15, ← e14]; rfl
  have T15 : mT h15 = mT h9 := by rw [← e15, ← e14]; rfl
  have N15 : mN h15 = mN h9 := by rw [← e15, ← e14]; rfl
  have R15 : ∀ x, x ≠ 1 → x ≠ 14 → mR h15 x = mR h9 x := fun x x1 x2 => by rw [← e15, mR_wR_ne _ _ _ x1, ← e14, mR_wR_ne _ _ _ x2]
  have Ra : ∀ k, k ≠ 1 → mR h15 1 k = mR h9 1 k := fun k hk => by
    rw [← e15, mR_wR_at, ← e14]
    show (if k = 1 then r else mR (wR h9 14 6 r0) 1 k) = _
    rw [if_neg hk, mR_wR_ne _ _ _ (by decide)]
  have Rb : ∀ k, k ≠ 6 → mR h15 14 k = mR h9 14 k := fun k hk => by
    rw [← e15, mR_wR_ne _ _ _ (by decide), ← e14, mR_wR_at]
    exact if_neg hk
  have R11 : mR h15 1 1 = r := by rw [← e15, mR_wR]
  have R146 : mR h15 14 6 = r0 := by rw [← e15, mR_wR_ne _ _ _ (by decide), ← e14, mR_wR]
  have S15 : SH h15 := S9.fr (fun x _ => by rw [T15]) (fun x x1 x2 _ _ => R15 x x1 x2) (fun k hk => Ra k hk) (fun k hk => Rb k hk) (fun k _ _ => by rw [R15 55 (by decide) (by decide)]) (by rw [N15]; exact Nat.le_refl _)
  have C15 : CRd h15 r ρ := C9.fr (fun k _ => by rw [T15]) (R15 r (by omega) (by omega)) (fun k _ => by rw [I15])
  have ecp := cpI_of (sp := 0) (dp := 0) (n := 21) (tR_11 C15.rd) (tS_34 S15) (by decide) (by decide) (by decide) (by decide)
  obtain ⟨G, eG⟩ : ∃ G, va_cpy (mI h15 (r + 11)) (mI h15 34) 0 0 21 = G := ⟨_, rfl⟩
  rw [eG] at ecp
  have hG : ∀ k, k < 21 → G k = mI h9 (r + 11) k := fun k hk => by
    rw [← eG, I15]
    show (if 0 ≤ k ∧ k < 0 + 21 then mI h9 (r + 11) (0 + (k - 0)) else mI h9 34 k) = _
    rw [if_pos (by omega), Nat.zero_add, Nat.sub_zero]
  obtain ⟨h19, e19⟩ : ∃ h19, wI (wI (rowI h15 34 G) 33 4 (nI 0)) 33 5 (nI 0) = h19 := ⟨_, rfl⟩
  have S19 : SH h19 := by rw [← e19]; exact S15
  have T19 : mT h19 = mT h15 := by rw [← e19]; rfl
  have R19 : mR h19 = mR h15 := by rw [← e19]; rfl
  have L19 : mL h19 = mL h15 := by rw [← e19]; rfl
  have N19 : mN h19 = mN h15 := by rw [← e19]; rfl
  have I19 : ∀ x, x ≠ 33 → x ≠ 34 → mI h19 x = mI h15 x := fun x x1 x2 => by rw [← e19, mI_wI_ne _ _ _ x1, mI_wI_ne _ _ _ x1, mI_row_ne _ _ x2]
  have eb19 : f_X2_begin h15 33 (r + 11) = some h19 := by
    have t33 : mT (rowI h15 34 G) 33 = (1, 0) := tS_33 S15
    unfold f_X2_begin
    simp only [ob, nI_lit, ck_of (tS_33 S15), gR_of (tS_33 S15), rS_33_0 S15, ecp, pI_of t33, pI_of (show mT (wI (rowI h15 34 G) 33 4 (nI 0)) 33 = (1, 0) from t33), e19]
  have C19 : CRd h19 r ρ := C15.fr (fun k _ => by rw [T19]) (by rw [R19]) (fun k _ => I19 _ (by omega) (by omega))
  obtain ⟨Fg, eg, hg⟩ := c_gates P.rw C19
  obtain ⟨h21, e21⟩ : ∃ h21, rowI h19 (r + 10) Fg = h21 := ⟨_, rfl⟩
  rw [e21] at eg
  obtain ⟨h23, e23⟩ : ∃ h23, wI h21 43 3 (nI 0) = h23 := ⟨_, rfl⟩
  have S21 : SH h21 := by rw [← e21]; exact S19
  have S23 : SH h23 := by rw [← e23]; exact S21
  have T23 : mT h23 = mT h19 := by rw [← e23, ← e21]; rfl
  have R23 : mR h23 = mR h19 := by rw [← e23, ← e21]; rfl
  have L23 : mL h23 = mL h19 := by rw [← e23, ← e21]; rfl
  have N23 : mN h23 = mN h19 := by rw [← e23, ← e21]; rfl
  have I23 : ∀ x, x ≠ 43 → x ≠ r + 10 → mI h23 x = mI h19 x := fun x x1 x2 => by rw [← e23, mI_wI_ne _ _ _ x1, ← e21, mI_row_ne _ _ x2]
  have Ig : mI h23 (r + 10) = Fg := by rw [← e23, mI_wI_ne _ _ _ (by omega), ← e21, mI_row]
  have rr23 : r = 2 ∨ r = 21 := by omega
  have r23 : mR h23 1 1 = r := by rw [R23, R19]; exact R11
  have C23 : CT h23 r ρ := ⟨S23, r23, C19.fr (fun k _ => by rw [T23]) (by rw [R23]) (fun k _ => I23 _ (by omega) (by omega)), fun j hj => by rw [Ig]; exact (hg j hj).1, fun j hj => by rw [Ig]; exact (hg j hj).2⟩
  obtain ⟨h26, e26, F26, K26⟩ := c_pairs P.rw C23 rr23
  have S26 := F26.sh S23
  have I26 : ∀ x, x ≠ 48 → x ≠ 49 → x ≠ 50 → mI h26 x = mI h23 x := fun x x1 x2 x3 => F26.2.2.2.2 x (by simp [x1, x2, x3])
  have C26 : CT h26 r ρ := ⟨S26, by rw [F26.2.1]; exact r23, C23.rd.fr (fun k _ => by rw [F26.1]) (by rw [F26.2.1]) (fun k _ => I26 _ (by omega) (by omega) (by omega)), by rw [I26 (r + 10) (by omega) (by omega) (by omega)]; exact C23.l0, by rw [I26 (r + 10) (by omega) (by omega) (by omega)]; exact C23.l1⟩
  obtain ⟨h29, e29, F29, K29⟩ := c_stranger P.rw C26 rr23
  have S29 := F29.sh S26
  have I29 : ∀ x, x ≠ 52 → x ≠ 53 → mI h29 x = mI h26 x := fun x x1 x2 => F29.2.2.2.2 x (by simp [x1, x2])
  have r29 : mR h29 1 1 = r := by rw [F29.2.1]; exact C26.rp
  have C29 : CRd h29 r ρ := C26.rd.fr (fun k _ => by rw [F29.1]) (by rw [F29.2.1]) (fun k _ => I29 _ (by omega) (by omega))
  obtain ⟨q, eq⟩ : ∃ q, wI h29 1 0 (nI 0) = q := ⟨_, rfl⟩
  have Sq : SH q := by rw [← eq]; exact S29
  have Tq : mT q = mT h := by rw [← eq]; show mT h29 = _; rw [F29.1, F26.1, T23, T19, T15, F.1.1]
  have Rq : mR q = mR h15 := by rw [← eq]; show mR h29 = _; rw [F29.2.1, F26.2.1, R23, R19]
  have Lq : mL q = mL h9 := by rw [← eq]; show mL h29 = _; rw [F29.2.2.1, F26.2.2.1, L23, L19, L15]
  have Nq : mN q = mN h := by rw [← eq]; show mN h29 = _; rw [F29.2.2.2.1, F26.2.2.2.1, N23, N19, N15, F.1.2.2]
  have Iq : ∀ x, x ≠ 1 → mI q x = mI h29 x := fun x x1 => by rw [← eq, mI_wI_ne _ _ _ x1]
  have I9 : ∀ x, x ≠ 1 → x ≠ 33 → x ≠ 34 → x ≠ 43 → x ≠ r + 10 → x ≠ 48 → x ≠ 49 → x ≠ 50 → x ≠ 52 → x ≠ 53 → mI q x = mI h9 x := fun x x1 x2 x3 x4 x5 x6 x7 x8 x9 x10 => by
    rw [Iq x x1, I29 x x9 x10, I26 x x6 x7 x8, I23 x x4 x5, I19 x x2 x3, I15]
  have Iy : ∀ x, x = 33 ∨ x = 34 → mI q x = mI h19 x := fun x hx => by
    rw [Iq x (by omega), I29 x (by omega) (by omega), I26 x (by omega) (by omega) (by omega), I23 x (by omega) (by omega)]
  have I34 : mI q 34 = G := by rw [Iy 34 (Or.inr rfl), ← e19, mI_wI_ne _ _ _ (by decide), mI_wI_ne _ _ _ (by decide), mI_row]
  have I33 : ∀ k, mI q 33 k = if k = 5 then nI 0 else if k = 4 then nI 0 else mI h9 33 k := fun k => by
    rw [Iy 33 (Or.inl rfl), ← e19, mI_wI_at, mI_wI_at, mI_row_ne _ _ (by decide), I15]
    rfl
  have I43 : mI q 43 3 = nI 0 := by
    rw [Iq 43 (by decide), I29 43 (by decide) (by decide), I26 43 (by decide) (by decide) (by decide), ← e23, mI_wI_at, pk_us]
  have Fi : ∀ x, 33 ≤ x → mI h9 x = mI h x := fun x hx => F.2.1 x (by omega) (by omega) (by omega) (by omega) (by omega)
  have v29 : mI h29 r 2 = nI (ρ 0 2) := C29.sc 2 (by decide)
  have r19 : mR h19 1 1 = r := by rw [R19]; exact R11
  have n10 : (nI 1 = nI 0) = False := eq_false (by decide)
  refine ⟨(nI (ρ 0 2), q), ?_, ⟨fun x => by rw [Tq], fun x hx => ⟨by rw [I9 x (by omega) (by omega) (by omega) (by omega) (by omega) (by omega) (by omega) (by omega) (by omega) (by omega), Fi x (by omega)], by rw [Rq, R15 x (by omega) (by omega), F.1.2.1]⟩, Nq⟩, rfl, ?_, ?_⟩
  · unfold f_X11_turnpike f_X4_exchange f_X6_forget
    simp (disch := omega) only [ob, nI_lit, nI_ltI, nI_leI, if_neg, if_pos, if_false, n10, ck_of (tS_1 S), gR_of (tS_1 S), rS_1_2 S, gI_of (tS_14 S), C.fd, e9, gR_of (tS_1 S9), rS_1_2 S9, rp9, ck_of (tS_14 S9), gR_of (tS_14 S9), rq9, pR_of (tS_14 S9), e14, pR_of t14, e15, gR_of (tS_1 S15), rS_1_3 S15, R11, gR_of (tR C15.rd), rR_19 C15.rd, eb19, gR_of (tS_1 S19), r19, eg, gR_of (tS_1 S21), rS_1_6 S21, ck_of (tS_43 S21), pI_of (tS_43 S21), e23, gR_of (tS_1 S23), rS_1_7 S23, r23, e26, gR_of (tS_1 S26), rS_1_8 S26, C26.rp, e29, gR_of (tS_1 S29), r29, gI_of (tR C29.rd), v29, c_answer S29, eq]
  · refine ⟨⟨Sq, ?_, ?_, ?_, ?_⟩, ⟨fun x w hx hw => ?_, ?_⟩, ?_, ?_, ?_, fun j hj => (Nat.not_lt_zero _ hj).elim, fun j hj => (Nat.not_lt_zero _ hj).elim, ?_, fun j hj => (Nat.not_lt_zero _ hj).elim, ?_, ?_, ?_, ?_, ⟨fun u hu => ?_, 0, by decide, I43, fun q => absurd rfl q⟩, ?_, ?_⟩
    · show mR q 1 1 = a 2 0 1
      rw [Rq, er]; exact R11
    · show CRd q (a 2 0 1) ρ
      rw [er]
      exact C29.fr (fun k _ => by rw [← eq]; rfl) (by rw [← eq]; rfl) (fun k _ => Iq _ (by omega))
    · show ∀ j, j < ρ 0 3 → mI q (a 2 0 1 + 10) j = lk ρ j false
      rw [er, Iq _ (by omega), I29 _ (by omega) (by omega)]
      exact C26.l0
    · show ∀ j, j < ρ 0 3 → mI q (a 2 0 1 + 10) (10 + j) = lk ρ j true
      rw [er, Iq _ (by omega), I29 _ (by omega) (by omega)]
      exact C26.l1
    · show mI q 34 (0 + (x * 5 + w)) = nI (τ (4 + w) x)
      rw [I34, Nat.zero_add, hG _ (by omega)]
      exact M.bo.st x w hx hw
    · show mI q 34 (0 + 20) = nI (τ 9 0)
      rw [I34, hG _ (by decide)]
      exact M.bo.s2
    · show mI q 33 4 = nI 0
      rw [I33]; rfl
    · show mI q 33 3 = nI (a 2 0 4)
      rw [I33, if_neg (by decide), if_neg (by decide), Fi 33 (by decide)]; exact C.nx
    · show mI q 33 5 = nI 0
      rw [I33]; rfl
    · show mI q 14 15 = nI 0
      rw [I9 14 (by decide) (by decide) (by decide) (by decide) (by omega) (by decide) (by decide) (by decide) (by decide) (by decide)]; exact M.fd
    · show mI q 14 16 = nI 0
      rw [I9 14 (by decide) (by decide) (by decide) (by decide) (by omega) (by decide) (by decide) (by decide) (by decide) (by decide)]; exact M.fl
    · show mI q 14 17 = nI 0 - nI 1
      rw [I9 14 (by decide) (by decide) (by decide) (by decide) (by omega) (by decide) (by decide) (by decide) (by decide) (by decide), M.fa]; rfl
    · show mR q 14 6 = a 2 0 0
      rw [Rq, er0]; exact R146
    · rw [Lq, F.2.2 16 (by decide) (by decide)]; exact C.me
    · rw [I9 44 (by decide) (by decide) (by decide) (by decide) (by omega) (by decide) (by decide) (by decide) (by decide) (by decide), Fi 44 (by decide)]; exact C.so.1 u hu
    · exact K26.fr (by rw [Iq 48 (by decide), I29 48 (by decide) (by decide)]) (by rw [Iq 50 (by decide), I29 50 (by decide) (by decide)])
    · exact K29.fr (Iq 52 (by decide)) (Iq 53 (by decide))
  · show mI q 1 0 = nI 0
    rw [← eq, mI_wI_at, pk_us]
theorem c_turn {h : Mem} {a : AB} (W : IW a) (C : IC h a) {n : Nat} (p : Nat) (hn : n ≤ a 2 0 6) : OK (f_X11_turnpike h 1 (nI n)) (cU a p h (pAll (a 3 0) n (n + 1) Z0 Z0 0)) := by
  obtain ⟨⟨v, h9⟩, e9, R⟩ := c_read W C hn
  have hfd := W.fd
  rcases w : pAll (a 3 0) n (n + 1) Z0 Z0 0 with f | s
  · rw [w] at R
    obtain ⟨hv, O⟩ := R
    have hv : v = nI 0 := hv
    subst hv
    have S := C.ct.sh
    have O : CF h (a 2 0 1) f h9 := O
    have S9 := O.fr.sh S
    obtain ⟨F, I⟩ := c_bad W C O
    refine ⟨(-nI 1, wI h9 1 0 (nI 4)), ?_, F, rfl, I, ?_⟩
    · unfold f_X11_turnpike
      simp (disch := omega) only [ob, nI_lit, nI_ltI, nI_leI, if_neg, if_pos, if_true, ck_of (tS_1 S), gR_of (tS_1 S), rS_1_2 S, gI_of (tS_14 S), C.fd, e9, c_refuse S9]
    · show mI (wI h9 1 0 (nI 4)) 1 0 = nI 4
      rw [mI_wI_at, pk_us]
  · rw [w] at R
    obtain ⟨hv, P, h2, i, M⟩ := R
    have hv : v = nI 1 := hv
    subst hv
    exact c_new W C P M hn e9 h2
