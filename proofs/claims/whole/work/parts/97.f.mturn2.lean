/-! ===== the reference's answer to a text ===== -/
def mU (a : AB) (p : Nat) (h : Mem) (e : FA ⊕ (RO × RO)) (q : Int32 × Mem) : Prop := FHi h q.2 ∧ match e with
  | .inl f => q.1 = -nI 1 ∧ IM q.2 (badA a f) ∧ mI q.2 55 1 = nI 4 ∧ mI q.2 55 2 = nI f.2
  | .inr s => q.1 = nI (s.1 0 2) ∧ IM q.2 (newA a p s.1 s.2) ∧ mI q.2 55 1 = nI 0 ∧ mI q.2 55 2 = -nI 1
def tkf (τ : RO) (i : Nat) (f : Nat → Int32) : Nat → Int32 := upd (upd (upd f (0 + i) (nI (τ 4 i))) (4 + i) (nI (τ 5 i))) (8 + i) (nI (τ 6 i))
theorem tkf_at (τ : RO) (f0 : Nat → Int32) : ∀ m, m ≤ 4 → (∀ w x, w < 3 → x < 4 → fo (tkf τ) f0 m (4 * w + x) = if x < m then nI (τ (4 + w) x) else f0 (4 * w + x)) ∧ ∀ j, 12 ≤ j → fo (tkf τ) f0 m j = f0 j
  | 0, _ => ⟨fun w x _ _ => by rw [if_neg (by omega)]; rfl, fun j _ => rfl⟩
  | m + 1, hm => by
    obtain ⟨i1, i2⟩ := tkf_at τ f0 m (by omega)
    refine ⟨fun w x hw hx => ?_, fun j hj => ?_⟩
    · have k := i1 w x hw hx
      show (if 4 * w + x = 8 + m then nI (τ 6 m) else if 4 * w + x = 4 + m then nI (τ 5 m) else if 4 * w + x = 0 + m then nI (τ 4 m) else fo (tkf τ) f0 m (4 * w + x)) = _
      have h3 : w = 0 ∨ w = 1 ∨ w = 2 := by omega
      rcases Decidable.em (x = m) with e | e
      · subst e
        rw [if_pos (show x < x + 1 by omega)]
        rcases h3 with e3 | e3 | e3 <;> subst e3
        · rw [if_neg (by omega), if_neg (by omega), if_pos (by omega)]
        · rw [if_neg (by omega), if_pos (by omega)]
        · rw [if_pos (by omega)]
      · rw [if_neg (by omega), if_neg (by omega), if_neg (by omega), k]
        rcases Nat.lt_or_ge x m with c | c
        · rw [if_pos c, if_pos (by omega)]
        · rw [if_neg (by omega), if_neg (by omega)]
    · show (if j = 8 + m then nI (τ 6 m) else if j = 4 + m then nI (τ 5 m) else if j = 0 + m then nI (τ 4 m) else fo (tkf τ) f0 m j) = _
      rw [if_neg (by omega), if_neg (by omega), if_neg (by omega)]
      exact i2 j hj
theorem m_bad {h h14 h15 : Mem} {a : AB} {f : FA} {p : Nat} (W : IW a) (M : IM h a) (hp : mN h = p) (F : FX p h h14) (v6 : mI h14 55 6 = nI 0) (O : MO h14 p f h15) (g : 1 ≤ f.1 ∧ f.1 ≤ 8) : OK (mTail h15 55) (mU a p h (.inl f)) := by
  have pp := O.pp
  have S15 := O.sh
  have F15 : FX p h h15 := F.tr (FX.fp pp O.fr)
  have t15 := tS_55 S15
  obtain ⟨q, eq⟩ : ∃ q, wI (wI h15 55 1 (nI 4)) 55 2 (nI f.2) = q := ⟨_, rfl⟩
  have Fq : FX p h q := by
    rw [← eq]
    exact (F15.tr (FX.w _ _ (by decide))).tr (FX.w _ _ (by decide))
  have Sq := Fq.sh pp M.sh
  have e55 : ∀ k, k ≠ 1 → k ≠ 2 → mI q 55 k = mI h15 55 k := by
    intro k k1 k2
    rw [← eq, mI_wI_at, pk_un k2, mI_wI_at, pk_un k1]
  refine ⟨(-nI 1, q), ?_, Fq.hi pp, rfl, ?_, ?_, ?_⟩
  · unfold mTail
    simp (disch := omega) only [ob, ck_d, pI_d, gI_d, gR_d, sI_n, aI_n, mT_wI, mR_wI, mI_if, nI_lit, nI_add, pk_mul, eq_self, true_and, and_true, if_true, if_pos, if_neg, t15, O.fl, O.fa, nI_leI, eq]
  · obtain ⟨-, k1, k2, k3, k4, k5, k6, k7, k8, k9, k10⟩ := M
    refine ⟨Sq, ?_, ?_, ?_, ?_, fun j hj => ?_, fun j hj => ?_, ?_, fun i hi => (Nat.not_lt_zero _ hi).elim, ?_, ?_⟩
    · rcases k1 with ⟨q1, q2⟩ | ⟨q1, ⟨-, q3, q4, q5⟩, q6, q7⟩
      · exact Or.inl ⟨q1, by rw [Fq.2.2.1 3 (by decide)]; exact q2⟩
      · have hno : ∀ k, k < 19 → a 2 0 2 + k < p ∧ a 2 0 2 + k ≠ 55 := fun k hk => by omega
        have q9 : MRd q (a 2 0 2) (a 0) := q5.fr (fun k hk => Fq.1 _ (hno k hk).1) (Fq.2.1 _ (hno 0 (by decide)).1 (hno 0 (by decide)).2).1 (fun k hk => (Fq.2.1 _ (hno k (by omega)).1 (hno k (by omega)).2).2.1)
        have hN := Fq.2.2.2.2
        exact Or.inr ⟨q1, ⟨Sq, by rw [Fq.2.2.1 3 (by decide)]; exact q3, q4, q9⟩, q6, Nat.le_trans q7 hN⟩
    · show rM (mI q 57) 0 (a 1)
      rw [(Fq.2.1 57 (by omega) (by decide)).2.1]; exact k2
    · rw [Fq.2.2.2.1 19 (by decide)]; exact k3
    · rw [Fq.2.2.2.1 20 (by decide)]; exact k4
    · rw [badA_i a f (i := 10 + j) (by omega), (Fq.2.1 58 (by omega) (by decide)).2.1]; exact k5 j hj
    · rw [badA_i a f (i := 30 + j) (by omega), (Fq.2.1 59 (by omega) (by decide)).2.1]; exact k6 j hj
    · rw [e55 6 (by decide) (by decide), O.fr.2.2.2 6 (by decide)]; exact v6
    · rw [e55 12 (by decide) (by decide)]; exact O.fl
    · rw [(Fq.2.1 65 (by omega) (by decide)).2.1]; exact k10
  · show mI q 55 1 = nI 4
    rw [← eq, mI_wI_at, pk_un (by decide), mI_wI_at, pk_us]
  · show mI q 55 2 = nI f.2
    rw [← eq, mI_wI_at, pk_us]
theorem m_new {h h14 h15 : Mem} {a : AB} {b : Nat → Nat} {n i p : Nat} {ρ τ : RO} (W : IW a) (M : IM h a) (hp : mN h = p) (F : FX p h h14) (v6 : mI h14 55 6 = nI 0) (n14 : p + 19 ≤ mN h14) (P : PV ρ τ) (h2 : 0 < ρ 0 2) (M15 : MS h14 p b n ρ τ i h15) : OK (mTail h15 55) (mU a p h (.inr (ρ, τ))) := by
  have pp := M15.pp
  have S15 := M15.mp.sh
  have F15 : FX p h h15 := F.tr (FX.fp pp M15.fr)
  have t15 := tS_55 S15
  have hpe := P.rw.pe
  have hpl := P.rw.pl
  obtain ⟨h18, e18⟩ : ∃ h18, wR h15 55 3 p = h18 := ⟨_, rfl⟩
  have T18 : mT h18 = mT h15 := by rw [← e18]; rfl
  have I18 : mI h18 = mI h15 := by rw [← e18]; rfl
  have L18 : mL h18 = mL h15 := by rw [← e18]; rfl
  have N18 : mN h18 = mN h15 := by rw [← e18]; rfl
  have R18 : ∀ x, x ≠ 55 → mR h18 x = mR h15 x := fun x hx => by rw [← e18, mR_wR_ne _ _ _ hx]
  have R3 : mR h18 55 3 = p := by rw [← e18, mR_wR]
  have Rk : ∀ k, k ≠ 3 → mR h18 55 k = mR h15 55 k := fun k hk => by
    rw [← e18, mR_wR_at]
    exact if_neg hk
  have S18 : SH h18 := S15.fr (fun x _ => by rw [T18]) (fun x _ _ h5 _ => R18 x h5) (fun k _ => by rw [R18 1 (by decide)]) (fun k _ => by rw [R18 14 (by decide)]) (fun k h3 _ => Rk k h3) (by rw [N18]; exact Nat.le_refl _)
  have B : MB h18 p ρ τ := M15.bo.fr (fun k _ => by rw [T18]) (R18 p (by omega)) (fun k _ => by rw [I18])
  have g55 : ∀ f k, gR (rowI h18 57 f) 55 k 11 = some (mR h18 55 k) := fun f k => gR_of (tS_55 (S18.row 57 f))
  have gp : ∀ f k, gR (rowI h18 57 f) p k 10 = some (mR h18 p k) := fun f k => gR_of (tP (h := rowI h18 57 f) B.pk)
  have ir : ∀ f x, x ≠ 57 → mI (rowI h18 57 f) x = mI h18 x := fun f x hx => mI_row_ne _ _ hx
  have gpi : ∀ f k, gI (rowI h18 57 f) p k 10 = some (mI h18 p k) := fun f k => by
    rw [gI_of (tP (h := rowI h18 57 f) B.pk), ir f p (by omega)]
  have a12 : ∀ f i, i < ρ 0 6 → aI (rowI h18 57 f) (p + 12) (nI i) = some (nI (τ 4 i)) := fun f i hi => by
    rw [aI_of (tP_12 (h := rowI h18 57 f) B.pk) (by omega) (by decide), ir f _ (by omega), B.at i hi]
  have a13 : ∀ f i, i < ρ 0 6 → aI (rowI h18 57 f) (p + 13) (nI i) = some (nI (τ 5 i)) := fun f i hi => by
    rw [aI_of (tP_13 (h := rowI h18 57 f) B.pk) (by omega) (by decide), ir f _ (by omega), B.co i hi]
  have a14 : ∀ f i, i < ρ 0 6 → aI (rowI h18 57 f) (p + 14) (nI i) = some (nI (τ 6 i)) := fun f i hi => by
    rw [aI_of (tP_14 (h := rowI h18 57 f) B.pk) (by omega) (by decide), ir f _ (by omega), B.kn i (by omega)]
  have s57 : ∀ f i v, i < 21 → sI (rowI h18 57 f) 57 (nI i) v = some (rowI h18 57 (upd f i v)) := fun f i v hi => by
    rw [sI_of (tS_57 (S18.row 57 f)) hi (by decide), rowI_wI]
  obtain ⟨F1, eF1⟩ : ∃ F1 : Nat → Int32, (fun j => if 0 ≤ j ∧ j < 0 + 21 then nI 0 else mI h18 57 j) = F1 := ⟨_, rfl⟩
  have l1 : iter (fun (s : Int32 × Mem) => b_X13_turnpike_99 s.2 55 s.1) FU (nI 0, rowI h18 57 (mI h18 57)) = some (rowI h18 57 F1) := by
    refine iter_fo (fun f i => (nI i, rowI h18 57 f)) (fun i f => upd f (0 + i) (nI 0)) (mI h18 57) 21 (FU_lt (by decide)) (fun i f hi => ?_) ?_
    · unfold b_X13_turnpike_99
      simp (disch := omega) only [ob, nI_lit, nI_add, pk_mul, nI_eq, nI_ltI, nI_leI, if_true, if_false, if_pos, if_neg, g55, rS_55_16 S18, s57, Nat.zero_add]
    · unfold b_X13_turnpike_99
      simp (disch := omega) only [ob, nI_lit, nI_add, pk_mul, nI_eq, nI_ltI, nI_leI, if_true, if_false, if_pos, if_neg]
      rw [fo_upd 0 (fun _ => nI 0), eF1]
  rw [rowI_id] at l1
  have l2 : iter (fun (s : Int32 × Mem) => b_X13_turnpike_120 s.2 55 s.1) FU (nI 0, rowI h18 57 F1) = some (rowI h18 57 (fo (tkf τ) F1 (ρ 0 6))) := by
    refine iter_fo (fun f i => (nI i, rowI h18 57 f)) (tkf τ) F1 (ρ 0 6) (FU_lt (by omega)) (fun i f hi => ?_) ?_
    · unfold b_X13_turnpike_120 tkf
      simp (disch := omega) only [ob, nI_lit, nI_add, pk_mul, nI_eq, nI_ltI, nI_leI, if_true, if_false, if_pos, if_neg, g55, gp, gpi, R3, B.sc, rS_55_16 S18, rP_21 B.pk, rP_22 B.pk, rP_23 B.pk, a12, a13, a14, s57]
    · unfold b_X13_turnpike_120
      simp (disch := omega) only [ob, nI_lit, nI_add, pk_mul, nI_eq, nI_ltI, nI_leI, if_true, if_false, if_pos, if_neg, g55, gpi, R3, B.sc]
  obtain ⟨F2, eF2⟩ : ∃ F2, fo (tkf τ) F1 (ρ 0 6) = F2 := ⟨_, rfl⟩
  rw [eF2] at l2
  obtain ⟨c1, c2⟩ := tkf_at τ F1 (ρ 0 6) hpe
  rw [eF2] at c1 c2
  have f1z : ∀ j, j < 21 → F1 j = nI 0 := fun j hj => by
    rw [← eF1]
    exact if_pos (by omega)
  obtain ⟨h41, e41⟩ : ∃ h41, wI (wI (rowI h18 57 F2) 55 19 (nI 0)) 55 20 (nI 0) = h41 := ⟨_, rfl⟩
  have S41 : SH h41 := by rw [← e41]; exact S18
  have R41 : mR h41 = mR h18 := by rw [← e41]; rfl
  have T41 : mT h41 = mT h18 := by rw [← e41]; rfl
  have I41 : ∀ x, x ≠ 55 → x ≠ 57 → mI h41 x = mI h18 x := fun x h5 h7 => by
    rw [← e41, mI_wI_ne _ _ _ h5, mI_wI_ne _ _ _ h5, mI_row_ne _ _ h7]
  obtain ⟨q, eq⟩ : ∃ q, wI (wI h41 55 1 (nI 0)) 55 2 (-nI 1) = q := ⟨_, rfl⟩
  have Sq : SH q := by rw [← eq]; exact S41
  have Rq : mR q = mR h18 := by rw [← eq]; exact R41
  have Tq : mT q = mT h18 := by rw [← eq]; exact T41
  have Lq : mL q = mL h18 := by rw [← eq, ← e41]; rfl
  have Nq : mN q = mN h18 := by rw [← eq, ← e41]; rfl
  have Iq : ∀ x, x ≠ 55 → x ≠ 57 → mI q x = mI h18 x := fun x h5 h7 => by
    rw [← eq, mI_wI_ne _ _ _ h5, mI_wI_ne _ _ _ h5, I41 x h5 h7]
  have I57 : mI q 57 = F2 := by
    rw [← eq, mI_wI_ne _ _ _ (by decide), mI_wI_ne _ _ _ (by decide), ← e41, mI_wI_ne _ _ _ (by decide), mI_wI_ne _ _ _ (by decide), mI_row]
  have I55 : ∀ k, k ≠ 1 → k ≠ 2 → k ≠ 19 → k ≠ 20 → mI q 55 k = mI h15 55 k := fun k k1 k2 k3 k4 => by
    rw [← eq, mI_wI_at, pk_un k2, mI_wI_at, pk_un k1, ← e41, mI_wI_at, pk_un k4, mI_wI_at, pk_un k3, mI_row_ne _ _ (by decide), I18]
  have v41 : mI h41 p 2 = nI (ρ 0 2) := by rw [I41 p (by omega) (by omega)]; exact B.sc 2 (by decide) (by decide)
  have t41 : mT h41 p = (10, 0) := by rw [T41]; exact tP B.pk
  have r41 : mR h41 55 3 = p := by rw [R41]; exact R3
  have hl : (nI 0 ≤ nI 0) = True := eq_true (by decide)
  have tr : mT (rowI h18 57 F2) 55 = (11, 0) := tS_55 S18
  refine ⟨(nI (ρ 0 2), q), ?_, ?_, rfl, ?_, ?_, ?_⟩
  · unfold mTail
    simp only [ob, nI_lit, gI_of t15, M15.fl, hl, if_true, gR_of t15, M15.rp, pR_of t15, e18, l1, l2, pI_of tr, pI_of (show mT (wI (rowI h18 57 F2) 55 19 (nI 0)) 55 = (11, 0) from tr), e41, gR_of (tS_55 S41), r41, gI_of t41, v41, m_good S41, eq]
  · refine (F15.hi pp).tr3 ⟨fun x _ => by rw [Tq, T18], fun x hx => ⟨by rw [Iq x (by omega) (by omega), I18], by rw [Rq, R18 x (by omega)], by rw [Lq, L18]⟩, by rw [Nq, N18]; exact Nat.le_refl _⟩
  · refine ⟨Sq, Or.inr ⟨h2, ⟨Sq, by rw [Rq]; exact R3, show p ≠ 0 by omega, ?_⟩, pp, ?_⟩, ?_, ?_, ?_, fun j hj => (Nat.not_lt_zero _ hj).elim, fun j hj => (Nat.not_lt_zero _ hj).elim, ?_, fun j hj => (Nat.not_lt_zero _ hj).elim, ?_, ?_⟩
    · show MRd q p ρ
      have Bq : MB q p ρ τ := B.fr (fun k _ => by rw [Tq]) (by rw [Rq]) (fun k _ => Iq _ (by omega) (by omega))
      have h31 : τ 3 1 ≠ 0 := fun e => by
        have := P.t0 e 2
        omega
      refine ⟨Bq.pk, fun k hk => ?_, Bq.len, Bq.note, fun x y hx hy => Bq.min x y (by omega) (by omega), fun x y hx hy => Bq.kd x y (by omega) (by omega), fun x y hx hy => Bq.gt x y (by omega) (by omega), Bq.e1, Bq.e2, Bq.i8, Bq.i9, Bq.i10, Bq.i11, Bq.hd⟩
      rcases Nat.eq_zero_or_pos k with e | e
      · subst e
        rw [Bq.rn, if_neg h31]
      · exact Bq.sc k e hk
    · show p + 19 ≤ mN q
      rw [Nq, N18, M15.fr.1.2.2]
      exact n14
    · refine ⟨fun x w hx hw => ?_, ?_⟩
      · show mI q 57 (0 + (4 * w + x)) = nI (τ (4 + w) x)
        rw [I57, Nat.zero_add]
        rcases Nat.lt_or_ge w 3 with c | c
        · rw [c1 w x c hx]
          rcases Nat.lt_or_ge x (ρ 0 6) with d | d
          · rw [if_pos d]
          · rw [if_neg (by omega), f1z _ (by omega), P.z w x c d]
        · rw [c2 _ (by omega), f1z _ (by omega)]
          have h3 : w = 3 ∨ w = 4 := by omega
          rcases h3 with e | e <;> subst e
          · rw [(P.zf x).1]
          · rw [(P.zf x).2]
      · show mI q 57 (0 + 20) = nI (τ 9 0)
        rw [I57, P.zr, c2 _ (by decide), f1z _ (by decide)]
    · show mI q 55 19 = nI 0
      rw [← eq, mI_wI_at, pk_un (by decide), mI_wI_at, pk_un (by decide), ← e41, mI_wI_at, pk_un (by decide), mI_wI_at, pk_us]
    · show mI q 55 20 = nI 0
      rw [← eq, mI_wI_at, pk_un (by decide), mI_wI_at, pk_un (by decide), ← e41, mI_wI_at, pk_us]
    · show mI q 55 6 = nI 0
      rw [I55 6 (by decide) (by decide) (by decide) (by decide), M15.fr.2.2.2 6 (by decide)]; exact v6
    · show mI q 55 12 = nI 0
      rw [I55 12 (by decide) (by decide) (by decide) (by decide)]; exact M15.fl
    · rw [Iq 65 (by decide) (by decide), I18, (F15.2.1 65 (by omega) (by decide)).2.1]; exact M.m0
  · show mI q 55 1 = nI 0
    rw [← eq, mI_wI_at, pk_un (by decide), mI_wI_at, pk_us]
  · show mI q 55 2 = -nI 1
    rw [← eq, mI_wI_at, pk_us]
theorem m_turn {h : Mem} {a : AB} (W : IW a) (M : IM h a) {n p : Nat} (hn : n ≤ a 2 0 6) (hp : mN h = p) : OK (f_X13_turnpike h 55 (nI n)) (mU a p h (pAll (a 3 0) n (n + 1) Z0 Z0 0)) := by
  obtain ⟨h14, h15, e, F, v6, n14, R⟩ := m_turn1 W M hn hp
  have hfd := W.fd
  have g := gb_all (b := a 3 0) (n := n) (by omega) (n + 1) Z0 Z0 0 PV.zero (Nat.zero_le n) (Nat.le_refl 0)
  rw [e]
  rcases w : pAll (a 3 0) n (n + 1) Z0 Z0 0 with f | s
  · rw [w] at R g
    exact m_bad W M hp F v6 R ⟨g.1, g.2.1⟩
  · rw [w] at R
    obtain ⟨P, h2, i, M15⟩ := R
    exact m_new W M hp F v6 n14 P h2 M15
