/-! ===== turnpike ===== -/
def AN (N : Nat) (a : AB) (z : Nat) (a' : AB) (z' : Nat) (g : Mem → Option (Int32 × Mem)) (v : Int32) : Prop := ∀ h, mN h = N → IM h a → mI h 55 1 = nI z → mI h 55 2 = (if z = 4 then nI (a 2 0 8) - nI 1 else -nI 1) → OK (g h) (fun q => q.1 = v ∧ FHi h q.2 ∧ IM q.2 a' ∧ mI q.2 55 1 = nI z' ∧ mI q.2 55 2 = if z' = 4 then nI (a' 2 0 8) - nI 1 else -nI 1)
theorem a2n {f g : Mem → Option (Int32 × Mem)} {h : Mem} (hI : INV h) (hq : ∀ a z, IW a → z ≤ 6 → ∃ a' v z', IW a' ∧ z' ≤ 6 ∧ AC a z a' z' f v ∧ AN (mN h) a z a' z' g v) : OK ((f h).bind fun q => (g q.2).bind fun q' => if q.1 = q'.1 then some q'.2 else none) INV := by
  obtain ⟨a, z, W, C, M, Z⟩ := hI
  obtain ⟨a', v, z', W', z6, qc, qm⟩ := hq a z W Z.lt
  obtain ⟨q1, e1, v1, f1, C1, t1⟩ := qc h C Z.c
  have M1 : IM q1.2 a := M.lo f1 C1.ct.sh
  have e55 := (f1.2.1 55 (by decide)).1
  obtain ⟨q3, e3, v3, f3, M3, t3, w3⟩ := qm q1.2 f1.2.2 M1 (by rw [e55]; exact Z.m) (by rw [e55]; exact Z.w)
  have C3 : IC q3.2 a' := C1.hi W' f3 M3.sh
  refine ⟨q3.2, ?_, a', z', W', C3, M3, z6, ?_, t3, w3⟩
  · rw [e1]
    show (g q1.2).bind _ = _
    rw [e3]
    show (if q1.1 = q3.1 then some q3.2 else none) = _
    rw [if_pos (by rw [v1, v3])]
  · rw [(f3.2.1 1 (by decide)).1]; exact t1
theorem qq_turn {a : AB} (W : IW a) (z N : Nat) (v : Int32) : ∃ a' v' z', IW a' ∧ z' ≤ 6 ∧ AC a z a' z' (fun h => f_X11_turnpike h 1 v) v' ∧ AN N a z a' z' (fun h => f_X13_turnpike h 55 v) v' := by
  have hfd := W.fd
  have three : v < nI 0 ∨ (¬ v < nI 0 ∧ ¬ v ≤ nI (a 2 0 6)) ∨ ∃ n, n ≤ a 2 0 6 ∧ v = nI n := by
    rcases Decidable.em (v < nI 0) with c | c
    · exact Or.inl c
    · rcases pk_ix v (n := a 2 0 6 + 1) (by omega) with q | q | ⟨n, q1, q2⟩
      · exact absurd q c
      · refine Or.inr (Or.inl ⟨c, fun q3 => ?_⟩)
        have k := Int32.le_trans q q3
        rw [nI_leI (by omega) (by omega)] at k
        omega
      · exact Or.inr (Or.inr ⟨n, by omega, q2⟩)
  rcases three with c | ⟨c, d⟩ | ⟨n, hn, e⟩
  · have c1 : (v < nI 0) = True := eq_true c
    refine ⟨a, -nI 1, 2, W, by decide, AC.ofQ W (fun h C => ?_) z, fun h _ => AM.ofQ (z := 2) (g := fun h => f_X13_turnpike h 55 v) (fun h M0 => ?_) (by decide) z h⟩
    · show OK (f_X11_turnpike h 1 v) _
      unfold f_X11_turnpike f_X11_turnpike_15
      simp only [ob, nI_lit, ck_of (tS_1 C.ct.sh), c1, if_true, c_refuse C.ct.sh]
      exact qc_end C _ _
    · show OK (f_X13_turnpike h 55 v) _
      unfold f_X13_turnpike f_X13_turnpike_17
      simp only [ck_of (tS_55 M0.sh), pI_of (tS_55 M0.sh), ob, nI_lit]; obtain ⟨h1, eh, M, F1⟩ : ∃ h1, wI h 55 0 (nI 0) = h1 ∧ IM h1 a ∧ FM h h1 := ⟨_, rfl, M0.th _, FM.w55 h _ (by decide)⟩; rw [eh]
      simp only [ob, c1, if_true, m_refused M.sh]
      exact qm_end F1 _ _
  · have c1 : (v < nI 0) = False := eq_false c
    have d1 : (v ≤ nI (a 2 0 6)) = False := eq_false d
    refine ⟨a, -nI 1, 2, W, by decide, AC.ofQ W (fun h C => ?_) z, fun h _ => AM.ofQ (z := 2) (g := fun h => f_X13_turnpike h 55 v) (fun h M0 => ?_) (by decide) z h⟩
    · show OK (f_X11_turnpike h 1 v) _
      unfold f_X11_turnpike f_X11_turnpike_15
      simp only [ob, nI_lit, ck_of (tS_1 C.ct.sh), c1, if_false, gR_of (tS_1 C.ct.sh), rS_1_2 C.ct.sh, gI_of (tS_14 C.ct.sh), C.fd, d1, c_refuse C.ct.sh]
      exact qc_end C _ _
    · show OK (f_X13_turnpike h 55 v) _
      unfold f_X13_turnpike f_X13_turnpike_17
      simp only [ck_of (tS_55 M0.sh), pI_of (tS_55 M0.sh), ob, nI_lit]; obtain ⟨h1, eh, M, F1⟩ : ∃ h1, wI h 55 0 (nI 0) = h1 ∧ IM h1 a ∧ FM h h1 := ⟨_, rfl, M0.th _, FM.w55 h _ (by decide)⟩; rw [eh]
      simp only [ob, c1, if_false, gI_of (tS_55 M.sh), M.fd, d1, m_refused M.sh]
      exact qm_end F1 _ _
  · subst e
    have g := gb_all (b := a 3 0) (n := n) (by omega) (n + 1) Z0 Z0 0 PV.zero (Nat.zero_le n) (Nat.le_refl 0)
    rcases w : pAll (a 3 0) n (n + 1) Z0 Z0 0 with f | s
    · rw [w] at g
      refine ⟨badA a f, -nI 1, 4, badA.iw W g (by omega), by decide, fun h C _ => ?_, fun h hN M _ _ => ?_⟩
      · have k := c_turn W C 0 hn
        rw [w] at k
        obtain ⟨q, e, F, k1, k2, k3⟩ := k
        exact ⟨q, e, k1, F, k2, k3⟩
      · have k := m_turn W M hn hN
        rw [w] at k
        obtain ⟨q, e, F, k1, k2, k3, k4⟩ := k
        refine ⟨q, e, k1, F, k2, k3, ?_⟩
        rw [if_pos rfl, k4]
        show nI f.2 = nI (f.2 + 1) - nI 1
        rw [pk_sub (by omega), Nat.add_sub_cancel]
    · obtain ⟨P, h2⟩ := pAll_pv (by omega) (n + 1) Z0 Z0 0 s PV.zero (Nat.zero_le n) (Nat.le_refl 0) w
      refine ⟨newA a N s.1 s.2, nI (s.1 0 2), 0, newA.iw W P h2, by decide, fun h C _ => ?_, fun h hN M _ _ => ?_⟩
      · have k := c_turn W C N hn
        rw [w] at k
        obtain ⟨q, e, F, k1, k2, k3⟩ := k
        exact ⟨q, e, k1, F, k2, k3⟩
      · have k := m_turn W M hn hN
        rw [w] at k
        obtain ⟨q, e, F, k1, k2, k3, k4⟩ := k
        refine ⟨q, e, k1, F, k2, k3, ?_⟩
        rw [if_neg (by decide)]
        exact k4
theorem st_1 : StepOK INV lc_1 := by
  intro sc L i h hL hi hI
  unfold lc_1
  simp only [show (1 : Int32) = nI 1 from rfl, show (2 : Int32) = nI 2 from rfl, show (3 : Int32) = nI 3 from rfl, show (4 : Int32) = nI 4 from rfl, show (5 : Int32) = nI 5 from rfl, nI_add, sc_at hL (show i + 1 < L by omega), sc_at hL (show i + 2 < L by omega), sc_at hL (show i + 3 < L by omega), sc_at hL (show i + 4 < L by omega), sc_at hL (show i + 5 < L by omega), ob]
  exact a2n (f := fun h => f_X11_turnpike h 1 (sc (i + 1))) (g := fun h => f_X13_turnpike h 55 (sc (i + 1))) hI (fun a z W hz => qq_turn W z _ _)
