/-! ===== the class's table is filled ===== -/
section
variable {h : Mem} {r : Nat} {ρ : RO} {nd : Nat}
theorem and_eq_iff (b nd : Nat) : b ^^^ (b &&& nd) = 0 ↔ b &&& nd = b := by
  constructor
  · intro e
    refine Nat.eq_of_testBit_eq (fun i => ?_)
    have := congrArg (fun x => Nat.testBit x i) e
    simp only [Nat.testBit_xor, Nat.testBit_and, Nat.zero_testBit] at *
    revert this
    cases b.testBit i <;> cases nd.testBit i <;> decide
  · intro e
    rw [e, Nat.xor_self]
theorem c_fill (W : RW ρ) (G : SG h r ρ nd) (hnd : nd < 64) (hT : ∀ t, nd.testBit t = true → t < ρ 0 1) : ∀ b N U D, b < N → b < 64 → TB ρ nd (fun b' _ => b < b') U D → OK (iter (fun (s : Int32 × Mem) => b_X6_compose_33 s.2 43 r s.1) N (nI b, tbM h U D)) (fun h' => ∃ U' D', h' = tbM h U' D' ∧ TB ρ nd (fun b' _ => 0 < b') U' D') := by
  have htu := W.tu
  intro b
  induction b with
  | zero =>
    intro N U D hN hb T
    obtain ⟨N, rfl⟩ : ∃ M, N = M + 1 := ⟨N - 1, by omega⟩
    have e : b_X6_compose_33 (tbM h U D) 43 r (nI 0) = some (.inr (tbM h U D)) := by
      unfold b_X6_compose_33
      simp (disch := omega) only [ob, nI_lit, nI_add, pk_mul, nI_eq, nI_ltI, nI_leI, if_true, if_false, if_pos, if_neg]
    rw [iter_exit e]
    exact ⟨_, rfl, U, D, rfl, T⟩
  | succ b ih =>
    intro N U D hN hb T
    obtain ⟨N, rfl⟩ : ∃ M, N = M + 1 := ⟨N - 1, by omega⟩
    have p : OK (iter (fun (s : Int32 × Mem) => b_X6_compose_40 s.2 43 r (nI (b + 1)) s.1) FU (nI 0, tbM h U D)) (fun h' => ∃ U' D', h' = tbM h U' D' ∧ TB ρ nd (fun b' _ => b < b') U' D') := by
      refine iter_ok (fun l s => ∃ U' D', s = (nI l, tbM h U' D') ∧ TB ρ nd (fun b' l' => b + 1 < b' ∨ (b' = b + 1 ∧ l' < l)) U' D') (ρ 0 1) (FU_lt (by omega)) (fun l s hl hI => ?_) ⟨U, D, rfl, fun b' l' hs hq => T b' l' hs (by omega)⟩
      obtain ⟨U, D, rfl, T⟩ := hI
      show OK (b_X6_compose_40 (tbM h U D) 43 r (nI (b + 1)) (nI l)) _
      have G2 := G.tb U D
      have hxl : (b + 1) ^^^ ((b + 1) &&& nd) < 64 := Nat.xor_lt_two_pow (n := 6) hb (Nat.lt_of_le_of_lt Nat.and_le_left hb)
      have hx : nI (b + 1) &&& (nI nd ^^^ -nI 1) = nI ((b + 1) ^^^ ((b + 1) &&& nd)) := nI_anot (by omega) (by omega)
      rcases Nat.lt_or_ge l (ρ 0 1) with c | c
      · rcases Decidable.em ((b + 1) &&& nd = b + 1) with z | z
        · have z0 := (and_eq_iff _ _).2 z
          cases w : (b + 1).testBit l
          · have e : b_X6_compose_40 (tbM h U D) 43 r (nI (b + 1)) (nI l) = some (.inl (nI (l + 1), tbM h U D)) := by
              unfold b_X6_compose_40 f_X6_compose_78
              simp (disch := omega) only [ob, nI_lit, nI_add, pk_mul, nI_eq, nI_ltI, nI_leI, if_true, if_false, if_pos, if_neg, gI_of (tR G2.ct.rd.rd), G2.ct.rd.sc, gI_of (tS_43 G2.ct.sh), G2.nd, hx, z0, nI_bit, w, Bool.false_eq_true]
            rw [e]
            refine ⟨_, rfl, c, U, D, rfl, fun b' l' hs hq => ?_⟩
            rcases Decidable.em (b' = b + 1 ∧ l' = l) with y | y
            · rw [y.1, y.2] at hs
              rcases hs with hs | hs
              · exact absurd hs.1 (by omega)
              · rw [w] at hs
                exact absurd hs.2.2.2 (by decide)
            · exact T b' l' hs (by omega)
          · have T2 : TB ρ nd (fun b' _ => b + 1 < b') U D := fun b' l' hs hq => T b' l' hs (Or.inl hq)
            have e : b_X6_compose_40 (tbM h U D) 43 r (nI (b + 1)) (nI l) = some (.inl (nI (l + 1), tbM h (upd U ((b + 1) * 7 + l) (nI (bs ρ nd 6 (b + 1) l).2.length)) (upd D ((b + 1) * 7 + l) (nI (bs ρ nd 6 (b + 1) l).1 - nI 1)))) := by
              unfold b_X6_compose_40 f_X6_compose_78
              simp (disch := omega) only [ob, nI_lit, nI_add, pk_mul, nI_eq, nI_ltI, nI_leI, if_true, if_false, if_pos, if_neg, gI_of (tR G2.ct.rd.rd), G2.ct.rd.sc, gI_of (tS_43 G2.ct.sh), G2.nd, hx, z0, nI_bit, w, c_choose W G hnd hT T2 (Or.inr c) z]
            rw [e]
            refine ⟨_, rfl, c, _, _, rfl, fun b' l' hs hq => ?_⟩
            rcases Decidable.em (b' = b + 1 ∧ l' = l) with y | y
            · rw [y.1, y.2, pk_us, pk_us]
              exact ⟨rfl, rfl⟩
            · have hl6 : l' ≤ 6 := by
                rcases hs with hs | hs <;> omega
              rw [pk_un (by omega), pk_un (by omega)]
              exact T b' l' hs (by omega)
        · have z0 : ¬ (b + 1) ^^^ ((b + 1) &&& nd) = 0 := fun q => z ((and_eq_iff _ _).1 q)
          have e : b_X6_compose_40 (tbM h U D) 43 r (nI (b + 1)) (nI l) = some (.inl (nI (l + 1), tbM h U D)) := by
            unfold b_X6_compose_40 f_X6_compose_78
            simp (disch := omega) only [ob, nI_lit, nI_add, pk_mul, nI_eq, nI_ltI, nI_leI, if_true, if_false, if_pos, if_neg, gI_of (tR G2.ct.rd.rd), G2.ct.rd.sc, gI_of (tS_43 G2.ct.sh), G2.nd, hx, z0]
          rw [e]
          refine ⟨_, rfl, c, U, D, rfl, fun b' l' hs hq => ?_⟩
          rcases Decidable.em (b' = b + 1) with y | y
          · rw [y] at hs
            rcases hs with hs | hs
            · exact absurd hs.1 (by omega)
            · exact absurd hs.2.1 z
          · exact T b' l' hs (by omega)
      · have e : b_X6_compose_40 (tbM h U D) 43 r (nI (b + 1)) (nI l) = some (.inr (tbM h U D)) := by
          unfold b_X6_compose_40
          simp (disch := omega) only [ob, nI_lit, nI_add, pk_mul, nI_eq, nI_ltI, nI_leI, if_true, if_false, if_pos, if_neg, gI_of (tR G2.ct.rd.rd), G2.ct.rd.sc]
        rw [e]
        refine ⟨_, rfl, U, D, rfl, fun b' l' hs hq => ?_⟩
        rcases Decidable.em (b' = b + 1) with y | y
        · have hs2 := hs
          rcases hs2 with q | q
          · exact absurd q.1 (by omega)
          · have k : (b' &&& nd).testBit l' = true := by rw [q.2.1]; exact q.2.2.2
            rw [Nat.testBit_and, Bool.and_eq_true] at k
            have := hT l' k.2
            exact T b' l' hs (Or.inr ⟨y, by omega⟩)
        · exact T b' l' hs (by omega)
    obtain ⟨h', e, U', D', e2, T'⟩ := p
    have e3 : b_X6_compose_33 (tbM h U D) 43 r (nI (b + 1)) = some (.inl (nI b, tbM h U' D')) := by
      unfold b_X6_compose_33
      simp (disch := omega) only [ob, nI_lit, nI_add, pk_mul, nI_eq, nI_ltI, nI_leI, if_true, if_false, if_pos, if_neg, e, e2, nI_m1]
      rfl
    rw [iter_step e3]
    exact ih N U' D' (by omega) (by omega) T'
theorem wi_lt (W : RW ρ) {c : Nat} (hc : c < 2 ^ ρ 0 1) : wi ρ c < 64 ∧ ∀ t, (wi ρ c).testBit t = true → t < ρ 0 1 := by
  have hT : ∀ u, c.testBit u = true → u < ρ 0 1 := fun u hu => by
    rcases Nat.lt_or_ge u (ρ 0 1) with q | q
    · exact q
    · rw [Nat.testBit_lt_two_pow (Nat.lt_of_lt_of_le hc (two_le q))] at hu
      cases hu
  have h2 : ∀ t, (wi ρ c).testBit t = true → t < ρ 0 1 := fun t ht => hT t (wi_sub W hT ht)
  refine ⟨Nat.lt_pow_two_of_testBit (n := 6) _ (fun i hi => ?_), h2⟩
  cases q : (wi ρ c).testBit i
  · rfl
  · have := h2 i q
    have := W.tu
    omega
theorem c_compose (W : RW ρ) (C : CT h r ρ) (hr : r = 2 ∨ r = 21) (K : SK h ρ) {c : Nat} (h1 : 1 ≤ c) (hc : c < 2 ^ ρ 0 1) : OK (f_X6_compose h 43 r (nI c)) (fun h' => FQ [43, 44, 45, 46] h h' ∧ SK h' ρ ∧ SV h' ρ c) := by
  have htu := W.tu
  have h26 : 2 ^ ρ 0 1 ≤ 2 ^ 6 := two_le htu
  obtain ⟨k0, c0, hc0, k3, ks⟩ := K
  have S := C.sh
  have hK := hc0
  unfold f_X6_compose
  rcases Decidable.em (c0 = c) with e | e
  · subst e
    simp (disch := omega) only [ob, nI_lit, nI_add, pk_mul, nI_eq, nI_ltI, nI_leI, if_true, if_false, if_pos, if_neg, ck_of (tS_43 S), gI_of (tS_43 S), k3]
    exact ⟨h, rfl, FQ.rf _ h, ⟨k0, c0, hc0, k3, ks⟩, ks (by omega)⟩
  · obtain ⟨hnd, hT⟩ := wi_lt W hc
    obtain ⟨h2, e2⟩ : ∃ h2, wI h 43 3 (nI c) = h2 := ⟨_, rfl⟩
    obtain ⟨h4, e4⟩ : ∃ h4, wI h2 43 4 (nI (wi ρ c)) = h4 := ⟨_, rfl⟩
    have f2 : FQ [43] h h2 := e2 ▸ FQ.w h 3 _ (by decide)
    have f4 : FQ [43] h2 h4 := e4 ▸ FQ.w h2 4 _ (by decide)
    have C2 : CT h2 r ρ := C.fq f2 (fun k hk hq => by simp only [List.mem_cons, List.not_mem_nil, or_false] at hq; omega)
    have C4 : CT h4 r ρ := C2.fq f4 (fun k hk hq => by simp only [List.mem_cons, List.not_mem_nil, or_false] at hq; omega)
    have k43 : mI h4 43 3 = nI c ∧ mI h4 43 4 = nI (wi ρ c) := by
      rw [← e4, ← e2]
      refine ⟨?_, ?_⟩
      · rw [mI_wI_at, pk_un (by decide), mI_wI_at, pk_us]
      · rw [mI_wI_at, pk_us]
    obtain ⟨h5, e5, F, e6, hF, hK⟩ := c_overlaps W C4 hr
    have C5 : CT h5 r ρ := e6 ▸ C4.r44 hr F
    have f5 : FQ [44] h4 h5 := e6 ▸ FQ.row h4 F (by decide)
    have i43 : mI h5 43 = mI h4 43 := f5.2.2.2.2 43 (by decide)
    have i44 : mI h5 44 = F := by rw [e6, mI_row]
    have j44 : mI h4 44 = mI h 44 := by rw [f4.2.2.2.2 44 (by decide), f2.2.2.2.2 44 (by decide)]
    have o6 : ∀ u, u < 6 → mI h5 44 (36 + u) = nI 0 := fun u hu => by rw [i44, hK _ (by omega), j44, k0 u hu]
    have G : SG h5 r ρ (wi ρ c) := ⟨C5, hr, by rw [i43]; exact k43.2, fun t u ht hu => by rw [i44]; exact hF t u ht hu, o6⟩
    have T0 : TB ρ (wi ρ c) (fun b' _ => wi ρ c < b') (mI h5 45) (mI h5 46) := by
      intro b l hs hq
      exfalso
      rcases hs with q | q
      · omega
      · have := Nat.and_le_right (n := b) (m := wi ρ c)
        rw [q.2.1] at this
        omega
    have L := c_fill W G hnd hT (wi ρ c) FU _ _ (FU_lt (by omega)) hnd T0
    rw [tbM_id] at L
    obtain ⟨h6, e7, U, D, e8, T⟩ := L
    have hch := c_choose W G hnd hT (b := 0) (l := 6) T (Or.inl rfl) (Nat.zero_and _)
    simp (disch := omega) only [ob, nI_lit, nI_add, pk_mul, nI_eq, nI_ltI, nI_leI, if_true, if_false, if_pos, if_neg, ck_of (tS_43 S), gI_of (tS_43 S), k3, pI_of (tS_43 S), e2, c_without W C2 (show c < 64 by omega), pI_of (tS_43 C2.sh), e4, e5, gI_of (tS_43 C5.sh), G.nd, e7, e8, hch]
    have f6 : FQ [45, 46] h5 (tbM h5 (upd U (0 * 7 + 6) (nI (bs ρ (wi ρ c) 6 0 6).2.length)) (upd D (0 * 7 + 6) (nI (bs ρ (wi ρ c) 6 0 6).1 - nI 1))) := (FQ.row h5 _ (by decide)).tr (FQ.row _ _ (by decide))
    have sv : SV (tbM h5 (upd U (0 * 7 + 6) (nI (bs ρ (wi ρ c) 6 0 6).2.length)) (upd D (0 * 7 + 6) (nI (bs ρ (wi ρ c) 6 0 6).1 - nI 1))) ρ c := by
      have fin : TB ρ (wi ρ c) (fun _ _ => True) (upd U (0 * 7 + 6) (nI (bs ρ (wi ρ c) 6 0 6).2.length)) (upd D (0 * 7 + 6) (nI (bs ρ (wi ρ c) 6 0 6).1 - nI 1)) := by
        intro b l hs _
        rcases Decidable.em (b = 0) with z | z
        · have : l = 6 := by
            rcases hs with q | q
            · exact q.2
            · exact absurd z q.1
          rw [z, this, pk_us, pk_us]
          exact ⟨rfl, rfl⟩
        · have hl6 : l ≤ 6 := by
            rcases hs with hs | hs <;> omega
          rw [pk_un (by omega), pk_un (by omega)]
          exact T b l hs (by omega)
      refine ⟨hc, ?_, ?_, ?_, ?_⟩
      · rw [tbM_o _ _ _ (by decide) (by decide)]
        exact G.nd
      · rw [tbM_o _ _ _ (by decide) (by decide)]
        exact G.ov
      · intro b l hs
        rw [tbM_45]
        exact (fin b l hs trivial).1
      · intro b l hs
        rw [tbM_46]
        exact (fin b l hs trivial).2
    refine ⟨_, rfl, ?_, ⟨?_, c, by omega, ?_, fun _ => sv⟩, sv⟩
    · exact (f2.sub (by decide)).tr ((f4.sub (by decide)).tr ((f5.sub (by decide)).tr (f6.sub (by decide))))
    · rw [tbM_o _ _ _ (by decide) (by decide)]
      exact o6
    · rw [tbM_o _ _ _ (by decide) (by decide), i43]
      exact k43.1
end
