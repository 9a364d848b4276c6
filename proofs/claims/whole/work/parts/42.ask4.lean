/-! ===== fault, where, size, trouble: nothing changes ===== -/
theorem q0 {f : Mem → Option Int32} {g : Mem → Option (Int32 × Mem)} {h : Mem} (hI : INV h) (hq : ∀ a z, IW a → IC h a → IM h a → IZ h a z → ∃ v, f h = some v ∧ g h = some (v, wI h 55 0 (nI 0))) : OK ((f h).bind fun q => (g h).bind fun q' => if q = q'.1 then some q'.2 else none) INV := by
  obtain ⟨a, z, W, C, M, Z⟩ := hI
  obtain ⟨v, e1, e2⟩ := hq a z W C M Z
  have f := FM.w55 h (k := 0) (nI 0) (by decide)
  have hne2 : ∀ x, x < 55 → x ∉ LM := by
    intro x hx hq
    simp only [LM, List.mem_cons, List.not_mem_nil, or_false] at hq
    omega
  have fI : ∀ x, x < 55 → mI (wI h 55 0 (nI 0)) x = mI h x := fun x hx => f.1.2.2.2.2 x (hne2 x hx)
  refine ⟨wI h 55 0 (nI 0), ?_, a, z, W, ?_, M.th _, Z.lt, ?_, ?_, ?_⟩
  · rw [e1]
    show (g h).bind _ = _
    rw [e2]
    show (if v = v then _ else none) = _
    rw [if_pos rfl]
  · exact C.fr W (f.1.sh M.sh) (fun x hx _ => fI x hx) rfl (fun _ _ => rfl) (fun _ _ => rfl) (C.so.fr (fI 43 (by decide)) (fI 44 (by decide)) (fI 45 (by decide)) (fI 46 (by decide)))
  · rw [fI 1 (by decide)]; exact Z.c
  · rw [mI_wI_at, pk_un (by decide)]; exact Z.m
  · rw [mI_wI_at, pk_un (by decide)]; exact Z.w
theorem st_2 : StepOK INV lc_2 := by
  intro sc L i h hL hi hI
  unfold lc_2
  refine q0 (f := fun h => f_X11_fault h 1) (g := fun h => f_X13_fault h 55) hI (fun a z W C M Z => ⟨nI (a 2 0 7), ?_, ?_⟩)
  · unfold f_X11_fault
    simp only [ob, nI_lit, nI_add, pk_mul, nI_eq, nI_ltI, nI_leI, if_true, if_false, if_pos, if_neg, ck_of (tS_1 C.ct.sh), gR_of (tS_1 C.ct.sh), gI_of (tS_1 C.ct.sh), pI_of (tS_1 C.ct.sh), C.ct.rp, rS_1_2 C.ct.sh, rS_1_3 C.ct.sh, rS_1_4 C.ct.sh, rS_1_5 C.ct.sh, rS_1_6 C.ct.sh, rS_1_7 C.ct.sh, rS_1_8 C.ct.sh, rS_1_9 C.ct.sh, ck_of (tR C.ct.rd.rd), gR_of (tR C.ct.rd.rd), gI_of (tR C.ct.rd.rd), rR_9 C.ct.rd.rd, rR_10 C.ct.rd.rd, rR_11 C.ct.rd.rd, rR_12 C.ct.rd.rd, rR_13 C.ct.rd.rd, rR_14 C.ct.rd.rd, rR_15 C.ct.rd.rd, rR_16 C.ct.rd.rd, rR_17 C.ct.rd.rd, rR_18 C.ct.rd.rd, rR_19 C.ct.rd.rd, aI_of (tR_1 C.ct.rd.rd), aI_of (tR_2 C.ct.rd.rd), aI_of (tR_3 C.ct.rd.rd), aI_of (tR_4 C.ct.rd.rd), aI_of (tR_5 C.ct.rd.rd), aI_of (tR_6 C.ct.rd.rd), aI_of (tR_7 C.ct.rd.rd), aI_of (tR_8 C.ct.rd.rd), aI_of (tR_9 C.ct.rd.rd), C.ct.rd.sc, C.ct.rd.len, C.ct.rd.e1, C.ct.rd.e2, C.ct.rd.min, C.ct.rd.kd, C.ct.rd.gt, C.ct.rd.bt, C.ct.rd.ip, C.ct.rd.hd, c_refuse C.ct.sh, c_answer C.ct.sh, gI_of (tS_14 C.ct.sh), C.fl]
  · unfold f_X13_fault
    simp only [ob, nI_lit, nI_add, pk_mul, nI_eq, nI_ltI, nI_leI, if_true, if_false, if_pos, if_neg, ck_of (tS_55 M.sh), pI_of (tS_55 M.sh), gI_of (tS_55 (M.sh.wI _ _ _)), mI_wI_at, pk_un (show (12 : Nat) ≠ 0 by decide), M.fl]
theorem st_3 : StepOK INV lc_3 := by
  intro sc L i h hL hi hI
  unfold lc_3
  refine q0 (f := fun h => f_X11_where h 1) (g := fun h => f_X13_where h 55) hI (fun a z W C M Z => ⟨if z = 4 then nI (a 2 0 8) - nI 1 else -nI 1, ?_, ?_⟩)
  · have := Z.lt
    unfold f_X11_where
    simp only [ob, nI_lit, nI_add, pk_mul, nI_eq, nI_ltI, nI_leI, if_true, if_false, if_pos, if_neg, ck_of (tS_1 C.ct.sh), gR_of (tS_1 C.ct.sh), gI_of (tS_1 C.ct.sh), pI_of (tS_1 C.ct.sh), C.ct.rp, rS_1_2 C.ct.sh, rS_1_3 C.ct.sh, rS_1_4 C.ct.sh, rS_1_5 C.ct.sh, rS_1_6 C.ct.sh, rS_1_7 C.ct.sh, rS_1_8 C.ct.sh, rS_1_9 C.ct.sh, ck_of (tR C.ct.rd.rd), gR_of (tR C.ct.rd.rd), gI_of (tR C.ct.rd.rd), rR_9 C.ct.rd.rd, rR_10 C.ct.rd.rd, rR_11 C.ct.rd.rd, rR_12 C.ct.rd.rd, rR_13 C.ct.rd.rd, rR_14 C.ct.rd.rd, rR_15 C.ct.rd.rd, rR_16 C.ct.rd.rd, rR_17 C.ct.rd.rd, rR_18 C.ct.rd.rd, rR_19 C.ct.rd.rd, aI_of (tR_1 C.ct.rd.rd), aI_of (tR_2 C.ct.rd.rd), aI_of (tR_3 C.ct.rd.rd), aI_of (tR_4 C.ct.rd.rd), aI_of (tR_5 C.ct.rd.rd), aI_of (tR_6 C.ct.rd.rd), aI_of (tR_7 C.ct.rd.rd), aI_of (tR_8 C.ct.rd.rd), aI_of (tR_9 C.ct.rd.rd), C.ct.rd.sc, C.ct.rd.len, C.ct.rd.e1, C.ct.rd.e2, C.ct.rd.min, C.ct.rd.kd, C.ct.rd.gt, C.ct.rd.bt, C.ct.rd.ip, C.ct.rd.hd, c_refuse C.ct.sh, c_answer C.ct.sh, gI_of (tS_14 C.ct.sh), Z.c, C.wa]
    rcases Decidable.em (z = 4) with e | e
    · simp only [e, if_true]
    · simp (disch := omega) only [if_neg, nI_eq]
  · unfold f_X13_where
    simp only [ob, nI_lit, nI_add, pk_mul, nI_eq, nI_ltI, nI_leI, if_true, if_false, if_pos, if_neg, ck_of (tS_55 M.sh), pI_of (tS_55 M.sh), gI_of (tS_55 (M.sh.wI _ _ _)), mI_wI_at, pk_un (show (2 : Nat) ≠ 0 by decide), Z.w]
theorem st_50 : StepOK INV lc_50 := by
  intro sc L i h hL hi hI
  unfold lc_50
  refine q0 (f := fun h => f_X11_trouble h 1) (g := fun h => f_X13_trouble h 55) hI (fun a z W C M Z => ⟨nI z, ?_, ?_⟩)
  · unfold f_X11_trouble
    simp only [ob, nI_lit, nI_add, pk_mul, nI_eq, nI_ltI, nI_leI, if_true, if_false, if_pos, if_neg, ck_of (tS_1 C.ct.sh), gR_of (tS_1 C.ct.sh), gI_of (tS_1 C.ct.sh), pI_of (tS_1 C.ct.sh), C.ct.rp, rS_1_2 C.ct.sh, rS_1_3 C.ct.sh, rS_1_4 C.ct.sh, rS_1_5 C.ct.sh, rS_1_6 C.ct.sh, rS_1_7 C.ct.sh, rS_1_8 C.ct.sh, rS_1_9 C.ct.sh, ck_of (tR C.ct.rd.rd), gR_of (tR C.ct.rd.rd), gI_of (tR C.ct.rd.rd), rR_9 C.ct.rd.rd, rR_10 C.ct.rd.rd, rR_11 C.ct.rd.rd, rR_12 C.ct.rd.rd, rR_13 C.ct.rd.rd, rR_14 C.ct.rd.rd, rR_15 C.ct.rd.rd, rR_16 C.ct.rd.rd, rR_17 C.ct.rd.rd, rR_18 C.ct.rd.rd, rR_19 C.ct.rd.rd, aI_of (tR_1 C.ct.rd.rd), aI_of (tR_2 C.ct.rd.rd), aI_of (tR_3 C.ct.rd.rd), aI_of (tR_4 C.ct.rd.rd), aI_of (tR_5 C.ct.rd.rd), aI_of (tR_6 C.ct.rd.rd), aI_of (tR_7 C.ct.rd.rd), aI_of (tR_8 C.ct.rd.rd), aI_of (tR_9 C.ct.rd.rd), C.ct.rd.sc, C.ct.rd.len, C.ct.rd.e1, C.ct.rd.e2, C.ct.rd.min, C.ct.rd.kd, C.ct.rd.gt, C.ct.rd.bt, C.ct.rd.ip, C.ct.rd.hd, c_refuse C.ct.sh, c_answer C.ct.sh, Z.c]
  · unfold f_X13_trouble
    simp only [ob, nI_lit, nI_add, pk_mul, nI_eq, nI_ltI, nI_leI, if_true, if_false, if_pos, if_neg, ck_of (tS_55 M.sh), pI_of (tS_55 M.sh), gI_of (tS_55 (M.sh.wI _ _ _)), mI_wI_at, pk_un (show (1 : Nat) ≠ 0 by decide), Z.m]
theorem st_49 : StepOK INV lc_49 := by
  intro sc L i h hL hi hI
  unfold lc_49
  simp only [show (1 : Int32) = nI 1 from rfl, show (2 : Int32) = nI 2 from rfl, show (3 : Int32) = nI 3 from rfl, show (4 : Int32) = nI 4 from rfl, show (5 : Int32) = nI 5 from rfl, nI_add, sc_at hL (show i + 1 < L by omega), sc_at hL (show i + 2 < L by omega), sc_at hL (show i + 3 < L by omega), sc_at hL (show i + 4 < L by omega), sc_at hL (show i + 5 < L by omega), ob]
  generalize sc (i + 1) = x
  refine q0 (f := fun h => f_X11_size h 1 x) (g := fun h => f_X13_size h 55 x) hI (fun a z W C M0 Z => ?_)
  have hr := W.nf.rn
  obtain ⟨h1, eh, M⟩ : ∃ h1, wI h 55 0 (nI 0) = h1 ∧ IM h1 a := ⟨_, rfl, M0.th _⟩
  rcases hx : ix 13 x with _ | _
  · refine ⟨-nI 1, ?_, ?_⟩
    · unfold f_X11_size
      rcases ix_f hx (by decide) with e | ⟨e, e2, -⟩
      · have hn : ∀ k, k < 13 → x ≠ nI k := fun k hk q => by
          rw [q] at e
          exact nI_pos (by omega) e
        simp [ob, nI_lit, nI_add, pk_mul, nI_eq, nI_ltI, nI_leI, if_true, if_false, if_pos, if_neg, ck_of (tS_1 C.ct.sh), gR_of (tS_1 C.ct.sh), gI_of (tS_1 C.ct.sh), pI_of (tS_1 C.ct.sh), C.ct.rp, rS_1_2 C.ct.sh, rS_1_3 C.ct.sh, rS_1_4 C.ct.sh, rS_1_5 C.ct.sh, rS_1_6 C.ct.sh, rS_1_7 C.ct.sh, rS_1_8 C.ct.sh, rS_1_9 C.ct.sh, ck_of (tR C.ct.rd.rd), gR_of (tR C.ct.rd.rd), gI_of (tR C.ct.rd.rd), rR_9 C.ct.rd.rd, rR_10 C.ct.rd.rd, rR_11 C.ct.rd.rd, rR_12 C.ct.rd.rd, rR_13 C.ct.rd.rd, rR_14 C.ct.rd.rd, rR_15 C.ct.rd.rd, rR_16 C.ct.rd.rd, rR_17 C.ct.rd.rd, rR_18 C.ct.rd.rd, rR_19 C.ct.rd.rd, aI_of (tR_1 C.ct.rd.rd), aI_of (tR_2 C.ct.rd.rd), aI_of (tR_3 C.ct.rd.rd), aI_of (tR_4 C.ct.rd.rd), aI_of (tR_5 C.ct.rd.rd), aI_of (tR_6 C.ct.rd.rd), aI_of (tR_7 C.ct.rd.rd), aI_of (tR_8 C.ct.rd.rd), aI_of (tR_9 C.ct.rd.rd), C.ct.rd.sc, C.ct.rd.len, C.ct.rd.e1, C.ct.rd.e2, C.ct.rd.min, C.ct.rd.kd, C.ct.rd.gt, C.ct.rd.bt, C.ct.rd.ip, C.ct.rd.hd, c_refuse C.ct.sh, c_answer C.ct.sh, hn]
      · have hn : ∀ k, k < 13 → x ≠ nI k := fun k hk q => by
          rw [q] at e2
          exact e2 (nI_lt hk (by decide))
        simp [ob, nI_lit, nI_add, pk_mul, nI_eq, nI_ltI, nI_leI, if_true, if_false, if_pos, if_neg, ck_of (tS_1 C.ct.sh), gR_of (tS_1 C.ct.sh), gI_of (tS_1 C.ct.sh), pI_of (tS_1 C.ct.sh), C.ct.rp, rS_1_2 C.ct.sh, rS_1_3 C.ct.sh, rS_1_4 C.ct.sh, rS_1_5 C.ct.sh, rS_1_6 C.ct.sh, rS_1_7 C.ct.sh, rS_1_8 C.ct.sh, rS_1_9 C.ct.sh, ck_of (tR C.ct.rd.rd), gR_of (tR C.ct.rd.rd), gI_of (tR C.ct.rd.rd), rR_9 C.ct.rd.rd, rR_10 C.ct.rd.rd, rR_11 C.ct.rd.rd, rR_12 C.ct.rd.rd, rR_13 C.ct.rd.rd, rR_14 C.ct.rd.rd, rR_15 C.ct.rd.rd, rR_16 C.ct.rd.rd, rR_17 C.ct.rd.rd, rR_18 C.ct.rd.rd, rR_19 C.ct.rd.rd, aI_of (tR_1 C.ct.rd.rd), aI_of (tR_2 C.ct.rd.rd), aI_of (tR_3 C.ct.rd.rd), aI_of (tR_4 C.ct.rd.rd), aI_of (tR_5 C.ct.rd.rd), aI_of (tR_6 C.ct.rd.rd), aI_of (tR_7 C.ct.rd.rd), aI_of (tR_8 C.ct.rd.rd), aI_of (tR_9 C.ct.rd.rd), C.ct.rd.sc, C.ct.rd.len, C.ct.rd.e1, C.ct.rd.e2, C.ct.rd.min, C.ct.rd.kd, C.ct.rd.gt, C.ct.rd.bt, C.ct.rd.ip, C.ct.rd.hd, c_refuse C.ct.sh, c_answer C.ct.sh, hn]
    · unfold f_X13_size
      simp only [ck_of (tS_55 M0.sh), pI_of (tS_55 M0.sh), ob, nI_lit]
      rw [eh]
      have hi := h_in h1 x 11 (by decide)
      have h12 : x ≠ nI 12 := fun q => by
        rw [q, ix_n (by decide) (by decide)] at hx
        cases hx
      have h11 : ix (11 + 1) x = false := by
        rcases hy : ix (11 + 1) x with _ | _
        · rfl
        · obtain ⟨j, hj, rfl⟩ := ix_t hy (by decide)
          rw [ix_n (by omega) (by decide)] at hx
          cases hx
      rw [h11] at hi
      simp only [h12, if_false, hi, ob, Bool.toNat_false, ob, nI_lit, nI_add, pk_mul, nI_eq, nI_ltI, nI_leI, if_true, if_false, if_pos, if_neg]
  · obtain ⟨k, hk, rfl⟩ := ix_t hx (by decide)
    refine ⟨if k < 9 then nI (a 0 0 k) else if k = 9 then nI (a 1 5 0) else if k = 10 then nI (a 2 0 3) else if k = 11 then nI (a 2 0 5) else nI (a 2 0 6), ?_, ?_⟩
    · have hrr : (if nI (rb (a 1)).toNat = nI 0 then some (nI 0) else some (nI 1)) = some (nI (a 1 5 0)) := by
        unfold rb
        rcases (show a 1 5 0 = 0 ∨ a 1 5 0 = 1 by omega) with e | e <;> rw [e] <;> rfl
      have sc := C.ct.rd.sc
      rcases (show k = 0 ∨ k = 1 ∨ k = 2 ∨ k = 3 ∨ k = 4 ∨ k = 5 ∨ k = 6 ∨ k = 7 ∨ k = 8 ∨ k = 9 ∨ k = 10 ∨ k = 11 ∨ k = 12 by omega) with rfl | rfl | rfl | rfl | rfl | rfl | rfl | rfl | rfl | rfl | rfl | rfl | rfl
      all_goals
        unfold f_X11_size
        simp (disch := omega) only [ob, nI_lit, nI_eq, if_true, if_false, reduceIte, Nat.reduceEqDiff, Nat.reduceLT, ck_of (tS_1 C.ct.sh), gR_of (tS_1 C.ct.sh), C.ct.rp, rS_1_2 C.ct.sh, rS_1_3 C.ct.sh, gI_of (tR C.ct.rd.rd), sc, gI_of (tS_33 C.ct.sh), gI_of (tS_14 C.ct.sh), C.ac, C.mk, C.fd, c_rains C.ct.sh C.nw hr]
        try first | rfl | exact hrr
    · have e12 : ∀ j, j < 12 → f_X13_in h1 (nI j) (nI 0) (nI 11) = some (nI 1) := fun j hj => by
        have hi := h_in h1 (nI j) 11 (by decide)
        rw [ix_n (by omega) (by decide)] at hi
        exact hi
      rcases M.pk with ⟨eu, e1⟩ | ⟨-, P, -, -⟩
      · obtain ⟨u1, u2, u3, u4⟩ := W.un eu
        have eac := M.ac
        have emk := M.mk
        rcases (show k = 0 ∨ k = 1 ∨ k = 2 ∨ k = 3 ∨ k = 4 ∨ k = 5 ∨ k = 6 ∨ k = 7 ∨ k = 8 ∨ k = 9 ∨ k = 10 ∨ k = 11 ∨ k = 12 by omega) with rfl | rfl | rfl | rfl | rfl | rfl | rfl | rfl | rfl | rfl | rfl | rfl | rfl
        all_goals
          unfold f_X13_size
          simp only [ck_of (tS_55 M0.sh), pI_of (tS_55 M0.sh), ob, nI_lit]
          rw [eh]
          simp (disch := omega) only [ob, nI_lit, nI_eq, if_true, if_false, reduceIte, Nat.reduceEqDiff, Nat.reduceLT, e12, gR_of (tS_55 M.sh), e1, gI_of (tS_55 M.sh), M.fd]
          try (rw [u3]; done)
          try (rw [u4]; done)
          try (rw [u1]; done)
          try (rw [u2]; done)
          try rfl
      · have hz := P.nz
        have sc := P.rd.sc
        rcases (show k = 0 ∨ k = 1 ∨ k = 2 ∨ k = 3 ∨ k = 4 ∨ k = 5 ∨ k = 6 ∨ k = 7 ∨ k = 8 ∨ k = 9 ∨ k = 10 ∨ k = 11 ∨ k = 12 by omega) with rfl | rfl | rfl | rfl | rfl | rfl | rfl | rfl | rfl | rfl | rfl | rfl | rfl
        all_goals
          unfold f_X13_size
          simp only [ck_of (tS_55 M0.sh), pI_of (tS_55 M0.sh), ob, nI_lit]
          rw [eh]
          simp (disch := omega) only [ob, nI_lit, nI_eq, if_true, if_false, reduceIte, Nat.reduceEqDiff, Nat.reduceLT, e12, gR_of (tS_55 M.sh), P.pp, hz, gI_of (tP P.rd.pk), sc, gI_of (tS_55 M.sh), rS_55_16 M.sh, aI_of (tS_57 M.sh), M.nw.rn, M.ac, M.mk, M.fd]
          try rfl
/-! ===== two inns ===== -/
def gv (m a b : Int32) : Int32 := if a ≤ b then (if a = b then m / 2 * (a - 2) else m * (a - 2)) else 0
theorem h_idv2 (x : Int32) : idv x 2 = some (x / 2) := if_neg (by decide)
theorem h_share (h : Mem) (m a b : Int32) : f_X9_share h m a b = some (gv m a b) := by
  unfold f_X9_share f_X9_share_19 gv
  rw [h_idv2]
  split
  · split <;> rfl
  · rfl
theorem h_gets (h : Mem) (m a b : Int32) : f_X13_gets h m a b = some (gv m a b) := by
  unfold f_X13_gets f_X13_gets_21 gv
  rw [h_idv2]
  rcases Decidable.em (a = b) with e | e
  · subst e
    simp
  · rcases Decidable.em (a ≤ b) with e2 | e2
    · have : ¬ b ≤ a := fun q => e (Int32.le_antisymm e2 q)
      simp [e, e2, this]
    · have : b ≤ a := (Int32.le_total a b).resolve_left e2
      simp [e, e2, this]
def isr (m a b : Int32) : Bool := !ex (fun k => decide (gv m a b < gv m (nI k) b) || !decide (gv m (nI k) a ≤ gv m b a)) 10
theorem h_isRest (h : Mem) (m a b : Int32) : f_X9_isRest h m a b = some (nI (isr m a b).toNat) := by
  have st : ∀ k, k < 10 → b_X9_isRest_18 h m a b (gv m a b) (gv m b a) (nI k) = if (decide (gv m a b < gv m (nI k) b) || !decide (gv m (nI k) a ≤ gv m b a)) = true then some (.inr (.inl ())) else some (.inl (nI (k + 1))) := by
    intro k hk
    unfold b_X9_isRest_18
    simp (disch := omega) only [ob, nI_lit, nI_add, pk_mul, nI_eq, nI_ltI, nI_leI, if_true, if_false, if_pos, if_neg, h_share]
    rcases Decidable.em (gv m a b < gv m (nI k) b) with e | e <;> rcases Decidable.em (gv m (nI k) a ≤ gv m b a) with e2 | e2 <;> simp [e, e2]
  unfold f_X9_isRest
  rw [h_share, h_share]
  simp only [ob]
  rw [show (0 : Int32) = nI 0 from rfl, iter_ff (fun i => nI i) (fun k => decide (gv m a b < gv m (nI k) b) || !decide (gv m (nI k) a ≤ gv m b a)) 10 (FU_lt (by decide)) (r := if ff (fun k => decide (gv m a b < gv m (nI k) b) || !decide (gv m (nI k) a ≤ gv m b a)) 10 < 10 then .inl () else .inr ()) (fun i hi hp => by
    show b_X9_isRest_18 h m a b (gv m a b) (gv m b a) (nI i) = _
    rw [st i hi, hp]
    rfl) (by
    show b_X9_isRest_18 h m a b (gv m a b) (gv m b a) (nI (ff _ 10)) = _
    have hle := ff_le (fun k => decide (gv m a b < gv m (nI k) b) || !decide (gv m (nI k) a ≤ gv m b a)) 10
    rcases Nat.lt_or_ge (ff (fun k => decide (gv m a b < gv m (nI k) b) || !decide (gv m (nI k) a ≤ gv m b a)) 10) 10 with q | q
    · rw [st _ q, ff_at _ _ q, if_pos q]
      rfl
    · rw [if_neg (by omega)]
      unfold b_X9_isRest_18
      simp (disch := omega) only [ob, nI_lit, nI_add, pk_mul, nI_eq, nI_ltI, nI_leI, if_true, if_false, if_pos, if_neg])]
  unfold isr ex
  split
  · rename_i q; simp [q] <;> rfl
  · rename_i q; simp [q] <;> rfl
theorem h_isRest2 (h : Mem) (m a b : Int32) : f_X13_isRest h m a b = some (nI (isr m a b).toNat) := by
  rw [← h_isRest h]
  unfold f_X13_isRest f_X9_isRest
  rw [h_share, h_share]
  simp only [ob]
  have : (fun s => b_X13_isRest_2 h m a b s) = (fun s => b_X9_isRest_18 h m a b (gv m a b) (gv m b a) s) := by
    funext s
    unfold b_X13_isRest_2 b_X9_isRest_18
    simp only [h_share, h_gets, ob]
  rw [this]
theorem h_count (h : Mem) (m : Int32) : f_X9_countRests h m = some (nI (cn (fun k => isr m (nI (k / 10)) (nI (k % 10))) 100)) := by
  unfold f_X9_countRests
  rw [show (0 : Int32) = nI 0 from rfl, iter_fo (fun a i => (nI a, nI i)) (fun i a => a + (isr m (nI (i / 10)) (nI (i % 10))).toNat) 0 100 (FU_lt (by decide)) (r := nI (cn (fun k => isr m (nI (k / 10)) (nI (k % 10))) 100)) (fun i a hi => by
    show b_X9_countRests_4 h m (nI a) (nI i) = _
    unfold b_X9_countRests_4 f_X9_countRests_28
    simp (disch := omega) only [ob, nI_lit, nI_add, pk_mul, nI_eq, nI_ltI, nI_leI, if_true, if_false, if_pos, if_neg, idv_of, irm_of, h_isRest]
    cases isr m (nI (i / 10)) (nI (i % 10)) <;> rfl) (by
    show b_X9_countRests_4 h m _ (nI 100) = _
    unfold b_X9_countRests_4
    simp (disch := omega) only [ob, nI_lit, nI_add, pk_mul, nI_eq, nI_ltI, nI_leI, if_true, if_false, if_pos, if_neg]
    rfl)]
  rfl
theorem h_first (h : Mem) (m : Int32) : f_X9_firstRest h m = some (if ff (fun k => isr m (nI (k / 10)) (nI (k % 10))) 100 < 100 then nI (ff (fun k => isr m (nI (k / 10)) (nI (k % 10))) 100) else -nI 2) := by
  have st : ∀ k, k < 100 → b_X9_firstRest_2 h m (nI k) = if isr m (nI (k / 10)) (nI (k % 10)) then some (.inr (.inl (nI k))) else some (.inl (nI (k + 1))) := by
    intro k hk
    unfold b_X9_firstRest_2
    simp (disch := omega) only [ob, nI_lit, nI_add, pk_mul, nI_eq, nI_ltI, nI_leI, if_true, if_false, if_pos, if_neg, idv_of, irm_of, h_isRest]
    cases isr m (nI (k / 10)) (nI (k % 10)) <;> rfl
  unfold f_X9_firstRest
  have hle := ff_le (fun k => isr m (nI (k / 10)) (nI (k % 10))) 100
  rw [show (0 : Int32) = nI 0 from rfl, iter_ff (fun i => nI i) (fun k => isr m (nI (k / 10)) (nI (k % 10))) 100 (FU_lt (by decide)) (r := if ff (fun k => isr m (nI (k / 10)) (nI (k % 10))) 100 < 100 then .inl (nI (ff (fun k => isr m (nI (k / 10)) (nI (k % 10))) 100)) else .inr ()) (fun i hi hp => by
    show b_X9_firstRest_2 h m (nI i) = _
    rw [st i hi, hp]
    rfl) (by
    show b_X9_firstRest_2 h m (nI (ff _ 100)) = _
    rcases Nat.lt_or_ge (ff (fun k => isr m (nI (k / 10)) (nI (k % 10))) 100) 100 with q | q
    · rw [st _ q, ff_at _ _ q, if_pos q]
      rfl
    · rw [if_neg (by omega)]
      unfold b_X9_firstRest_2
      simp (disch := omega) only [ob, nI_lit, nI_add, pk_mul, nI_eq, nI_ltI, nI_leI, if_true, if_false, if_pos, if_neg])]
  split <;> rfl
