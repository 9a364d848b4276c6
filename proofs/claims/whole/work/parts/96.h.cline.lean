/-! ===== the class reads lines ===== -/
theorem nI_10 : (nI 1 = nI 0) = False := eq_false (by decide)
theorem pw_s (f : Nat → Int64) (m : Nat) (w : Int64) : pw f (m + 1) w = if pw f m w = 0 then (if f m = w then m + 1 else 0) else pw f m w := by
  have hl := ff_le (fun k => decide (f k = w)) m
  have hs : ff (fun k => decide (f k = w)) (m + 1) = if ff (fun k => decide (f k = w)) m < m then ff (fun k => decide (f k = w)) m else if decide (f m = w) = true then m else m + 1 := rfl
  unfold pw
  rw [hs]
  generalize ff (fun k => decide (f k = w)) m = x at hl ⊢
  rcases Nat.lt_or_ge x m with c | c
  · simp only [if_pos c]
    rw [if_pos (by omega), if_neg (by omega)]
  · simp only [if_neg (Nat.not_lt.2 c), if_true, decide_eq_true_eq]
    rcases Decidable.em (f m = w) with d | d
    · simp only [if_pos d]
      rw [if_pos (by omega)]
    · simp only [if_neg d]
      rw [if_neg (by omega)]
section
variable (τ : RO) (w s k : Nat)
theorem addN_0 (j : Nat) : addN τ w s k 0 j = if j = τ 3 0 then w else τ 0 j := by simp [addN, rup]
theorem addN_1 (j : Nat) : addN τ w s k 1 j = if j = τ 3 0 then s else τ 1 j := by simp [addN, rup]
theorem addN_2 (j : Nat) : addN τ w s k 2 j = if j = τ 3 0 then k else τ 2 j := by simp [addN, rup]
theorem addN_3 : addN τ w s k 3 0 = τ 3 0 + 1 := by simp [addN, rup]
theorem addN_31 : addN τ w s k 3 1 = τ 3 1 := by simp [addN, rup]
theorem addN_4 {a : Nat} (h : 4 ≤ a) : addN τ w s k a = τ a := by
  funext j
  unfold addN
  rw [rup_ne _ _ _ _ (by omega), rup_ne _ _ _ _ (by omega), rup_ne _ _ _ _ (by omega), rup_ne _ _ _ _ (by omega)]
end
theorem pName_add (b : Nat → Nat) (n : Nat) {τ : RO} (w : Nat) {s s' : Nat} (k j : Nat) (hs : s ≠ s') : pName b n (addN τ w s' k) s j = pName b n τ s j := by
  have e : ∀ v, fN (addN τ w s' k) v = if fN τ v = 0 then (if lN w = lN v then τ 3 0 + 1 else 0) else fN τ v := fun v => by
    unfold fN
    rw [addN_3, pw_s, addN_0, if_pos rfl, pw_congr (g := fun j => lN (τ 0 j)) (fun j hj => by rw [addN_0, if_neg (by omega)])]
  unfold pName
  split
  · rw [e]
    have hl : fN τ (tW b n j) ≤ τ 3 0 := pw_le _ _ _
    rcases Decidable.em (fN τ (tW b n j) = 0) with c | c
    · simp only [if_pos c]
      rcases Decidable.em (lN w = lN (tW b n j)) with d | d
      · simp only [if_pos d]
        rw [if_neg (show ¬ τ 3 0 + 1 = 0 by omega), Nat.add_sub_cancel, addN_1, if_pos rfl, if_neg (fun q => hs q.symm)]
      · simp only [if_neg d, if_true]
    · have g1 : addN τ w s' k 1 (fN τ (tW b n j) - 1) = τ 1 (fN τ (tW b n j) - 1) := by rw [addN_1, if_neg (by omega)]
      have g2 : addN τ w s' k 2 (fN τ (tW b n j) - 1) = τ 2 (fN τ (tW b n j) - 1) := by rw [addN_2, if_neg (by omega)]
      simp only [if_neg c, g1, g2]
  · rfl
section
variable {h0 : Mem} {r : Nat} {b : Nat → Nat} {n : Nat} {ρ τ : RO} {L : Nat → Nat} {i : Nat} {h : Mem}
theorem PV.n17 (P : PV ρ τ) : τ 3 0 ≤ 17 := by
  have := P.nm
  have := P.rw.tu
  have := P.rw.pl
  have := P.rw.pe
  omega
theorem PV.sn (P : PV ρ τ) : ∀ k, k < τ 3 0 → τ 1 k < 10 ∧ τ 2 k < 10 := fun k hk => by
  have := P.rw.tu
  have := P.rw.pl
  have := P.rw.pe
  rcases P.nk k hk with q | q | q <;> omega
theorem CS.shF (C : CS h0 r b n ρ τ L i h) {q : Mem} (F : FR r h0 q) : SH q ∧ mR q 14 6 = r ∧ RD q r := by
  have e1 : mT q = mT h := F.1.1.trans C.fr.1.1.symm
  have e2 : mR q = mR h := F.1.2.1.trans C.fr.1.2.1.symm
  have e3 : mN q = mN h := F.1.2.2.trans C.fr.1.2.2.symm
  refine ⟨?_, by rw [e2]; exact C.rp, C.bo.rd.fr (fun k _ => by rw [e1]) (by rw [e2])⟩
  have := C.tp.sh
  unfold SH at *
  rw [e1, e2, e3]
  exact this
theorem CF.wr {f : FA} (K : CF h0 r f h) (rr : r = 2 ∨ r = 21) {a : Nat} (k : Nat) (v : Int32) (ha : r ≤ a ∧ a < r + 12) : CF h0 r f (wI h a k v) := by
  have e : mI (wI h a k v) 14 = mI h 14 := mI_wI_ne _ _ _ (by omega)
  refine ⟨K.fr.tr (FR.w h k v (by omega)), ?_, ?_, ?_⟩ <;> rw [e]
  · exact K.fd
  · exact K.fl
  · exact K.fa
theorem CS.fresh (C : CS h0 r b n ρ τ L i h) (h17 : τ 3 0 < 17) {s k : Nat} (hs : s < 9) (hL : L s = k + 1) (hk : k < 1000) : OK (f_X4_readNewName h 14 (nI s)) (rB h0 r b n ρ (addN τ (tW b n i) s k) L (ta b n i) (pNew b n τ i)) := by
  have S := C.tp.sh
  have rr := C.rr
  unfold f_X4_readNewName pNew
  simp only [ob, nI_lit, ck_of (tS_14 S), C.isn, nI_b0]
  rcases e : isN b n i with _ | _
  · simp only [if_true, Bool.false_eq_true, if_false]
    exact C.ret 1
  · have hw : fN τ (tW b n i) ≤ τ 3 0 := pw_le _ _ _
    have e12 : mL h 14 12 = lN (tW b n i) := (C.kt.wo (isN_tk e)).1
    simp (disch := omega) only [Bool.true_eq_false, if_false, if_true, ob, gR_of (tS_14 S), gI_of (tS_14 S), gL_of (tS_14 S), rS_14_2 S, C.nm.nd, C.find (Nat.le_of_lt h17) (isN_tk e), kN_neg, e12]
    rcases Decidable.em (fN τ (tW b n i) = 0) with d | d
    · rw [if_pos d, if_pos d]
      obtain ⟨h8, e8⟩ : ∃ h8, wL h 17 (τ 3 0) (lN (tW b n i)) = h8 := ⟨_, rfl⟩
      obtain ⟨h11, e11⟩ : ∃ h11, wI h8 18 (τ 3 0) (nI s) = h11 := ⟨_, rfl⟩
      obtain ⟨h16, e16⟩ : ∃ h16, wI h11 19 (τ 3 0) (nI k) = h16 := ⟨_, rfl⟩
      obtain ⟨h18, e18⟩ : ∃ h18, wI h16 14 7 (nI (τ 3 0 + 1)) = h18 := ⟨_, rfl⟩
      have S8 : SH h8 := e8 ▸ S
      have S11 : SH h11 := e11 ▸ S8
      have S16 : SH h16 := e16 ▸ S11
      have n8 : mI h8 14 7 = nI (τ 3 0) := by
        rw [← e8]
        exact C.nm.nd
      have n11 : mI h11 14 7 = nI (τ 3 0) := by rw [← e11, mI_wI_ne _ _ _ (by decide), n8]
      have n16 : mI h16 14 7 = nI (τ 3 0) := by rw [← e16, mI_wI_ne _ _ _ (by decide), n11]
      have l11 : mI h11 20 s = nI (k + 1) := by
        rw [← e11, mI_wI_ne _ _ _ (by decide), ← e8]
        show mI h 20 s = _
        rw [C.ls s hs, hL]
      have hsub : nI (k + 1) - nI 1 = nI k := by
        rw [pk_sub (by omega)]
        rfl
      have C1 : CS h0 r b n ρ (addN τ (tW b n i) s k) L i h18 := by
        have x14 : ∀ j, j ≠ 7 → mI h18 14 j = mI h 14 j := fun j hj => by
          rw [← e18, mI_wI_at, pk_un hj, ← e16, mI_wI_ne _ _ _ (by decide), ← e11, mI_wI_ne _ _ _ (by decide), ← e8]
          rfl
        have xI : ∀ x, x ≠ 14 → x ≠ 18 → x ≠ 19 → mI h18 x = mI h x := fun x q1 q2 q3 => by
          rw [← e18, mI_wI_ne _ _ _ q1, ← e16, mI_wI_ne _ _ _ q3, ← e11, mI_wI_ne _ _ _ q2, ← e8]
          rfl
        have xL : ∀ x, x ≠ 17 → mL h18 x = mL h x := fun x q1 => by
          rw [← e18, mL_wI, ← e16, mL_wI, ← e11, mL_wI, ← e8, mL_wL_ne _ _ _ q1]
        have xt : mT h18 = mT h := by
          rw [← e18, ← e16, ← e11, ← e8]
          rfl
        have xr : mR h18 = mR h := by
          rw [← e18, ← e16, ← e11, ← e8]
          rfl
        have xn : mN h18 = mN h := by
          rw [← e18, ← e16, ← e11, ← e8]
          rfl
        have x17 : ∀ j, mL h18 17 j = if j = τ 3 0 then lN (tW b n i) else mL h 17 j := fun j => by
          rw [← e18, mL_wI, ← e16, mL_wI, ← e11, mL_wI, ← e8, mL_if]
          simp only [true_and]
        have x18 : ∀ j, mI h18 18 j = if j = τ 3 0 then nI s else mI h 18 j := fun j => by
          rw [← e18, mI_wI_ne _ _ _ (by decide), ← e16, mI_wI_ne _ _ _ (by decide), ← e11, mI_if, ← e8]
          simp only [true_and]
          rfl
        have x19 : ∀ j, mI h18 19 j = if j = τ 3 0 then nI k else mI h 19 j := fun j => by
          rw [← e18, mI_wI_ne _ _ _ (by decide), ← e16, mI_if, ← e11, mI_wI_ne _ _ _ (by decide), ← e8]
          simp only [true_and]
          rfl
        have T := C.tp
        have K := C.kt
        refine ⟨C.fr.tr ⟨⟨xt, xr, xn⟩, fun x q1 q2 q3 _ _ => xI x q1 q2 q3, fun x _ q => xL x q⟩, rr, ⟨?_, ?_, T.n1, ?_, T.by, ?_⟩, ⟨?_, ?_, ?_, ?_, ?_⟩, C.le, by rw [xr]; exact C.rp, ?_, ⟨?_, ?_, ?_, ?_⟩, ?_, ?_, ?_, ?_⟩
        · have := T.sh
          unfold SH at *
          rw [xt, xr, xn]
          exact this
        · rw [x14 8 (by decide)]; exact T.en
        · rw [xI 15 (by decide) (by decide) (by decide)]; exact T.tp
        · rw [xL 16 (by decide)]; exact T.me
        · rw [x14 9 (by decide)]; exact K.at
        · rw [x14 11 (by decide)]; exact K.kd
        · rw [x14 10 (by decide)]; exact K.af
        · rw [xL 14 (by decide), x14 13 (by decide)]; exact K.wo
        · rw [x14 14 (by decide)]; exact K.nu
        · have B := C.bo.fr xt xr (fun k hk => xI _ (by omega) (by omega) (by omega))
          refine ⟨B.rd, B.sc, B.len, B.note, B.e1, B.e2, B.min, B.kd, B.gt, B.bt, B.ip, B.hd, fun x w hx hw => ?_, ?_⟩
          · rw [addN_4 _ _ _ _ (by omega)]
            exact B.st x w hx hw
          · rw [addN_4 _ _ _ _ (by omega)]
            exact B.s2
        · rw [addN_3, ← e18, mI_wI_at, pk_us]
        · intro j hj
          rw [addN_3] at hj
          rw [x17, addN_0]
          split
          · rfl
          · exact C.nm.nw j (by omega)
        · intro j hj
          rw [addN_3] at hj
          rw [x18, addN_1]
          split
          · rfl
          · exact C.nm.ns j (by omega)
        · intro j hj
          rw [addN_3] at hj
          rw [x19, addN_2]
          split
          · rfl
          · exact C.nm.nn j (by omega)
        · rw [xI 20 (by decide) (by decide) (by decide)]; exact C.ls
        · rw [x14 15 (by decide)]; exact C.fd
        · rw [x14 16 (by decide)]; exact C.fl
        · rw [x14 17 (by decide)]; exact C.fa
      obtain ⟨h19, e19, C2⟩ := C1.step
      simp (disch := omega) only [ob, sL_of (tS_17 S), e8, gR_of (tS_14 S8), rS_14_3 S8, gI_of (tS_14 S8), n8, sI_of (tS_18 S8), e11, gR_of (tS_14 S11), rS_14_4 S11, rS_14_5 S11, gI_of (tS_14 S11), n11, aI_of (tS_20 S11), l11, hsub, sI_of (tS_19 S11), e16, gI_of (tS_14 S16), n16, nI_add, pI_of (tS_14 S16), e18, e19]
      exact ⟨_, rfl, rfl, C2⟩
    · rw [if_neg d, if_neg d]
      exact C.ret 3
theorem CS.lTurn (C : CS h0 r b n ρ τ L i h) : OK (f_X4_readTurnpike h 14) (rL h0 r b n L (pTurn b n ρ τ i)) := by
  have S := C.tp.sh
  have rr := C.rr
  obtain ⟨⟨v1, h1⟩, e1, k1⟩ := C.word (k := 9) (by decide)
  unfold f_X4_readTurnpike pTurn
  rcases w1 : pWord b n 9 i with f | u
  · rw [w1] at k1
    obtain ⟨rfl, k1⟩ := k1
    simp only [ob, nI_lit, eq_self, if_true, if_false, nI_10, n1_lt0, n1_ge0, eb_l, eb_r, ck_of (tS_14 S), e1]
    exact ⟨_, rfl, rfl, k1⟩
  · rw [w1] at k1
    obtain ⟨rfl, k1⟩ := k1
    obtain ⟨⟨v2, h2⟩, e2, k2⟩ := CS.num k1 (lo := 0) (hi := 100) (by decide) (by decide)
    rcases w2 : pNum b n 0 100 (ta b n i) with f | m
    · rw [w2] at k2
      obtain ⟨rfl, k2⟩ := k2
      obtain ⟨S2, r2, R2⟩ := C.shF k2.fr
      simp only [ob, nI_lit, eq_self, if_true, if_false, nI_10, n1_lt0, n1_ge0, eb_l, eb_r, ck_of (tS_14 S), e1, e2, gR_of (tS_14 S2), r2, pI_of (tR R2)]
      exact ⟨_, rfl, rfl, CF.wr k2 rr 0 _ (by omega)⟩
    · rw [w2] at k2
      obtain ⟨rfl, k2⟩ := k2
      have k2 : CS h0 r b n ρ τ L (ta b n (ta b n i)) h2 := k2
      have hm : m ≤ 100 := by
        unfold pNum at w2
        split at w2
        · split at w2
          · rename_i hq
            have := Sum.inr.inj w2
            omega
          · cases w2
        · cases w2
      have S2 := k2.tp.sh
      simp (disch := omega) only [ob, nI_lit, eq_self, if_true, if_false, nI_10, n1_lt0, n1_ge0, eb_l, eb_r, ck_of (tS_14 S), e1, e2, gR_of (tS_14 S2), k2.rp, pI_of (tR k2.bo.rd), nI_ltI, Nat.not_lt_zero]
      refine ⟨_, rfl, rfl, k2.body rfl rfl rfl rfl (fun x hx => mI_wI_ne _ _ _ (by omega)) ⟨?_, ?_, ?_, ?_⟩ (k2.bo.cnt (fun k => by simp [rup]) (by decide) (fun k hk => by funext j; simp [rup, hk]) (fun k hk => by funext j; exact rup_ne _ _ _ _ (by omega)))⟩
      · funext j; simp [rup]
      · funext j; simp [rup]
      · funext j; simp [rup]
      · simp [rup]
theorem CS.lPlace (C : CS h0 r b n ρ τ L i h) (h17 : τ 3 0 < 17) (hL : L 2 = ρ 0 2 + 1) (hk : ρ 0 2 < 7) : OK (f_X4_readPlace h 14) (rL h0 r b n L (pPlace b n ρ τ i)) := by
  have S := C.tp.sh
  have rr := C.rr
  obtain ⟨⟨v1, h1⟩, e1, k1⟩ := C.fresh h17 (s := 2) (by decide) hL (by omega)
  unfold f_X4_readPlace pPlace
  rcases w1 : pNew b n τ i with f | u
  · rw [w1] at k1
    obtain ⟨rfl, k1⟩ := k1
    simp only [ob, nI_lit, eq_self, if_true, if_false, nI_10, n1_lt0, n1_ge0, eb_l, eb_r, ck_of (tS_14 S), e1]
    exact ⟨_, rfl, rfl, k1⟩
  · rw [w1] at k1
    obtain ⟨rfl, k1⟩ := k1
    have k1 : CS h0 r b n ρ (addN τ (tW b n i) 2 (ρ 0 2)) L (ta b n i) h1 := k1
    have S1 := k1.tp.sh
    simp (disch := omega) only [ob, nI_lit, eq_self, if_true, if_false, nI_10, n1_lt0, n1_ge0, eb_l, eb_r, ck_of (tS_14 S), e1, gR_of (tS_14 S1), k1.rp, gI_of (tR k1.bo.rd), k1.bo.sc 2, nI_add, pI_of (tR k1.bo.rd)]
    exact ⟨_, rfl, rfl, k1.body rfl rfl rfl rfl (fun x hx => mI_wI_ne _ _ _ (by omega)) ⟨rfl, rfl, rfl, rfl⟩ (k1.bo.cnt (fun k => by simp [rup]) (by decide) (fun k hk => by funext j; simp [rup, hk]) (fun k hk => rfl))⟩
theorem CS.lHear (C : CS h0 r b n ρ τ L i h) (P : PV ρ τ) (hk : ρ 0 8 < 5) : OK (f_X4_readHeard h 14) (rL h0 r b n L (pHear b n ρ τ i)) := by
  have S := C.tp.sh
  have rr := C.rr
  obtain ⟨⟨v1, h1⟩, e1, k1⟩ := C.name P.n17 (s := 1) (by decide) P.sn
  unfold f_X4_readHeard pHear
  rcases w1 : pName b n τ 1 i with f | t
  · rw [w1] at k1
    obtain ⟨rfl, k1⟩ := k1
    simp only [ob, nI_lit, eq_self, if_true, if_false, nI_10, n1_lt0, n1_ge0, eb_l, eb_r, ck_of (tS_14 S), e1]
    exact ⟨_, rfl, rfl, k1⟩
  · rw [w1] at k1
    obtain ⟨rfl, k1⟩ := k1
    have k1 : CS h0 r b n ρ τ L (ta b n i) h1 := k1
    have ht := P.tune w1
    have h6 := P.rw.tu
    have S1 := k1.tp.sh
    have B := k1.bo
    have t14 := tS_14 S1
    simp (disch := omega) only [ob, nI_lit, eq_self, if_true, if_false, nI_10, n1_lt0, n1_ge0, eb_l, eb_r, ck_of (tS_14 S), e1, nI_leI, Nat.zero_le, ob, ck_d, pI_d, gI_d, gR_d, sI_n, aI_n, mT_wI, mR_wI, mI_if, nI_lit, nI_add, pk_mul, eq_self, true_and, and_true, if_true, if_pos, if_neg, tR B.rd, tR_1 B.rd, tR_2 B.rd, tR_3 B.rd, tR_4 B.rd, tR_5 B.rd, tR_6 B.rd, tR_7 B.rd, tR_8 B.rd, tR_9 B.rd, tR_11 B.rd, rR_9 B.rd, rR_10 B.rd, rR_11 B.rd, rR_12 B.rd, rR_13 B.rd, rR_14 B.rd, rR_15 B.rd, rR_16 B.rd, rR_17 B.rd, rR_19 B.rd, t14, k1.rp, B.sc 8]
    exact ⟨_, rfl, rfl, k1.body rfl rfl rfl rfl (fun x hx => by rw [mI_wI_ne _ _ _ (by omega), mI_wI_ne _ _ _ (by omega)]) ⟨rfl, rfl, rfl, rfl⟩ (B.hear hk)⟩
end
