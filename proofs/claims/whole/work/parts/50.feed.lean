/-! ===== feed ===== -/
theorem mem_ext {h h' : Mem} (e1 : ∀ x, mI h x = mI h' x) (e2 : mL h = mL h') (e3 : mR h = mR h') (e4 : mT h = mT h') (e5 : mN h = mN h') : h = h' := by
  obtain ⟨i, l, r, t, n⟩ := h
  obtain ⟨i', l', r', t', n'⟩ := h'
  have e0 : i = i' := funext e1
  have e2 : l = l' := e2
  have e3 : r = r' := e3
  have e4 : t = t' := e4
  have e5 : n = n' := e5
  subst e0 e2 e3 e4 e5
  rfl
/-- byte j of a number, the first one the highest -/
def byt (v : Int32) (j : Nat) : Nat := (v >>> (nI (24 - 8 * j) &&& nI 31)).toBitVec.toNat % 2 ^ 8
theorem byt_c (v : Int32) (j : Nat) : (v >>> (nI (24 - 8 * j) &&& nI 31)) &&& nI 255 = nI (byt v j) := pk_and _ 8 (by decide)
theorem byt_lt (v : Int32) (j : Nat) : byt v j < 256 := Nat.mod_lt _ (by decide)
theorem and255 (x : Int32) : x.toInt8.toInt32 &&& nI 255 = x &&& nI 255 := by
  apply Int32.toBitVec_inj.mp
  apply BitVec.eq_of_getLsbD_eq
  intro i hi
  rw [Int32.toBitVec_and, Int32.toBitVec_and, BitVec.getLsbD_and, BitVec.getLsbD_and, nI_bv, BitVec.getLsbD_ofNat, Int8.toBitVec_toInt32, Int32.toBitVec_toInt8, BitVec.getLsbD_signExtend, BitVec.getLsbD_signExtend, show (255 : Nat) = 2 ^ 8 - 1 from rfl, Nat.testBit_two_pow_sub_one]
  rcases Nat.lt_or_ge i 8 with q | q
  · simp [hi, q]
  · simp [show ¬ i < 8 by omega]
def shf (j : Nat) : Int32 := nI 24 - nI (8 * j)
theorem shf_1 : ∀ j, j < 4 → shf j + -nI 8 = shf (j + 1) := by decide
theorem shf_2 : ∀ j, j < 4 → ¬ shf j < nI 0 := by decide
theorem shf_3 : ∀ j, j < 4 → shf j = nI (24 - 8 * j) := by decide
theorem c_append {h : Mem} (S : SH h) (v : Int32) {n : Nat} (hn : n + 4 ≤ 1000) (e : mI h 14 15 = nI n) : ∃ h', f_X4_append h 14 v = some h' ∧ FQ [14, 15] h h' ∧ (∀ k, k ≠ 15 → mI h' 14 k = mI h 14 k) ∧ mI h' 14 15 = nI (n + 4) ∧ (∀ i, i < n → mI h' 15 i = mI h 15 i) ∧ (∀ j, j < 4 → mI h' 15 (n + j) = nI (byt v j)) := by
  let F : Nat → Nat → Int32 := fun j i => if n ≤ i ∧ i < n + j then nI (byt v (i - n)) else mI h 15 i
  let G : Nat → Mem := fun j => wI (rowI h 15 (F j)) 14 15 (nI (n + j))
  have G0 : G 0 = h := by
    refine mem_ext (fun x => ?_) rfl rfl rfl rfl
    rcases Decidable.em (x = 14) with q | q
    · subst q
      show mI (wI (rowI h 15 (F 0)) 14 15 (nI (n + 0))) 14 = _
      rw [mI_wI_at, mI_row_ne _ _ (by decide)]
      funext k
      unfold upd
      split
      · rename_i q2; rw [q2, e]; rfl
      · rfl
    · show mI (wI (rowI h 15 (F 0)) 14 15 (nI (n + 0))) x = _
      rw [mI_wI_ne _ _ _ q]
      rcases Decidable.em (x = 15) with q2 | q2
      · subst q2
        rw [mI_row]
        funext k
        exact if_neg (by omega)
      · rw [mI_row_ne _ _ q2]
  have GS : ∀ j, j < 4 → wI (wI (G j) 15 (n + j) (nI (byt v j))) 14 15 (nI (n + j + 1)) = G (j + 1) := by
    intro j hj
    refine mem_ext (fun x => ?_) rfl rfl rfl rfl
    show mI (wI (wI (wI (rowI h 15 (F j)) 14 15 (nI (n + j))) 15 (n + j) (nI (byt v j))) 14 15 (nI (n + j + 1))) x = mI (wI (rowI h 15 (F (j + 1))) 14 15 (nI (n + (j + 1)))) x
    rcases Decidable.em (x = 14) with q | q
    · subst q
      rw [mI_wI_at, mI_wI_at, mI_wI_ne _ _ _ (by decide), mI_wI_at, mI_row_ne _ _ (by decide), mI_row_ne _ _ (by decide)]
      funext k
      unfold upd
      split
      · rfl
      · rfl
    · rw [mI_wI_ne _ _ _ q, mI_wI_ne (rowI h 15 (F (j + 1))) _ _ q]
      rcases Decidable.em (x = 15) with q2 | q2
      · subst q2
        rw [mI_wI_at, mI_wI_ne _ _ _ (by decide), mI_row, mI_row]
        funext k
        show (if k = n + j then nI (byt v j) else if n ≤ k ∧ k < n + j then nI (byt v (k - n)) else mI h 15 k) = if n ≤ k ∧ k < n + (j + 1) then nI (byt v (k - n)) else mI h 15 k
        rcases Decidable.em (k = n + j) with q3 | q3
        · rw [if_pos q3, if_pos (by omega), q3, Nat.add_sub_cancel_left]
        · rw [if_neg q3]
          rcases Decidable.em (n ≤ k ∧ k < n + j) with q4 | q4
          · rw [if_pos q4, if_pos (by omega)]
          · rw [if_neg q4, if_neg (by omega)]
      · rw [mI_wI_ne _ _ _ q2, mI_wI_ne _ _ _ q, mI_row_ne _ _ q2, mI_row_ne _ _ q2]
  have q : iter (fun (s : Int32 × Mem) => b_X4_append_3 s.2 14 v s.1) FU (shf 0, G 0) = some (G 4) := by
    refine iter_for (fun j => (shf j, G j)) 4 (FU_lt (by decide)) (fun j hj => ?_) ?_
    · have S1 : SH (G j) := S
      have e1 : mI (G j) 14 15 = nI (n + j) := by
        show mI (wI (rowI h 15 (F j)) 14 15 (nI (n + j))) 14 15 = _
        rw [mI_wI_at, pk_us]
      have e2 : mI (wI (G j) 15 (n + j) (nI (byt v j))) 14 15 = nI (n + j) := by
        rw [mI_wI_ne _ _ _ (by decide)]
        exact e1
      have e3 := shf_1 j hj
      have e4 := shf_2 j hj
      have e5 := GS j hj
      have e6 := byt_c v j
      rw [← shf_3 j hj] at e6
      show b_X4_append_3 (G j) 14 v (shf j) = some (Sum.inl (shf (j + 1), G (j + 1)))
      unfold b_X4_append_3
      simp only [nI_lit, ob, e4, if_false, gI_of (tS_14 S1), e1, gR_of (tS_14 S1), rS_14_0 S1, e6]
      simp (disch := omega) only [ob, nI_lit, nI_add, pk_mul, nI_eq, nI_ltI, nI_leI, if_true, if_false, if_pos, if_neg, sI_of (tS_15 S1), gI_of (tS_14 (S1.wI 15 (n + j) (nI (byt v j)))), e2, pI_of (tS_14 (S1.wI 15 (n + j) (nI (byt v j)))), e5, e3]
    · show b_X4_append_3 (G 4) 14 v (shf 4) = _
      unfold b_X4_append_3
      simp only [nI_lit, show shf 4 < nI 0 by decide, if_true]
  rw [G0] at q
  refine ⟨G 4, ?_, (FQ.row _ _ (by decide)).tr (FQ.w _ _ _ (by decide)), fun k hk => ?_, ?_, fun i hi => ?_, fun j hj => ?_⟩
  · unfold f_X4_append
    have q' : iter (fun (s : Int32 × Mem) => b_X4_append_3 s.2 14 v s.1) FU (24, h) = some (G 4) := q
    rw [ck_of (tS_14 S), ob, q', ob]
  · show mI (wI (rowI h 15 (F 4)) 14 15 (nI (n + 4))) 14 k = _
    rw [mI_wI_at, pk_un hk, mI_row_ne _ _ (by decide)]
  · show mI (wI (rowI h 15 (F 4)) 14 15 (nI (n + 4))) 14 15 = _
    rw [mI_wI_at, pk_us]
  · show mI (wI (rowI h 15 (F 4)) 14 15 (nI (n + 4))) 15 i = _
    rw [mI_wI_ne _ _ _ (by decide), mI_row]
    exact if_neg (by omega)
  · show mI (wI (rowI h 15 (F 4)) 14 15 (nI (n + 4))) 15 (n + j) = _
    rw [mI_wI_ne _ _ _ (by decide), mI_row]
    show (if n ≤ n + j ∧ n + j < n + 4 then _ else _) = _
    rw [if_pos (by omega), Nat.add_sub_cancel_left]
/-- the k-th byte of five numbers -/
def sel5 (v1 v2 v3 v4 v5 : Int32) (k : Nat) : Int32 := if 4 ≤ k then (if 8 ≤ k then (if 12 ≤ k then (if 16 ≤ k then v5 else v4) else v3) else v2) else v1
def by5 (v1 v2 v3 v4 v5 : Int32) (k : Nat) : Nat := byt (sel5 v1 v2 v3 v4 v5 k) (k % 4)
def feedA (a : AB) (b : Nat → Nat) : AB := fun i => if i = 2 then (fun _ k => if k = 6 then a 2 0 6 + 20 else a 2 0 k) else if i = 3 then (fun _ k => if k < a 2 0 6 then a 3 0 k else b (k - a 2 0 6)) else a i
theorem feedA_i (a : AB) (b : Nat → Nat) {i : Nat} (h2 : i ≠ 2) (h3 : i ≠ 3) : feedA a b i = a i := by
  unfold feedA
  rw [if_neg h2, if_neg h3]
theorem feedA_2 (a : AB) (b : Nat → Nat) {k : Nat} (h : k ≠ 6) : feedA a b 2 0 k = a 2 0 k := if_neg h
theorem feedA_26 (a : AB) (b : Nat → Nat) : feedA a b 2 0 6 = a 2 0 6 + 20 := rfl
theorem feedA_3 (a : AB) (b : Nat → Nat) (k : Nat) : feedA a b 3 0 k = if k < a 2 0 6 then a 3 0 k else b (k - a 2 0 6) := rfl
theorem qq_feed {a : AB} (W : IW a) (z : Nat) (hz : z ≤ 6) (v1 v2 v3 v4 v5 : Int32) : ∃ a' v z', IW a' ∧ z' ≤ 6 ∧ AC a z a' z' (fun h => f_X11_feed h 1 v1 v2 v3 v4 v5) v ∧ AM a z a' z' (fun h => f_X13_feed h 55 v1 v2 v3 v4 v5) v := by
  have hfd := W.fd
  rcases Nat.lt_or_ge 980 (a 2 0 6) with hc | hc
  · refine ⟨a, -nI 1, z, W, hz, fun h C e1 => ?_, fun h M0 e1 e2 => ?_⟩
    · show OK (f_X11_feed h 1 v1 v2 v3 v4 v5) _
      unfold f_X11_feed f_X4_hasRoomFor
      simp (disch := omega) only [ob, nI_lit, nI_add, pk_mul, nI_eq, nI_ltI, nI_leI, if_true, if_false, if_pos, if_neg, ck_of (tS_1 C.ct.sh), gR_of (tS_1 C.ct.sh), gI_of (tS_1 C.ct.sh), pI_of (tS_1 C.ct.sh), C.ct.rp, rS_1_2 C.ct.sh, rS_1_3 C.ct.sh, rS_1_4 C.ct.sh, rS_1_5 C.ct.sh, rS_1_6 C.ct.sh, rS_1_7 C.ct.sh, rS_1_8 C.ct.sh, rS_1_9 C.ct.sh, ck_of (tR C.ct.rd.rd), gR_of (tR C.ct.rd.rd), gI_of (tR C.ct.rd.rd), rR_9 C.ct.rd.rd, rR_10 C.ct.rd.rd, rR_11 C.ct.rd.rd, rR_12 C.ct.rd.rd, rR_13 C.ct.rd.rd, rR_14 C.ct.rd.rd, rR_15 C.ct.rd.rd, rR_16 C.ct.rd.rd, rR_17 C.ct.rd.rd, rR_18 C.ct.rd.rd, rR_19 C.ct.rd.rd, aI_of (tR_1 C.ct.rd.rd), aI_of (tR_2 C.ct.rd.rd), aI_of (tR_3 C.ct.rd.rd), aI_of (tR_4 C.ct.rd.rd), aI_of (tR_5 C.ct.rd.rd), aI_of (tR_6 C.ct.rd.rd), aI_of (tR_7 C.ct.rd.rd), aI_of (tR_8 C.ct.rd.rd), aI_of (tR_9 C.ct.rd.rd), C.ct.rd.sc, C.ct.rd.len, C.ct.rd.e1, C.ct.rd.e2, C.ct.rd.min, C.ct.rd.kd, C.ct.rd.gt, C.ct.rd.bt, C.ct.rd.ip, C.ct.rd.hd, c_refuse C.ct.sh, c_answer C.ct.sh, ck_of (tS_14 C.ct.sh), gI_of (tS_14 C.ct.sh), C.fd]
      exact ⟨_, rfl, rfl, ⟨fun _ => rfl, fun _ _ => ⟨rfl, rfl⟩, rfl⟩, C, e1⟩
    · show OK (f_X13_feed h 55 v1 v2 v3 v4 v5) _
      unfold f_X13_feed
      simp only [ck_of (tS_55 M0.sh), pI_of (tS_55 M0.sh), ob, nI_lit]; obtain ⟨h1, eh, M, F1⟩ : ∃ h1, wI h 55 0 (nI 0) = h1 ∧ IM h1 a ∧ FM h h1 := ⟨_, rfl, M0.th _, FM.w55 h _ (by decide)⟩; rw [eh]
      simp (disch := omega) only [ob, nI_lit, nI_add, pk_mul, nI_eq, nI_ltI, nI_leI, if_true, if_false, if_pos, if_neg, ck_of (tS_55 M.sh), gR_of (tS_55 M.sh), gI_of (tS_55 M.sh), pI_of (tS_55 M.sh), rS_55_16 M.sh, rS_55_17 M.sh, rS_55_18 M.sh, rS_55_21 M.sh, rS_55_25 M.sh, rS_55_26 M.sh, rS_55_27 M.sh, rS_55_28 M.sh, rS_55_32 M.sh, rS_55_33 M.sh, rS_55_34 M.sh, m_refused M.sh, m_good M.sh, M.fd]
      refine ⟨_, rfl, rfl, FHi.f1 F1 ⟨fun _ _ => rfl, fun _ _ => ⟨rfl, rfl, rfl⟩, Nat.le_refl _⟩, M, ?_, ?_⟩
      · rw [← eh, mI_wI_at, pk_un (by decide)]; exact e1
      · rw [← eh, mI_wI_at, pk_un (by decide)]; exact e2
  · have W' : IW (feedA a (by5 v1 v2 v3 v4 v5)) := by
      obtain ⟨k1, k2, k3, k4, k5, k6, k7, k8, k9, k10, k11, k12, k13⟩ := W
      refine ⟨k1, k2, k3, k4, k5, k6, ?_, fun j hj => ?_, fun j hj => ?_, fun i hi => ?_, k11, k12, k13⟩
      · rw [feedA_26]; omega
      · rw [feedA_i a _ (i := 10 + j) (by omega) (by omega)]; exact k8 j hj
      · rw [feedA_i a _ (i := 30 + j) (by omega) (by omega)]; exact k9 j hj
      · rw [feedA_26] at hi
        rw [feedA_3]
        split
        · exact k10 i (by omega)
        · exact byt_lt _ _
    refine ⟨feedA a (by5 v1 v2 v3 v4 v5), nI (a 2 0 6 + 20), z, W', hz, fun h C e1 => ?_, fun h M0 e1 e2 => ?_⟩
    · have S := C.ct.sh
      obtain ⟨h1, q1, f1, g1, n1, o1, p1⟩ := c_append S v1 (n := a 2 0 6) (by omega) C.fd
      have S1 := f1.sh S
      obtain ⟨h2, q2, f2, g2, n2, o2, p2⟩ := c_append S1 v2 (n := a 2 0 6 + 4) (by omega) n1
      have S2 := f2.sh S1
      obtain ⟨h3, q3, f3, g3, n3, o3, p3⟩ := c_append S2 v3 (n := a 2 0 6 + 4 + 4) (by omega) n2
      have S3 := f3.sh S2
      obtain ⟨h4, q4, f4, g4, n4, o4, p4⟩ := c_append S3 v4 (n := a 2 0 6 + 4 + 4 + 4) (by omega) n3
      have S4 := f4.sh S3
      obtain ⟨h5, q5, f5, g5, n5, o5, p5⟩ := c_append S4 v5 (n := a 2 0 6 + 4 + 4 + 4 + 4) (by omega) n4
      have S5 := f5.sh S4
      have f : FQ [14, 15] h h5 := (((f1.tr f2).tr f3).tr f4).tr f5
      have n5' : mI h5 14 15 = nI (a 2 0 6 + 20) := n5
      have er : f_X11_feed h 1 v1 v2 v3 v4 v5 = some (nI (a 2 0 6 + 20), h5) := by
        unfold f_X11_feed f_X4_hasRoomFor
        simp (disch := omega) only [ob, nI_lit, nI_add, pk_mul, nI_eq, nI_ltI, nI_leI, if_true, if_false, if_pos, if_neg, ck_of (tS_1 C.ct.sh), gR_of (tS_1 C.ct.sh), gI_of (tS_1 C.ct.sh), pI_of (tS_1 C.ct.sh), C.ct.rp, rS_1_2 C.ct.sh, rS_1_3 C.ct.sh, rS_1_4 C.ct.sh, rS_1_5 C.ct.sh, rS_1_6 C.ct.sh, rS_1_7 C.ct.sh, rS_1_8 C.ct.sh, rS_1_9 C.ct.sh, ck_of (tR C.ct.rd.rd), gR_of (tR C.ct.rd.rd), gI_of (tR C.ct.rd.rd), rR_9 C.ct.rd.rd, rR_10 C.ct.rd.rd, rR_11 C.ct.rd.rd, rR_12 C.ct.rd.rd, rR_13 C.ct.rd.rd, rR_14 C.ct.rd.rd, rR_15 C.ct.rd.rd, rR_16 C.ct.rd.rd, rR_17 C.ct.rd.rd, rR_18 C.ct.rd.rd, rR_19 C.ct.rd.rd, aI_of (tR_1 C.ct.rd.rd), aI_of (tR_2 C.ct.rd.rd), aI_of (tR_3 C.ct.rd.rd), aI_of (tR_4 C.ct.rd.rd), aI_of (tR_5 C.ct.rd.rd), aI_of (tR_6 C.ct.rd.rd), aI_of (tR_7 C.ct.rd.rd), aI_of (tR_8 C.ct.rd.rd), aI_of (tR_9 C.ct.rd.rd), C.ct.rd.sc, C.ct.rd.len, C.ct.rd.e1, C.ct.rd.e2, C.ct.rd.min, C.ct.rd.kd, C.ct.rd.gt, C.ct.rd.bt, C.ct.rd.ip, C.ct.rd.hd, c_refuse C.ct.sh, c_answer C.ct.sh, ck_of (tS_14 S), gI_of (tS_14 S), C.fd, q1, gR_of (tS_1 S1), rS_1_2 S1, q2, gR_of (tS_1 S2), rS_1_2 S2, q3, gR_of (tS_1 S3), rS_1_2 S3, q4, gR_of (tS_1 S4), rS_1_2 S4, q5, gR_of (tS_1 S5), rS_1_2 S5, gI_of (tS_14 S5), n5']
      have hno : ∀ x, x ≠ 14 → x ≠ 15 → mI h5 x = mI h x := fun x h1 h2 => f.2.2.2.2 x (by simp [h1, h2])
      refine ⟨_, er, rfl, f.lo (fun x hx => by
        intro hq
        simp only [List.mem_cons, List.not_mem_nil, or_false] at hq
        omega), ?_, by rw [hno 1 (by decide) (by decide)]; exact e1⟩
      have e14 : ∀ k, k ≠ 15 → mI h5 14 k = mI h 14 k := fun k hk => by rw [g5 k hk, g4 k hk, g3 k hk, g2 k hk, g1 k hk]
      obtain ⟨⟨-, c1, c2, c3, c4⟩, k1, k2, k3, k4, k5, k6, k7, k8, k9, k10, k11, k12, k15, k13, k14⟩ := C
      have hr : a 2 0 0 = 2 ∨ a 2 0 0 = 21 := by
        rcases W.rr with q | q
        · exact Or.inl q.1
        · exact Or.inr q.1
      have eI2 : ∀ k, k < 12 → mI h5 (a 2 0 0 + k) = mI h (a 2 0 0 + k) := fun k hk => hno _ (by omega) (by omega)
      refine ⟨⟨S5, ?_, c2.fr (fun k hk => by rw [f.1]) (by rw [f.2.1]) (fun k hk => eI2 k (by omega)), ?_, ?_⟩, ?_, ?_, ?_, ?_, ?_, ?_, n5', ?_, ?_, ?_, ?_, ?_, k15.fr (hno 43 (by decide) (by decide)) (hno 44 (by decide) (by decide)) (hno 45 (by decide) (by decide)) (hno 46 (by decide) (by decide)), k13.fr (hno 48 (by decide) (by decide)) (hno 50 (by decide) (by decide)), k14.fr (hno 52 (by decide) (by decide)) (hno 53 (by decide) (by decide))⟩
      · rw [f.2.1]; exact c1
      · show ∀ j, j < a 0 0 3 → mI h5 (a 2 0 0 + 10) j = _
        rw [eI2 10 (by decide)]; exact c3
      · show ∀ j, j < a 0 0 3 → mI h5 (a 2 0 0 + 10) (10 + j) = _
        rw [eI2 10 (by decide)]; exact c4
      · show rC (mI h5 34) 0 (a 1)
        rw [hno 34 (by decide) (by decide)]; exact k1
      · rw [hno 33 (by decide) (by decide)]; exact k2
      · rw [hno 33 (by decide) (by decide)]; exact k3
      · rw [hno 33 (by decide) (by decide)]; exact k4
      · intro j hj
        have hj : j < a 2 0 3 := hj
        have := W.ac
        rw [feedA_i a _ (i := 10 + j) (by omega) (by omega), hno 35 (by decide) (by decide)]; exact k5 j hj
      · intro j hj
        rw [feedA_i a _ (i := 30 + j) (by omega) (by omega), hno 36 (by decide) (by decide)]; exact k6 j hj
      · intro i hi
        rw [feedA_26] at hi
        rw [feedA_3]
        rcases Nat.lt_or_ge i (a 2 0 6) with w0 | w0
        · rw [if_pos w0, o5 i (by omega), o4 i (by omega), o3 i (by omega), o2 i (by omega), o1 i (by omega)]
          exact k8 i w0
        · rw [if_neg (by omega)]
          obtain ⟨d, rfl⟩ : ∃ d, i = a 2 0 6 + d := ⟨i - a 2 0 6, by omega⟩
          rw [Nat.add_sub_cancel_left]
          unfold by5 sel5
          rcases Nat.lt_or_ge d 4 with w1 | w1
          · rw [if_neg (by omega), o5 _ (by omega), o4 _ (by omega), o3 _ (by omega), o2 _ (by omega), p1 d w1, Nat.mod_eq_of_lt w1]
          · rw [if_pos w1]
            rcases Nat.lt_or_ge d 8 with w2 | w2
            · obtain ⟨m, rfl⟩ : ∃ m, d = 4 + m := ⟨d - 4, by omega⟩
              rw [if_neg (by omega), o5 _ (by omega), o4 _ (by omega), o3 _ (by omega), ← Nat.add_assoc, p2 m (by omega), show (4 + m) % 4 = m by omega]
            · rw [if_pos w2]
              rcases Nat.lt_or_ge d 12 with w3 | w3
              · obtain ⟨m, rfl⟩ : ∃ m, d = 4 + 4 + m := ⟨d - 8, by omega⟩
                rw [if_neg (by omega), o5 _ (by omega), o4 _ (by omega), ← Nat.add_assoc, ← Nat.add_assoc, p3 m (by omega), show (4 + 4 + m) % 4 = m by omega]
              · rw [if_pos w3]
                rcases Nat.lt_or_ge d 16 with w4 | w4
                · obtain ⟨m, rfl⟩ : ∃ m, d = 4 + 4 + 4 + m := ⟨d - 12, by omega⟩
                  rw [if_neg (by omega), o5 _ (by omega), ← Nat.add_assoc, ← Nat.add_assoc, ← Nat.add_assoc, p4 m (by omega), show (4 + 4 + 4 + m) % 4 = m by omega]
                · obtain ⟨m, rfl⟩ : ∃ m, d = 4 + 4 + 4 + 4 + m := ⟨d - 16, by omega⟩
                  rw [if_pos w4, ← Nat.add_assoc, ← Nat.add_assoc, ← Nat.add_assoc, ← Nat.add_assoc, p5 m (by omega), show (4 + 4 + 4 + 4 + m) % 4 = m by omega]
      · rw [e14 16 (by decide)]; exact k9
      · rw [e14 17 (by decide)]; exact k10
      · rw [f.2.1]; exact k11
      · rw [f.2.2.1]; exact k12
    · show OK (f_X13_feed h 55 v1 v2 v3 v4 v5) _
      unfold f_X13_feed
      simp only [ck_of (tS_55 M0.sh), pI_of (tS_55 M0.sh), ob, nI_lit]; obtain ⟨h1, eh, M, F1⟩ : ∃ h1, wI h 55 0 (nI 0) = h1 ∧ IM h1 a ∧ FM h h1 := ⟨_, rfl, M0.th _, FM.w55 h _ (by decide)⟩; rw [eh]
      have S := M.sh
      obtain ⟨V, hV⟩ : ∃ V : Nat → Int32, ∀ k, (sel5 v1 v2 v3 v4 v5 k >>> (nI (24 - 8 * (k % 4)) &&& nI 31)).toInt8.toInt32 = V k := ⟨_, fun _ => rfl⟩
      have hVn : ∀ k, vp_nar .byte (V k) = V k := fun k => by rw [← hV, pk_vb]
      let F : Nat → Nat → Int32 := fun j i => if a 2 0 6 ≤ i ∧ i < a 2 0 6 + j then V (i - a 2 0 6) else mI h1 56 i
      let G : Nat → Mem := fun j => wI (rowI h1 56 (F j)) 55 6 (nI (a 2 0 6 + j))
      have G0 : G 0 = h1 := by
        refine mem_ext (fun x => ?_) rfl rfl rfl rfl
        show mI (wI (rowI h1 56 (F 0)) 55 6 (nI (a 2 0 6 + 0))) x = _
        rcases Decidable.em (x = 55) with q | q
        · subst q
          rw [mI_wI_at, mI_row_ne _ _ (by decide)]
          funext k
          unfold upd
          split
          · rename_i q2; rw [q2, M.fd]; rfl
          · rfl
        · rw [mI_wI_ne _ _ _ q]
          rcases Decidable.em (x = 56) with q2 | q2
          · subst q2
            rw [mI_row]
            funext k
            exact if_neg (by omega)
          · rw [mI_row_ne _ _ q2]
      have GS : ∀ j, wI (wI (G j) 56 (a 2 0 6 + j) (V j)) 55 6 (nI (a 2 0 6 + j + 1)) = G (j + 1) := by
        intro j
        refine mem_ext (fun x => ?_) rfl rfl rfl rfl
        show mI (wI (wI (wI (rowI h1 56 (F j)) 55 6 (nI (a 2 0 6 + j))) 56 (a 2 0 6 + j) (V j)) 55 6 (nI (a 2 0 6 + j + 1))) x = mI (wI (rowI h1 56 (F (j + 1))) 55 6 (nI (a 2 0 6 + (j + 1)))) x
        rcases Decidable.em (x = 55) with q | q
        · subst q
          rw [mI_wI_at, mI_wI_at, mI_wI_ne _ _ _ (by decide), mI_wI_at, mI_row_ne _ _ (by decide), mI_row_ne _ _ (by decide)]
          funext k
          unfold upd
          split
          · rfl
          · rfl
        · rw [mI_wI_ne _ _ _ q, mI_wI_ne (rowI h1 56 (F (j + 1))) _ _ q]
          rcases Decidable.em (x = 56) with q2 | q2
          · subst q2
            rw [mI_wI_at, mI_wI_ne _ _ _ (by decide), mI_row, mI_row]
            funext k
            show (if k = a 2 0 6 + j then V j else if a 2 0 6 ≤ k ∧ k < a 2 0 6 + j then V (k - a 2 0 6) else mI h1 56 k) = if a 2 0 6 ≤ k ∧ k < a 2 0 6 + (j + 1) then V (k - a 2 0 6) else mI h1 56 k
            rcases Decidable.em (k = a 2 0 6 + j) with q3 | q3
            · rw [if_pos q3, if_pos (by omega), q3, Nat.add_sub_cancel_left]
            · rw [if_neg q3]
              rcases Decidable.em (a 2 0 6 ≤ k ∧ k < a 2 0 6 + j) with q4 | q4
              · rw [if_pos q4, if_pos (by omega)]
              · rw [if_neg q4, if_neg (by omega)]
          · rw [mI_wI_ne _ _ _ q2, mI_wI_ne _ _ _ q, mI_row_ne _ _ q2, mI_row_ne _ _ q2]
      have q : iter (fun (s : Int32 × Mem) => b_X13_feed_23 s.2 55 v1 v2 v3 v4 v5 s.1) FU (nI 0, G 0) = some (G 20) := by
        refine iter_for (fun j => (nI j, G j)) 20 (FU_lt (by decide)) (fun j hj => ?_) ?_
        · have S1 : SH (G j) := S
          have e1 : mI (G j) 55 6 = nI (a 2 0 6 + j) := by
            show mI (wI (rowI h1 56 (F j)) 55 6 (nI (a 2 0 6 + j))) 55 6 = _
            rw [mI_wI_at, pk_us]
          have e2 : mI (wI (G j) 56 (a 2 0 6 + j) (V j)) 55 6 = nI (a 2 0 6 + j) := by
            rw [mI_wI_ne _ _ _ (by decide)]
            exact e1
          have k76 : f_X13_feed_76 (G j) 55 v1 v2 v3 v4 v5 (nI j) (sel5 v1 v2 v3 v4 v5 j) = some (Sum.inl (nI (j + 1), G (j + 1))) := by
            unfold f_X13_feed_76
            simp (disch := omega) only [ob, nI_lit, nI_add, pk_mul, nI_eq, nI_ltI, nI_leI, if_true, if_false, if_pos, if_neg, gR_of (tS_55 S1), rS_55_5 S1, gI_of (tS_55 S1), e1, irm_of, pk_sub, sB_of (tS_56 S1), hV, hVn, gI_of (tS_55 (S1.wI 56 (a 2 0 6 + j) (V j))), e2, pI_of (tS_55 (S1.wI 56 (a 2 0 6 + j) (V j))), GS]
          show b_X13_feed_23 (G j) 55 v1 v2 v3 v4 v5 (nI j) = some (Sum.inl (nI (j + 1), G (j + 1)))
          rw [← k76]
          unfold b_X13_feed_23 sel5
          simp (disch := omega) only [ob, nI_lit, nI_add, pk_mul, nI_eq, nI_ltI, nI_leI, if_true, if_false, if_pos, if_neg]
          repeat' split
          all_goals first | rfl | omega
        · show b_X13_feed_23 (G 20) 55 v1 v2 v3 v4 v5 (nI 20) = _
          unfold b_X13_feed_23
          simp (disch := omega) only [ob, nI_lit, nI_add, pk_mul, nI_eq, nI_ltI, nI_leI, if_true, if_false, if_pos, if_neg]
      rw [G0] at q
      have S1 : SH (G 20) := S
      have e9 : mI (G 20) 55 6 = nI (a 2 0 6 + 20) := by
        show mI (wI (rowI h1 56 (F 20)) 55 6 (nI (a 2 0 6 + 20))) 55 6 = _
        rw [mI_wI_at, pk_us]
      simp (disch := omega) only [ob, nI_lit, nI_add, pk_mul, nI_eq, nI_ltI, nI_leI, if_true, if_false, if_pos, if_neg, ck_of (tS_55 M.sh), gR_of (tS_55 M.sh), gI_of (tS_55 M.sh), pI_of (tS_55 M.sh), rS_55_16 M.sh, rS_55_17 M.sh, rS_55_18 M.sh, rS_55_21 M.sh, rS_55_25 M.sh, rS_55_26 M.sh, rS_55_27 M.sh, rS_55_28 M.sh, rS_55_32 M.sh, rS_55_33 M.sh, rS_55_34 M.sh, m_refused M.sh, m_good M.sh, M.fd, q, gI_of (tS_55 S1), e9]
      have f : FQ [55, 56] h1 (G 20) := (FQ.row _ _ (by decide)).tr (FQ.w _ _ _ (by decide))
      have hno : ∀ x, x ≠ 55 → x ≠ 56 → mI (G 20) x = mI h1 x := fun x h1 h2 => f.2.2.2.2 x (by simp [h1, h2])
      have e55 : ∀ k, k ≠ 6 → mI (G 20) 55 k = mI h1 55 k := fun k hk => by
        show mI (wI (rowI h1 56 (F 20)) 55 6 (nI (a 2 0 6 + 20))) 55 k = _
        rw [mI_wI_at, pk_un hk, mI_row_ne _ _ (by decide)]
      refine ⟨_, rfl, rfl, FHi.f1 F1 (f.hi (fun x hx => by
        intro hq
        simp only [List.mem_cons, List.not_mem_nil, or_false] at hq
        omega)), ?_, ?_, ?_⟩
      · obtain ⟨-, k1, k2, k3, k4, k5, k6, k7, k8, k9, k10⟩ := M
        refine ⟨S1, ?_, ?_, ?_, ?_, ?_, ?_, e9, ?_, ?_, ?_⟩
        · rcases k1 with q | ⟨q1, ⟨-, q3, q4, q5⟩, q6, q7⟩
          · exact Or.inl q
          · have q9 : MRd (G 20) (a 2 0 2) (a 0) := MRd.fr (h := h1) (h' := G 20) (fun k hk => by rw [f.1]) (by rw [f.2.1]) (fun k hk => hno (a 2 0 2 + k) (by omega) (by omega)) q5
            exact Or.inr ⟨q1, ⟨S1, q3, q4, q9⟩, q6, q7⟩
        · show rM (mI (G 20) 57) 0 (a 1)
          rw [hno 57 (by decide) (by decide)]; exact k2
        · rw [e55 19 (by decide)]; exact k3
        · rw [e55 20 (by decide)]; exact k4
        · intro j hj
          have hj : j < a 2 0 3 := hj
          have := W.ac
          rw [feedA_i a _ (i := 10 + j) (by omega) (by omega), hno 58 (by decide) (by decide)]; exact k5 j hj
        · intro j hj
          rw [feedA_i a _ (i := 30 + j) (by omega) (by omega), hno 59 (by decide) (by decide)]; exact k6 j hj
        · intro i hi
          rw [feedA_26] at hi
          rw [feedA_3]
          show mI (wI (rowI h1 56 (F 20)) 55 6 (nI (a 2 0 6 + 20))) 56 i &&& nI 255 = _
          rw [mI_wI_ne _ _ _ (by decide), mI_row]
          show (if a 2 0 6 ≤ i ∧ i < a 2 0 6 + 20 then V (i - a 2 0 6) else mI h1 56 i) &&& nI 255 = _
          rcases Nat.lt_or_ge i (a 2 0 6) with w0 | w0
          · rw [if_neg (by omega), if_pos w0]
            exact k8 i w0
          · rw [if_pos (by omega), if_neg (by omega)]
            rw [← hV, and255, byt_c]
            rfl
        · rw [e55 12 (by decide)]; exact k9
        · rw [hno 65 (by decide) (by decide)]; exact k10
      · rw [e55 1 (by decide), ← eh, mI_wI_at, pk_un (by decide)]; exact e1
      · rw [e55 2 (by decide), ← eh, mI_wI_at, pk_un (by decide)]; exact e2
theorem st_0 : StepOK INV lc_0 := by
  intro sc L i h hL hi hI
  unfold lc_0
  simp only [show (1 : Int32) = nI 1 from rfl, show (2 : Int32) = nI 2 from rfl, show (3 : Int32) = nI 3 from rfl, show (4 : Int32) = nI 4 from rfl, show (5 : Int32) = nI 5 from rfl, nI_add, sc_at hL (show i + 1 < L by omega), sc_at hL (show i + 2 < L by omega), sc_at hL (show i + 3 < L by omega), sc_at hL (show i + 4 < L by omega), sc_at hL (show i + 5 < L by omega), ob]
  exact a2 (f := fun h => f_X11_feed h 1 (sc (i + 1)) (sc (i + 2)) (sc (i + 3)) (sc (i + 4)) (sc (i + 5))) (g := fun h => f_X13_feed h 55 (sc (i + 1)) (sc (i + 2)) (sc (i + 3)) (sc (i + 4)) (sc (i + 5))) hI (fun a z W hz => qq_feed W z hz _ _ _ _ _)
