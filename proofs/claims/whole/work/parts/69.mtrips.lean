/-! ===== the reference's trips ===== -/
def bM (h : Mem) (F g : Nat → Int32) : Mem := rowI (rowI h 55 g) 60 F
theorem bM_w (h : Mem) (F g : Nat → Int32) (k : Nat) (v : Int32) : wI (bM h F g) 55 k v = bM h F (upd g k v) := by
  refine mem_ext (fun x => ?_) rfl rfl rfl rfl
  unfold bM
  rcases Decidable.em (x = 55) with e | e
  · subst e
    rw [mI_wI_at, mI_row_ne _ _ (by decide), mI_row, mI_row_ne _ _ (by decide), mI_row]
  · rw [mI_wI_ne _ _ _ e]
    rcases Decidable.em (x = 60) with e2 | e2
    · subst e2
      rw [mI_row, mI_row]
    · rw [mI_row_ne _ _ e2, mI_row_ne _ _ e, mI_row_ne _ _ e2, mI_row_ne _ _ e]
theorem bM_id (h : Mem) : bM h (mI h 60) (mI h 55) = h := by
  unfold bM
  rw [rowI_id, rowI_id]
theorem bM_55 (h : Mem) (F g : Nat → Int32) : mI (bM h F g) 55 = g := by
  unfold bM
  rw [mI_row_ne _ _ (by decide), mI_row]
/-- only what is bought is noted -/
def gOK (h : Mem) (g : Nat → Int32) : Prop := ∀ k, k ≠ 22 → k ≠ 23 → k ≠ 24 → g k = mI h 55 k
theorem bM_fm {h : Mem} {F g : Nat → Int32} (hg : gOK h g) : FM h (bM h F g) := by
  refine ⟨(FQ.row _ _ (by decide)).tr (FQ.row _ _ (by decide)), ⟨?_, ?_, ?_, ?_⟩, ?_⟩
  · rw [bM_55, hg _ (by decide) (by decide) (by decide)]
  · rw [bM_55, hg _ (by decide) (by decide) (by decide)]
  · rw [bM_55, hg _ (by decide) (by decide) (by decide)]
  · rw [bM_55, hg _ (by decide) (by decide) (by decide)]
  · unfold bM
    rw [mI_row_ne _ _ (by decide), mI_row_ne _ _ (by decide)]
theorem gM_fm {h : Mem} {g : Nat → Int32} (hg : gOK h g) : FM h (rowI h 55 g) := by
  refine ⟨FQ.row _ _ (by decide), ⟨?_, ?_, ?_, ?_⟩, ?_⟩
  · rw [mI_row, hg _ (by decide) (by decide) (by decide)]
  · rw [mI_row, hg _ (by decide) (by decide) (by decide)]
  · rw [mI_row, hg _ (by decide) (by decide) (by decide)]
  · rw [mI_row, hg _ (by decide) (by decide) (by decide)]
  · rw [mI_row_ne _ _ (by decide)]
theorem gOK.u {h : Mem} {g : Nat → Int32} (hg : gOK h g) {k : Nat} (hk : k = 22 ∨ k = 23 ∨ k = 24) (v : Int32) : gOK h (upd g k v) := fun j h1 h2 h3 => by
  rw [pk_un (by omega)]
  exact hg j h1 h2 h3
theorem vo_iv0 {kn fg t : Nat} : vo kn fg ||| 2 ^ t = vo (kn ||| 2 ^ t) fg := by
  unfold vo
  apply Nat.eq_of_testBit_eq
  intro i
  simp only [Nat.testBit_or]
  cases kn.testBit i <;> cases (2 ^ t).testBit i <;> cases (fg * 64).testBit i <;> cases (4096 : Nat).testBit i <;> rfl
theorem vo_iv1 {kn fg t : Nat} : vo kn fg ||| 2 ^ (6 + t) = vo kn (fg ||| 2 ^ t) := by
  have e : (fg ||| 2 ^ t) * 64 = fg * 64 ||| 2 ^ (6 + t) := by
    apply Nat.eq_of_testBit_eq
    intro i
    rw [show (fg ||| 2 ^ t) * 64 = 2 ^ 6 * (fg ||| 2 ^ t) by omega, show fg * 64 = 2 ^ 6 * fg by omega, Nat.testBit_or, Nat.testBit_two_pow_mul, Nat.testBit_two_pow_mul, Nat.testBit_or, bit_pow, bit_pow]
    rcases Nat.lt_or_ge i 6 with c | c
    · simp [show ¬ 6 ≤ i by omega, show ¬ 6 + t = i by omega]
    · have : (t = i - 6) = (6 + t = i) := by
        apply propext
        omega
      simp [c, this]
  unfold vo
  rw [e]
  apply Nat.eq_of_testBit_eq
  intro i
  simp only [Nat.testBit_or]
  cases kn.testBit i <;> cases (2 ^ (6 + t)).testBit i <;> cases (fg * 64).testBit i <;> cases (4096 : Nat).testBit i <;> rfl
theorem or_xor {B k : Nat} (hb : B.testBit k = false) : (B ||| 2 ^ k) ^^^ 2 ^ k = B := by
  apply Nat.eq_of_testBit_eq
  intro i
  rw [xor_bit, Nat.testBit_or, bit_pow]
  rcases Decidable.em (k = i) with e | e
  · subst e
    simp [hb]
  · simp [e]
theorem or_self_bit (B k : Nat) : (B ||| 2 ^ k).testBit k = true := by
  rw [Nat.testBit_or, bit_pow]
  simp
section
variable {h : Mem} {a : AB}
theorem m_cost (W : IW a) (M : IM h a) (e0 : 0 < a 0 0 2) {s : Nat} (hs : s < 64) : f_X13_costOf h 55 (nI s) = some (nI (co (a 0) s)) := by
  have hin := W.rw.inn
  have P := M.told e0
  have q : iter (fun (x : Int32 × Int32) => b_X13_costOf_4 h 55 (nI s) x.1 x.2) FU (nI 0, nI 0) = some (nI (co (a 0) s)) := by
    refine iter_fo (fun a i => (nI a, nI i)) (fun k x => x + if s.testBit k = true then a 0 11 k else 0) 0 (a 0 0 5) (FU_lt (by omega)) (fun k x hk => ?_) ?_
    · show b_X13_costOf_4 h 55 (nI s) (nI x) (nI k) = _
      unfold b_X13_costOf_4 f_X13_costOf_37
      simp (disch := omega) only [obx, nI_lit, nI_add, pk_mul, nI_eq, nI_ltI, nI_leI, if_true, if_false, if_pos, if_neg, ck_of (tS_55 M.sh), gR_of (tS_55 M.sh), gI_of (tS_55 M.sh), pI_of (tS_55 M.sh), rS_55_16 M.sh, rS_55_17 M.sh, rS_55_18 M.sh, rS_55_21 M.sh, rS_55_25 M.sh, rS_55_26 M.sh, rS_55_27 M.sh, rS_55_28 M.sh, rS_55_32 M.sh, rS_55_33 M.sh, rS_55_34 M.sh, m_refused M.sh, m_good M.sh, P.pp, ck_of (tP P.rd.pk), gR_of (tP P.rd.pk), gI_of (tP P.rd.pk), rP_10 P.rd.pk, rP_11 P.rd.pk, rP_12 P.rd.pk, rP_13 P.rd.pk, rP_14 P.rd.pk, rP_15 P.rd.pk, rP_16 P.rd.pk, rP_17 P.rd.pk, rP_18 P.rd.pk, rP_19 P.rd.pk, rP_20 P.rd.pk, rP_21 P.rd.pk, rP_22 P.rd.pk, rP_23 P.rd.pk, rP_24 P.rd.pk, aI_of (tP_1 P.rd.pk), aI_of (tP_2 P.rd.pk), aI_of (tP_3 P.rd.pk), aI_of (tP_4 P.rd.pk), aI_of (tP_5 P.rd.pk), aI_of (tP_6 P.rd.pk), aI_of (tP_7 P.rd.pk), aI_of (tP_8 P.rd.pk), aI_of (tP_9 P.rd.pk), aI_of (tP_10 P.rd.pk), aI_of (tP_11 P.rd.pk), aI_of (tP_12 P.rd.pk), aI_of (tP_13 P.rd.pk), aI_of (tP_14 P.rd.pk), aI_of (tP_15 P.rd.pk), P.rd.sc, P.rd.len, P.rd.note, P.rd.min, P.rd.kd, P.rd.gt, P.rd.e1, P.rd.e2, P.rd.i8, P.rd.i9, P.rd.i10, P.rd.i11, P.rd.hd, h_bit]
      cases s.testBit k
      · simp (disch := omega) only [obx, nI_lit, nI_add, pk_mul, nI_eq, nI_ltI, nI_leI, if_true, if_false, if_pos, if_neg, Bool.toNat_false, Bool.false_eq_true]
      · simp (disch := omega) only [obx, nI_lit, nI_add, pk_mul, nI_eq, nI_ltI, nI_leI, if_true, if_false, if_pos, if_neg, Bool.toNat_true]
    · unfold b_X13_costOf_4
      simp (disch := omega) only [obx, nI_lit, nI_add, pk_mul, nI_eq, nI_ltI, nI_leI, if_true, if_false, if_pos, if_neg, ck_of (tS_55 M.sh), gR_of (tS_55 M.sh), gI_of (tS_55 M.sh), pI_of (tS_55 M.sh), rS_55_16 M.sh, rS_55_17 M.sh, rS_55_18 M.sh, rS_55_21 M.sh, rS_55_25 M.sh, rS_55_26 M.sh, rS_55_27 M.sh, rS_55_28 M.sh, rS_55_32 M.sh, rS_55_33 M.sh, rS_55_34 M.sh, m_refused M.sh, m_good M.sh, P.pp, ck_of (tP P.rd.pk), gR_of (tP P.rd.pk), gI_of (tP P.rd.pk), rP_10 P.rd.pk, rP_11 P.rd.pk, rP_12 P.rd.pk, rP_13 P.rd.pk, rP_14 P.rd.pk, rP_15 P.rd.pk, rP_16 P.rd.pk, rP_17 P.rd.pk, rP_18 P.rd.pk, rP_19 P.rd.pk, rP_20 P.rd.pk, rP_21 P.rd.pk, rP_22 P.rd.pk, rP_23 P.rd.pk, rP_24 P.rd.pk, aI_of (tP_1 P.rd.pk), aI_of (tP_2 P.rd.pk), aI_of (tP_3 P.rd.pk), aI_of (tP_4 P.rd.pk), aI_of (tP_5 P.rd.pk), aI_of (tP_6 P.rd.pk), aI_of (tP_7 P.rd.pk), aI_of (tP_8 P.rd.pk), aI_of (tP_9 P.rd.pk), aI_of (tP_10 P.rd.pk), aI_of (tP_11 P.rd.pk), aI_of (tP_12 P.rd.pk), aI_of (tP_13 P.rd.pk), aI_of (tP_14 P.rd.pk), aI_of (tP_15 P.rd.pk), P.rd.sc, P.rd.len, P.rd.note, P.rd.min, P.rd.kd, P.rd.gt, P.rd.e1, P.rd.e2, P.rd.i8, P.rd.i9, P.rd.i10, P.rd.i11, P.rd.hd]
      rfl
  unfold f_X13_costOf
  simp (disch := omega) only [obx, nI_lit, nI_add, pk_mul, nI_eq, nI_ltI, nI_leI, if_true, if_false, if_pos, if_neg, ck_of (tS_55 M.sh), gR_of (tS_55 M.sh), gI_of (tS_55 M.sh), pI_of (tS_55 M.sh), rS_55_16 M.sh, rS_55_17 M.sh, rS_55_18 M.sh, rS_55_21 M.sh, rS_55_25 M.sh, rS_55_26 M.sh, rS_55_27 M.sh, rS_55_28 M.sh, rS_55_32 M.sh, rS_55_33 M.sh, rS_55_34 M.sh, m_refused M.sh, m_good M.sh, q]
/-- what holds while one buys: a set, what one knows and has FORGED by it -/
def bI (a : AB) (x s B kB gB : Nat) : Prop := subB B s ∧ ch (a 0) (vx a x) (rb (a 1)) (a 1 0 x) B = true ∧ vo kB gB = vs (a 0) (vx a x) B ∧ kB < 64 ∧ gB < 64
theorem subB_lt {B s n : Nat} (h : subB B s) (hs : s < 2 ^ n) : B < 2 ^ n := by
  apply Nat.lt_pow_two_of_testBit
  intro i hi
  cases hb : B.testBit i
  · rfl
  · have := h i hb
    rw [Nat.testBit_lt_two_pow (Nat.lt_of_lt_of_le hs (two_le hi))] at this
    cases this
theorem bc_grow {B B' : Nat} (h : subB B B') (hne : B ≠ B') (hl : B' < 64) : bcN B < bcN B' := by
  have h1 : ∃ i, B'.testBit i = true ∧ B.testBit i = false := by
    rcases Classical.em (∃ i, B'.testBit i = true ∧ B.testBit i = false) with q | q
    · exact q
    · exfalso
      apply hne
      apply Nat.eq_of_testBit_eq
      intro i
      cases hb : B.testBit i
      · cases hb' : B'.testBit i
        · rfl
        · exact absurd ⟨i, hb', hb⟩ q
      · exact (h i hb).symm
  obtain ⟨i, h2, h3⟩ := h1
  have hi : i < 7 := by
    rcases Nat.lt_or_ge i 7 with c | c
    · exact c
    · rw [Nat.testBit_lt_two_pow (Nat.lt_of_lt_of_le hl (two_le (k := 6) (by omega)))] at h2
      cases h2
  exact cn_lt (fun j _ hj => h j hj) ⟨i, hi, h2, h3⟩
theorem m_pass (W : IW a) (M : IM h a) {x s : Nat} (hx : x < a 0 0 6) (hs : s < 2 ^ a 0 0 5) {F g : Nat → Int32} (hg : gOK h g) {B kB gB : Nat} (hB : bI a x s B kB gB) (hF : ∀ y z, y < a 0 0 2 → z < a 0 0 2 → F (7 * y + z) = nI (ds (a 0) (vs (a 0) (vx a x) B) (rb (a 1)) y z)) (g22 : g 22 = nI B) (g23 : g 23 = nI kB) (g24 : g 24 = nI gB) :
    OK (iter (fun (q : Int32 × Int32 × Mem) => b_X13_buysAll_58 q.2.2 55 (nI x) (nI s) q.1 q.2.1) FU (nI 0, nI 0, bM h F g)) (fun r => ∃ g' B' kB' gB', r.2 = bM h F g' ∧ gOK h g' ∧ bI a x s B' kB' gB' ∧ g' 22 = nI B' ∧ g' 23 = nI kB' ∧ g' 24 = nI gB' ∧ subB B B' ∧ r.1 = (if B' = B then nI 0 else nI 1) ∧ (∀ k, k < a 0 0 5 → s.testBit k = true → (rch (a 0) (vx a x) (rb (a 1)) (a 1 0 x) B).testBit (a 0 8 k) = true → B'.testBit k = true)) := by
  have hin := W.rw.inn
  have htu := W.rw.tu
  have hT : 2 ^ a 0 0 5 ≤ 2 ^ 6 := two_le hin
  have hf := W.nf.pl x hx
  have e0 : 0 < a 0 0 2 := by omega
  refine iter_ok (fun k q => ∃ g' B' kB' gB', q = (if B' = B then nI 0 else nI 1, nI k, bM h F g') ∧ gOK h g' ∧ bI a x s B' kB' gB' ∧ g' 22 = nI B' ∧ g' 23 = nI kB' ∧ g' 24 = nI gB' ∧ subB B B' ∧ (∀ j, j < k → s.testBit j = true → (rch (a 0) (vx a x) (rb (a 1)) (a 1 0 x) B).testBit (a 0 8 j) = true → B'.testBit j = true)) (a 0 0 5) (FU_lt (by omega)) (fun k q hk hI => ?_) ⟨g, B, kB, gB, by rw [if_pos rfl], hg, hB, g22, g23, g24, fun i hi => hi, fun j hj => by omega⟩
  obtain ⟨g', B', kB', gB', rfl, hg', hB', e22, e23, e24, hsub, hcl⟩ := hI
  have hBl := subB_lt hB'.1 hs
  have M1 : IM (bM h F g') a := M.fm (bM_fm hg')
  have P1 := M1.told e0
  have S1 := M1.sh
  have Mg : IM (rowI h 55 g') a := M.fm (gM_fm hg')
  show OK (b_X13_buysAll_58 (bM h F g') 55 (nI x) (nI s) (if B' = B then nI 0 else nI 1) (nI k)) _
  unfold b_X13_buysAll_58 f_X13_buysAll_189 f_X13_buysAll_187
  rcases Nat.lt_or_ge k (a 0 0 5) with c | c
  · have hip := W.rw.ip k c
    have mf : f_X13_farTo (bM h F g') 55 (nI x) (nI (a 0 8 k)) = _ := m_farTo W Mg hx hF hip.1
    have hdl := ds_le (V := vs (a 0) (vx a x) B) (ra := rb (a 1)) W.rw hf hip.1
    have hrb : (rch (a 0) (vx a x) (rb (a 1)) (a 1 0 x) B).testBit (a 0 8 k) = decide (ds (a 0) (vs (a 0) (vx a x) B) (rb (a 1)) (a 1 0 x) (a 0 8 k) < 99999) := by
      unfold rch
      rw [rs_bit, decide_eq_true hip.1, Bool.true_and]
    have keep : (s.testBit k = true → (rch (a 0) (vx a x) (rb (a 1)) (a 1 0 x) B).testBit (a 0 8 k) = true → B'.testBit k = true) → OK (some (Sum.inl ((if B' = B then nI 0 else nI 1), nI (k + 1), bM h F g')) : Option ((Int32 × Int32 × Mem) ⊕ (Int32 × Mem))) (fun q => match q with | .inl s' => k < a 0 0 5 ∧ ∃ g' B' kB' gB', s' = (if B' = B then nI 0 else nI 1, nI (k + 1), bM h F g') ∧ gOK h g' ∧ bI a x s B' kB' gB' ∧ g' 22 = nI B' ∧ g' 23 = nI kB' ∧ g' 24 = nI gB' ∧ subB B B' ∧ (∀ j, j < k + 1 → s.testBit j = true → (rch (a 0) (vx a x) (rb (a 1)) (a 1 0 x) B).testBit (a 0 8 j) = true → B'.testBit j = true) | .inr r => ∃ g' B' kB' gB', r.2 = bM h F g' ∧ gOK h g' ∧ bI a x s B' kB' gB' ∧ g' 22 = nI B' ∧ g' 23 = nI kB' ∧ g' 24 = nI gB' ∧ subB B B' ∧ r.1 = (if B' = B then nI 0 else nI 1) ∧ (∀ k, k < a 0 0 5 → s.testBit k = true → (rch (a 0) (vx a x) (rb (a 1)) (a 1 0 x) B).testBit (a 0 8 k) = true → B'.testBit k = true)) := by
      intro hk2
      refine ⟨_, rfl, c, g', B', kB', gB', rfl, hg', hB', e22, e23, e24, hsub, fun j hj h1 h2 => ?_⟩
      rcases Decidable.em (j = k) with e | e
      · subst e
        exact hk2 h1 h2
      · exact hcl j (by omega) h1 h2
    rcases hsk : s.testBit k with _ | _
    · simp (disch := omega) only [obx, nI_lit, nI_add, pk_mul, nI_eq, nI_ltI, nI_leI, if_true, if_false, if_pos, if_neg, gR_of (tS_55 S1), P1.pp, gI_of (tP P1.rd.pk), P1.rd.sc, h_bit, hsk, Bool.toNat_false]
      exact OK.mono (keep (fun q => by rw [hsk] at q; cases q)) (fun q hq => by cases q <;> exact hq)
    · rcases hbk : B'.testBit k with _ | _
      · rcases Nat.lt_or_ge (ds (a 0) (vs (a 0) (vx a x) B) (rb (a 1)) (a 1 0 x) (a 0 8 k)) 99999 with c2 | c2
        · -- bought
          have hsk1 : nI 1 <<< (nI k &&& nI 31) = nI (2 ^ k) := nI_sh1 (by omega)
          have hst : nI 1 <<< (nI (a 0 9 k) &&& nI 31) = nI (2 ^ a 0 9 k) := nI_sh1 (by omega)
          have p2k : 2 ^ k ≤ 2 ^ 5 := two_le (by omega)
          have p2t : 2 ^ a 0 9 k ≤ 2 ^ 5 := two_le (by omega)
          have hor : nI B' ||| nI (2 ^ k) = nI (B' ||| 2 ^ k) := nI_or (by omega) (by omega)
          obtain ⟨b1, b2, b3, b4, b5⟩ := hB'
          have sub2 : subB (B' ||| 2 ^ k) s := by
            intro i hi
            rw [Nat.testBit_or, bit_pow, Bool.or_eq_true, decide_eq_true_iff] at hi
            rcases hi with q | q
            · exact b1 i q
            · rw [← q]; exact hsk
          have hlt2 := subB_lt sub2 hs
          have hmono : (rch (a 0) (vx a x) (rb (a 1)) (a 1 0 x) B').testBit (a 0 8 k) = true := by
            refine rs_mono W.rw (vs_sub hsub) hf ?_
            change (rch (a 0) (vx a x) (rb (a 1)) (a 1 0 x) B).testBit (a 0 8 k) = true
            rw [hrb]
            exact decide_eq_true c2
          have ch2 : ch (a 0) (vx a x) (rb (a 1)) (a 1 0 x) (B' ||| 2 ^ k) = true := by
            rw [ch_eq W.rw (by omega), Bool.or_eq_true]
            right
            refine ex_iff.mpr ⟨k, c, ?_⟩
            rw [or_xor hbk, or_self_bit, b2, hmono]
            rfl
          have vs2 : vs (a 0) (vx a x) (B' ||| 2 ^ k) = vo kB' gB' ||| iv (a 0) k := by
            rw [vs_add c (or_self_bit B' k), or_xor hbk, b3]
          have hne : ¬ (B' ||| 2 ^ k) = B := by
            intro q
            have h1 := hsub k (by rw [← q]; exact or_self_bit B' k)
            rw [hbk] at h1
            cases h1
          have cl2 : ∀ j, j < k + 1 → s.testBit j = true → (rch (a 0) (vx a x) (rb (a 1)) (a 1 0 x) B).testBit (a 0 8 j) = true → (B' ||| 2 ^ k).testBit j = true := by
            intro j hj h1 h2
            rw [Nat.testBit_or, bit_pow]
            rcases Decidable.em (k = j) with e | e
            · simp [e]
            · rw [hcl j (by omega) h1 h2]
              rfl
          have sub3 : subB B (B' ||| 2 ^ k) := fun i hi => by
            rw [Nat.testBit_or, hsub i hi]
            rfl
          have P2 : ∀ g2, gOK h g2 → MT (bM h F g2) (a 2 0 2) (a 0) := fun g2 h2 => (M.fm (bM_fm h2)).told e0
          have q2 := P2 (upd g' 22 (nI (B' ||| 2 ^ k))) (hg'.u (Or.inl rfl) _)
          simp (disch := omega) only [obx, nI_lit, nI_add, pk_mul, nI_eq, nI_ltI, nI_leI, if_true, if_false, if_pos, if_neg, gR_of (tS_55 S1), P1.pp, gI_of (tP P1.rd.pk), P1.rd.sc, h_bit, hsk, Bool.toNat_true, gI_of (tS_55 S1), bM_55, e22, hbk, Bool.toNat_false, gR_of (tP P1.rd.pk), rP_17 P1.rd.pk, aI_of (tP_8 P1.rd.pk), P1.rd.i8, mf, hsk1, hor, pI_of (tS_55 S1), bM_w, gR_of (tS_55 q2.sh), q2.pp, gR_of (tP q2.rd.pk), rP_19 q2.rd.pk, rP_18 q2.rd.pk, aI_of (tP_10 q2.rd.pk), aI_of (tP_9 q2.rd.pk), q2.rd.i10, q2.rd.i9, hst, gI_of (tS_55 q2.sh), pk_un (show (23 : Nat) ≠ 22 by decide), pk_un (show (24 : Nat) ≠ 22 by decide), e23, e24, nI_or, pI_of (tS_55 q2.sh)]
          rcases Decidable.em (a 0 10 k = 1) with ef | ef
          · rw [if_pos ef]
            refine ⟨_, rfl, c, upd (upd g' 22 (nI (B' ||| 2 ^ k))) 24 (nI (gB' ||| 2 ^ a 0 9 k)), B' ||| 2 ^ k, kB', gB' ||| 2 ^ a 0 9 k, by rw [if_neg hne, nI_1], (hg'.u (Or.inl rfl) _).u (Or.inr (Or.inr rfl)) _, ⟨sub2, ch2, ?_, b4, Nat.or_lt_two_pow (n := 6) b5 (by omega)⟩, ?_, ?_, ?_, sub3, cl2⟩
            · rw [vs2]
              unfold iv
              rw [if_pos ef, vo_iv1]
            · rw [pk_un (by decide), pk_us]
            · rw [pk_un (by decide), pk_un (by decide), e23]
            · rw [pk_us]
          · rw [if_neg ef]
            refine ⟨_, rfl, c, upd (upd g' 22 (nI (B' ||| 2 ^ k))) 23 (nI (kB' ||| 2 ^ a 0 9 k)), B' ||| 2 ^ k, kB' ||| 2 ^ a 0 9 k, gB', by rw [if_neg hne, nI_1], (hg'.u (Or.inl rfl) _).u (Or.inr (Or.inl rfl)) _, ⟨sub2, ch2, ?_, Nat.or_lt_two_pow (n := 6) b4 (by omega), b5⟩, ?_, ?_, ?_, sub3, cl2⟩
            · rw [vs2]
              unfold iv
              rw [if_neg ef, vo_iv0]
            · rw [pk_un (by decide), pk_us]
            · rw [pk_us]
            · rw [pk_un (by decide), pk_un (by decide), e24]
        · simp (disch := omega) only [obx, nI_lit, nI_add, pk_mul, nI_eq, nI_ltI, nI_leI, if_true, if_false, if_pos, if_neg, gR_of (tS_55 S1), P1.pp, gI_of (tP P1.rd.pk), P1.rd.sc, h_bit, hsk, Bool.toNat_true, gI_of (tS_55 S1), bM_55, e22, hbk, Bool.toNat_false, gR_of (tP P1.rd.pk), rP_17 P1.rd.pk, aI_of (tP_8 P1.rd.pk), P1.rd.i8, mf]
          exact OK.mono (keep (fun _ q => by
            rw [hrb, decide_eq_true_iff] at q
            omega)) (fun q hq => by cases q <;> exact hq)
      · simp (disch := omega) only [obx, nI_lit, nI_add, pk_mul, nI_eq, nI_ltI, nI_leI, if_true, if_false, if_pos, if_neg, gR_of (tS_55 S1), P1.pp, gI_of (tP P1.rd.pk), P1.rd.sc, h_bit, hsk, Bool.toNat_true, gI_of (tS_55 S1), bM_55, e22, hbk]
        exact OK.mono (keep (fun _ _ => hbk)) (fun q hq => by cases q <;> exact hq)
  · have hk9 : k = a 0 0 5 := by omega
    subst hk9
    simp (disch := omega) only [obx, nI_lit, nI_add, pk_mul, nI_eq, nI_ltI, nI_leI, if_true, if_false, if_pos, if_neg, gR_of (tS_55 S1), P1.pp, gI_of (tP P1.rd.pk), P1.rd.sc]
    exact ⟨_, rfl, g', B', kB', gB', rfl, hg', hB', e22, e23, e24, hsub, rfl, hcl⟩
/-- buysAll -/
theorem m_buys (W : IW a) (M : IM h a) {x s : Nat} (hx : x < a 0 0 6) (hs : s < 2 ^ a 0 0 5) {F0 g0 : Nat → Int32} (hg0 : gOK h g0) : OK (f_X13_buysAll (bM h F0 g0) 55 (nI x) (nI s)) (fun h' => ∃ F g B, h' = bM h F g ∧ gOK h g ∧ g 22 = nI B ∧ B < 64 ∧ (B = s ↔ ch (a 0) (vx a x) (rb (a 1)) (a 1 0 x) s = true) ∧ ∀ y z, y < a 0 0 2 → z < a 0 0 2 → F (7 * y + z) = nI (ds (a 0) (vs (a 0) (vx a x) B) (rb (a 1)) y z)) := by
  have hin := W.rw.inn
  have hpe := W.rw.pe
  have hT : 2 ^ a 0 0 5 ≤ 2 ^ 6 := two_le hin
  have hf := W.nf.pl x hx
  have e0 : 0 < a 0 0 2 := by omega
  have key : ∀ (F g : Nat → Int32), gOK h g → g 22 = nI 0 → g 23 = nI (a 1 2 x) → g 24 = nI (a 1 3 x) → OK (iter (fun (q : Int32 × Mem) => b_X13_buysAll_33 q.2 55 (nI x) (nI s) q.1) FU (nI 1, bM h F g)) (fun h' => ∃ F g B, h' = bM h F g ∧ gOK h g ∧ g 22 = nI B ∧ B < 64 ∧ (B = s ↔ ch (a 0) (vx a x) (rb (a 1)) (a 1 0 x) s = true) ∧ ∀ y z, y < a 0 0 2 → z < a 0 0 2 → F (7 * y + z) = nI (ds (a 0) (vs (a 0) (vx a x) B) (rb (a 1)) y z)) := by
    intro F g hg g22 g23 g24
    refine iter_ok (fun i q => ∃ fl F g B kB gB, q = (nI fl, bM h F g) ∧ gOK h g ∧ bI a x s B kB gB ∧ g 22 = nI B ∧ g 23 = nI kB ∧ g 24 = nI gB ∧ ((fl = 1 ∧ i ≤ bcN B) ∨ (fl = 0 ∧ i ≤ 7 ∧ (∀ y z, y < a 0 0 2 → z < a 0 0 2 → F (7 * y + z) = nI (ds (a 0) (vs (a 0) (vx a x) B) (rb (a 1)) y z)) ∧ (∀ k, k < a 0 0 5 → s.testBit k = true → (rch (a 0) (vx a x) (rb (a 1)) (a 1 0 x) B).testBit (a 0 8 k) = true → B.testBit k = true)))) 8 (FU_lt (by decide)) (fun i q hi hI => ?_) ⟨1, F, g, 0, a 1 2 x, a 1 3 x, rfl, hg, ⟨(fun i hi => by rw [Nat.zero_testBit] at hi; cases hi), ch_0, (by rw [vs_0]; rfl), W.nf.kn x hx, W.nf.fg x hx⟩, g22, g23, g24, Or.inl ⟨rfl, Nat.zero_le _⟩⟩
    obtain ⟨fl, F, g, B, kB, gB, rfl, hg, hB, g22, g23, g24, hfl⟩ := hI
    have hBl := subB_lt hB.1 hs
    have M1 : IM (bM h F g) a := M.fm (bM_fm hg)
    show OK (b_X13_buysAll_33 (bM h F g) 55 (nI x) (nI s) (nI fl)) _
    unfold b_X13_buysAll_33
    rcases hfl with ⟨rfl, hi2⟩ | ⟨rfl, hi2, hF, hcl⟩
    · have P1 := M1.told e0
      have S1 := M1.sh
      obtain ⟨F', e1, hF'⟩ := m_ways W.rw P1 (M1.p69 e0) (rb (a 1)) hB.2.2.2.1 hB.2.2.2.2
      rw [hB.2.2.1] at hF'
      have e1' : f_X13_ways (bM h F g) 55 (nI kB) (nI gB) (nI (rb (a 1)).toNat) = some (bM h F' g) := by
        rw [e1]
        unfold bM
        rw [rowI_rowI]
      obtain ⟨r, e2, g', B', kB', gB', r2, hg', hB', e22, e23, e24, hsub, r1, hcl⟩ := m_pass W M hx hs hg hB hF' g22 g23 g24
      have hbl := (bc_tab B (by omega)).1
      simp (disch := omega) only [obx, nI_lit, nI_add, pk_mul, nI_eq, nI_ltI, nI_leI, if_true, if_false, if_pos, if_neg, gI_of (tS_55 S1), bM_55, g23, g24, m_rains S1 M1.nw W.nf.rn, e1', e2, r1, r2]
      have hBl2 := subB_lt hB'.1 hs
      rcases Decidable.em (B' = B) with e | e
      · rw [if_pos e]
        subst e
        exact ⟨_, rfl, by omega, 0, F', g', B', kB', gB', rfl, hg', hB', e22, e23, e24, Or.inr ⟨rfl, by omega, hF', hcl⟩⟩
      · rw [if_neg e]
        have := bc_grow hsub (fun q => e q.symm) (by omega)
        exact ⟨_, rfl, by omega, 1, F', g', B', kB', gB', rfl, hg', hB', e22, e23, e24, Or.inl ⟨rfl, by omega⟩⟩
    · simp (disch := omega) only [obx, nI_lit, nI_add, pk_mul, nI_eq, nI_ltI, nI_leI, if_true, if_false, if_pos, if_neg]
      refine ⟨_, rfl, F, g, B, rfl, hg, g22, by omega, ⟨fun e => by rw [← e]; exact hB.2.1, fun hc => ?_⟩, hF⟩
      have h1 := ch_in W.rw hf hcl (bcN s) s (Nat.le_refl _) (by omega) hs (fun i hi => hi) hc
      apply Nat.eq_of_testBit_eq
      intro i
      cases hb : s.testBit i
      · cases hb' : B.testBit i
        · rfl
        · have := hB.1 i hb'
          rw [hb] at this
          cases this
      · exact h1 i hb
  have M0 : IM (bM h F0 g0) a := M.fm (bM_fm hg0)
  have S0 := M0.sh
  have n2 := M0.nw.at x 2 (by omega) (by decide)
  have n3 := M0.nw.at x 3 (by omega) (by decide)
  simp only [Nat.reduceMul] at n2 n3
  have e57 : ∀ g, mI (bM h F0 g) 57 = mI (bM h F0 g0) 57 := fun g => by
    unfold bM
    rw [mI_row_ne _ _ (by decide), mI_row_ne _ _ (by decide), mI_row_ne _ _ (by decide), mI_row_ne _ _ (by decide)]
  have Sg : ∀ g, SH (bM h F0 g) := fun g => S0
  obtain ⟨h', q, hq⟩ := key F0 (upd (upd (upd g0 22 (nI 0)) 23 (nI (a 1 2 x))) 24 (nI (a 1 3 x))) (((hg0.u (Or.inl rfl) _).u (Or.inr (Or.inl rfl)) _).u (Or.inr (Or.inr rfl)) _) (by rw [pk_un (by decide), pk_un (by decide), pk_us]) (by rw [pk_un (by decide), pk_us]) (by rw [pk_us])
  refine ⟨h', ?_, hq⟩
  unfold f_X13_buysAll
  simp (disch := omega) only [obx, nI_lit, nI_add, pk_mul, nI_eq, nI_ltI, nI_leI, if_true, if_false, if_pos, if_neg, ck_of (tS_55 S0), pI_of (tS_55 S0), bM_w, gR_of (tS_55 (Sg _)), rS_55_16 (Sg _), aI_of (tS_57 (Sg _)), e57, n2, n3, pI_of (tS_55 (Sg _)), q]
end
