/-- as ob, but never by unfolding -/
theorem obx {α β : Type} (a : α) (f : α → Option β) : (some a).bind f = f a := by simp
/-! ===== way, reach, reachIf, bestTune, soonest ===== -/
section
variable {h : Mem} {a : AB}
theorem IC.wy (W : IW a) (C : IC h a) (V : Nat) (ra : Bool) (F : Nat → Int32) : FQ LQ h (wyM h V ra F) ∧ IC (wyM h V ra F) a := by
  have f : FQ LQ h (wyM h V ra F) := (wyM_f h V ra F).sub (by decide)
  have so : SK (wyM h V ra F) (a 0) := by
    have g := wyM_f h V ra F
    exact C.so.fr (g.2.2.2.2 43 (by decide)) (g.2.2.2.2 44 (by decide)) (g.2.2.2.2 45 (by decide)) (g.2.2.2.2 46 (by decide))
  exact ⟨f, C.fr W (f.sh C.ct.sh) (fun x _ hx => f.2.2.2.2 x hx) (by rw [f.2.2.1]) (fun x _ => by rw [f.2.1]) (fun x _ => by rw [f.1]) so⟩
/-- the voices of a person -/
def vx (a : AB) (x : Nat) : Nat := vo (a 1 2 x) (a 1 3 x)
theorem vxl (W : IW a) {x : Nat} (hx : x < a 0 0 6) : vx a x < 8192 := vo_lt (W.nf.kn x hx) (W.nf.fg x hx)
theorem vxn (a : AB) (x : Nat) : vx a x ≠ 0 := vo_ne _ _
theorem c_minTo (W : IW a) (C : IC h a) {x p : Nat} (hx : x < a 0 0 6) (hp : p < a 0 0 2) : f_X11_minutesTo h 1 (nI x) (nI p) = some (nI (dd (a 0) (vx a x) (rb (a 1)) p (a 1 0 x)), wyM h (vx a x) (rb (a 1)) (lF h (Lk (a 0) (vx a x) (rb (a 1)) p (a 0 0 2)))) := by
  have hpe := W.rw.pe
  have h0 := W.nf.pl x hx
  have S := C.ct.sh
  have cm := c_measure W.rw C.ct W.ra hp (rb (a 1)) (vxl W hx) (vxn a x)
  have cf := c_from (V := vx a x) W.rw C.ct hp (rb (a 1)) h0
  obtain ⟨-, C1⟩ := C.wy W (vx a x) (rb (a 1)) (lF h (Lk (a 0) (vx a x) (rb (a 1)) p (a 0 0 2)))
  have S1 := C1.ct.sh
  have cv := c_voices S C.nw (show x < 4 by omega) (W.nf.kn x hx) (W.nf.fg x hx)
  change f_X2_voices h 33 (nI x) = some (nI (vx a x)) at cv
  unfold f_X11_minutesTo
  simp (disch := omega) only [ob, nI_lit, nI_add, pk_mul, nI_eq, nI_ltI, nI_leI, if_true, if_false, if_pos, if_neg, ck_of (tS_1 C.ct.sh), gR_of (tS_1 C.ct.sh), gI_of (tS_1 C.ct.sh), pI_of (tS_1 C.ct.sh), C.ct.rp, rS_1_2 C.ct.sh, rS_1_3 C.ct.sh, rS_1_4 C.ct.sh, rS_1_5 C.ct.sh, rS_1_6 C.ct.sh, rS_1_7 C.ct.sh, rS_1_8 C.ct.sh, rS_1_9 C.ct.sh, ck_of (tR C.ct.rd.rd), gR_of (tR C.ct.rd.rd), gI_of (tR C.ct.rd.rd), rR_9 C.ct.rd.rd, rR_10 C.ct.rd.rd, rR_11 C.ct.rd.rd, rR_12 C.ct.rd.rd, rR_13 C.ct.rd.rd, rR_14 C.ct.rd.rd, rR_15 C.ct.rd.rd, rR_16 C.ct.rd.rd, rR_17 C.ct.rd.rd, rR_18 C.ct.rd.rd, rR_19 C.ct.rd.rd, aI_of (tR_1 C.ct.rd.rd), aI_of (tR_2 C.ct.rd.rd), aI_of (tR_3 C.ct.rd.rd), aI_of (tR_4 C.ct.rd.rd), aI_of (tR_5 C.ct.rd.rd), aI_of (tR_6 C.ct.rd.rd), aI_of (tR_7 C.ct.rd.rd), aI_of (tR_8 C.ct.rd.rd), aI_of (tR_9 C.ct.rd.rd), C.ct.rd.sc, C.ct.rd.len, C.ct.rd.e1, C.ct.rd.e2, C.ct.rd.min, C.ct.rd.kd, C.ct.rd.gt, C.ct.rd.bt, C.ct.rd.ip, C.ct.rd.hd, c_refuse C.ct.sh, c_answer C.ct.sh, cv, c_rains S C.nw W.nf.rn, cm, gR_of (tS_1 S1), rS_1_4 S1, rS_1_3 S1, c_of S1 C1.nw, cf]
theorem FM.r60 (F : Nat → Int32) : FM h (rowI h 60 F) := by
  refine ⟨FQ.row h F (by decide), ⟨?_, ?_, ?_, ?_⟩, by rw [mI_row_ne _ _ (by decide)]⟩ <;> rw [mI_row_ne _ _ (by decide)]
theorem m_waysOf (W : IW a) (M : IM h a) {x : Nat} (hx : x < a 0 0 6) : ∃ F, f_X13_waysOf h 55 (nI x) = some (rowI h 60 F) ∧ ∀ y z, y < a 0 0 2 → z < a 0 0 2 → F (7 * y + z) = nI (ds (a 0) (vx a x) (rb (a 1)) y z) := by
  have hpe := W.rw.pe
  have e0 := told_of W (i := 0) (j := 6) (by omega)
  have P := M.told e0
  have n2 := M.nw.at x 2 (by omega) (by decide)
  have n3 := M.nw.at x 3 (by omega) (by decide)
  simp only [Nat.reduceMul] at n2 n3
  obtain ⟨F, e, hF⟩ := m_ways W.rw P (M.p69 e0) (rb (a 1)) (W.nf.kn x hx) (W.nf.fg x hx)
  refine ⟨F, ?_, hF⟩
  unfold f_X13_waysOf
  simp (disch := omega) only [ob, nI_lit, nI_add, pk_mul, nI_eq, nI_ltI, nI_leI, if_true, if_false, if_pos, if_neg, ck_of (tS_55 M.sh), gR_of (tS_55 M.sh), gI_of (tS_55 M.sh), pI_of (tS_55 M.sh), rS_55_16 M.sh, rS_55_17 M.sh, rS_55_18 M.sh, rS_55_21 M.sh, rS_55_25 M.sh, rS_55_26 M.sh, rS_55_27 M.sh, rS_55_28 M.sh, rS_55_32 M.sh, rS_55_33 M.sh, rS_55_34 M.sh, m_refused M.sh, m_good M.sh, aI_of (tS_57 M.sh), n2, n3, m_rains M.sh M.nw W.nf.rn, e]
theorem m_farTo (W : IW a) (M : IM h a) {x : Nat} (hx : x < a 0 0 6) {F : Nat → Int32} {V : Nat} {ra : Bool} (hF : ∀ y z, y < a 0 0 2 → z < a 0 0 2 → F (7 * y + z) = nI (ds (a 0) V ra y z)) {p : Nat} (hp : p < a 0 0 2) : f_X13_farTo (rowI h 60 F) 55 (nI x) (nI p) = some (nI (ds (a 0) V ra (a 1 0 x) p)) := by
  have hpe := W.rw.pe
  have hpl := W.rw.pl
  have h0 := W.nf.pl x hx
  have S1 := M.sh.row 60 F
  have n0 := M.nw.at x 0 (by omega) (by decide)
  simp only [Nat.reduceMul] at n0
  have e57 : mI (rowI h 60 F) 57 = mI h 57 := mI_row_ne _ _ (by decide)
  unfold f_X13_farTo
  simp (disch := omega) only [ob, nI_lit, nI_add, pk_mul, nI_eq, nI_ltI, nI_leI, if_true, if_false, if_pos, if_neg, ck_of (tS_55 S1), gR_of (tS_55 S1), rS_55_21 S1, rS_55_16 S1, aI_of (tS_57 S1), e57, n0, aI_of (tS_60 S1), mI_row, hF]
theorem m_reached (W : IW a) (M : IM h a) {x : Nat} (hx : x < a 0 0 6) {F : Nat → Int32} {V : Nat} {ra : Bool} (hF : ∀ y z, y < a 0 0 2 → z < a 0 0 2 → F (7 * y + z) = nI (ds (a 0) V ra y z)) : f_X13_reached (rowI h 60 F) 55 (nI x) = some (nI (rs (a 0) V ra (a 1 0 x) (a 0 0 2))) := by
  have hpl := W.rw.pl
  have h0 := W.nf.pl x hx
  have M1 : IM (rowI h 60 F) a := M.fm (FM.r60 F)
  have e0 := told_of W (i := 0) (j := 6) (by omega)
  have P1 := M1.told e0
  have S1 := M1.sh
  have q : iter (fun (s : Int32 × Int32) => b_X13_reached_4 (rowI h 60 F) 55 (nI x) s.1 s.2) FU (nI 0, nI 0) = some (nI (rs (a 0) V ra (a 1 0 x) (a 0 0 2))) := by
    refine iter_for (fun i => (nI (rs (a 0) V ra (a 1 0 x) i), nI i)) (a 0 0 2) (FU_lt (by omega)) (fun i hi => ?_) ?_
    · have h1 := rs_lt (ρ := a 0) (V := V) (ra := ra) (a 1 0 x) i
      have h2 := two_le (show i ≤ 7 by omega)
      have h3 := ds_le (V := V) (ra := ra) W.rw h0 hi
      have hsh : nI 1 <<< (nI i &&& nI 31) = nI (2 ^ i) := nI_sh1 (by omega)
      show b_X13_reached_4 (rowI h 60 F) 55 (nI x) (nI (rs (a 0) V ra (a 1 0 x) i)) (nI i) = some (Sum.inl (nI (rs (a 0) V ra (a 1 0 x) i ||| if ds (a 0) V ra (a 1 0 x) i < 99999 then 2 ^ i else 0), nI (i + 1)))
      unfold b_X13_reached_4 f_X13_reached_35
      simp (disch := omega) only [ob, nI_lit, nI_add, pk_mul, nI_eq, nI_ltI, nI_leI, if_true, if_false, if_pos, if_neg, gR_of (tS_55 S1), P1.pp, gI_of (tP P1.rd.pk), P1.rd.sc, m_farTo W M hx hF hi, hsh, nI_or]
      rcases Nat.lt_or_ge (ds (a 0) V ra (a 1 0 x) i) 99999 with c | c
      · rw [if_neg (by omega), if_pos c]
      · rw [if_pos c, if_neg (by omega)]
    · unfold b_X13_reached_4
      simp (disch := omega) only [ob, nI_lit, nI_add, pk_mul, nI_eq, nI_ltI, nI_leI, if_true, if_false, if_pos, if_neg, gR_of (tS_55 S1), P1.pp, gI_of (tP P1.rd.pk), P1.rd.sc]
  unfold f_X13_reached
  simp (disch := omega) only [ob, nI_lit, nI_add, pk_mul, nI_eq, nI_ltI, nI_leI, if_true, if_false, if_pos, if_neg, ck_of (tS_55 S1), q]
theorem c_reachBy (W : IW a) (C : IC h a) {x m : Nat} (hx : x < a 0 0 6) (ra : Bool) (hm : m < 64) : f_X11_reachBy h 1 (nI x) (nI m) (nI ra.toNat) = some (nI (rs (a 0) (vo (a 1 2 x ||| m) (a 1 3 x)) ra (a 1 0 x) (a 0 0 2))) := by
  have hpe := W.rw.pe
  have h0 := W.nf.pl x hx
  have h2 := W.nf.kn x hx
  have h3 := W.nf.fg x hx
  have S := C.ct.sh
  have hv : vo (a 1 2 x) (a 1 3 x) ||| m = vo (a 1 2 x ||| m) (a 1 3 x) := by
    unfold vo
    apply Nat.eq_of_testBit_eq
    intro i
    simp only [Nat.testBit_or]
    cases (a 1 2 x).testBit i <;> cases m.testBit i <;> cases (a 1 3 x * 64).testBit i <;> cases (4096 : Nat).testBit i <;> rfl
  have hkm : a 1 2 x ||| m < 2 ^ 6 := Nat.or_lt_two_pow h2 hm
  have hvl := vo_lt h2 h3
  have hor : nI (vo (a 1 2 x) (a 1 3 x)) ||| nI m = nI (vo (a 1 2 x ||| m) (a 1 3 x)) := by
    rw [nI_or (by omega) (by omega), hv]
  unfold f_X11_reachBy
  simp (disch := omega) only [ob, nI_lit, nI_add, pk_mul, nI_eq, nI_ltI, nI_leI, if_true, if_false, if_pos, if_neg, ck_of (tS_1 C.ct.sh), gR_of (tS_1 C.ct.sh), gI_of (tS_1 C.ct.sh), pI_of (tS_1 C.ct.sh), C.ct.rp, rS_1_2 C.ct.sh, rS_1_3 C.ct.sh, rS_1_4 C.ct.sh, rS_1_5 C.ct.sh, rS_1_6 C.ct.sh, rS_1_7 C.ct.sh, rS_1_8 C.ct.sh, rS_1_9 C.ct.sh, ck_of (tR C.ct.rd.rd), gR_of (tR C.ct.rd.rd), gI_of (tR C.ct.rd.rd), rR_9 C.ct.rd.rd, rR_10 C.ct.rd.rd, rR_11 C.ct.rd.rd, rR_12 C.ct.rd.rd, rR_13 C.ct.rd.rd, rR_14 C.ct.rd.rd, rR_15 C.ct.rd.rd, rR_16 C.ct.rd.rd, rR_17 C.ct.rd.rd, rR_18 C.ct.rd.rd, rR_19 C.ct.rd.rd, aI_of (tR_1 C.ct.rd.rd), aI_of (tR_2 C.ct.rd.rd), aI_of (tR_3 C.ct.rd.rd), aI_of (tR_4 C.ct.rd.rd), aI_of (tR_5 C.ct.rd.rd), aI_of (tR_6 C.ct.rd.rd), aI_of (tR_7 C.ct.rd.rd), aI_of (tR_8 C.ct.rd.rd), aI_of (tR_9 C.ct.rd.rd), C.ct.rd.sc, C.ct.rd.len, C.ct.rd.e1, C.ct.rd.e2, C.ct.rd.min, C.ct.rd.kd, C.ct.rd.gt, C.ct.rd.bt, C.ct.rd.ip, C.ct.rd.hd, c_refuse C.ct.sh, c_answer C.ct.sh, c_of S C.nw, c_voices S C.nw (show x < 4 by omega) h2 h3, hor, c_reach W.rw C.ct h0 ra (vo_lt hkm h3) (vo_ne _ _)]
end
theorem h_bcb (h : Mem) {n : Nat} (hn : n < 128) {β : Type} (K : Int32 → Option β) : (f_J6_bitCount_0f7a4 h (nI n)).bind K = K (nI (bcN n)) := by
  rw [h_bc h hn]
  rfl
theorem h_bitsb (h : Mem) {n : Nat} (hn : n < 128) {β : Type} (K : Int32 → Option β) : (f_X13_bits h (nI n)).bind K = K (nI (bcN n)) := by
  rw [h_bits h hn]
  rfl
theorem or_0 (n : Nat) : n ||| 0 = n := Nat.or_zero n
theorem qq_way {a : AB} (W : IW a) (x y : Int32) : ∃ v z, z ≤ 6 ∧ z ≠ 4 ∧ QC a (fun h => f_X11_way h 1 x y) v z ∧ QM a (fun h => f_X13_way h 55 x y) v z := by
  have hpe := W.rw.pe
  have hpl := W.rw.pl
  rcases hb : (ix (a 0 0 6) x && ix (a 0 0 2) y) with _ | _
  · refine ⟨-nI 1, 1, by decide, by decide, fun h C => ?_, fun h M0 => ?_⟩
    · unfold f_X11_way f_X11_way_16
      simp only [ob, nI_lit, nI_add, pk_mul, nI_eq, nI_ltI, nI_leI, if_true, if_false, if_pos, if_neg, ck_of (tS_1 C.ct.sh), gR_of (tS_1 C.ct.sh), gI_of (tS_1 C.ct.sh), pI_of (tS_1 C.ct.sh), C.ct.rp, rS_1_2 C.ct.sh, rS_1_3 C.ct.sh, rS_1_4 C.ct.sh, rS_1_5 C.ct.sh, rS_1_6 C.ct.sh, rS_1_7 C.ct.sh, rS_1_8 C.ct.sh, rS_1_9 C.ct.sh, ck_of (tR C.ct.rd.rd), gR_of (tR C.ct.rd.rd), gI_of (tR C.ct.rd.rd), rR_9 C.ct.rd.rd, rR_10 C.ct.rd.rd, rR_11 C.ct.rd.rd, rR_12 C.ct.rd.rd, rR_13 C.ct.rd.rd, rR_14 C.ct.rd.rd, rR_15 C.ct.rd.rd, rR_16 C.ct.rd.rd, rR_17 C.ct.rd.rd, rR_18 C.ct.rd.rd, rR_19 C.ct.rd.rd, aI_of (tR_1 C.ct.rd.rd), aI_of (tR_2 C.ct.rd.rd), aI_of (tR_3 C.ct.rd.rd), aI_of (tR_4 C.ct.rd.rd), aI_of (tR_5 C.ct.rd.rd), aI_of (tR_6 C.ct.rd.rd), aI_of (tR_7 C.ct.rd.rd), aI_of (tR_8 C.ct.rd.rd), aI_of (tR_9 C.ct.rd.rd), C.ct.rd.sc, C.ct.rd.len, C.ct.rd.e1, C.ct.rd.e2, C.ct.rd.min, C.ct.rd.kd, C.ct.rd.gt, C.ct.rd.bt, C.ct.rd.ip, C.ct.rd.hd, c_refuse C.ct.sh, c_answer C.ct.sh, c_isPerson W C, c_isPlace W C, nI_b0]
      rcases g1 : ix (a 0 0 6) x with _ | _ <;> rcases g2 : ix (a 0 0 2) y with _ | _ <;> rw [g1, g2] at hb <;> first | (simp at hb; done) | (simp only [if_true, if_false, Bool.true_eq_false, Bool.false_eq_true]; exact qc_end C _ _)
    · unfold f_X13_way f_X13_way_21
      simp only [ck_of (tS_55 M0.sh), pI_of (tS_55 M0.sh), ob, nI_lit]; obtain ⟨h1, eh, M, F1⟩ : ∃ h1, wI h 55 0 (nI 0) = h1 ∧ IM h1 a ∧ FM h h1 := ⟨_, rfl, M0.th _, FM.w55 h _ (by decide)⟩; rw [eh]
      simp only [ob, nI_lit, nI_add, pk_mul, nI_eq, nI_ltI, nI_leI, if_true, if_false, if_pos, if_neg, ck_of (tS_55 M.sh), gR_of (tS_55 M.sh), gI_of (tS_55 M.sh), pI_of (tS_55 M.sh), rS_55_16 M.sh, rS_55_17 M.sh, rS_55_18 M.sh, rS_55_21 M.sh, rS_55_25 M.sh, rS_55_26 M.sh, rS_55_27 M.sh, rS_55_28 M.sh, rS_55_32 M.sh, rS_55_33 M.sh, rS_55_34 M.sh, m_refused M.sh, m_good M.sh, m_isPerson W M, m_isPlace W M, nI_b0]
      rcases g1 : ix (a 0 0 6) x with _ | _ <;> rcases g2 : ix (a 0 0 2) y with _ | _ <;> rw [g1, g2] at hb <;> first | (simp at hb; done) | (simp only [if_true, if_false, Bool.true_eq_false, Bool.false_eq_true]; exact qm_end F1 _ _)
  · rw [Bool.and_eq_true] at hb
    obtain ⟨hx, hy⟩ := hb
    obtain ⟨k, hk, rfl⟩ := ix_t hx (by omega)
    obtain ⟨p, hp, rfl⟩ := ix_t hy (by omega)
    have h0 := W.nf.pl k hk
    have hle := ds_le (V := vx a k) (ra := rb (a 1)) W.rw h0 hp
    refine ⟨if ds (a 0) (vx a k) (rb (a 1)) (a 1 0 k) p < 99999 then nI (ds (a 0) (vx a k) (rb (a 1)) (a 1 0 k) p) else -nI 2, 0, by decide, by decide, fun h C => ?_, fun h M0 => ?_⟩
    · obtain ⟨F2, C2⟩ := C.wy W (vx a k) (rb (a 1)) (lF h (Lk (a 0) (vx a k) (rb (a 1)) p (a 0 0 2)))
      have S2 := C2.ct.sh
      unfold f_X11_way f_X11_way_42
      simp only [ob, nI_lit, nI_add, pk_mul, nI_eq, nI_ltI, nI_leI, if_true, if_false, if_pos, if_neg, ck_of (tS_1 C.ct.sh), gR_of (tS_1 C.ct.sh), gI_of (tS_1 C.ct.sh), pI_of (tS_1 C.ct.sh), C.ct.rp, rS_1_2 C.ct.sh, rS_1_3 C.ct.sh, rS_1_4 C.ct.sh, rS_1_5 C.ct.sh, rS_1_6 C.ct.sh, rS_1_7 C.ct.sh, rS_1_8 C.ct.sh, rS_1_9 C.ct.sh, ck_of (tR C.ct.rd.rd), gR_of (tR C.ct.rd.rd), gI_of (tR C.ct.rd.rd), rR_9 C.ct.rd.rd, rR_10 C.ct.rd.rd, rR_11 C.ct.rd.rd, rR_12 C.ct.rd.rd, rR_13 C.ct.rd.rd, rR_14 C.ct.rd.rd, rR_15 C.ct.rd.rd, rR_16 C.ct.rd.rd, rR_17 C.ct.rd.rd, rR_18 C.ct.rd.rd, rR_19 C.ct.rd.rd, aI_of (tR_1 C.ct.rd.rd), aI_of (tR_2 C.ct.rd.rd), aI_of (tR_3 C.ct.rd.rd), aI_of (tR_4 C.ct.rd.rd), aI_of (tR_5 C.ct.rd.rd), aI_of (tR_6 C.ct.rd.rd), aI_of (tR_7 C.ct.rd.rd), aI_of (tR_8 C.ct.rd.rd), aI_of (tR_9 C.ct.rd.rd), C.ct.rd.sc, C.ct.rd.len, C.ct.rd.e1, C.ct.rd.e2, C.ct.rd.min, C.ct.rd.kd, C.ct.rd.gt, C.ct.rd.bt, C.ct.rd.ip, C.ct.rd.hd, c_refuse C.ct.sh, c_answer C.ct.sh, c_isPerson W C, hx, c_isPlace W C, hy, c_minTo W C hk hp, c_answer S2]
      unfold dd
      rcases Nat.lt_or_ge (ds (a 0) (vx a k) (rb (a 1)) (a 1 0 k) p) 99999 with c | c
      · simp (disch := omega) only [ob, nI_lit, nI_add, pk_mul, nI_eq, nI_ltI, nI_leI, if_true, if_false, if_pos, if_neg, Bool.toNat_true]
        exact qc_end2 F2 C2.so _ _
      · simp (disch := omega) only [ob, nI_lit, nI_add, pk_mul, nI_eq, nI_ltI, nI_leI, if_true, if_false, if_pos, if_neg, Bool.toNat_true]
        exact qc_end2 F2 C2.so _ _
    · unfold f_X13_way f_X13_way_56
      simp only [ck_of (tS_55 M0.sh), pI_of (tS_55 M0.sh), ob, nI_lit]; obtain ⟨h1, eh, M, F1⟩ : ∃ h1, wI h 55 0 (nI 0) = h1 ∧ IM h1 a ∧ FM h h1 := ⟨_, rfl, M0.th _, FM.w55 h _ (by decide)⟩; rw [eh]
      obtain ⟨F, e, hF⟩ := m_waysOf W M hk
      have S2 := M.sh.row 60 F
      simp (disch := omega) only [ob, nI_lit, nI_add, pk_mul, nI_eq, nI_ltI, nI_leI, if_true, if_false, if_pos, if_neg, ck_of (tS_55 M.sh), gR_of (tS_55 M.sh), gI_of (tS_55 M.sh), pI_of (tS_55 M.sh), rS_55_16 M.sh, rS_55_17 M.sh, rS_55_18 M.sh, rS_55_21 M.sh, rS_55_25 M.sh, rS_55_26 M.sh, rS_55_27 M.sh, rS_55_28 M.sh, rS_55_32 M.sh, rS_55_33 M.sh, rS_55_34 M.sh, m_refused M.sh, m_good M.sh, m_isPerson W M, hx, m_isPlace W M, hy, Bool.toNat_true, e, m_farTo W M hk hF hp, m_good S2]
      rcases Nat.lt_or_ge (ds (a 0) (vx a k) (rb (a 1)) (a 1 0 k) p) 99999 with c | c
      · rw [if_neg (by omega), if_pos c]
        exact qm_end (F1.tr (FM.r60 F)) _ _
      · rw [if_pos c, if_neg (by omega)]
        exact qm_end (F1.tr (FM.r60 F)) _ _
theorem st_14 : StepOK INV lc_14 := by
  intro sc L i h hL hi hI
  unfold lc_14
  simp only [show (1 : Int32) = nI 1 from rfl, show (2 : Int32) = nI 2 from rfl, show (3 : Int32) = nI 3 from rfl, show (4 : Int32) = nI 4 from rfl, show (5 : Int32) = nI 5 from rfl, nI_add, sc_at hL (show i + 1 < L by omega), sc_at hL (show i + 2 < L by omega), sc_at hL (show i + 3 < L by omega), sc_at hL (show i + 4 < L by omega), sc_at hL (show i + 5 < L by omega), ob]
  exact q2 (f := fun h => f_X11_way h 1 (sc (i + 1)) (sc (i + 2))) (g := fun h => f_X13_way h 55 (sc (i + 1)) (sc (i + 2))) hI (fun a W => qq_way W _ _)
theorem qq_reach {a : AB} (W : IW a) (x : Int32) : ∃ v z, z ≤ 6 ∧ z ≠ 4 ∧ QC a (fun h => f_X11_reach h 1 x) v z ∧ QM a (fun h => f_X13_reach h 55 x) v z := by
  have hpe := W.rw.pe
  rcases hx : ix (a 0 0 6) x with _ | _
  · refine ⟨-nI 1, 1, by decide, by decide, fun h C => ?_, fun h M0 => ?_⟩
    · unfold f_X11_reach
      simp (disch := omega) only [ob, nI_lit, nI_add, pk_mul, nI_eq, nI_ltI, nI_leI, if_true, if_false, if_pos, if_neg, ck_of (tS_1 C.ct.sh), gR_of (tS_1 C.ct.sh), gI_of (tS_1 C.ct.sh), pI_of (tS_1 C.ct.sh), C.ct.rp, rS_1_2 C.ct.sh, rS_1_3 C.ct.sh, rS_1_4 C.ct.sh, rS_1_5 C.ct.sh, rS_1_6 C.ct.sh, rS_1_7 C.ct.sh, rS_1_8 C.ct.sh, rS_1_9 C.ct.sh, ck_of (tR C.ct.rd.rd), gR_of (tR C.ct.rd.rd), gI_of (tR C.ct.rd.rd), rR_9 C.ct.rd.rd, rR_10 C.ct.rd.rd, rR_11 C.ct.rd.rd, rR_12 C.ct.rd.rd, rR_13 C.ct.rd.rd, rR_14 C.ct.rd.rd, rR_15 C.ct.rd.rd, rR_16 C.ct.rd.rd, rR_17 C.ct.rd.rd, rR_18 C.ct.rd.rd, rR_19 C.ct.rd.rd, aI_of (tR_1 C.ct.rd.rd), aI_of (tR_2 C.ct.rd.rd), aI_of (tR_3 C.ct.rd.rd), aI_of (tR_4 C.ct.rd.rd), aI_of (tR_5 C.ct.rd.rd), aI_of (tR_6 C.ct.rd.rd), aI_of (tR_7 C.ct.rd.rd), aI_of (tR_8 C.ct.rd.rd), aI_of (tR_9 C.ct.rd.rd), C.ct.rd.sc, C.ct.rd.len, C.ct.rd.e1, C.ct.rd.e2, C.ct.rd.min, C.ct.rd.kd, C.ct.rd.gt, C.ct.rd.bt, C.ct.rd.ip, C.ct.rd.hd, c_refuse C.ct.sh, c_answer C.ct.sh, c_isPerson W C, hx, Bool.toNat_false]
      exact qc_end C _ _
    · unfold f_X13_reach
      simp only [ck_of (tS_55 M0.sh), pI_of (tS_55 M0.sh), ob, nI_lit]; obtain ⟨h1, eh, M, F1⟩ : ∃ h1, wI h 55 0 (nI 0) = h1 ∧ IM h1 a ∧ FM h h1 := ⟨_, rfl, M0.th _, FM.w55 h _ (by decide)⟩; rw [eh]
      simp (disch := omega) only [ob, nI_lit, nI_add, pk_mul, nI_eq, nI_ltI, nI_leI, if_true, if_false, if_pos, if_neg, ck_of (tS_55 M.sh), gR_of (tS_55 M.sh), gI_of (tS_55 M.sh), pI_of (tS_55 M.sh), rS_55_16 M.sh, rS_55_17 M.sh, rS_55_18 M.sh, rS_55_21 M.sh, rS_55_25 M.sh, rS_55_26 M.sh, rS_55_27 M.sh, rS_55_28 M.sh, rS_55_32 M.sh, rS_55_33 M.sh, rS_55_34 M.sh, m_refused M.sh, m_good M.sh, m_isPerson W M, hx, Bool.toNat_false]
      exact qm_end F1 _ _
  · obtain ⟨k, hk, rfl⟩ := ix_t hx (by omega)
    refine ⟨nI (rs (a 0) (vx a k) (rb (a 1)) (a 1 0 k) (a 0 0 2)), 0, by decide, by decide, fun h C => ?_, fun h M0 => ?_⟩
    · have cr := c_reachBy W C hk (rb (a 1)) (m := 0) (by decide)
      rw [or_0] at cr
      unfold f_X11_reach
      simp (disch := omega) only [ob, nI_lit, nI_add, pk_mul, nI_eq, nI_ltI, nI_leI, if_true, if_false, if_pos, if_neg, ck_of (tS_1 C.ct.sh), gR_of (tS_1 C.ct.sh), gI_of (tS_1 C.ct.sh), pI_of (tS_1 C.ct.sh), C.ct.rp, rS_1_2 C.ct.sh, rS_1_3 C.ct.sh, rS_1_4 C.ct.sh, rS_1_5 C.ct.sh, rS_1_6 C.ct.sh, rS_1_7 C.ct.sh, rS_1_8 C.ct.sh, rS_1_9 C.ct.sh, ck_of (tR C.ct.rd.rd), gR_of (tR C.ct.rd.rd), gI_of (tR C.ct.rd.rd), rR_9 C.ct.rd.rd, rR_10 C.ct.rd.rd, rR_11 C.ct.rd.rd, rR_12 C.ct.rd.rd, rR_13 C.ct.rd.rd, rR_14 C.ct.rd.rd, rR_15 C.ct.rd.rd, rR_16 C.ct.rd.rd, rR_17 C.ct.rd.rd, rR_18 C.ct.rd.rd, rR_19 C.ct.rd.rd, aI_of (tR_1 C.ct.rd.rd), aI_of (tR_2 C.ct.rd.rd), aI_of (tR_3 C.ct.rd.rd), aI_of (tR_4 C.ct.rd.rd), aI_of (tR_5 C.ct.rd.rd), aI_of (tR_6 C.ct.rd.rd), aI_of (tR_7 C.ct.rd.rd), aI_of (tR_8 C.ct.rd.rd), aI_of (tR_9 C.ct.rd.rd), C.ct.rd.sc, C.ct.rd.len, C.ct.rd.e1, C.ct.rd.e2, C.ct.rd.min, C.ct.rd.kd, C.ct.rd.gt, C.ct.rd.bt, C.ct.rd.ip, C.ct.rd.hd, c_refuse C.ct.sh, c_answer C.ct.sh, c_isPerson W C, hx, Bool.toNat_true, c_rains C.ct.sh C.nw W.nf.rn, cr]
      exact qc_end C _ _
    · unfold f_X13_reach
      simp only [ck_of (tS_55 M0.sh), pI_of (tS_55 M0.sh), ob, nI_lit]; obtain ⟨h1, eh, M, F1⟩ : ∃ h1, wI h 55 0 (nI 0) = h1 ∧ IM h1 a ∧ FM h h1 := ⟨_, rfl, M0.th _, FM.w55 h _ (by decide)⟩; rw [eh]
      obtain ⟨F, e, hF⟩ := m_waysOf W M hk
      have S2 := M.sh.row 60 F
      simp (disch := omega) only [ob, nI_lit, nI_add, pk_mul, nI_eq, nI_ltI, nI_leI, if_true, if_false, if_pos, if_neg, ck_of (tS_55 M.sh), gR_of (tS_55 M.sh), gI_of (tS_55 M.sh), pI_of (tS_55 M.sh), rS_55_16 M.sh, rS_55_17 M.sh, rS_55_18 M.sh, rS_55_21 M.sh, rS_55_25 M.sh, rS_55_26 M.sh, rS_55_27 M.sh, rS_55_28 M.sh, rS_55_32 M.sh, rS_55_33 M.sh, rS_55_34 M.sh, m_refused M.sh, m_good M.sh, m_isPerson W M, hx, Bool.toNat_true, e, m_reached W M hk hF, m_good S2]
      exact qm_end (F1.tr (FM.r60 F)) _ _
theorem st_16 : StepOK INV lc_16 := by
  intro sc L i h hL hi hI
  unfold lc_16
  simp only [show (1 : Int32) = nI 1 from rfl, show (2 : Int32) = nI 2 from rfl, show (3 : Int32) = nI 3 from rfl, show (4 : Int32) = nI 4 from rfl, show (5 : Int32) = nI 5 from rfl, nI_add, sc_at hL (show i + 1 < L by omega), sc_at hL (show i + 2 < L by omega), sc_at hL (show i + 3 < L by omega), sc_at hL (show i + 4 < L by omega), sc_at hL (show i + 5 < L by omega), ob]
  exact q2 (f := fun h => f_X11_reach h 1 (sc (i + 1))) (g := fun h => f_X13_reach h 55 (sc (i + 1))) hI (fun a W => qq_reach W _)
theorem qq_reachIf {a : AB} (W : IW a) (x : Int32) (b : Bool) : ∃ v z, z ≤ 6 ∧ z ≠ 4 ∧ QC a (fun h => f_X11_reachIf h 1 x (nI b.toNat)) v z ∧ QM a (fun h => f_X13_reachIf h 55 x (nI b.toNat)) v z := by
  have hpe := W.rw.pe
  rcases hx : ix (a 0 0 6) x with _ | _
  · refine ⟨-nI 1, 1, by decide, by decide, fun h C => ?_, fun h M0 => ?_⟩
    · unfold f_X11_reachIf
      simp (disch := omega) only [ob, nI_lit, nI_add, pk_mul, nI_eq, nI_ltI, nI_leI, if_true, if_false, if_pos, if_neg, ck_of (tS_1 C.ct.sh), gR_of (tS_1 C.ct.sh), gI_of (tS_1 C.ct.sh), pI_of (tS_1 C.ct.sh), C.ct.rp, rS_1_2 C.ct.sh, rS_1_3 C.ct.sh, rS_1_4 C.ct.sh, rS_1_5 C.ct.sh, rS_1_6 C.ct.sh, rS_1_7 C.ct.sh, rS_1_8 C.ct.sh, rS_1_9 C.ct.sh, ck_of (tR C.ct.rd.rd), gR_of (tR C.ct.rd.rd), gI_of (tR C.ct.rd.rd), rR_9 C.ct.rd.rd, rR_10 C.ct.rd.rd, rR_11 C.ct.rd.rd, rR_12 C.ct.rd.rd, rR_13 C.ct.rd.rd, rR_14 C.ct.rd.rd, rR_15 C.ct.rd.rd, rR_16 C.ct.rd.rd, rR_17 C.ct.rd.rd, rR_18 C.ct.rd.rd, rR_19 C.ct.rd.rd, aI_of (tR_1 C.ct.rd.rd), aI_of (tR_2 C.ct.rd.rd), aI_of (tR_3 C.ct.rd.rd), aI_of (tR_4 C.ct.rd.rd), aI_of (tR_5 C.ct.rd.rd), aI_of (tR_6 C.ct.rd.rd), aI_of (tR_7 C.ct.rd.rd), aI_of (tR_8 C.ct.rd.rd), aI_of (tR_9 C.ct.rd.rd), C.ct.rd.sc, C.ct.rd.len, C.ct.rd.e1, C.ct.rd.e2, C.ct.rd.min, C.ct.rd.kd, C.ct.rd.gt, C.ct.rd.bt, C.ct.rd.ip, C.ct.rd.hd, c_refuse C.ct.sh, c_answer C.ct.sh, c_isPerson W C, hx, Bool.toNat_false]
      exact qc_end C _ _
    · unfold f_X13_reachIf
      simp only [ck_of (tS_55 M0.sh), pI_of (tS_55 M0.sh), ob, nI_lit]; obtain ⟨h1, eh, M, F1⟩ : ∃ h1, wI h 55 0 (nI 0) = h1 ∧ IM h1 a ∧ FM h h1 := ⟨_, rfl, M0.th _, FM.w55 h _ (by decide)⟩; rw [eh]
      simp (disch := omega) only [ob, nI_lit, nI_add, pk_mul, nI_eq, nI_ltI, nI_leI, if_true, if_false, if_pos, if_neg, ck_of (tS_55 M.sh), gR_of (tS_55 M.sh), gI_of (tS_55 M.sh), pI_of (tS_55 M.sh), rS_55_16 M.sh, rS_55_17 M.sh, rS_55_18 M.sh, rS_55_21 M.sh, rS_55_25 M.sh, rS_55_26 M.sh, rS_55_27 M.sh, rS_55_28 M.sh, rS_55_32 M.sh, rS_55_33 M.sh, rS_55_34 M.sh, m_refused M.sh, m_good M.sh, m_isPerson W M, hx, Bool.toNat_false]
      exact qm_end F1 _ _
  · obtain ⟨k, hk, rfl⟩ := ix_t hx (by omega)
    refine ⟨nI (rs (a 0) (vx a k) b (a 1 0 k) (a 0 0 2)), 0, by decide, by decide, fun h C => ?_, fun h M0 => ?_⟩
    · have cr := c_reachBy W C hk b (m := 0) (by decide)
      rw [or_0] at cr
      unfold f_X11_reachIf
      simp (disch := omega) only [ob, nI_lit, nI_add, pk_mul, nI_eq, nI_ltI, nI_leI, if_true, if_false, if_pos, if_neg, ck_of (tS_1 C.ct.sh), gR_of (tS_1 C.ct.sh), gI_of (tS_1 C.ct.sh), pI_of (tS_1 C.ct.sh), C.ct.rp, rS_1_2 C.ct.sh, rS_1_3 C.ct.sh, rS_1_4 C.ct.sh, rS_1_5 C.ct.sh, rS_1_6 C.ct.sh, rS_1_7 C.ct.sh, rS_1_8 C.ct.sh, rS_1_9 C.ct.sh, ck_of (tR C.ct.rd.rd), gR_of (tR C.ct.rd.rd), gI_of (tR C.ct.rd.rd), rR_9 C.ct.rd.rd, rR_10 C.ct.rd.rd, rR_11 C.ct.rd.rd, rR_12 C.ct.rd.rd, rR_13 C.ct.rd.rd, rR_14 C.ct.rd.rd, rR_15 C.ct.rd.rd, rR_16 C.ct.rd.rd, rR_17 C.ct.rd.rd, rR_18 C.ct.rd.rd, rR_19 C.ct.rd.rd, aI_of (tR_1 C.ct.rd.rd), aI_of (tR_2 C.ct.rd.rd), aI_of (tR_3 C.ct.rd.rd), aI_of (tR_4 C.ct.rd.rd), aI_of (tR_5 C.ct.rd.rd), aI_of (tR_6 C.ct.rd.rd), aI_of (tR_7 C.ct.rd.rd), aI_of (tR_8 C.ct.rd.rd), aI_of (tR_9 C.ct.rd.rd), C.ct.rd.sc, C.ct.rd.len, C.ct.rd.e1, C.ct.rd.e2, C.ct.rd.min, C.ct.rd.kd, C.ct.rd.gt, C.ct.rd.bt, C.ct.rd.ip, C.ct.rd.hd, c_refuse C.ct.sh, c_answer C.ct.sh, c_isPerson W C, hx, Bool.toNat_true, cr]
      exact qc_end C _ _
    · unfold f_X13_reachIf
      simp only [ck_of (tS_55 M0.sh), pI_of (tS_55 M0.sh), ob, nI_lit]; obtain ⟨h1, eh, M, F1⟩ : ∃ h1, wI h 55 0 (nI 0) = h1 ∧ IM h1 a ∧ FM h h1 := ⟨_, rfl, M0.th _, FM.w55 h _ (by decide)⟩; rw [eh]
      have e0 := told_of W (i := 0) (j := 6) (by omega)
      have P := M.told e0
      have n2 := M.nw.at k 2 (by omega) (by decide)
      have n3 := M.nw.at k 3 (by omega) (by decide)
      simp only [Nat.reduceMul] at n2 n3
      obtain ⟨F, e, hF⟩ := m_ways W.rw P (M.p69 e0) b (W.nf.kn k hk) (W.nf.fg k hk)
      have S2 := M.sh.row 60 F
      simp (disch := omega) only [ob, nI_lit, nI_add, pk_mul, nI_eq, nI_ltI, nI_leI, if_true, if_false, if_pos, if_neg, ck_of (tS_55 M.sh), gR_of (tS_55 M.sh), gI_of (tS_55 M.sh), pI_of (tS_55 M.sh), rS_55_16 M.sh, rS_55_17 M.sh, rS_55_18 M.sh, rS_55_21 M.sh, rS_55_25 M.sh, rS_55_26 M.sh, rS_55_27 M.sh, rS_55_28 M.sh, rS_55_32 M.sh, rS_55_33 M.sh, rS_55_34 M.sh, m_refused M.sh, m_good M.sh, m_isPerson W M, hx, Bool.toNat_true, aI_of (tS_57 M.sh), n2, n3, e, m_reached W M hk hF, m_good S2]
      exact qm_end (F1.tr (FM.r60 F)) _ _
theorem st_17 : StepOK INV lc_17 := by
  intro sc L i h hL hi hI
  unfold lc_17
  simp only [show (1 : Int32) = nI 1 from rfl, show (2 : Int32) = nI 2 from rfl, show (3 : Int32) = nI 3 from rfl, show (4 : Int32) = nI 4 from rfl, show (5 : Int32) = nI 5 from rfl, nI_add, sc_at hL (show i + 1 < L by omega), sc_at hL (show i + 2 < L by omega), sc_at hL (show i + 3 < L by omega), sc_at hL (show i + 4 < L by omega), sc_at hL (show i + 5 < L by omega), ob]
  rcases Decidable.em (sc (i + 2) = 0) with e | e
  · simp only [e, if_true]
    exact q2 (f := fun h => f_X11_reachIf h 1 (sc (i + 1)) (nI false.toNat)) (g := fun h => f_X13_reachIf h 55 (sc (i + 1)) (nI false.toNat)) hI (fun a W => qq_reachIf W _ _)
  · simp only [e, if_false]
    exact q2 (f := fun h => f_X11_reachIf h 1 (sc (i + 1)) (nI true.toNat)) (g := fun h => f_X13_reachIf h 55 (sc (i + 1)) (nI true.toNat)) hI (fun a W => qq_reachIf W _ _)
/-! bestTune -/
def btV (a : AB) (k t : Nat) : Nat := bcN (rs (a 0) (vo (a 1 2 k ||| 2 ^ t) (a 1 3 k)) (rb (a 1)) (a 1 0 k) (a 0 0 2))
def btf (a : AB) (k t : Nat) (s : Int32 × Nat) : Int32 × Nat := if s.2 < btV a k t then (nI t, btV a k t) else s
theorem qq_bestTune {a : AB} (W : IW a) (x : Int32) : ∃ v z, z ≤ 6 ∧ z ≠ 4 ∧ QC a (fun h => f_X11_bestTune h 1 x) v z ∧ QM a (fun h => f_X13_bestTune h 55 x) v z := by
  have hpe := W.rw.pe
  have hpl := W.rw.pl
  have htu := W.rw.tu
  rcases hx : ix (a 0 0 6) x with _ | _
  · refine ⟨-nI 1, 1, by decide, by decide, fun h C => ?_, fun h M0 => ?_⟩
    · unfold f_X11_bestTune
      simp (disch := omega) only [obx, nI_lit, nI_add, pk_mul, nI_eq, nI_ltI, nI_leI, if_true, if_false, if_pos, if_neg, ck_of (tS_1 C.ct.sh), gR_of (tS_1 C.ct.sh), gI_of (tS_1 C.ct.sh), pI_of (tS_1 C.ct.sh), C.ct.rp, rS_1_2 C.ct.sh, rS_1_3 C.ct.sh, rS_1_4 C.ct.sh, rS_1_5 C.ct.sh, rS_1_6 C.ct.sh, rS_1_7 C.ct.sh, rS_1_8 C.ct.sh, rS_1_9 C.ct.sh, ck_of (tR C.ct.rd.rd), gR_of (tR C.ct.rd.rd), gI_of (tR C.ct.rd.rd), rR_9 C.ct.rd.rd, rR_10 C.ct.rd.rd, rR_11 C.ct.rd.rd, rR_12 C.ct.rd.rd, rR_13 C.ct.rd.rd, rR_14 C.ct.rd.rd, rR_15 C.ct.rd.rd, rR_16 C.ct.rd.rd, rR_17 C.ct.rd.rd, rR_18 C.ct.rd.rd, rR_19 C.ct.rd.rd, aI_of (tR_1 C.ct.rd.rd), aI_of (tR_2 C.ct.rd.rd), aI_of (tR_3 C.ct.rd.rd), aI_of (tR_4 C.ct.rd.rd), aI_of (tR_5 C.ct.rd.rd), aI_of (tR_6 C.ct.rd.rd), aI_of (tR_7 C.ct.rd.rd), aI_of (tR_8 C.ct.rd.rd), aI_of (tR_9 C.ct.rd.rd), C.ct.rd.sc, C.ct.rd.len, C.ct.rd.e1, C.ct.rd.e2, C.ct.rd.min, C.ct.rd.kd, C.ct.rd.gt, C.ct.rd.bt, C.ct.rd.ip, C.ct.rd.hd, c_refuse C.ct.sh, c_answer C.ct.sh, c_isPerson W C, hx, Bool.toNat_false]
      exact qc_end C _ _
    · unfold f_X13_bestTune
      simp only [ck_of (tS_55 M0.sh), pI_of (tS_55 M0.sh), ob, nI_lit]; obtain ⟨h1, eh, M, F1⟩ : ∃ h1, wI h 55 0 (nI 0) = h1 ∧ IM h1 a ∧ FM h h1 := ⟨_, rfl, M0.th _, FM.w55 h _ (by decide)⟩; rw [eh]
      simp (disch := omega) only [obx, nI_lit, nI_add, pk_mul, nI_eq, nI_ltI, nI_leI, if_true, if_false, if_pos, if_neg, ck_of (tS_55 M.sh), gR_of (tS_55 M.sh), gI_of (tS_55 M.sh), pI_of (tS_55 M.sh), rS_55_16 M.sh, rS_55_17 M.sh, rS_55_18 M.sh, rS_55_21 M.sh, rS_55_25 M.sh, rS_55_26 M.sh, rS_55_27 M.sh, rS_55_28 M.sh, rS_55_32 M.sh, rS_55_33 M.sh, rS_55_34 M.sh, m_refused M.sh, m_good M.sh, m_isPerson W M, hx, Bool.toNat_false]
      exact qm_end F1 _ _
  · obtain ⟨k, hk, rfl⟩ := ix_t hx (by omega)
    have hrs : ∀ V ra, rs (a 0) V ra (a 1 0 k) (a 0 0 2) < 128 := fun V ra => Nat.lt_of_lt_of_le (rs_lt _ _) (two_le (m := 7) hpl)
    have h2 := W.nf.kn k hk
    have h3 := W.nf.fg k hk
    refine ⟨(fo (btf a k) (-nI 2, bcN (rs (a 0) (vx a k) (rb (a 1)) (a 1 0 k) (a 0 0 2))) (a 0 0 1)).1, 0, by decide, by decide, fun h C => ?_, fun h M0 => ?_⟩
    · have cr := c_reachBy W C hk (rb (a 1)) (m := 0) (by decide)
      rw [or_0] at cr
      change f_X11_reachBy h 1 (nI k) (nI 0) (nI (rb (a 1)).toNat) = some (nI (rs (a 0) (vx a k) (rb (a 1)) (a 1 0 k) (a 0 0 2))) at cr
      have q : iter (fun (s : Int32 × Int32 × Int32) => b_X11_bestTune_37 h 1 (nI k) s.1 s.2.1 s.2.2) FU (-nI 2, nI (bcN (rs (a 0) (vx a k) (rb (a 1)) (a 1 0 k) (a 0 0 2))), nI 0) = some (fo (btf a k) (-nI 2, bcN (rs (a 0) (vx a k) (rb (a 1)) (a 1 0 k) (a 0 0 2))) (a 0 0 1)).1 := by
        refine iter_foI (fun (s : Int32 × Nat) t => (s.1, nI s.2, nI t)) (btf a k) (-nI 2, bcN (rs (a 0) (vx a k) (rb (a 1)) (a 1 0 k) (a 0 0 2))) (a 0 0 1) (fun _ s => s.2 ≤ 7) (FU_lt (by omega)) (bcN_le _) (fun t s ht hs => by
          unfold btf
          split
          · exact bcN_le _
          · exact hs) (fun t s ht hs => ?_) (fun _ => ?_)
        · have h2t : 2 ^ t < 2 ^ 6 := Nat.pow_lt_pow_right (by decide) (by omega)
          have ct := c_reachBy W C hk (rb (a 1)) (m := 2 ^ t) (by omega)
          have hv := h_voice h false (show t < 6 by omega)
          simp only [Bool.toNat_false, Bool.false_eq_true, if_false] at hv
          have hb7 : btV a k t ≤ 7 := bcN_le _
          have hbc : ∀ {β : Type} (K : Int32 → Option β), (f_J6_bitCount_0f7a4 h (nI (rs (a 0) (vo (a 1 2 k ||| 2 ^ t) (a 1 3 k)) (rb (a 1)) (a 1 0 k) (a 0 0 2)))).bind K = K (nI (btV a k t)) := fun K => h_bcb h (hrs (vo (a 1 2 k ||| 2 ^ t) (a 1 3 k)) (rb (a 1))) K
          show b_X11_bestTune_37 h 1 (nI k) s.1 (nI s.2) (nI t) = _
          unfold b_X11_bestTune_37 f_X11_bestTune_84 btf
          simp (disch := omega) only [obx, nI_lit, nI_add, pk_mul, nI_eq, nI_ltI, nI_leI, if_true, if_false, if_pos, if_neg, ck_of (tS_1 C.ct.sh), gR_of (tS_1 C.ct.sh), gI_of (tS_1 C.ct.sh), pI_of (tS_1 C.ct.sh), C.ct.rp, rS_1_2 C.ct.sh, rS_1_3 C.ct.sh, rS_1_4 C.ct.sh, rS_1_5 C.ct.sh, rS_1_6 C.ct.sh, rS_1_7 C.ct.sh, rS_1_8 C.ct.sh, rS_1_9 C.ct.sh, ck_of (tR C.ct.rd.rd), gR_of (tR C.ct.rd.rd), gI_of (tR C.ct.rd.rd), rR_9 C.ct.rd.rd, rR_10 C.ct.rd.rd, rR_11 C.ct.rd.rd, rR_12 C.ct.rd.rd, rR_13 C.ct.rd.rd, rR_14 C.ct.rd.rd, rR_15 C.ct.rd.rd, rR_16 C.ct.rd.rd, rR_17 C.ct.rd.rd, rR_18 C.ct.rd.rd, rR_19 C.ct.rd.rd, aI_of (tR_1 C.ct.rd.rd), aI_of (tR_2 C.ct.rd.rd), aI_of (tR_3 C.ct.rd.rd), aI_of (tR_4 C.ct.rd.rd), aI_of (tR_5 C.ct.rd.rd), aI_of (tR_6 C.ct.rd.rd), aI_of (tR_7 C.ct.rd.rd), aI_of (tR_8 C.ct.rd.rd), aI_of (tR_9 C.ct.rd.rd), C.ct.rd.sc, C.ct.rd.len, C.ct.rd.e1, C.ct.rd.e2, C.ct.rd.min, C.ct.rd.kd, C.ct.rd.gt, C.ct.rd.bt, C.ct.rd.ip, C.ct.rd.hd, c_refuse C.ct.sh, c_answer C.ct.sh, hv, c_rains C.ct.sh C.nw W.nf.rn, ct, hbc]
          rcases Nat.lt_or_ge s.2 (btV a k t) with c | c
          · rw [if_neg (by omega), if_pos c]
          · rw [if_pos c, if_neg (by omega)]
        · unfold b_X11_bestTune_37
          simp (disch := omega) only [obx, nI_lit, nI_add, pk_mul, nI_eq, nI_ltI, nI_leI, if_true, if_false, if_pos, if_neg, ck_of (tS_1 C.ct.sh), gR_of (tS_1 C.ct.sh), gI_of (tS_1 C.ct.sh), pI_of (tS_1 C.ct.sh), C.ct.rp, rS_1_2 C.ct.sh, rS_1_3 C.ct.sh, rS_1_4 C.ct.sh, rS_1_5 C.ct.sh, rS_1_6 C.ct.sh, rS_1_7 C.ct.sh, rS_1_8 C.ct.sh, rS_1_9 C.ct.sh, ck_of (tR C.ct.rd.rd), gR_of (tR C.ct.rd.rd), gI_of (tR C.ct.rd.rd), rR_9 C.ct.rd.rd, rR_10 C.ct.rd.rd, rR_11 C.ct.rd.rd, rR_12 C.ct.rd.rd, rR_13 C.ct.rd.rd, rR_14 C.ct.rd.rd, rR_15 C.ct.rd.rd, rR_16 C.ct.rd.rd, rR_17 C.ct.rd.rd, rR_18 C.ct.rd.rd, rR_19 C.ct.rd.rd, aI_of (tR_1 C.ct.rd.rd), aI_of (tR_2 C.ct.rd.rd), aI_of (tR_3 C.ct.rd.rd), aI_of (tR_4 C.ct.rd.rd), aI_of (tR_5 C.ct.rd.rd), aI_of (tR_6 C.ct.rd.rd), aI_of (tR_7 C.ct.rd.rd), aI_of (tR_8 C.ct.rd.rd), aI_of (tR_9 C.ct.rd.rd), C.ct.rd.sc, C.ct.rd.len, C.ct.rd.e1, C.ct.rd.e2, C.ct.rd.min, C.ct.rd.kd, C.ct.rd.gt, C.ct.rd.bt, C.ct.rd.ip, C.ct.rd.hd, c_refuse C.ct.sh, c_answer C.ct.sh]
      unfold f_X11_bestTune
      simp (disch := omega) only [obx, nI_lit, nI_add, pk_mul, nI_eq, nI_ltI, nI_leI, if_true, if_false, if_pos, if_neg, ck_of (tS_1 C.ct.sh), gR_of (tS_1 C.ct.sh), gI_of (tS_1 C.ct.sh), pI_of (tS_1 C.ct.sh), C.ct.rp, rS_1_2 C.ct.sh, rS_1_3 C.ct.sh, rS_1_4 C.ct.sh, rS_1_5 C.ct.sh, rS_1_6 C.ct.sh, rS_1_7 C.ct.sh, rS_1_8 C.ct.sh, rS_1_9 C.ct.sh, ck_of (tR C.ct.rd.rd), gR_of (tR C.ct.rd.rd), gI_of (tR C.ct.rd.rd), rR_9 C.ct.rd.rd, rR_10 C.ct.rd.rd, rR_11 C.ct.rd.rd, rR_12 C.ct.rd.rd, rR_13 C.ct.rd.rd, rR_14 C.ct.rd.rd, rR_15 C.ct.rd.rd, rR_16 C.ct.rd.rd, rR_17 C.ct.rd.rd, rR_18 C.ct.rd.rd, rR_19 C.ct.rd.rd, aI_of (tR_1 C.ct.rd.rd), aI_of (tR_2 C.ct.rd.rd), aI_of (tR_3 C.ct.rd.rd), aI_of (tR_4 C.ct.rd.rd), aI_of (tR_5 C.ct.rd.rd), aI_of (tR_6 C.ct.rd.rd), aI_of (tR_7 C.ct.rd.rd), aI_of (tR_8 C.ct.rd.rd), aI_of (tR_9 C.ct.rd.rd), C.ct.rd.sc, C.ct.rd.len, C.ct.rd.e1, C.ct.rd.e2, C.ct.rd.min, C.ct.rd.kd, C.ct.rd.gt, C.ct.rd.bt, C.ct.rd.ip, C.ct.rd.hd, c_refuse C.ct.sh, c_answer C.ct.sh, c_isPerson W C, hx, Bool.toNat_true, c_rains C.ct.sh C.nw W.nf.rn, cr, h_bcb h (hrs (vx a k) (rb (a 1))), q]
      exact qc_end C _ _
    · unfold f_X13_bestTune
      simp only [ck_of (tS_55 M0.sh), pI_of (tS_55 M0.sh), ob, nI_lit]; obtain ⟨h1, eh, M, F1⟩ : ∃ h1, wI h 55 0 (nI 0) = h1 ∧ IM h1 a ∧ FM h h1 := ⟨_, rfl, M0.th _, FM.w55 h _ (by decide)⟩; rw [eh]
      have e0 := told_of W (i := 0) (j := 6) (by omega)
      obtain ⟨F, e, hF⟩ := m_waysOf W M hk
      have key : OK (iter (fun (s : Int32 × Int32 × Int32 × Mem) => b_X13_bestTune_39 s.2.2.2 55 (nI k) s.1 s.2.1 s.2.2.1) FU (nI (bcN (rs (a 0) (vx a k) (rb (a 1)) (a 1 0 k) (a 0 0 2))), -nI 2, nI 0, rowI h1 60 F)) (fun r => r.1 = (fo (btf a k) (-nI 2, bcN (rs (a 0) (vx a k) (rb (a 1)) (a 1 0 k) (a 0 0 2))) (a 0 0 1)).1 ∧ ∃ F', r.2 = rowI h1 60 F') := by
        refine iter_ok (fun t s => ∃ F' : Nat → Int32, s = (nI (fo (btf a k) (-nI 2, bcN (rs (a 0) (vx a k) (rb (a 1)) (a 1 0 k) (a 0 0 2))) t).2, (fo (btf a k) (-nI 2, bcN (rs (a 0) (vx a k) (rb (a 1)) (a 1 0 k) (a 0 0 2))) t).1, nI t, rowI h1 60 F') ∧ (fo (btf a k) (-nI 2, bcN (rs (a 0) (vx a k) (rb (a 1)) (a 1 0 k) (a 0 0 2))) t).2 ≤ 7) (a 0 0 1) (FU_lt (by omega)) (fun t s ht hI => ?_) ⟨F, rfl, bcN_le _⟩
        obtain ⟨F', rfl, hle⟩ := hI
        have hsucc : fo (btf a k) (-nI 2, bcN (rs (a 0) (vx a k) (rb (a 1)) (a 1 0 k) (a 0 0 2))) (t + 1) = btf a k t (fo (btf a k) (-nI 2, bcN (rs (a 0) (vx a k) (rb (a 1)) (a 1 0 k) (a 0 0 2))) t) := rfl
        rw [hsucc]
        have hend : t = a 0 0 1 → fo (btf a k) (-nI 2, bcN (rs (a 0) (vx a k) (rb (a 1)) (a 1 0 k) (a 0 0 2))) t = fo (btf a k) (-nI 2, bcN (rs (a 0) (vx a k) (rb (a 1)) (a 1 0 k) (a 0 0 2))) (a 0 0 1) := fun e => by rw [e]
        generalize fo (btf a k) (-nI 2, bcN (rs (a 0) (vx a k) (rb (a 1)) (a 1 0 k) (a 0 0 2))) t = X at *
        show OK (b_X13_bestTune_39 (rowI h1 60 F') 55 (nI k) (nI X.2) X.1 (nI t)) _
        have M1 : IM (rowI h1 60 F') a := M.fm (FM.r60 F')
        have P1 := M1.told e0
        have S1 := M1.sh
        unfold b_X13_bestTune_39 f_X13_bestTune_109
        rcases Nat.lt_or_ge t (a 0 0 1) with c | c
        · have h2t : 2 ^ t < 2 ^ 6 := Nat.pow_lt_pow_right (by decide) (by omega)
          have hkm : a 1 2 k ||| 2 ^ t < 2 ^ 6 := Nat.or_lt_two_pow h2 h2t
          obtain ⟨F2, e2, hF2⟩ := m_ways W.rw P1 (M1.p69 e0) (rb (a 1)) hkm h3
          have n2 := M1.nw.at k 2 (by omega) (by decide)
          have n3 := M1.nw.at k 3 (by omega) (by decide)
          simp only [Nat.reduceMul] at n2 n3
          have hsh : nI 1 <<< (nI t &&& nI 31) = nI (2 ^ t) := nI_sh1 (by omega)
          have hor : nI (a 1 2 k) ||| nI (2 ^ t) = nI (a 1 2 k ||| 2 ^ t) := nI_or (by omega) (by omega)
          have mr := m_reached W M1 hk hF2
          have hbt : ∀ {β : Type} (K : Int32 → Option β), (f_X13_bits (rowI h1 60 F2) (nI (rs (a 0) (vo (a 1 2 k ||| 2 ^ t) (a 1 3 k)) (rb (a 1)) (a 1 0 k) (a 0 0 2)))).bind K = K (nI (btV a k t)) := fun K => h_bitsb _ (hrs (vo (a 1 2 k ||| 2 ^ t) (a 1 3 k)) (rb (a 1))) K
          have hb7 : btV a k t ≤ 7 := bcN_le _
          rw [rowI_rowI] at e2 mr
          simp (disch := omega) only [obx, nI_lit, nI_add, pk_mul, nI_eq, nI_ltI, nI_leI, if_true, if_false, if_pos, if_neg, gR_of (tS_55 S1), P1.pp, gI_of (tP P1.rd.pk), P1.rd.sc, rS_55_16 S1, aI_of (tS_57 S1), n2, n3, m_rains S1 M1.nw W.nf.rn, hsh, hor, e2, mr, hbt]
          unfold btf
          rcases Nat.lt_or_ge X.2 (btV a k t) with c2 | c2
          · rw [if_pos c2, if_pos c2]
            exact ⟨_, rfl, c, F2, rfl, hb7⟩
          · rw [if_neg (by omega), if_neg (by omega)]
            exact ⟨_, rfl, c, F2, rfl, hle⟩
        · have ht9 : t = a 0 0 1 := by omega
          simp (disch := omega) only [obx, nI_lit, nI_add, pk_mul, nI_eq, nI_ltI, nI_leI, if_true, if_false, if_pos, if_neg, gR_of (tS_55 S1), P1.pp, gI_of (tP P1.rd.pk), P1.rd.sc]
          exact ⟨_, rfl, by rw [hend ht9], F', rfl⟩
      obtain ⟨r, q, r1, F', r2⟩ := key
      have S2 := M.sh.row 60 F'
      simp (disch := omega) only [obx, nI_lit, nI_add, pk_mul, nI_eq, nI_ltI, nI_leI, if_true, if_false, if_pos, if_neg, ck_of (tS_55 M.sh), gR_of (tS_55 M.sh), gI_of (tS_55 M.sh), pI_of (tS_55 M.sh), rS_55_16 M.sh, rS_55_17 M.sh, rS_55_18 M.sh, rS_55_21 M.sh, rS_55_25 M.sh, rS_55_26 M.sh, rS_55_27 M.sh, rS_55_28 M.sh, rS_55_32 M.sh, rS_55_33 M.sh, rS_55_34 M.sh, m_refused M.sh, m_good M.sh, m_isPerson W M, hx, Bool.toNat_true, e, m_reached W M hk hF, h_bitsb _ (hrs (vx a k) (rb (a 1))), q, r1, r2, m_good S2]
      exact qm_end (F1.tr (FM.r60 F')) _ _
theorem st_18 : StepOK INV lc_18 := by
  intro sc L i h hL hi hI
  unfold lc_18
  simp only [show (1 : Int32) = nI 1 from rfl, show (2 : Int32) = nI 2 from rfl, show (3 : Int32) = nI 3 from rfl, show (4 : Int32) = nI 4 from rfl, show (5 : Int32) = nI 5 from rfl, nI_add, sc_at hL (show i + 1 < L by omega), sc_at hL (show i + 2 < L by omega), sc_at hL (show i + 3 < L by omega), sc_at hL (show i + 4 < L by omega), sc_at hL (show i + 5 < L by omega), ob]
  exact q2 (f := fun h => f_X11_bestTune h 1 (sc (i + 1))) (g := fun h => f_X13_bestTune h 55 (sc (i + 1))) hI (fun a W => qq_bestTune W _)
