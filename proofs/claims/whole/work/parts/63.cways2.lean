/-! ===== the class's ways, in the memory ===== -/
theorem h_fill {h : Mem} {x n : Nat} (e : mT h x = (100, n)) (hn : n < 1000) (v : Int32) : f_J7_fill_53178 h x v = some (rowI h x (fun j => if 0 ≤ j ∧ j < 0 + n then v else mI h x j)) := by
  have q : iter (fun (s : Int32 × Mem) => b_J7_fill_53178_5 s.2 x v (nI n) s.1) FU (nI 0, rowI h x (mI h x)) = some (rowI h x (fun j => if 0 ≤ j ∧ j < 0 + n then v else mI h x j)) := by
    refine iter_fo (fun f i => (nI i, rowI h x f)) (fun i f => upd f (0 + i) v) (mI h x) n (FU_lt (by omega)) (fun i f hi => ?_) ?_
    · have e1 : mT (rowI h x f) x = (100, n) := e
      show b_J7_fill_53178_5 (rowI h x f) x v (nI n) (nI i) = _
      unfold b_J7_fill_53178_5
      simp (disch := omega) only [ob, nI_lit, nI_add, pk_mul, nI_eq, nI_ltI, nI_leI, if_true, if_false, if_pos, if_neg, sI_of e1, rowI_wI, Nat.zero_add]
    · show b_J7_fill_53178_5 _ x v (nI n) (nI n) = _
      unfold b_J7_fill_53178_5
      simp (disch := omega) only [ob, nI_lit, nI_add, pk_mul, nI_eq, nI_ltI, nI_leI, if_true, if_false, if_pos, if_neg]
      rw [fo_upd 0 (fun _ => v)]
  rw [rowI_id] at q
  unfold f_J7_fill_53178
  simp (disch := omega) only [ob, nI_lit, nI_add, pk_mul, nI_eq, nI_ltI, nI_leI, if_true, if_false, if_pos, if_neg, aLen_of e, q]
section
variable {h : Mem} {r : Nat} {ρ : RO}
def lF (h : Mem) (L : Nat → Nat) : Nat → Int32 := fun j => if j < 7 then nI (L j) else mI h 38 j
theorem lF_at (h : Mem) (L : Nat → Nat) {j : Nat} (hj : j < 7) : lF h L j = nI (L j) := if_pos hj
theorem lF_upd (h : Mem) (L : Nat → Nat) {x : Nat} (hx : x < 7) (v : Nat) : upd (lF h L) x (nI v) = lF h (updN L x v) := by
  funext j
  unfold upd lF updN
  rcases Decidable.em (j = x) with e | e
  · rw [if_pos e, e, if_pos hx, if_pos rfl]
  · rw [if_neg e, if_neg e]
def wyM (h : Mem) (V : Nat) (ra : Bool) (F : Nat → Int32) : Mem := rowI (wI (wI h 37 1 (nI V)) 37 2 (nI ra.toNat)) 38 F
theorem wyM_f (h : Mem) (V : Nat) (ra : Bool) (F : Nat → Int32) : FQ [37, 38] h (wyM h V ra F) := ((FQ.w _ _ _ (by decide)).tr (FQ.w _ _ _ (by decide))).tr (FQ.row _ _ (by decide))
theorem SH.wy (S : SH h) (V : Nat) (ra : Bool) (F : Nat → Int32) : SH (wyM h V ra F) := S
theorem wyM_38 (h : Mem) (V : Nat) (ra : Bool) (F : Nat → Int32) : mI (wyM h V ra F) 38 = F := mI_row _ _ _
theorem wyM_1 (h : Mem) (V : Nat) (ra : Bool) (F : Nat → Int32) : mI (wyM h V ra F) 37 1 = nI V := by
  unfold wyM
  rw [mI_row_ne _ _ (by decide), mI_wI_at, pk_un (by decide), mI_wI_at, pk_us]
theorem wyM_2 (h : Mem) (V : Nat) (ra : Bool) (F : Nat → Int32) : mI (wyM h V ra F) 37 2 = nI ra.toNat := by
  unfold wyM
  rw [mI_row_ne _ _ (by decide), mI_wI_at, pk_us]
theorem wyM_w (h : Mem) (V : Nat) (ra : Bool) (F : Nat → Int32) (k : Nat) (v : Int32) : wI (wyM h V ra F) 38 k v = wyM h V ra (upd F k v) := rowI_wI _ _ _ _ _
theorem CT.wy (C : CT h r ρ) (hr : r = 2 ∨ r = 21) (V : Nat) (ra : Bool) (F : Nat → Int32) : CT (wyM h V ra F) r ρ := C.fq (wyM_f h V ra F) (fun k hk hq => by
  simp only [List.mem_cons, List.not_mem_nil, or_false] at hq
  omega)
theorem c_shorten (S : SH h) (V : Nat) (ra : Bool) {L : Nat → Nat} (hL : ∀ p, L p ≤ 1000000) {x y w : Nat} (hx : x < 7) (hy : y < 7) (hw : w ≤ 99) : f_X10_shorten (wyM h V ra (lF h L)) 37 (nI x) (nI y) (nI w) = some (wyM h V ra (lF h (sh1 L x y w))) := by
  have S1 := S.wy V ra (lF h L)
  have h1 := hL x
  have h2 := hL y
  unfold f_X10_shorten sh1
  simp (disch := omega) only [ob, nI_lit, nI_add, pk_mul, nI_eq, nI_ltI, nI_leI, if_true, if_false, if_pos, if_neg, ck_of (tS_37 S1), gR_of (tS_37 S1), rS_37_0 S1, aI_of (tS_38 S1), wyM_38, lF_at, sI_of (tS_38 S1), wyM_w, lF_upd]
  rcases Nat.lt_or_ge (L y + w) (L x) with c | c
  · rw [if_neg (by omega), if_pos c]
  · rw [if_pos c, if_neg (by omega)]
theorem c_measure (W : RW ρ) (C : CT h r ρ) (hr : r = 2 ∨ r = 21) {g V : Nat} (hg : g < ρ 0 2) (ra : Bool) (hV : V < 8192) (h0 : V ≠ 0) : f_X10_measure h 37 r (nI g) (nI V) (nI ra.toNat) = some (wyM h V ra (lF h (Lk ρ V ra g (ρ 0 2)))) := by
  have hpl := W.pl
  have hro := W.ro
  have S := C.sh
  have l1 : ∀ (L : Nat → Nat), (∀ p, L p ≤ 1000000) → ∀ v5, iter (fun (s : Int32 × Mem) => b_X10_measure_42 s.2 37 r v5 s.1) FU (nI 0, wyM h V ra (lF h L)) = some (wyM h V ra (lF h (rdl ρ V ra L))) := by
    intro L hL v5
    refine iter_foI (fun L j => (nI j, wyM h V ra (lF h L))) (rdj ρ V ra) L (ρ 0 3) (fun _ L => ∀ p, L p ≤ 1000000) (FU_lt (by omega)) hL (fun j L hj hL p => Nat.le_trans (rdj_le ρ V ra j L p) (hL p)) (fun j L hj hL => ?_) (fun _ => ?_)
    · have C1 := C.wy hr V ra (lF h L)
      have S1 := C1.sh
      have h3 := W.e1 j hj
      have h4 := W.e2 j hj
      have h5 := W.min j hj
      show b_X10_measure_42 (wyM h V ra (lF h L)) 37 r v5 (nI j) = _
      unfold b_X10_measure_42 f_X10_measure_114 rdj
      rcases ho : op ρ j V ra with _ | _
      · simp (disch := omega) only [ob, nI_lit, nI_add, pk_mul, nI_eq, nI_ltI, nI_leI, if_true, if_false, if_pos, if_neg, gI_of (tR C1.rd.rd), C1.rd.sc, gI_of (tS_37 S1), wyM_1, wyM_2, c_open W C1 ra hj hV h0, ho, Bool.toNat_false, Bool.false_eq_true]
      · have C2 := C.wy hr V ra (lF h (sh1 L (ρ 3 j) (ρ 4 j) (ρ 5 j)))
        have s1 := c_shorten S V ra hL (x := ρ 3 j) (y := ρ 4 j) (w := ρ 5 j) (by omega) (by omega) (by omega)
        have s2 := c_shorten S V ra (L := sh1 L (ρ 3 j) (ρ 4 j) (ρ 5 j)) (fun p => Nat.le_trans (sh1_le _ _ _ _ p) (hL p)) (x := ρ 4 j) (y := ρ 3 j) (w := ρ 5 j) (by omega) (by omega) (by omega)
        simp (disch := omega) only [ob, nI_lit, nI_add, pk_mul, nI_eq, nI_ltI, nI_leI, if_true, if_false, if_pos, if_neg, gI_of (tR C1.rd.rd), C1.rd.sc, gI_of (tS_37 S1), wyM_1, wyM_2, c_open W C1 ra hj hV h0, ho, Bool.toNat_true, c_e1 W C1.rd hj, c_e2 W C1.rd hj, gR_of (tR C1.rd.rd), rR_12 C1.rd.rd, aI_of (tR_4 C1.rd.rd), C1.rd.min, s1, c_e1 W C2.rd hj, c_e2 W C2.rd hj, gR_of (tR C2.rd.rd), rR_12 C2.rd.rd, aI_of (tR_4 C2.rd.rd), C2.rd.min, s2]
    · have C1 := C.wy hr V ra (lF h (fo (rdj ρ V ra) L (ρ 0 3)))
      show b_X10_measure_42 (wyM h V ra (lF h (fo (rdj ρ V ra) L (ρ 0 3)))) 37 r v5 (nI (ρ 0 3)) = _
      unfold b_X10_measure_42
      simp (disch := omega) only [ob, nI_lit, nI_add, pk_mul, nI_eq, nI_ltI, nI_leI, if_true, if_false, if_pos, if_neg, gI_of (tR C1.rd.rd), C1.rd.sc]
      rfl
  have l2 : iter (fun (s : Int32 × Mem) => b_X10_measure_30 s.2 37 r s.1) FU (nI 0, wyM h V ra (lF h (L0 g))) = some (wyM h V ra (lF h (Lk ρ V ra g (ρ 0 2)))) := by
    refine iter_foI (fun L j => (nI j, wyM h V ra (lF h L))) (fun _ L => rdl ρ V ra L) (L0 g) (ρ 0 2) (fun _ L => ∀ p, L p ≤ 1000000) (FU_lt (by omega)) (fun p => L0_le g p) (fun j L hj hL p => Nat.le_trans (rdl_le ρ V ra L p) (hL p)) (fun j L hj hL => ?_) (fun _ => ?_)
    · have C1 := C.wy hr V ra (lF h L)
      have q := l1 L hL (nI j)
      show b_X10_measure_30 (wyM h V ra (lF h L)) 37 r (nI j) = _
      unfold b_X10_measure_30
      simp (disch := omega) only [ob, nI_lit, nI_add, pk_mul, nI_eq, nI_ltI, nI_leI, if_true, if_false, if_pos, if_neg, gI_of (tR C1.rd.rd), C1.rd.sc, q]
    · have C1 := C.wy hr V ra (lF h (fo (fun _ L => rdl ρ V ra L) (L0 g) (ρ 0 2)))
      show b_X10_measure_30 (wyM h V ra (lF h (fo (fun _ L => rdl ρ V ra L) (L0 g) (ρ 0 2)))) 37 r (nI (ρ 0 2)) = _
      unfold b_X10_measure_30
      simp (disch := omega) only [ob, nI_lit, nI_add, pk_mul, nI_eq, nI_ltI, nI_leI, if_true, if_false, if_pos, if_neg, gI_of (tR C1.rd.rd), C1.rd.sc]
      rfl
  have S2 : SH (wI (wI h 37 1 (nI V)) 37 2 (nI ra.toNat)) := S
  have hf := h_fill (tS_38 S2) (by decide) (nI 1000000)
  have e38 : mI (wI (wI h 37 1 (nI V)) 37 2 (nI ra.toNat)) 38 = mI h 38 := by
    rw [mI_wI_ne _ _ _ (by decide), mI_wI_ne _ _ _ (by decide)]
  rw [e38] at hf
  have eL : upd (fun j => if 0 ≤ j ∧ j < 0 + 7 then nI 1000000 else mI h 38 j) g (nI 0) = lF h (L0 g) := by
    funext j
    unfold upd lF L0
    rcases Decidable.em (j = g) with e | e
    · rw [if_pos e, if_pos (by omega), if_pos e]
    · rw [if_neg e, if_neg e]
      show (if 0 ≤ j ∧ j < 0 + 7 then nI 1000000 else mI h 38 j) = _
      rcases Nat.lt_or_ge j 7 with c | c
      · rw [if_pos (by omega), if_pos c]
      · rw [if_neg (by omega), if_neg (by omega)]
  have ez : pZ (wI h 37 1 (nI V)) 37 2 8 (nI ra.toNat) = some (wI (wI h 37 1 (nI V)) 37 2 (nI ra.toNat)) := by
    unfold pZ
    rw [if_pos]
    refine ⟨by rw [tS_37 (S.wI 37 1 (nI V))], ?_⟩
    cases ra
    · exact Or.inl rfl
    · exact Or.inr rfl
  have ef : rowI (wI (wI h 37 1 (nI V)) 37 2 (nI ra.toNat)) 38 (fun j => if 0 ≤ j ∧ j < 0 + 7 then nI 1000000 else mI h 38 j) = wyM h V ra (fun j => if 0 ≤ j ∧ j < 0 + 7 then nI 1000000 else mI h 38 j) := rfl
  rw [ef] at hf
  have S3 := S.wy V ra (fun j => if 0 ≤ j ∧ j < 0 + 7 then nI 1000000 else mI h 38 j)
  unfold f_X10_measure
  simp (disch := omega) only [ob, nI_lit, nI_add, pk_mul, nI_eq, nI_ltI, nI_leI, if_true, if_false, if_pos, if_neg, ck_of (tS_37 S), pI_of (tS_37 S), ez, gR_of (tS_37 S2), rS_37_0 S2, hf, gR_of (tS_37 S3), rS_37_0 S3, sI_of (tS_38 S3), wyM_w, eL, l2]
theorem c_from (W : RW ρ) (C : CT h r ρ) {g V : Nat} (hg : g < ρ 0 2) (ra : Bool) {p : Nat} (hp : p < ρ 0 2) : f_X10_minutesFrom (wyM h V ra (lF h (Lk ρ V ra g (ρ 0 2)))) 37 (nI p) = some (nI (dd ρ V ra g p)) := by
  have hpl := W.pl
  have S1 := C.sh.wy V ra (lF h (Lk ρ V ra g (ρ 0 2)))
  unfold f_X10_minutesFrom
  simp (disch := omega) only [ob, nI_lit, nI_add, pk_mul, nI_eq, nI_ltI, nI_leI, if_true, if_false, if_pos, if_neg, ck_of (tS_37 S1), gR_of (tS_37 S1), rS_37_0 S1, aI_of (tS_38 S1), wyM_38, lF_at, Lk_dd W hg hp]
/-! places reached -/
theorem Rk_lt (W : RW ρ) {V : Nat} {ra : Bool} {f : Nat} (hf : f < ρ 0 2) (k : Nat) : Rk ρ V ra f k < 2 ^ 7 := by
  have hpl := W.pl
  have h0 : 2 ^ f < 2 ^ 7 := Nat.pow_lt_pow_right (by decide) (by omega)
  refine fo_inv (fun R => R < 2 ^ 7) (fun _ R _ hR => fo_inv (fun R => R < 2 ^ 7) (fun j R hj hR => ?_) hR) h0
  have h3 := W.e1 j hj
  have h4 := W.e2 j hj
  unfold rrj
  split
  · exact Nat.or_lt_two_pow hR (Nat.or_lt_two_pow (Nat.pow_lt_pow_right (by decide) (by omega)) (Nat.pow_lt_pow_right (by decide) (by omega)))
  · exact hR
theorem Rk_fix {V : Nat} {ra : Bool} {f k : Nat} (e : rrd ρ V ra (Rk ρ V ra f k) = Rk ρ V ra f k) : ∀ d, Rk ρ V ra f (k + d) = Rk ρ V ra f k
  | 0 => rfl
  | d + 1 => by
    show rrd ρ V ra (Rk ρ V ra f (k + d)) = _
    rw [Rk_fix e d, e]
theorem c_reach (W : RW ρ) (C : CT h r ρ) {f V : Nat} (hf : f < ρ 0 2) (ra : Bool) (hV : V < 8192) (h0 : V ≠ 0) : f_X10_placesReached h r (nI f) (nI V) (nI ra.toNat) = some (nI (rs ρ V ra f (ρ 0 2))) := by
  have hpl := W.pl
  have hro := W.ro
  have l1 : ∀ (R : Nat) (v5 v6 : Int32), R < 2 ^ 7 → iter (fun (s : Int32 × Int32) => b_X10_placesReached_24 h r (nI V) (nI ra.toNat) v5 v6 s.1 s.2) FU (nI R, nI 0) = some (nI (rrd ρ V ra R)) ∧ rrd ρ V ra R < 2 ^ 7 := by
    intro R v5 v6 hR
    have hI : ∀ j R, j < ρ 0 3 → R < 2 ^ 7 → rrj ρ V ra j R < 2 ^ 7 := by
      intro j R hj hR
      have h3 := W.e1 j hj
      have h4 := W.e2 j hj
      unfold rrj
      split
      · exact Nat.or_lt_two_pow hR (Nat.or_lt_two_pow (Nat.pow_lt_pow_right (by decide) (by omega)) (Nat.pow_lt_pow_right (by decide) (by omega)))
      · exact hR
    refine ⟨?_, fo_inv (fun R => R < 2 ^ 7) (fun j R hj hR => hI j R hj hR) hR⟩
    refine iter_foI (fun R j => (nI R, nI j)) (rrj ρ V ra) R (ρ 0 3) (fun _ R => R < 2 ^ 7) (FU_lt (by omega)) hR (fun j R hj hR => hI j R hj hR) (fun j R hj hR => ?_) (fun _ => ?_)
    · have h3 := W.e1 j hj
      have h4 := W.e2 j hj
      have p3 : 2 ^ ρ 3 j < 2 ^ 7 := Nat.pow_lt_pow_right (by decide) (by omega)
      have p4 : 2 ^ ρ 4 j < 2 ^ 7 := Nat.pow_lt_pow_right (by decide) (by omega)
      have pb := Nat.or_lt_two_pow p3 p4
      have s3 : nI 1 <<< (nI (ρ 3 j) &&& nI 31) = nI (2 ^ ρ 3 j) := nI_sh1 (by omega)
      have s4 : nI 1 <<< (nI (ρ 4 j) &&& nI 31) = nI (2 ^ ρ 4 j) := nI_sh1 (by omega)
      have pa : R &&& (2 ^ ρ 3 j ||| 2 ^ ρ 4 j) < 2 ^ 7 := Nat.lt_of_le_of_lt Nat.and_le_left hR
      have eo : nI (2 ^ ρ 3 j) ||| nI (2 ^ ρ 4 j) = nI (2 ^ ρ 3 j ||| 2 ^ ρ 4 j) := nI_or (by omega) (by omega)
      have ea : (nI R &&& nI (2 ^ ρ 3 j ||| 2 ^ ρ 4 j) = nI 0) = (R &&& (2 ^ ρ 3 j ||| 2 ^ ρ 4 j) = 0) := by
        rw [nI_and (by omega) (by omega), nI_eq (by omega) (by decide)]
      have ep : nI R ||| nI (2 ^ ρ 3 j ||| 2 ^ ρ 4 j) = nI (R ||| (2 ^ ρ 3 j ||| 2 ^ ρ 4 j)) := nI_or (by omega) (by omega)
      show b_X10_placesReached_24 h r (nI V) (nI ra.toNat) v5 v6 (nI R) (nI j) = _
      unfold b_X10_placesReached_24 f_X10_placesReached_78 rrj
      simp (disch := omega) only [ob, nI_lit, nI_add, pk_mul, nI_eq, nI_ltI, nI_leI, if_true, if_false, if_pos, if_neg, gI_of (tR C.rd.rd), C.rd.sc, c_e1 W C.rd hj, c_e2 W C.rd hj, s3, s4, eo, ea, ep, c_open W C ra hj hV h0, nI_b0]
      rcases Decidable.em (R &&& (2 ^ ρ 3 j ||| 2 ^ ρ 4 j) = 0) with c | c
      · rw [if_pos c, if_neg (fun q => q.1 c)]
      · rw [if_neg c]
        rcases ho : op ρ j V ra with _ | _
        · rw [if_pos rfl, if_neg (fun q => by cases q.2)]
        · rw [if_neg (by decide), if_pos ⟨c, rfl⟩]
    · show b_X10_placesReached_24 h r (nI V) (nI ra.toNat) v5 v6 (nI (fo (rrj ρ V ra) R (ρ 0 3))) (nI (ρ 0 3)) = _
      unfold b_X10_placesReached_24
      simp (disch := omega) only [ob, nI_lit, nI_add, pk_mul, nI_eq, nI_ltI, nI_leI, if_true, if_false, if_pos, if_neg, gI_of (tR C.rd.rd), C.rd.sc]
      rfl
  have key : ∀ (d k N : Nat), k + d = ρ 0 2 → d < N → ∃ e, iter (fun (s : Int32 × Int32) => b_X10_placesReached_8 h r (nI V) (nI ra.toNat) s.1 s.2) N (nI (Rk ρ V ra f k), nI k) = some e ∧ (e = .inl (nI (Rk ρ V ra f (ρ 0 2))) ∨ e = .inr (nI (Rk ρ V ra f (ρ 0 2)))) := by
    intro d
    induction d with
    | zero =>
      intro k N hk hN
      obtain ⟨N, rfl⟩ : ∃ M, N = M + 1 := ⟨N - 1, by omega⟩
      have hk : k = ρ 0 2 := by omega
      subst hk
      refine ⟨_, iter_exit (r := .inr (nI (Rk ρ V ra f (ρ 0 2)))) ?_, Or.inr rfl⟩
      show b_X10_placesReached_8 h r (nI V) (nI ra.toNat) (nI (Rk ρ V ra f (ρ 0 2))) (nI (ρ 0 2)) = _
      unfold b_X10_placesReached_8
      simp (disch := omega) only [ob, nI_lit, nI_add, pk_mul, nI_eq, nI_ltI, nI_leI, if_true, if_false, if_pos, if_neg, gI_of (tR C.rd.rd), C.rd.sc]
    | succ d ih =>
      intro k N hk hN
      obtain ⟨N, rfl⟩ : ∃ M, N = M + 1 := ⟨N - 1, by omega⟩
      have hR := Rk_lt (V := V) (ra := ra) W hf k
      have eb : b_X10_placesReached_8 h r (nI V) (nI ra.toNat) (nI (Rk ρ V ra f k)) (nI k) = if rrd ρ V ra (Rk ρ V ra f k) = Rk ρ V ra f k then some (.inr (.inl (nI (rrd ρ V ra (Rk ρ V ra f k))))) else some (.inl (nI (rrd ρ V ra (Rk ρ V ra f k)), nI (k + 1))) := by
        obtain ⟨q, q2⟩ := l1 (Rk ρ V ra f k) (nI k) (nI (Rk ρ V ra f k)) hR
        unfold b_X10_placesReached_8
        simp (disch := omega) only [ob, nI_lit, nI_add, pk_mul, nI_eq, nI_ltI, nI_leI, if_true, if_false, if_pos, if_neg, gI_of (tR C.rd.rd), C.rd.sc, q]
      rcases Decidable.em (rrd ρ V ra (Rk ρ V ra f k) = Rk ρ V ra f k) with c | c
      · rw [if_pos c] at eb
        refine ⟨_, iter_exit eb, Or.inl ?_⟩
        have := Rk_fix c (d + 1)
        rw [hk] at this
        rw [c, this]
      · rw [if_neg c] at eb
        rw [iter_step eb]
        exact ih (k + 1) N (by omega) (by omega)
  obtain ⟨e, q, he⟩ := key (ρ 0 2) 0 FU (by omega) (FU_lt (by omega))
  have q' : iter (fun (s : Int32 × Int32) => b_X10_placesReached_8 h r (nI V) (nI ra.toNat) s.1 s.2) FU (nI (2 ^ f), nI 0) = some e := q
  have sf : nI 1 <<< (nI f &&& nI 31) = nI (2 ^ f) := nI_sh1 (by omega)
  rw [← Rk_rs W hf]
  unfold f_X10_placesReached
  simp (disch := omega) only [ob, nI_lit, nI_add, pk_mul, nI_eq, nI_ltI, nI_leI, if_true, if_false, if_pos, if_neg, sf, q']
  rcases he with rfl | rfl
  · rfl
  · rfl
end
