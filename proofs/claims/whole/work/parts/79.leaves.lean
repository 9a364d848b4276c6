/-! ===== the reference: which tunes are left ===== -/
theorem ex_succ (P : Nat → Bool) (n : Nat) : ex P (n + 1) = (ex P n || P n) := by
  cases q : ex P n
  · rw [Bool.false_or]
    cases w : P n
    · refine ex_no (fun i hi => ?_)
      rcases Decidable.em (i = n) with e | e
      · rw [e, w]
      · cases v : P i
        · rfl
        · rw [ex_iff.2 ⟨i, by omega, v⟩] at q
          cases q
    · exact ex_iff.2 ⟨n, by omega, w⟩
  · obtain ⟨i, hi, e⟩ := ex_iff.1 q
    rw [Bool.true_or]
    exact ex_iff.2 ⟨i, by omega, e⟩
theorem fo_and (a : Bool) (P : Nat → Bool) : ∀ n, fo (fun i x => x && !P i) a n = (a && !ex P n)
  | 0 => by
    rw [ex_no (fun i hi => by omega)]
    show a = _
    simp
  | n + 1 => by
    show (fo (fun i x => x && !P i) a n && !P n) = _
    rw [fo_and a P n, ex_succ]
    cases a <;> cases ex P n <;> cases P n <;> rfl
section
variable {h : Mem} {p : Nat} {ρ : RO}
theorem m_stands (W : RW ρ) (M : MT h p ρ) {t u : Nat} (ht : t < ρ 0 1) (hu : u < ρ 0 1) : f_X13_standsIn h 55 (nI t) (nI u) = some (nI (sn ρ t u).toNat) := by
  have h1 := W.len t ht
  have h2 := W.len u hu
  have htu := W.tu
  have q : iter (fun (s : Int32) => b_X13_standsIn_2 h 55 (nI t) (nI u) s) FU (nI 0) = some (if ex (fun f => ak ρ u f t (ρ 1 t)) (ρ 1 u + 1 - ρ 1 t) = true then .inl () else .inr ()) := by
    refine iter_ex (fun i => nI i) _ _ (FU_lt (by omega)) (fun f hf => ?_) ?_
    · have q2 : iter (fun (s : Int32 × Int32) => b_X13_standsIn_31 h 55 (nI t) (nI u) (nI f) s.1 s.2) FU (nI 1, nI 0) = some (nI (ak ρ u f t (ρ 1 t)).toNat) := by
        have ea : ak ρ u f t (ρ 1 t) = fo (fun i x => x && !decide (ρ 2 (8 * u + (f + i)) ≠ ρ 2 (8 * t + i))) true (ρ 1 t) := by
          rw [fo_and]
          rfl
        rw [ea]
        refine iter_fo (fun (a : Bool) i => (nI a.toNat, nI i)) (fun i x => x && !decide (ρ 2 (8 * u + (f + i)) ≠ ρ 2 (8 * t + i))) true (ρ 1 t) (FU_lt (by omega)) (fun i a hi => ?_) ?_
        · have n1 := W.note t i ht hi
          have n2 := W.note u (f + i) hu (by omega)
          show b_X13_standsIn_31 h 55 (nI t) (nI u) (nI f) (nI a.toNat) (nI i) = _
          unfold b_X13_standsIn_31 f_X13_standsIn_79 f_X13_standsIn_80
          simp (disch := omega) only [ob, nI_lit, nI_add, pk_mul, nI_eq, nI_ltI, nI_leI, if_true, if_false, if_pos, if_neg, ck_of (tS_55 M.sh), gR_of (tS_55 M.sh), gI_of (tS_55 M.sh), M.pp, ck_of (tP M.rd.pk), gR_of (tP M.rd.pk), gI_of (tP M.rd.pk), rP_10 M.rd.pk, rP_11 M.rd.pk, rP_12 M.rd.pk, rP_13 M.rd.pk, rP_14 M.rd.pk, rP_15 M.rd.pk, rP_16 M.rd.pk, rP_17 M.rd.pk, rP_18 M.rd.pk, rP_19 M.rd.pk, rP_20 M.rd.pk, rP_21 M.rd.pk, rP_22 M.rd.pk, rP_23 M.rd.pk, rP_24 M.rd.pk, aI_of (tP_1 M.rd.pk), aI_of (tP_2 M.rd.pk), aI_of (tP_3 M.rd.pk), aI_of (tP_4 M.rd.pk), aI_of (tP_5 M.rd.pk), aI_of (tP_6 M.rd.pk), aI_of (tP_7 M.rd.pk), aI_of (tP_8 M.rd.pk), aI_of (tP_9 M.rd.pk), aI_of (tP_10 M.rd.pk), aI_of (tP_11 M.rd.pk), aI_of (tP_12 M.rd.pk), aI_of (tP_13 M.rd.pk), aI_of (tP_14 M.rd.pk), aI_of (tP_15 M.rd.pk), M.rd.sc, M.rd.len, M.rd.note, M.rd.min, M.rd.kd, M.rd.gt, M.rd.e1, M.rd.e2, M.rd.i8, M.rd.i9, M.rd.i10, M.rd.i11, M.rd.hd, m_note W M ht hi, m_note W M hu (show f + i < ρ 1 u by omega), nI_b0]
          cases a
          · simp
          · rcases Decidable.em (ρ 2 (8 * t + i) = ρ 2 (8 * u + (f + i))) with e | e
            · simp [e]
            · have e2 : ¬ ρ 2 (8 * u + (f + i)) = ρ 2 (8 * t + i) := fun z => e z.symm
              simp [e, e2]
        · show b_X13_standsIn_31 h 55 (nI t) (nI u) (nI f) _ (nI (ρ 1 t)) = _
          unfold b_X13_standsIn_31
          simp (disch := omega) only [ob, nI_lit, nI_add, pk_mul, nI_eq, nI_ltI, nI_leI, if_true, if_false, if_pos, if_neg, ck_of (tS_55 M.sh), gR_of (tS_55 M.sh), gI_of (tS_55 M.sh), M.pp, ck_of (tP M.rd.pk), gR_of (tP M.rd.pk), gI_of (tP M.rd.pk), rP_10 M.rd.pk, rP_11 M.rd.pk, rP_12 M.rd.pk, rP_13 M.rd.pk, rP_14 M.rd.pk, rP_15 M.rd.pk, rP_16 M.rd.pk, rP_17 M.rd.pk, rP_18 M.rd.pk, rP_19 M.rd.pk, rP_20 M.rd.pk, rP_21 M.rd.pk, rP_22 M.rd.pk, rP_23 M.rd.pk, rP_24 M.rd.pk, aI_of (tP_1 M.rd.pk), aI_of (tP_2 M.rd.pk), aI_of (tP_3 M.rd.pk), aI_of (tP_4 M.rd.pk), aI_of (tP_5 M.rd.pk), aI_of (tP_6 M.rd.pk), aI_of (tP_7 M.rd.pk), aI_of (tP_8 M.rd.pk), aI_of (tP_9 M.rd.pk), aI_of (tP_10 M.rd.pk), aI_of (tP_11 M.rd.pk), aI_of (tP_12 M.rd.pk), aI_of (tP_13 M.rd.pk), aI_of (tP_14 M.rd.pk), aI_of (tP_15 M.rd.pk), M.rd.sc, M.rd.len, M.rd.note, M.rd.min, M.rd.kd, M.rd.gt, M.rd.e1, M.rd.e2, M.rd.i8, M.rd.i9, M.rd.i10, M.rd.i11, M.rd.hd]
      unfold b_X13_standsIn_2
      simp (disch := omega) only [ob, nI_lit, nI_add, pk_mul, nI_eq, nI_ltI, nI_leI, if_true, if_false, if_pos, if_neg, ck_of (tS_55 M.sh), gR_of (tS_55 M.sh), gI_of (tS_55 M.sh), M.pp, ck_of (tP M.rd.pk), gR_of (tP M.rd.pk), gI_of (tP M.rd.pk), rP_10 M.rd.pk, rP_11 M.rd.pk, rP_12 M.rd.pk, rP_13 M.rd.pk, rP_14 M.rd.pk, rP_15 M.rd.pk, rP_16 M.rd.pk, rP_17 M.rd.pk, rP_18 M.rd.pk, rP_19 M.rd.pk, rP_20 M.rd.pk, rP_21 M.rd.pk, rP_22 M.rd.pk, rP_23 M.rd.pk, rP_24 M.rd.pk, aI_of (tP_1 M.rd.pk), aI_of (tP_2 M.rd.pk), aI_of (tP_3 M.rd.pk), aI_of (tP_4 M.rd.pk), aI_of (tP_5 M.rd.pk), aI_of (tP_6 M.rd.pk), aI_of (tP_7 M.rd.pk), aI_of (tP_8 M.rd.pk), aI_of (tP_9 M.rd.pk), aI_of (tP_10 M.rd.pk), aI_of (tP_11 M.rd.pk), aI_of (tP_12 M.rd.pk), aI_of (tP_13 M.rd.pk), aI_of (tP_14 M.rd.pk), aI_of (tP_15 M.rd.pk), M.rd.sc, M.rd.len, M.rd.note, M.rd.min, M.rd.kd, M.rd.gt, M.rd.e1, M.rd.e2, M.rd.i8, M.rd.i9, M.rd.i10, M.rd.i11, M.rd.hd, q2, nI_b0]
      cases ak ρ u f t (ρ 1 t) <;> simp
    · unfold b_X13_standsIn_2
      simp (disch := omega) only [ob, nI_lit, nI_add, pk_mul, nI_eq, nI_ltI, nI_leI, if_true, if_false, if_pos, if_neg, ck_of (tS_55 M.sh), gR_of (tS_55 M.sh), gI_of (tS_55 M.sh), M.pp, ck_of (tP M.rd.pk), gR_of (tP M.rd.pk), gI_of (tP M.rd.pk), rP_10 M.rd.pk, rP_11 M.rd.pk, rP_12 M.rd.pk, rP_13 M.rd.pk, rP_14 M.rd.pk, rP_15 M.rd.pk, rP_16 M.rd.pk, rP_17 M.rd.pk, rP_18 M.rd.pk, rP_19 M.rd.pk, rP_20 M.rd.pk, rP_21 M.rd.pk, rP_22 M.rd.pk, rP_23 M.rd.pk, rP_24 M.rd.pk, aI_of (tP_1 M.rd.pk), aI_of (tP_2 M.rd.pk), aI_of (tP_3 M.rd.pk), aI_of (tP_4 M.rd.pk), aI_of (tP_5 M.rd.pk), aI_of (tP_6 M.rd.pk), aI_of (tP_7 M.rd.pk), aI_of (tP_8 M.rd.pk), aI_of (tP_9 M.rd.pk), aI_of (tP_10 M.rd.pk), aI_of (tP_11 M.rd.pk), aI_of (tP_12 M.rd.pk), aI_of (tP_13 M.rd.pk), aI_of (tP_14 M.rd.pk), aI_of (tP_15 M.rd.pk), M.rd.sc, M.rd.len, M.rd.note, M.rd.min, M.rd.kd, M.rd.gt, M.rd.e1, M.rd.e2, M.rd.i8, M.rd.i9, M.rd.i10, M.rd.i11, M.rd.hd]
  unfold f_X13_standsIn sn
  simp (disch := omega) only [ob, nI_lit, nI_add, pk_mul, nI_eq, nI_ltI, nI_leI, if_true, if_false, if_pos, if_neg, ck_of (tS_55 M.sh), gR_of (tS_55 M.sh), gI_of (tS_55 M.sh), M.pp, ck_of (tP M.rd.pk), gR_of (tP M.rd.pk), gI_of (tP M.rd.pk), rP_10 M.rd.pk, rP_11 M.rd.pk, rP_12 M.rd.pk, rP_13 M.rd.pk, rP_14 M.rd.pk, rP_15 M.rd.pk, rP_16 M.rd.pk, rP_17 M.rd.pk, rP_18 M.rd.pk, rP_19 M.rd.pk, rP_20 M.rd.pk, rP_21 M.rd.pk, rP_22 M.rd.pk, rP_23 M.rd.pk, rP_24 M.rd.pk, aI_of (tP_1 M.rd.pk), aI_of (tP_2 M.rd.pk), aI_of (tP_3 M.rd.pk), aI_of (tP_4 M.rd.pk), aI_of (tP_5 M.rd.pk), aI_of (tP_6 M.rd.pk), aI_of (tP_7 M.rd.pk), aI_of (tP_8 M.rd.pk), aI_of (tP_9 M.rd.pk), aI_of (tP_10 M.rd.pk), aI_of (tP_11 M.rd.pk), aI_of (tP_12 M.rd.pk), aI_of (tP_13 M.rd.pk), aI_of (tP_14 M.rd.pk), aI_of (tP_15 M.rd.pk), M.rd.sc, M.rd.len, M.rd.note, M.rd.min, M.rd.kd, M.rd.gt, M.rd.e1, M.rd.e2, M.rd.i8, M.rd.i9, M.rd.i10, M.rd.i11, M.rd.hd, q]
  cases ex (fun f => ak ρ u f t (ρ 1 t)) (ρ 1 u + 1 - ρ 1 t) <;> rfl
/-- a memory's row holds a list -/
def hl (B : Nat → Int32) (y : List Nat) : Prop := ∀ i, i < y.length → B i = nI (y.getD i 0)
theorem hl_nil (B : Nat → Int32) : hl B [] := fun i hi => absurd hi (by simp)
theorem hl_snoc {B : Nat → Int32} {y : List Nat} (H : hl B y) (x : Nat) : hl (upd B y.length (nI x)) (y ++ [x]) := by
  intro i hi
  rw [List.length_append, List.length_singleton] at hi
  rw [List.getD_eq_getElem?_getD]
  rcases Decidable.em (i = y.length) with e | e
  · rw [e, pk_us, List.getElem?_append_right (Nat.le_refl _), Nat.sub_self]
    rfl
  · rw [pk_un e, List.getElem?_append_left (by omega), ← List.getD_eq_getElem?_getD]
    exact H i (by omega)
def lvs (ρ : RO) (c n : Nat) : List Nat := (List.range n).filter (lvb ρ c)
theorem lvs_succ (c n : Nat) : lvs ρ c (n + 1) = lvs ρ c n ++ (if lvb ρ c n = true then [n] else []) := by
  unfold lvs
  rw [List.range_succ, List.filter_append]
  congr 1
  cases q : lvb ρ c n <;> simp [q]
theorem lvs_len (c : Nat) : ∀ n, (lvs ρ c n).length ≤ n
  | 0 => by simp [lvs]
  | n + 1 => by
    have := lvs_len c n
    rw [lvs_succ, List.length_append]
    split <;> simp <;> omega
def lfM (h : Mem) (F : Nat → Int32) (m : Nat) : Mem := wI (rowI h 64 F) 55 31 (nI m)
theorem lfM_f (h : Mem) (F : Nat → Int32) (m : Nat) : FQ [55, 64] h (lfM h F m) := (FQ.row h F (by decide)).tr (FQ.w _ 31 _ (by decide))
theorem lfM_w (h : Mem) (F : Nat → Int32) (m k m' : Nat) (v : Int32) : wI (wI (lfM h F m) 64 k v) 55 31 (nI m') = lfM h (upd F k v) m' := by
  unfold lfM
  refine mem_ext (fun x => ?_) rfl rfl rfl rfl
  rcases Decidable.em (x = 55) with e | e
  · subst e
    rw [mI_wI_at, mI_wI_at, mI_wI_ne _ _ _ (by decide), mI_wI_at, mI_row_ne _ _ (by decide), mI_row_ne _ _ (by decide), upd_us]
  · rw [mI_wI_ne _ _ _ e, mI_wI_ne _ _ _ e]
    rcases Decidable.em (x = 64) with e2 | e2
    · subst e2
      rw [mI_wI_at, mI_wI_ne _ _ _ e, mI_row, mI_row]
    · rw [mI_wI_ne _ _ _ e2, mI_wI_ne _ _ _ e, mI_row_ne _ _ e2, mI_row_ne _ _ e2]
theorem m_leaves (W : RW ρ) (M : MT h p ρ) (hp : 69 ≤ p) {c : Nat} (hc : c < 64) : OK (f_X13_leaves h 55 (nI c)) (fun h' => ∃ F, h' = lfM h F (lvs ρ c (ρ 0 1)).length ∧ hl F (lvs ρ c (ρ 0 1))) := by
  have htu := W.tu
  have q : OK (iter (fun (s : Int32 × Mem) => b_X13_leaves_7 s.2 55 (nI c) s.1) FU (nI 0, wI h 55 31 (nI 0))) (fun h' => ∃ F, h' = lfM h F (lvs ρ c (ρ 0 1)).length ∧ hl F (lvs ρ c (ρ 0 1))) := by
    refine iter_ok (fun t s => ∃ F, s = (nI t, lfM h F (lvs ρ c t).length) ∧ hl F (lvs ρ c t)) (ρ 0 1) (FU_lt (by omega)) (fun t s ht hI => ?_) ⟨mI h 64, by unfold lfM; rw [rowI_id]; rfl, hl_nil _⟩
    obtain ⟨F, rfl, hF⟩ := hI
    show OK (b_X13_leaves_7 (lfM h F (lvs ρ c t).length) 55 (nI c) (nI t)) _
    have M2 : MT (lfM h F (lvs ρ c t).length) p ρ := M.fq (lfM_f h F _) (fun k hk hq => by
      simp only [List.mem_cons, List.not_mem_nil, or_false] at hq
      omega)
    have x31 : mI (lfM h F (lvs ρ c t).length) 55 31 = nI (lvs ρ c t).length := by
      unfold lfM
      rw [mI_wI_at, pk_us]
    have hl2 := lvs_len (ρ := ρ) c t
    have hw := lfM_w h F (lvs ρ c t).length (lvs ρ c t).length ((lvs ρ c t).length + 1) (nI t)
    have y31 : mI (wI (lfM h F (lvs ρ c t).length) 64 (lvs ρ c t).length (nI t)) 55 31 = nI (lvs ρ c t).length := by
      rw [mI_wI_ne _ _ _ (by decide)]
      exact x31
    have S2 := M2.sh
    generalize hh : lfM h F (lvs ρ c t).length = h2 at *
    rcases Nat.lt_or_ge t (ρ 0 1) with d | d
    · have q2 : iter (fun (s : Int32 × Int32) => b_X13_leaves_27 h2 55 (nI c) (nI t) s.1 s.2) FU (nI (c.testBit t).toNat, nI 0) = some (nI (lvb ρ c t).toNat) := by
        have ea : lvb ρ c t = fo (fun u x => x && !(c.testBit u && decide (u ≠ t) && sn ρ t u && (decide (u < t) || !sn ρ u t))) (c.testBit t) (ρ 0 1) := by
          rw [fo_and]
          rfl
        rw [ea]
        refine iter_fo (fun (a : Bool) i => (nI a.toNat, nI i)) (fun u x => x && !(c.testBit u && decide (u ≠ t) && sn ρ t u && (decide (u < t) || !sn ρ u t))) (c.testBit t) (ρ 0 1) (FU_lt (by omega)) (fun u a hu => ?_) ?_
        · show b_X13_leaves_27 h2 55 (nI c) (nI t) (nI a.toNat) (nI u) = _
          unfold b_X13_leaves_27 f_X13_leaves_80 f_X13_leaves_82
          simp (disch := omega) only [ob, nI_lit, nI_add, pk_mul, nI_eq, nI_ltI, nI_leI, if_true, if_false, if_pos, if_neg, ck_of (tS_55 M2.sh), gR_of (tS_55 M2.sh), M2.pp, gI_of (tP M2.rd.pk), M2.rd.sc, h_bit, nI_b0, m_stands W M2 d hu, m_stands W M2 hu d]
          cases c.testBit u
          · simp
          · rcases Decidable.em (u = t) with e | e
            · simp [e]
            · cases sn ρ t u
              · simp [e]
              · rcases Decidable.em (u < t) with e2 | e2
                · simp [e, e2]
                · cases sn ρ u t <;> simp [e, e2]
        · show b_X13_leaves_27 h2 55 (nI c) (nI t) _ (nI (ρ 0 1)) = _
          unfold b_X13_leaves_27
          simp (disch := omega) only [ob, nI_lit, nI_add, pk_mul, nI_eq, nI_ltI, nI_leI, if_true, if_false, if_pos, if_neg, ck_of (tS_55 M2.sh), gR_of (tS_55 M2.sh), M2.pp, gI_of (tP M2.rd.pk), M2.rd.sc]
      have e : b_X13_leaves_7 h2 55 (nI c) (nI t) = some (.inl (nI (t + 1), if lvb ρ c t = true then lfM h (upd F (lvs ρ c t).length (nI t)) ((lvs ρ c t).length + 1) else h2)) := by
        unfold b_X13_leaves_7 f_X13_leaves_115
        simp (disch := omega) only [ob, nI_lit, nI_add, pk_mul, nI_eq, nI_ltI, nI_leI, if_true, if_false, if_pos, if_neg, ck_of (tS_55 M2.sh), gR_of (tS_55 M2.sh), gI_of (tS_55 M2.sh), M2.pp, gI_of (tP M2.rd.pk), M2.rd.sc, h_bit, q2, nI_b0, rS_55_28 M2.sh, sI_of (tS_64 M2.sh), x31, gI_of (tS_55 (S2.wI 64 (lvs ρ c t).length (nI t))), y31, pI_of (tS_55 (S2.wI 64 (lvs ρ c t).length (nI t))), hw]
        cases lvb ρ c t <;> simp
      rw [e]
      refine ⟨_, rfl, d, ?_⟩
      cases q3 : lvb ρ c t
      · refine ⟨F, ?_, ?_⟩
        · rw [lvs_succ, q3]
          simp [hh]
        · rw [lvs_succ, q3]
          simpa using hF
      · refine ⟨upd F (lvs ρ c t).length (nI t), ?_, ?_⟩
        · rw [lvs_succ, q3]
          simp
        · rw [lvs_succ, q3]
          exact hl_snoc hF t
    · have e : b_X13_leaves_7 h2 55 (nI c) (nI t) = some (.inr h2) := by
        unfold b_X13_leaves_7
        simp (disch := omega) only [ob, nI_lit, nI_add, pk_mul, nI_eq, nI_ltI, nI_leI, if_true, if_false, if_pos, if_neg, ck_of (tS_55 M2.sh), gR_of (tS_55 M2.sh), gI_of (tS_55 M2.sh), M2.pp, gI_of (tP M2.rd.pk), M2.rd.sc]
      rw [e]
      have : t = ρ 0 1 := by omega
      subst this
      exact ⟨_, rfl, F, hh.symm, hF⟩
  unfold f_X13_leaves
  simp (disch := omega) only [ob, nI_lit, nI_add, pk_mul, nI_eq, nI_ltI, nI_leI, if_true, if_false, if_pos, if_neg, ck_of (tS_55 M.sh), pI_of (tS_55 M.sh)]
  obtain ⟨h', e, k⟩ := q
  simp only [e, ob]
  exact ⟨_, rfl, k⟩
end
