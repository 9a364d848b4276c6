/-! ===== a new ROAD settles: pairs ===== -/
def psM (h : Mem) (U V P : Nat → Int32) : Mem := rowI (rowI (rowI h 48 U) 49 V) 50 P
theorem psM_48 (h : Mem) (U V P : Nat → Int32) : mI (psM h U V P) 48 = U := by
  unfold psM
  rw [mI_row_ne _ _ (by decide), mI_row_ne _ _ (by decide), mI_row]
theorem psM_49 (h : Mem) (U V P : Nat → Int32) : mI (psM h U V P) 49 = V := by
  unfold psM
  rw [mI_row_ne _ _ (by decide), mI_row]
theorem psM_50 (h : Mem) (U V P : Nat → Int32) : mI (psM h U V P) 50 = P := mI_row _ _ _
theorem psM_o (h : Mem) (U V P : Nat → Int32) {x : Nat} (h1 : x ≠ 48) (h2 : x ≠ 49) (h3 : x ≠ 50) : mI (psM h U V P) x = mI h x := by
  unfold psM
  rw [mI_row_ne _ _ h3, mI_row_ne _ _ h2, mI_row_ne _ _ h1]
theorem psM_u (h : Mem) (U V P : Nat → Int32) (k : Nat) (v : Int32) : wI (psM h U V P) 48 k v = psM h (upd U k v) V P := by
  refine mem_ext (fun x => ?_) rfl rfl rfl rfl
  rcases Decidable.em (x = 48) with e | e
  · subst e
    rw [mI_wI_at, psM_48, psM_48]
  · rw [mI_wI_ne _ _ _ e]
    rcases Decidable.em (x = 49) with e2 | e2
    · subst e2
      rw [psM_49, psM_49]
    · rcases Decidable.em (x = 50) with e3 | e3
      · subst e3
        rw [psM_50, psM_50]
      · rw [psM_o _ _ _ _ e e2 e3, psM_o _ _ _ _ e e2 e3]
theorem psM_v (h : Mem) (U V P : Nat → Int32) (k : Nat) (v : Int32) : wI (psM h U V P) 49 k v = psM h U (upd V k v) P := by
  refine mem_ext (fun x => ?_) rfl rfl rfl rfl
  rcases Decidable.em (x = 49) with e | e
  · subst e
    rw [mI_wI_at, psM_49, psM_49]
  · rw [mI_wI_ne _ _ _ e]
    rcases Decidable.em (x = 48) with e2 | e2
    · subst e2
      rw [psM_48, psM_48]
    · rcases Decidable.em (x = 50) with e3 | e3
      · subst e3
        rw [psM_50, psM_50]
      · rw [psM_o _ _ _ _ e2 e e3, psM_o _ _ _ _ e2 e e3]
theorem psM_p (h : Mem) (U V P : Nat → Int32) (k : Nat) (v : Int32) : wI (psM h U V P) 50 k v = psM h U V (upd P k v) := rowI_wI _ _ _ _ _
theorem psM_r (h : Mem) (U V P Q : Nat → Int32) : rowI (psM h U V P) 50 Q = psM h U V Q := rowI_rowI _ _ _ _
theorem psM_id (h : Mem) : psM h (mI h 48) (mI h 49) (mI h 50) = h := by
  unfold psM
  rw [rowI_id, rowI_id, rowI_id]
theorem psM_f (h : Mem) (U V P : Nat → Int32) : FQ [48, 49, 50] h (psM h U V P) := (FQ.row h U (by decide)).tr ((FQ.row _ V (by decide)).tr (FQ.row _ P (by decide)))
/-- the mates of a tune, as a set -/
def mts (ρ : RO) (t n : Nat) : Nat := fo (fun u s => if gt2 ρ t u = true then s ||| 2 ^ u else s) 0 n
theorem mts_bit (ρ : RO) (t i : Nat) : ∀ n, (mts ρ t n).testBit i = (decide (i < n) && gt2 ρ t i)
  | 0 => by simp [mts, fo]
  | n + 1 => by
    have ih := mts_bit ρ t i n
    show (if gt2 ρ t n = true then mts ρ t n ||| 2 ^ n else mts ρ t n).testBit i = _
    rcases hg : gt2 ρ t n with _ | _
    · rw [if_neg (by decide), ih]
      rcases Decidable.em (i = n) with e | e
      · subst e
        simp [hg]
      · have : (i < n + 1) = (i < n) := by apply propext; omega
        simp only [this]
    · rw [if_pos rfl, Nat.testBit_or, bit_pow, ih]
      rcases Decidable.em (i = n) with e | e
      · subst e
        simp [hg]
      · have : (i < n + 1) = (i < n) := by apply propext; omega
        simp [this, show ¬ n = i from fun q => e q.symm]
theorem mts_lt (ρ : RO) (t n : Nat) : mts ρ t n < 2 ^ n := by
  refine Nat.lt_pow_two_of_testBit _ (fun i hi => ?_)
  rw [mts_bit, decide_eq_false (by omega)]
  rfl
section
variable {h : Mem} {r : Nat} {ρ : RO}
theorem CT.ps (C : CT h r ρ) (hr : r = 2 ∨ r = 21) (U V P : Nat → Int32) : CT (psM h U V P) r ρ := C.fq (psM_f h U V P) (fun k hk hq => by
  simp only [List.mem_cons, List.not_mem_nil, or_false] at hq
  omega)
theorem c_mates (W : RW ρ) (C : CT h r ρ) (hr : r = 2 ∨ r = 21) {U P : Nat → Int32} : OK (iter (fun (s : Int32 × Mem) => b_X3_settle_2 s.2 47 r s.1) FU (nI 0, psM h U (mI h 49) P)) (fun h' => ∃ V, h' = psM h U V P ∧ ∀ t, t < ρ 0 1 → V t = nI (mts ρ t (ρ 0 1))) := by
  have htu := W.tu
  refine iter_ok (fun t s => ∃ V, s = (nI t, psM h U V P) ∧ ∀ t', t' < t → V t' = nI (mts ρ t' (ρ 0 1))) (ρ 0 1) (FU_lt (by omega)) (fun t s ht hI => ?_) ⟨mI h 49, rfl, fun j hj => by omega⟩
  obtain ⟨V, rfl, hV⟩ := hI
  show OK (b_X3_settle_2 (psM h U V P) 47 r (nI t)) _
  have C2 := C.ps hr U V P
  rcases Nat.lt_or_ge t (ρ 0 1) with c | c
  · have q : iter (fun (s : Int32 × Mem) => b_X3_settle_19 s.2 47 r (nI t) s.1) FU (nI 0, psM h U (upd V t (nI 0)) P) = some (psM h U (upd V t (nI (mts ρ t (ρ 0 1)))) P) := by
      refine iter_foI (fun x u => (nI u, psM h U (upd V t (nI x)) P)) (fun u s => if gt2 ρ t u = true then s ||| 2 ^ u else s) 0 (ρ 0 1) (fun _ x => x < 64) (FU_lt (by omega)) (by decide) (fun u x hu hx => ?_) (fun u x hu hx => ?_) (fun _ => ?_)
      · split
        · exact Nat.or_lt_two_pow (n := 6) hx (Nat.pow_lt_pow_right (by decide) (by omega))
        · exact hx
      · show b_X3_settle_19 (psM h U (upd V t (nI x)) P) 47 r (nI t) (nI u) = _
        have hx : x < 64 := hx
        have C3 := C.ps hr U (upd V t (nI x)) P
        have hsu : nI 1 <<< (nI u &&& nI 31) = nI (2 ^ u) := nI_sh1 (by omega)
        have hp : 2 ^ u < 2 ^ 6 := Nat.pow_lt_pow_right (by decide) (by omega)
        unfold b_X3_settle_19 f_X3_settle_50
        simp (disch := omega) only [ob, nI_lit, nI_add, pk_mul, nI_eq, nI_ltI, nI_leI, if_true, if_false, if_pos, if_neg, gI_of (tR C3.rd.rd), C3.rd.sc, gR_of (tS_47 C3.sh), rS_47_1 C3.sh, aI_of (tS_49 C3.sh), psM_49, pk_us, c_gt2 W C3.rd c hu, nI_b0, hsu, nI_or, sI_of (tS_49 C3.sh), psM_v, upd_us]
        rcases hg : gt2 ρ t u with _ | _
        · simp
        · simp
      · have C3 := C.ps hr U (upd V t (nI (mts ρ t (ρ 0 1)))) P
        show b_X3_settle_19 (psM h U (upd V t (nI (mts ρ t (ρ 0 1)))) P) 47 r (nI t) (nI (ρ 0 1)) = _
        unfold b_X3_settle_19
        simp (disch := omega) only [ob, nI_lit, nI_add, pk_mul, nI_eq, nI_ltI, nI_leI, if_true, if_false, if_pos, if_neg, gI_of (tR C3.rd.rd), C3.rd.sc]
    have e : b_X3_settle_2 (psM h U V P) 47 r (nI t) = some (.inl (nI (t + 1), psM h U (upd V t (nI (mts ρ t (ρ 0 1)))) P)) := by
      unfold b_X3_settle_2
      simp (disch := omega) only [ob, nI_lit, nI_add, pk_mul, nI_eq, nI_ltI, nI_leI, if_true, if_false, if_pos, if_neg, gI_of (tR C2.rd.rd), C2.rd.sc, gR_of (tS_47 C2.sh), rS_47_1 C2.sh, sI_of (tS_49 C2.sh), psM_v, q]
    rw [e]
    refine ⟨_, rfl, c, _, rfl, fun t' ht' => ?_⟩
    rcases Decidable.em (t' = t) with z | z
    · rw [z, pk_us]
    · rw [pk_un z]
      exact hV t' (by omega)
  · have e : b_X3_settle_2 (psM h U V P) 47 r (nI t) = some (.inr (psM h U V P)) := by
      unfold b_X3_settle_2
      simp (disch := omega) only [ob, nI_lit, nI_add, pk_mul, nI_eq, nI_ltI, nI_leI, if_true, if_false, if_pos, if_neg, gI_of (tR C2.rd.rd), C2.rd.sc]
    rw [e]
    exact ⟨_, rfl, V, rfl, fun t' ht' => hV t' (by omega)⟩
/-- the bit of a mate that is left -/
theorem and_bit {R t u : Nat} (hR : R < 64) (hm : mts ρ t (ρ 0 1) < 64) (hu : u < ρ 0 1) (hu6 : u < 6) : (nI R &&& nI (mts ρ t (ρ 0 1)) &&& nI (2 ^ u) = nI 0) = ((R.testBit u && gt2 ρ t u) = false) := by
  have hp : 2 ^ u < 2 ^ 6 := Nat.pow_lt_pow_right (by decide) hu6
  have h1 : R &&& mts ρ t (ρ 0 1) < 64 := Nat.lt_of_le_of_lt Nat.and_le_left hR
  have h2 : (R &&& mts ρ t (ρ 0 1)) &&& 2 ^ u < 64 := Nat.lt_of_le_of_lt Nat.and_le_left h1
  rw [nI_and (by omega) (by omega), nI_and (by omega) (by omega), nI_eq (by omega) (by omega)]
  have hb : (R &&& mts ρ t (ρ 0 1)).testBit u = (R.testBit u && gt2 ρ t u) := by
    rw [Nat.testBit_and, mts_bit, decide_eq_true hu, Bool.true_and]
  rw [← hb, and_pow0]
end
