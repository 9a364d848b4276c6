/-! ===== which tune lifts which gate ===== -/
/-- how many notes of own aren't those that t is sung with -/
def ul (ρ : RO) (own t : Nat) (fo ra : Bool) : Nat := cn (fun i => decide (ρ 2 (8 * own + i) ≠ sg ρ t i fo ra)) (ρ 1 t)
/-- a gate of kind k (1 .. 4) and an own tune lifts to t -/
def lf (ρ : RO) (k own t : Nat) (fo ra : Bool) : Bool := if k = 4 then true else if ρ 1 own = ρ 1 t then (if k = 3 then true else decide (ul ρ own t fo ra ≤ if k = 2 then 1 else 0)) else false
section
variable {h : Mem} {r : Nat} {ρ : RO}
theorem c_gate (W : RW ρ) (C : CRd h r ρ) {j : Nat} (hj : j < ρ 0 3) : f_X5_hasGate h r (nI j) = some (nI (decide (ρ 6 j ≠ 0)).toNat) := by
  have := W.ro
  have := W.kd j hj
  unfold f_X5_hasGate
  simp (disch := omega) only [ob, nI_lit, nI_add, pk_mul, nI_eq, nI_ltI, nI_leI, if_true, if_false, if_pos, if_neg, ck_of (tR C.rd), gR_of (tR C.rd), rR_13 C.rd, aI_of (tR_5 C.rd), C.kd, kN_neg]
  rcases Decidable.em (ρ 6 j = 0) with e | e <;> simp [e]
theorem c_unlike (W : RW ρ) (C : CRd h r ρ) {own t : Nat} (fo ra : Bool) (v5 : Int32) (ho : own < ρ 0 1) (ht : t < ρ 0 1) (he : ρ 1 own = ρ 1 t) : iter (fun (s : Int32 × Int32) => b_X1_isLiftedBy_56 h r (nI t) (nI fo.toNat) (nI ra.toNat) v5 (nI own) s.1 s.2) FU (0, 0) = some (nI (ul ρ own t fo ra)) := by
  have := W.len t ht
  have := W.tu
  refine iter_fo (fun a i => (nI a, nI i)) (fun i a => a + (decide (ρ 2 (8 * own + i) ≠ sg ρ t i fo ra)).toNat) 0 (ρ 1 t) (FU_lt (by omega)) (fun i a hi => ?_) ?_
  · have := W.note own i ho (by omega)
    have := sg_lt W fo ra ht hi
    unfold b_X1_isLiftedBy_56 f_X1_isLiftedBy_91
    simp (disch := omega) only [ob, nI_lit, nI_add, pk_mul, nI_eq, nI_ltI, nI_leI, if_true, if_false, if_pos, if_neg, gR_of (tR C.rd), rR_9 C.rd, c_len W C ht, c_note W C ho (show i < ρ 1 own by omega), c_sung W C fo ra ht hi]
    rcases Decidable.em (ρ 2 (8 * own + i) = sg ρ t i fo ra) with e | e <;> simp [e, nI_1]
  · unfold b_X1_isLiftedBy_56
    simp (disch := omega) only [ob, nI_lit, nI_add, pk_mul, nI_eq, nI_ltI, nI_leI, if_true, if_false, if_pos, if_neg, gR_of (tR C.rd), rR_9 C.rd, c_len W C ht]
    rfl
theorem ul_lt {ρ : RO} (W : RW ρ) {t : Nat} (own : Nat) (fo ra : Bool) (ht : t < ρ 0 1) : ul ρ own t fo ra ≤ 8 := Nat.le_trans (cn_le _ _) (W.len t ht).2
theorem c_lifted (W : RW ρ) (C : CRd h r ρ) {j t : Nat} (fo ra : Bool) (hj : j < ρ 0 3) (hk : ρ 6 j ≠ 0) (ht : t < ρ 0 1) : f_X1_isLiftedBy h r (nI j) (nI t) (nI fo.toNat) (nI ra.toNat) = some (nI (lf ρ (ρ 6 j) (ρ 7 j) t fo ra).toNat) := by
  have := W.ro
  have := W.kd j hj
  have hg := W.gt j hj hk
  have := W.len t ht
  have := W.len _ hg
  have hu := ul_lt W (ρ 7 j) fo ra ht
  unfold f_X1_isLiftedBy f_X1_isLiftedBy_110 lf
  simp (disch := omega) only [ob, nI_lit, nI_add, pk_mul, nI_eq, nI_ltI, nI_leI, if_true, if_false, if_pos, if_neg, gR_of (tR C.rd), rR_13 C.rd, rR_14 C.rd, rR_9 C.rd, aI_of (tR_5 C.rd), C.kd, kN_eq, aI_of (tR_6 C.rd), C.gt j hj hk, c_len W C ht, c_len W C hg]
  rcases Decidable.em (ρ 6 j = 4) with e4 | e4
  · simp [e4]
  · rcases Decidable.em (ρ 1 (ρ 7 j) = ρ 1 t) with el | el
    · rcases Decidable.em (ρ 6 j = 3) with e3 | e3
      · simp [e3, el]
      · have q := c_unlike W C fo ra (nI (ρ 6 j) - nI 1) hg ht el
        simp only [nI_lit] at q
        simp only [e4, el, e3, q, if_false, if_true, ob, Nat.reduceAdd]
        rcases Decidable.em (ρ 6 j = 2) with e2 | e2
        · simp only [e2, if_true]
          simp (disch := omega) only [ob, nI_lit, nI_add, pk_mul, nI_eq, nI_ltI, nI_leI, if_true, if_false, if_pos, if_neg]
          rcases Decidable.em (ul ρ (ρ 7 j) t fo ra ≤ 1) with q1 | q1 <;> simp (disch := omega) [q1, if_pos, if_neg]
        · simp only [e2, if_false]
          simp (disch := omega) only [ob, nI_lit, nI_add, pk_mul, nI_eq, nI_ltI, nI_leI, if_true, if_false, if_pos, if_neg]
          rcases Decidable.em (ul ρ (ρ 7 j) t fo ra ≤ 0) with q1 | q1 <;> simp (disch := omega) [q1, if_pos, if_neg]
    · simp [e4, el]
theorem h_voice (h : Mem) {t : Nat} (fo : Bool) (ht : t < 6) : f_X1_voice h (nI t) (nI fo.toNat) = some (nI (2 ^ (if fo then 6 + t else t))) := by
  unfold f_X1_voice
  cases fo <;> simp (disch := omega) [ob, nI_lit, nI_add, pk_mul, nI_eq, nI_ltI, nI_leI, if_true, if_false, if_pos, if_neg, Bool.toNat, nI_sh1]
end
