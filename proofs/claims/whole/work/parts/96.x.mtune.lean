/-! ===== the reference's tunes: notes off the packed word ===== -/
theorem lN_bv (n : Nat) : (lN n).toBitVec = BitVec.ofNat 64 n := rfl
theorem lN_and31 {v : Nat} (h : v < 2 ^ 60) : lN v &&& lN 31 = lN (v % 32) := by
  apply Int64.toBitVec_inj.mp
  apply BitVec.eq_of_toNat_eq
  rw [Int64.toBitVec_and, lN_bv, lN_bv, lN_bv, BitVec.toNat_and, BitVec.toNat_ofNat, BitVec.toNat_ofNat, BitVec.toNat_ofNat, Nat.mod_eq_of_lt (by omega), Nat.mod_eq_of_lt (by decide), Nat.mod_eq_of_lt (by omega)]
  exact Nat.and_two_pow_sub_one_eq_mod v 5
theorem lN_shr5 {v : Nat} (h : v < 2 ^ 60) : lN v >>> ((5 : Int32).toInt64 &&& 63) = lN (v / 32) := by
  have e : ((5 : Int32).toInt64 &&& 63) = 5 := by decide
  rw [e]
  apply Int64.toBitVec_inj.mp
  rw [Int64.toBitVec_shiftRight]
  have e2 : ((5 : Int64).toBitVec.smod 64) = 5#64 := by decide
  rw [e2, lN_bv, lN_bv]
  show (BitVec.ofNat 64 v).sshiftRight 5 = BitVec.ofNat 64 (v / 32)
  have t : ∀ w, w < 2 ^ 60 → (BitVec.ofNat 64 w).toInt = (w : Int) := fun w hw => by
    rw [BitVec.toInt_eq_toNat_of_lt (by rw [BitVec.toNat_ofNat, Nat.mod_eq_of_lt (by omega)]; omega), BitVec.toNat_ofNat, Nat.mod_eq_of_lt (by omega)]
  apply BitVec.eq_of_toInt_eq
  rw [BitVec.toInt_sshiftRight, t v h, t (v / 32) (by omega), Int.shiftRight_eq_div_pow]
  rfl
theorem wv_lt (b : Nat → Nat) (n a : Nat) : ∀ m, m ≤ nl b n a → wv b a m < 32 ^ m := by
  intro m
  induction m with
  | zero => intro _; exact Nat.one_pos
  | succ m ih =>
    intro hm
    have h1 := ih (by omega)
    have h2 := isL_iff.1 (nl_in b n a m (by omega))
    show wv b a m * 32 + (b (a + m) - 96) < 32 ^ (m + 1)
    rw [Nat.pow_succ]
    omega
/-- notes from the last on: k are left -/
def nr (h : Mem) (x : Nat) (b : Nat → Nat) (a t m k : Nat) : Mem := rowI h x (fun j => if 8 * t + k ≤ j ∧ j < 8 * t + m then nI (b (a + (j - 8 * t)) - 97) else mI h x j)
theorem nr_0 (h : Mem) (x : Nat) (b : Nat → Nat) (a t m : Nat) : nr h x b a t m m = h := by
  unfold nr
  have e : (fun j => if 8 * t + m ≤ j ∧ j < 8 * t + m then nI (b (a + (j - 8 * t)) - 97) else mI h x j) = mI h x := by
    funext j
    rw [if_neg (by omega)]
  rw [e, rowI_id]
theorem nr_s (h : Mem) (x : Nat) (b : Nat → Nat) (a t m k : Nat) (hk : k < m) : wI (nr h x b a t m (k + 1)) x (8 * t + k) (nI (b (a + k) - 97)) = nr h x b a t m k := by
  unfold nr
  rw [rowI_wI]
  congr 1
  funext j
  rcases Decidable.em (j = 8 * t + k) with e | e
  · subst e
    rw [pk_us, if_pos (by omega), show 8 * t + k - 8 * t = k by omega]
  · rw [pk_un e]
    rcases Decidable.em (8 * t + (k + 1) ≤ j ∧ j < 8 * t + m) with q | q
    · rw [if_pos q, if_pos (by omega)]
    · rw [if_neg q, if_neg (by omega)]
theorem nr_nt (h : Mem) (x : Nat) (b : Nat → Nat) (a t m : Nat) : nr h x b a t m 0 = nt h x b a t m := rfl
theorem nr_ne (h : Mem) (x : Nat) (b : Nat → Nat) (a t m k : Nat) {y : Nat} (hy : y ≠ x) : mI (nr h x b a t m k) y = mI h y := mI_row_ne _ _ hy
theorem nr_at (h : Mem) (x : Nat) (b : Nat → Nat) (a t m k j : Nat) : mI (nr h x b a t m k) x j = if 8 * t + k ≤ j ∧ j < 8 * t + m then nI (b (a + (j - 8 * t)) - 97) else mI h x j := by
  unfold nr
  rw [mI_row]
section
variable {h0 : Mem} {p : Nat} {b : Nat → Nat} {n : Nat} {ρ τ : RO} {i : Nat} {h : Mem}
theorem MS.notes (M : MS h0 p b n ρ τ i h) (ht : tk b n i = 1) (hk : ρ 0 1 < 6) : iter (fun (s : Int64 × Int32 × Mem) => b_X13_areNotes_23 s.2.2 55 (nI (ρ 0 1)) s.1 s.2.1) FU (lN (tW b n i), nI (tL b n i) - nI 1, h) = some (if ff (fun j => decide (103 < b (sp b n i + (tL b n i - 1 - j)))) (tL b n i) < tL b n i then .inl (nr h (p + 2) b (sp b n i) (ρ 0 1) (tL b n i) (tL b n i - ff (fun j => decide (103 < b (sp b n i + (tL b n i - 1 - j)))) (tL b n i))) else .inr (nr h (p + 2) b (sp b n i) (ρ 0 1) (tL b n i) (tL b n i - ff (fun j => decide (103 < b (sp b n i + (tL b n i - 1 - j)))) (tL b n i)))) := by
  have S := M.mp.sh
  have pp := M.pp
  have hw := tk_word ht
  have hn := M.mp.n1
  have hle := M.le
  have hta := ta_le b hle
  obtain ⟨m, em⟩ : ∃ m, tL b n i = m := ⟨_, rfl⟩
  have eW : tW b n i = wv b (sp b n i) m := by
    rw [← em]
    rfl
  have enl : nl b n (sp b n i) = m := em
  rw [em] at hw
  rw [em, eW]
  have key := iter_ff (b := fun (s : Int64 × Int32 × Mem) => b_X13_areNotes_23 s.2.2 55 (nI (ρ 0 1)) s.1 s.2.1) (fun j => (lN (wv b (sp b n i) (m - j)), nI (m - j) - nI 1, nr h (p + 2) b (sp b n i) (ρ 0 1) m (m - j))) (fun j => decide (103 < b (sp b n i + (m - 1 - j)))) m (r := if ff (fun j => decide (103 < b (sp b n i + (m - 1 - j)))) m < m then .inl (nr h (p + 2) b (sp b n i) (ρ 0 1) m (m - ff (fun j => decide (103 < b (sp b n i + (m - 1 - j)))) m)) else .inr (nr h (p + 2) b (sp b n i) (ρ 0 1) m (m - ff (fun j => decide (103 < b (sp b n i + (m - 1 - j)))) m))) (FU_lt (by omega))
  have st : ∀ k, SH (nr h (p + 2) b (sp b n i) (ρ 0 1) m k) := fun k => S
  have pkn : ∀ k, PK (nr h (p + 2) b (sp b n i) (ρ 0 1) m k) p := fun k => M.bo.pk
  have rp : ∀ k, mR (nr h (p + 2) b (sp b n i) (ρ 0 1) m k) 55 4 = p := fun k => M.rp
  have num : ∀ k, k < m → (lN (wv b (sp b n i) (k + 1)) &&& (31 : Int64)).toInt32 - nI 1 = nI (b (sp b n i + k) - 97) ∧ lN (wv b (sp b n i) (k + 1)) >>> ((5 : Int32).toInt64 &&& 63) = lN (wv b (sp b n i) k) ∧ b (sp b n i + k) < 256 ∧ 97 ≤ b (sp b n i + k) := fun k hk => by
    have hl := isL_iff.1 (nl_in b n (sp b n i) k (by omega))
    have hb := wv_lt b n (sp b n i) (k + 1) (by omega)
    have h8 : (32 : Nat) ^ (k + 1) ≤ 32 ^ 8 := Nat.pow_le_pow_right (by decide) (by omega)
    have ew : wv b (sp b n i) (k + 1) = wv b (sp b n i) k * 32 + (b (sp b n i + k) - 96) := rfl
    have e31 : (31 : Int64) = lN 31 := rfl
    refine ⟨?_, ?_, by omega, hl.1⟩
    · rw [e31, lN_and31 (by omega), lN_i, pk_sub (by omega)]
      exact congrArg nI (by omega)
    · rw [lN_shr5 (by omega)]
      exact congrArg lN (by omega)
  have e0 : m - 0 = m := Nat.sub_zero m
  simp only [e0, nr_0] at key
  refine key (fun j hj hp => ?_) ?_
  · obtain ⟨k, ek⟩ : ∃ k, m - j = k + 1 := ⟨m - j - 1, by omega⟩
    have ek2 : m - (j + 1) = k := by omega
    have ek3 : m - 1 - j = k := by omega
    obtain ⟨f1, f2, f3, f4⟩ := num k (by omega)
    have hp : ¬ 103 < b (sp b n i + (m - 1 - j)) := of_decide_eq_false hp
    rw [ek3] at hp
    show b_X13_areNotes_23 (nr h (p + 2) b (sp b n i) (ρ 0 1) m (m - j)) 55 (nI (ρ 0 1)) (lN (wv b (sp b n i) (m - j))) (nI (m - j) - nI 1) = some (.inl (lN (wv b (sp b n i) (m - (j + 1))), nI (m - (j + 1)) - nI 1, nr h (p + 2) b (sp b n i) (ρ 0 1) m (m - (j + 1))))
    rw [ek, ek2]
    have hs := nr_s h (p + 2) b (sp b n i) (ρ 0 1) m k (by omega)
    have hk1 : nI (k + 1) - nI 1 = nI k := by
      rw [pk_sub (by omega)]
      rfl
    have hk2 : nI k + -nI 1 = nI k - nI 1 := (Int32.sub_eq_add_neg ..).symm
    have f2' : lN (wv b (sp b n i) (k + 1)) >>> ((nI 5).toInt64 &&& 63) = lN (wv b (sp b n i) k) := f2
    unfold b_X13_areNotes_23
    simp (disch := omega) only [ob, nI_lit, hk1, nI_ltI, Nat.not_lt_zero, if_false, f1, f2', nI_leI, if_pos, gR_of (tS_55 (st _)), rp, gR_of (tP (pkn _)), rP_11 (pkn _), pk_mul, nI_add, sI_of (tP_2 (pkn _)), hs, hk2]
  · have hle := ff_le (fun j => decide (103 < b (sp b n i + (m - 1 - j)))) m
    rcases Nat.lt_or_ge (ff (fun j => decide (103 < b (sp b n i + (m - 1 - j)))) m) m with c | c
    · have hp : 103 < b (sp b n i + (m - 1 - ff (fun j => decide (103 < b (sp b n i + (m - 1 - j)))) m)) := of_decide_eq_true (ff_at (fun j => decide (103 < b (sp b n i + (m - 1 - j)))) m c)
      generalize ff (fun j => decide (103 < b (sp b n i + (m - 1 - j)))) m = j at c hp hle ⊢
      obtain ⟨k, ek⟩ : ∃ k, m - j = k + 1 := ⟨m - j - 1, by omega⟩
      have ek3 : m - 1 - j = k := by omega
      obtain ⟨f1, f2, f3, f4⟩ := num k (by omega)
      rw [ek3] at hp
      rw [if_pos c]
      show b_X13_areNotes_23 (nr h (p + 2) b (sp b n i) (ρ 0 1) m (m - j)) 55 (nI (ρ 0 1)) (lN (wv b (sp b n i) (m - j))) (nI (m - j) - nI 1) = _
      rw [ek]
      have hk1 : nI (k + 1) - nI 1 = nI k := by
        rw [pk_sub (by omega)]
        rfl
      unfold b_X13_areNotes_23
      simp (disch := omega) only [ob, nI_lit, hk1, nI_ltI, Nat.not_lt_zero, if_false, f1, nI_leI, if_neg]
    · generalize ff (fun j => decide (103 < b (sp b n i + (m - 1 - j)))) m = j at c hle ⊢
      rw [if_neg (by omega)]
      show b_X13_areNotes_23 (nr h (p + 2) b (sp b n i) (ρ 0 1) m (m - j)) 55 (nI (ρ 0 1)) (lN (wv b (sp b n i) (m - j))) (nI (m - j) - nI 1) = _
      rw [show m - j = 0 by omega]
      unfold b_X13_areNotes_23
      simp only [nI_lit, nI_0m1, n1_lt0, if_true]
end
