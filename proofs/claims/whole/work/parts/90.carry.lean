/-! ===== the stranger's rows are carried along the roads ===== -/
section
variable {h : Mem} {r : Nat} {ρ : RO}
/-- what a road brings to q -/
def cg (ρ : RO) (t : Nat) (v : Nat → Nat) (q j : Nat) : Nat := if ρ 6 j ≠ 0 ∧ ρ 7 j = t then (if ρ 3 j = q then v (ρ 4 j) else 0) + (if ρ 4 j = q then v (ρ 3 j) else 0) else 0
theorem CT.rx (C : CT h r ρ) (hr : r = 2 ∨ r = 21) {x : Nat} (hx : x = 52 ∨ x = 53) (F : Nat → Int32) : CT (rowI h x F) r ρ := C.fq (l := [x]) (FQ.row _ _ (List.mem_singleton.2 rfl)) (fun k hk hq => by
  rw [List.mem_singleton] at hq
  omega)
theorem c_carry (W : RW ρ) (C : CT h r ρ) (hr : r = 2 ∨ r = 21) {x : Nat} (hx : x = 52 ∨ x = 53) {t k1 k2 : Nat} (ht : t < ρ 0 1) (h1 : k1 ≤ 5) (h2 : k2 ≤ 5) (hk : k1 ≠ k2) {F : Nat → Int32} {v : Nat → Nat} (hF : ∀ p, p < ρ 0 2 → F (k1 * 7 + p) = nI (v p)) (hZ : ∀ p, p < ρ 0 2 → F (k2 * 7 + p) = nI 0) : OK (f_X7_carry (rowI h x F) r (nI t) x (nI k1) (nI k2)) (fun h' => ∃ F', h' = rowI h x F' ∧ (∀ q, q < ρ 0 2 → F' (k2 * 7 + q) = nI (su (cg ρ t v q) (ρ 0 3))) ∧ ∀ i, (i < k2 * 7 ∨ k2 * 7 + 7 ≤ i) → F' i = F i) := by
  have hro := W.ro
  have hpl := W.pl
  have htu := W.tu
  have tx : ∀ {h' : Mem}, SH h' → mT h' x = (100, 42) := fun {h'} S => by
    rcases hx with e | e
    · rw [e]; exact tS_52 S
    · rw [e]; exact tS_53 S
  have q : OK (iter (fun (s : Int32 × Mem) => b_X7_carry_16 s.2 r (nI t) x (nI (k1 * 7)) (nI (k2 * 7)) s.1) FU (nI 0, rowI h x F)) (fun h' => ∃ F', h' = rowI h x F' ∧ (∀ q, q < ρ 0 2 → F' (k2 * 7 + q) = nI (su (cg ρ t v q) (ρ 0 3))) ∧ ∀ i, (i < k2 * 7 ∨ k2 * 7 + 7 ≤ i) → F' i = F i) := by
    refine iter_ok (fun j s => ∃ F', s = (nI j, rowI h x F') ∧ (∀ q, q < ρ 0 2 → F' (k2 * 7 + q) = nI (su (cg ρ t v q) j)) ∧ ∀ i, (i < k2 * 7 ∨ k2 * 7 + 7 ≤ i) → F' i = F i) (ρ 0 3) (FU_lt (by omega)) (fun j s hj hI => ?_) ⟨F, rfl, fun q hq => hZ q hq, fun i _ => rfl⟩
    obtain ⟨G, rfl, hG, hO⟩ := hI
    show OK (b_X7_carry_16 (rowI h x G) r (nI t) x (nI (k1 * 7)) (nI (k2 * 7)) (nI j)) _
    have C2 := C.rx hr hx G
    rcases Nat.lt_or_ge j (ρ 0 3) with c | c
    · have g1 := W.e1 j c
      have g2 := W.e2 j c
      have gn := W.ne j c
      rcases Decidable.em (ρ 6 j ≠ 0 ∧ ρ 7 j = t) with d | d
      · obtain ⟨d1, d2⟩ := d
        have gt' := W.gt j c d1
        have s1 : G (k1 * 7 + ρ 3 j) = nI (v (ρ 3 j)) := by rw [hO _ (by omega), hF _ g1]
        have s2 : G (k1 * 7 + ρ 4 j) = nI (v (ρ 4 j)) := by rw [hO _ (by omega), hF _ g2]
        have t1 := hG (ρ 3 j) g1
        have t2 := hG (ρ 4 j) g2
        have C3 := C.rx hr hx (upd G (k2 * 7 + ρ 4 j) (nI (su (cg ρ t v (ρ 4 j)) j + v (ρ 3 j))))
        have w1 : upd G (k2 * 7 + ρ 4 j) (nI (su (cg ρ t v (ρ 4 j)) j + v (ρ 3 j))) (k2 * 7 + ρ 3 j) = nI (su (cg ρ t v (ρ 3 j)) j) := by rw [pk_un (by omega), t1]
        have w2 : upd G (k2 * 7 + ρ 4 j) (nI (su (cg ρ t v (ρ 4 j)) j + v (ρ 3 j))) (k1 * 7 + ρ 4 j) = nI (v (ρ 4 j)) := by rw [pk_un (by omega), s2]
        have e : b_X7_carry_16 (rowI h x G) r (nI t) x (nI (k1 * 7)) (nI (k2 * 7)) (nI j) = some (.inl (nI (j + 1), rowI h x (upd (upd G (k2 * 7 + ρ 4 j) (nI (su (cg ρ t v (ρ 4 j)) j + v (ρ 3 j)))) (k2 * 7 + ρ 3 j) (nI (su (cg ρ t v (ρ 3 j)) j + v (ρ 4 j)))))) := by
          unfold b_X7_carry_16 f_X7_carry_95
          simp (disch := omega) only [ob, nI_lit, nI_add, pk_mul, nI_eq, nI_ltI, nI_leI, if_true, if_false, if_pos, if_neg, gI_of (tR C2.rd.rd), C2.rd.sc, c_gate W C2.rd c, decide_eq_true d1, Bool.toNat_true, gR_of (tR C2.rd.rd), rR_14 C2.rd.rd, aI_of (tR_6 C2.rd.rd), C2.rd.gt j c d1, d2, c_e1 W C2.rd c, c_e2 W C2.rd c, aI_of (tx C2.sh), mI_row, s1, t2, sI_of (tx C2.sh), rowI_wI, c_e1 W C3.rd c, c_e2 W C3.rd c, aI_of (tx C3.sh), w1, w2, sI_of (tx C3.sh)]
        rw [e]
        refine ⟨_, rfl, c, _, rfl, fun q hq => ?_, fun i hi => ?_⟩
        · rw [su_s]
          have ec : cg ρ t v q j = (if ρ 3 j = q then v (ρ 4 j) else 0) + (if ρ 4 j = q then v (ρ 3 j) else 0) := if_pos ⟨d1, d2⟩
          rw [ec]
          rcases Decidable.em (q = ρ 3 j) with z | z
          · rw [z, pk_us, if_pos rfl, if_neg (by omega)]
            rfl
          · rw [pk_un (by omega), if_neg (by omega)]
            rcases Decidable.em (q = ρ 4 j) with y | y
            · rw [y, pk_us, if_pos rfl, Nat.zero_add]
            · rw [pk_un (by omega), if_neg (by omega), hG q hq]
              rfl
        · rw [pk_un (by omega), pk_un (by omega)]
          exact hO i hi
      · have e : b_X7_carry_16 (rowI h x G) r (nI t) x (nI (k1 * 7)) (nI (k2 * 7)) (nI j) = some (.inl (nI (j + 1), rowI h x G)) := by
          unfold b_X7_carry_16 f_X7_carry_95
          rcases Decidable.em (ρ 6 j = 0) with z | z
          · simp (disch := omega) only [ob, nI_lit, nI_add, pk_mul, nI_eq, nI_ltI, nI_leI, if_true, if_false, if_pos, if_neg, gI_of (tR C2.rd.rd), C2.rd.sc, c_gate W C2.rd c, z, ne_eq, not_true, decide_false, Bool.toNat_false]
          · have gt' := W.gt j c z
            have z2 : ¬ ρ 7 j = t := fun w => d ⟨z, w⟩
            simp (disch := omega) only [ob, nI_lit, nI_add, pk_mul, nI_eq, nI_ltI, nI_leI, if_true, if_false, if_pos, if_neg, gI_of (tR C2.rd.rd), C2.rd.sc, c_gate W C2.rd c, decide_eq_true (show ρ 6 j ≠ 0 from z), Bool.toNat_true, gR_of (tR C2.rd.rd), rR_14 C2.rd.rd, aI_of (tR_6 C2.rd.rd), C2.rd.gt j c z]
        rw [e]
        refine ⟨_, rfl, c, G, rfl, fun q hq => ?_, hO⟩
        rw [su_s, hG q hq]
        have ec : cg ρ t v q j = 0 := if_neg d
        rw [ec]
        rfl
    · have e : b_X7_carry_16 (rowI h x G) r (nI t) x (nI (k1 * 7)) (nI (k2 * 7)) (nI j) = some (.inr (rowI h x G)) := by
        unfold b_X7_carry_16
        simp (disch := omega) only [ob, nI_lit, nI_add, pk_mul, nI_eq, nI_ltI, nI_leI, if_true, if_false, if_pos, if_neg, gI_of (tR C2.rd.rd), C2.rd.sc]
      rw [e]
      have : j = ρ 0 3 := by omega
      subst this
      exact ⟨_, rfl, G, rfl, hG, hO⟩
  obtain ⟨h', e, k⟩ := q
  unfold f_X7_carry
  simp (disch := omega) only [ob, nI_lit, nI_add, pk_mul, nI_eq, nI_ltI, nI_leI, if_true, if_false, if_pos, if_neg, e]
  exact ⟨h', rfl, k⟩
theorem r13_sym (W : RW ρ) {p q : Nat} (hp : p < ρ 0 2) (hq : q < ρ 0 2) : ρ 13 (7 * p + q) = ρ 13 (7 * q + p) := by
  have key : ∀ p q, p < ρ 0 2 → q < ρ 0 2 → ρ 13 (7 * p + q) ≠ 0 → ρ 13 (7 * q + p) = ρ 13 (7 * p + q) := by
    intro p q hp hq h0
    rcases W.bt p q hp hq with e | ⟨j, hj, e, ⟨a, b⟩ | ⟨a, b⟩⟩
    · exact absurd e h0
    · rw [e, ← a, ← b]
      exact W.b2 j hj
    · rw [e, ← a, ← b]
      exact W.b1 j hj
  rcases Decidable.em (ρ 13 (7 * p + q) = 0) with e | e
  · rcases Decidable.em (ρ 13 (7 * q + p) = 0) with e2 | e2
    · rw [e, e2]
    · have := key q p hq hp e2
      omega
  · exact (key p q hp hq e).symm
theorem hs_sum (W : RW ρ) {q k : Nat} (hq : q < ρ 0 2) (v : Nat → Nat) : su (fun p => if hs ρ q p k = true then v p else 0) (ρ 0 2) = su (cg ρ (ρ 12 k) v q) (ρ 0 3) := by
  have e1 : su (fun p => if hs ρ q p k = true then v p else 0) (ρ 0 2) = su (fun p => if ρ 13 (7 * q + p) = 0 then 0 else (fun j p => if ρ 6 j ≠ 0 ∧ ρ 7 j = ρ 12 k then v p else 0) (ρ 13 (7 * q + p) - 1) p) (ρ 0 2) := by
    refine su_congr (fun p hp => ?_)
    unfold hs qk qt
    rcases Decidable.em (ρ 13 (7 * q + p) = 0) with e | e
    · simp [e]
    · simp only [e, if_false, Bool.and_eq_true, decide_eq_true_eq]
  refine e1.trans ((su_road W (fun j p => if ρ 6 j ≠ 0 ∧ ρ 7 j = ρ 12 k then v p else 0) hq).trans ?_)
  refine su_congr (fun j hj => ?_)
  unfold cg
  rcases Decidable.em (ρ 6 j ≠ 0 ∧ ρ 7 j = ρ 12 k) with d | d
  · simp only [if_pos d]
  · simp only [if_neg d]
    split <;> split <;> rfl
theorem hs_sym (W : RW ρ) {p q : Nat} (k : Nat) (hp : p < ρ 0 2) (hq : q < ρ 0 2) : hs ρ p q k = hs ρ q p k := by
  unfold hs qk qt
  rw [r13_sym W hp hq]
end
