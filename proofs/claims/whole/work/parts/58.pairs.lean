/-! ===== pairs ===== -/
/-- a loop from m on, with an accumulator and what is known of it -/
theorem iter_foI2 {α σ ρ : Type} {b : σ → Option (σ ⊕ ρ)} (S : α → Nat → σ) (f : Nat → α → α) (a : α) (m n : Nat) (I : Nat → α → Prop) {r : ρ} (hm : m ≤ n) (hn : n < FU) (h0 : I 0 a) (hI : ∀ i x, i < n → I i x → I (i + 1) (f i x)) (hid : ∀ i x, i < m → f i x = x) (hs : ∀ i x, m ≤ i → i < n → I i x → b (S x i) = some (.inl (S (f i x) (i + 1)))) (he : b (S (fo f a n) n) = some (.inr r)) : iter b FU (S a m) = some r := by
  have key : ∀ i, i ≤ m → fo f a i = a := by
    intro i
    induction i with
    | zero => intro _; rfl
    | succ i ih =>
      intro hi
      show f i (fo f a i) = a
      rw [ih (by omega), hid i a (by omega)]
  have kI : ∀ i, i ≤ n → I i (fo f a i) := by
    intro i
    induction i with
    | zero => intro _; exact h0
    | succ i ih => intro hi; exact hI i _ (by omega) (ih (by omega))
  have := iter_from (fun i => S (fo f a i) i) m n (N := FU) hm (by omega) (fun i h1 h2 => hs i _ h1 h2 (kI i (by omega))) he
  simp only [key m (Nat.le_refl m)] at this
  exact this
theorem xor_bit (s k i : Nat) : (s ^^^ 2 ^ k).testBit i = (s.testBit i ^^ decide (k = i)) := by rw [Nat.testBit_xor, bit_pow]
theorem and_pow1 {n t : Nat} (h : n.testBit t = true) : n &&& 2 ^ t = 2 ^ t := by
  apply Nat.eq_of_testBit_eq
  intro i
  rw [Nat.testBit_and, bit_pow]
  rcases Decidable.em (t = i) with e | e
  · subst e; simp [h]
  · simp [e]
theorem lb_tab : ∀ s, s < 64 → s ≠ 0 → (lb s < 6 ∧ s.testBit (lb s) = true) ∧ (s ^^^ 2 ^ lb s) < s ∧ bcN (s ^^^ 2 ^ lb s) + 1 = bcN s := by decide +kernel
theorem xb_tab : ∀ s, s < 64 → ∀ u, u < 6 → s.testBit u = true → (s ^^^ 2 ^ u) < s ∧ bcN (s ^^^ 2 ^ u) + 1 = bcN s := by decide +kernel
theorem bc_tab : ∀ s, s < 64 → bcN s ≤ 6 ∧ (bcN s = 0 → s = 0) := by decide +kernel
theorem anot_bit {s t : Nat} (hs : s < 2 ^ 31) (ht : t < 31) (hb : s.testBit t = true) : nI s &&& (nI (2 ^ t) ^^^ -nI 1) = nI (s ^^^ 2 ^ t) := by
  have h1 : 2 ^ t ≤ 2 ^ 30 := two_le (by omega)
  rw [nI_anot hs (by omega), and_pow1 hb]
theorem h_low (h : Mem) {s : Nat} (hs : s < 64) (h0 : s ≠ 0) : f_X13_lowest h (nI s) = some (nI (lb s)) := by
  have h1 := (lb_tab s hs h0).1
  have q : iter (fun (x : Int32) => b_X13_lowest_2 h (nI s) x) FU (nI 0) = some (nI (lb s)) := by
    unfold lb
    refine iter_ff (fun i => nI i) (fun t => s.testBit t) 31 (FU_lt (by decide)) (fun i hi hp => ?_) ?_
    · unfold b_X13_lowest_2
      simp (disch := omega) only [ob, nI_lit, nI_add, pk_mul, nI_eq, nI_ltI, nI_leI, if_true, if_false, if_pos, if_neg, h_bit, hp, Bool.toNat_false]
    · have h2 : (s.testBit (ff (fun t => s.testBit t) 31)) = true := h1.2
      have h3 : ff (fun t => s.testBit t) 31 < 6 := h1.1
      generalize ff (fun t => s.testBit t) 31 = k at *
      show b_X13_lowest_2 h (nI s) (nI k) = _
      unfold b_X13_lowest_2
      simp (disch := omega) only [ob, nI_lit, nI_add, pk_mul, nI_eq, nI_ltI, nI_leI, if_true, if_false, if_pos, if_neg, h_bit, h2, Bool.toNat_true]
  unfold f_X13_lowest
  simp (disch := omega) only [ob, nI_lit, nI_add, pk_mul, nI_eq, nI_ltI, nI_leI, if_true, if_false, if_pos, if_neg, q]
theorem fo_inv {α : Type} {f : Nat → α → α} (I : α → Prop) {n : Nat} (hf : ∀ i x, i < n → I x → I (f i x)) {a : α} (h0 : I a) : I (fo f a n) := by
  have key : ∀ i, i ≤ n → I (fo f a i) := by
    intro i
    induction i with
    | zero => intro _; exact h0
    | succ i ih => intro hi; exact hf i _ (by omega) (ih (by omega))
  exact key n (Nat.le_refl n)
theorem pm_le (ρ : RO) : ∀ k s, pm ρ k s ≤ k
  | 0, _ => Nat.le_refl 0
  | k + 1, s => by
    unfold pm
    split
    · exact Nat.zero_le _
    · refine fo_inv (fun x => x ≤ k + 1) (fun i x _ hx => ?_) (Nat.le_trans (pm_le ρ k _) (Nat.le_succ k))
      split
      · have := pm_le ρ k (s ^^^ 2 ^ lb s ^^^ 2 ^ i)
        omega
      · exact hx
theorem pm_0 (ρ : RO) : ∀ k, pm ρ k 0 = 0
  | 0 => rfl
  | k + 1 => by
    unfold pm
    rw [if_pos rfl]
theorem pm_fuel {ρ : RO} (W : RW ρ) : ∀ k s, s < 64 → bcN s ≤ k → pm ρ (k + 1) s = pm ρ k s
  | 0, s, hs, hb => by
    have := (bc_tab s hs).2 (by omega)
    subst this
    rw [pm_0, pm_0]
  | k + 1, s, hs, hb => by
    rcases Decidable.em (s = 0) with e | e
    · subst e
      rw [pm_0, pm_0]
    · obtain ⟨⟨l1, l2⟩, l3, l4⟩ := lb_tab s hs e
      have e1 := pm_fuel W k (s ^^^ 2 ^ lb s) (by omega) (by omega)
      have ht := W.tu
      rw [pm, if_neg e]
      conv => rhs; rw [pm, if_neg e]
      rw [e1]
      refine fo_congr (fun u hu x => ?_)
      rcases Decidable.em (lb s < u ∧ (s ^^^ 2 ^ lb s).testBit u = true ∧ gt2 ρ (lb s) u = true) with c | c
      · rw [if_pos c, if_pos c]
        have h5 := xb_tab (s ^^^ 2 ^ lb s) (by omega) u (by omega) c.2.1
        rw [pm_fuel W k (s ^^^ 2 ^ lb s ^^^ 2 ^ u) (by omega) (by omega)]
      · rw [if_neg c, if_neg c]
theorem pm_6 {ρ : RO} (W : RW ρ) {s : Nat} (hs : s < 64) (h0 : s ≠ 0) : pm ρ 6 s = fo (fun u x => if lb s < u ∧ (s ^^^ 2 ^ lb s).testBit u = true ∧ gt2 ρ (lb s) u = true then max x (1 + pm ρ 6 (s ^^^ 2 ^ lb s ^^^ 2 ^ u)) else x) (pm ρ 6 (s ^^^ 2 ^ lb s)) (ρ 0 1) := by
  obtain ⟨⟨l1, l2⟩, l3, l4⟩ := lb_tab s hs h0
  have h6 := (bc_tab s hs).1
  have ht := W.tu
  have e1 := pm_fuel W 5 (s ^^^ 2 ^ lb s) (by omega) (by omega)
  rw [pm, if_neg h0, e1]
  refine fo_congr (fun u hu x => ?_)
  rcases Decidable.em (lb s < u ∧ (s ^^^ 2 ^ lb s).testBit u = true ∧ gt2 ρ (lb s) u = true) with c | c
  · rw [if_pos c, if_pos c]
    have h5 := xb_tab (s ^^^ 2 ^ lb s) (by omega) u (by omega) c.2.1
    rw [pm_fuel W 5 (s ^^^ 2 ^ lb s ^^^ 2 ^ u) (by omega) (by omega)]
  · rw [if_neg c, if_neg c]
section
variable {h : Mem} {p : Nat} {ρ ν : RO}
theorem MT.r65 (M : MT h p ρ) (hp : 69 ≤ p) (F : Nat → Int32) : MT (rowI h 65 F) p ρ := M.fq (l := [65]) (FQ.row _ _ (by decide)) (fun k hk hq => by
  simp only [List.mem_cons, List.not_mem_nil, or_false] at hq
  omega)
theorem m_pairs (W : RW ρ) (M : MT h p ρ) (hp : 69 ≤ p) (e0 : mI h 65 0 = nI 0) : ∃ F, f_X13_pairsAll h 55 = some (rowI h 65 F) ∧ ∀ s, s < 2 ^ ρ 0 1 → F s = nI (pm ρ 6 s) := by
  have htu := W.tu
  have hT : 2 ^ ρ 0 1 ≤ 2 ^ 6 := two_le htu
  have hT1 : 1 ≤ 2 ^ ρ 0 1 := Nat.one_le_two_pow
  have S := M.sh
  have hsh : nI 1 <<< (nI (ρ 0 1) &&& nI 31) = nI (2 ^ ρ 0 1) := nI_sh1 (by omega)
  have key : OK (iter (fun (s : Int32 × Mem) => b_X13_pairsAll_2 s.2 55 s.1) FU (nI (0 + 1), rowI h 65 (mI h 65))) (fun h' => ∃ F, h' = rowI h 65 F ∧ ∀ s, s < 2 ^ ρ 0 1 → F s = nI (pm ρ 6 s)) := by
    refine iter_ok (fun i s => ∃ F, s = (nI (i + 1), rowI h 65 F) ∧ ∀ s, s < i + 1 → F s = nI (pm ρ 6 s)) (2 ^ ρ 0 1 - 1) (FU_lt (by omega)) (fun i s hi hI => ?_) ⟨mI h 65, rfl, fun s hs => ?_⟩
    · obtain ⟨F, rfl, hF⟩ := hI
      have MF := fun F => M.r65 hp F
      show OK (b_X13_pairsAll_2 (rowI h 65 F) 55 (nI (i + 1))) _
      unfold b_X13_pairsAll_2
      rcases Nat.lt_or_ge (i + 1) (2 ^ ρ 0 1) with hc | hc
      · obtain ⟨⟨l1, l2⟩, l3, l4⟩ := lb_tab (i + 1) (by omega) (by omega)
        have hsl : nI 1 <<< (nI (lb (i + 1)) &&& nI 31) = nI (2 ^ lb (i + 1)) := nI_sh1 (by omega)
        have han := anot_bit (s := i + 1) (t := lb (i + 1)) (by omega) (by omega) l2
        have hlT : lb (i + 1) < ρ 0 1 := by
          rcases Nat.lt_or_ge (lb (i + 1)) (ρ 0 1) with c | c
          · exact c
          · have := Nat.testBit_lt_two_pow (Nat.lt_of_lt_of_le hc (two_le c))
            rw [this] at l2
            cases l2
        generalize hR : (i + 1) ^^^ 2 ^ lb (i + 1) = R at *
        have l5 : iter (fun (s : Int32 × Mem) => b_X13_pairsAll_45 s.2 55 (nI (i + 1)) (nI (lb (i + 1))) (nI R) s.1) FU (nI (lb (i + 1) + 1), rowI h 65 (upd F (i + 1) (nI (pm ρ 6 R)))) = some (rowI h 65 (upd F (i + 1) (nI (pm ρ 6 (i + 1))))) := by
          rw [pm_6 W (s := i + 1) (by omega) (by omega), hR]
          refine (iter_foI2 (fun x u => (nI u, rowI h 65 (upd F (i + 1) (nI x)))) (fun u x => if lb (i + 1) < u ∧ R.testBit u = true ∧ gt2 ρ (lb (i + 1)) u = true then max x (1 + pm ρ 6 (R ^^^ 2 ^ u)) else x) (pm ρ 6 R) (lb (i + 1) + 1) (ρ 0 1) (fun _ x => x ≤ 7) (by omega) (FU_lt (by omega)) (by have := pm_le ρ 6 R; omega) (fun u x hu hx => ?_) (fun u x hu => if_neg (by omega)) (fun u x h1 h2 hx => ?_) ?_)
          · split
            · have := pm_le ρ 6 (R ^^^ 2 ^ u)
              omega
            · exact hx
          · have M1 := MF (upd F (i + 1) (nI x))
            show b_X13_pairsAll_45 (rowI h 65 (upd F (i + 1) (nI x))) 55 (nI (i + 1)) (nI (lb (i + 1))) (nI R) (nI u) = _
            have hsu : nI 1 <<< (nI u &&& nI 31) = nI (2 ^ u) := nI_sh1 (by omega)
            unfold b_X13_pairsAll_45 f_X13_pairsAll_115
            simp (disch := omega) only [ob, nI_lit, nI_add, pk_mul, nI_eq, nI_ltI, nI_leI, if_true, if_false, if_pos, if_neg, gR_of (tS_55 M1.sh), M1.pp, gI_of (tP M1.rd.pk), M1.rd.sc, h_bit, m_gt2 W M1 hlT h2]
            rcases hb : R.testBit u with _ | _
            · simp (disch := omega) only [ob, nI_lit, nI_add, pk_mul, nI_eq, nI_ltI, nI_leI, if_true, if_false, if_pos, if_neg, Bool.toNat_false]
              simp
            · rcases hg : gt2 ρ (lb (i + 1)) u with _ | _
              · simp (disch := omega) only [ob, nI_lit, nI_add, pk_mul, nI_eq, nI_ltI, nI_leI, if_true, if_false, if_pos, if_neg, Bool.toNat_true, Bool.toNat_false]
                simp
              · have h5 := xb_tab R (by omega) u (by omega) hb
                have han2 := anot_bit (s := R) (t := u) (by omega) (by omega) hb
                have h6 := pm_le ρ 6 (R ^^^ 2 ^ u)
                have eF : upd F (i + 1) (nI x) (R ^^^ 2 ^ u) = nI (pm ρ 6 (R ^^^ 2 ^ u)) := by
                  rw [pk_un (by omega)]
                  exact hF _ (by omega)
                simp (disch := omega) only [ob, nI_lit, nI_add, pk_mul, nI_eq, nI_ltI, nI_leI, if_true, if_false, if_pos, if_neg, Bool.toNat_true, hsu, han2, rS_55_32 M1.sh, aI_of (tS_65 M1.sh), mI_row, eF, pk_us, sI_of (tS_65 M1.sh), rowI_wI]
                have eu : ∀ v : Int32, upd (upd F (i + 1) (nI x)) (i + 1) v = upd F (i + 1) v := fun v => by
                  funext j
                  unfold upd
                  split <;> rfl
                rw [eu]
                rcases Nat.lt_or_ge x (1 + pm ρ 6 (R ^^^ 2 ^ u)) with c | c
                · rw [if_neg (by omega), Nat.max_eq_right (by omega)]
                  simp [show lb (i + 1) < u by omega]
                · rw [if_pos c, Nat.max_eq_left c]
                  simp
          · have M1 := MF (upd F (i + 1) (nI (fo (fun u x => if lb (i + 1) < u ∧ R.testBit u = true ∧ gt2 ρ (lb (i + 1)) u = true then max x (1 + pm ρ 6 (R ^^^ 2 ^ u)) else x) (pm ρ 6 R) (ρ 0 1))))
            show b_X13_pairsAll_45 (rowI h 65 (upd F (i + 1) (nI (fo (fun u x => if lb (i + 1) < u ∧ R.testBit u = true ∧ gt2 ρ (lb (i + 1)) u = true then max x (1 + pm ρ 6 (R ^^^ 2 ^ u)) else x) (pm ρ 6 R) (ρ 0 1))))) 55 (nI (i + 1)) (nI (lb (i + 1))) (nI R) (nI (ρ 0 1)) = _
            unfold b_X13_pairsAll_45
            simp (disch := omega) only [ob, nI_lit, nI_add, pk_mul, nI_eq, nI_ltI, nI_leI, if_true, if_false, if_pos, if_neg, gR_of (tS_55 M1.sh), M1.pp, gI_of (tP M1.rd.pk), M1.rd.sc]
        have M1 := MF F
        have eR : F R = nI (pm ρ 6 R) := hF R (by omega)
        simp (disch := omega) only [ob, nI_lit, nI_add, pk_mul, nI_eq, nI_ltI, nI_leI, if_true, if_false, if_pos, if_neg, gR_of (tS_55 M1.sh), M1.pp, gI_of (tP M1.rd.pk), M1.rd.sc, hsh, h_low _ (show i + 1 < 64 by omega) (show i + 1 ≠ 0 by omega), hsl, han, rS_55_32 M1.sh, aI_of (tS_65 M1.sh), mI_row, eR, sI_of (tS_65 M1.sh), rowI_wI, l5]
        refine ⟨_, rfl, by omega, _, rfl, fun s hs => ?_⟩
        rcases Decidable.em (s = i + 1) with e | e
        · rw [e, pk_us]
        · rw [pk_un e]
          exact hF s (by omega)
      · have M1 := MF F
        simp (disch := omega) only [ob, nI_lit, nI_add, pk_mul, nI_eq, nI_ltI, nI_leI, if_true, if_false, if_pos, if_neg, gR_of (tS_55 M1.sh), M1.pp, gI_of (tP M1.rd.pk), M1.rd.sc, hsh]
        exact ⟨_, rfl, F, rfl, fun s hs => hF s (by omega)⟩
    · have : s = 0 := by omega
      subst this
      rw [e0, pm_0]
  obtain ⟨h', q1, F, rfl, hF⟩ := key
  rw [rowI_id] at q1
  refine ⟨F, ?_, hF⟩
  have q2 : iter (fun (s : Int32 × Mem) => b_X13_pairsAll_2 s.2 55 s.1) FU (1, h) = some (rowI h 65 F) := q1
  unfold f_X13_pairsAll
  rw [ck_of (tS_55 S), ob, q2]
  rfl
end
