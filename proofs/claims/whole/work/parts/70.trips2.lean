/-! ===== trip, tripInns, farReach ===== -/
section
variable {h : Mem} {a : AB}
theorem tbI_pos {b : Nat} (h : b ≠ 0) : tbI b = nI (b - 1) := if_neg h
/-- the table of the class -/
def tpK (a : AB) (x : Nat) (A B D : Nat → Int32) : Prop := ∀ s, s < 2 ^ a 0 0 5 → A s = nI (vs (a 0) (vx a x) s) ∧ B s = nI (co (a 0) s) ∧ D s = nI (plT (a 0) (vx a x) (rb (a 1)) (a 1 0 x) (a 1 1 x) s)
theorem c_better (W : IW a) (C : IC h a) {x : Nat} {A B D : Nat → Int32} (hK : tpK a x A B D) {s b : Nat} (hs : s < 2 ^ a 0 0 5) (hb : b < 2 ^ a 0 0 5) : f_X8_isBetter (tpM h A B D) 39 (nI s) (nI b) = some (nI (btr (a 0) s b).toNat) := by
  have hin := W.rw.inn
  have hT : 2 ^ a 0 0 5 ≤ 2 ^ 6 := two_le hin
  obtain ⟨-, C1⟩ := C.tpc W A B D
  have S1 := C1.ct.sh
  have k1 := (hK s hs).2.1
  have k2 := (hK b hb).2.1
  have c1 := co_le W.rw s
  have c2 := co_le W.rw b
  have b1 := bcN_le s
  have b2 := bcN_le b
  have hb1 : ∀ {β : Type} (K : Int32 → Option β), (f_J6_bitCount_0f7a4 (tpM h A B D) (nI s)).bind K = K (nI (bcN s)) := fun K => h_bcb _ (by omega) K
  have hb2 : ∀ {β : Type} (K : Int32 → Option β), (f_J6_bitCount_0f7a4 (tpM h A B D) (nI b)).bind K = K (nI (bcN b)) := fun K => h_bcb _ (by omega) K
  unfold f_X8_isBetter btr
  simp (disch := omega) only [obx, nI_lit, nI_add, pk_mul, nI_eq, nI_ltI, nI_leI, if_true, if_false, if_pos, if_neg, ck_of (tS_39 S1), gR_of (tS_39 S1), rS_39_1 S1, aI_of (tS_41 S1), tpM_41, k1, k2, hb1, hb2]
  rcases Decidable.em (co (a 0) s = co (a 0) b) with e | e
  · rw [if_pos e]
    rcases Nat.lt_or_ge (bcN s) (bcN b) with c | c
    · rw [if_neg (by omega)]
      simp [e, c]
    · rw [if_pos c]
      simp [e, show ¬ bcN s < bcN b by omega]
  · rw [if_neg e]
    rcases Nat.lt_or_ge (co (a 0) s) (co (a 0) b) with c | c
    · rw [if_neg (by omega)]
      simp [c]
    · rw [if_pos c]
      simp [e, show ¬ co (a 0) s < co (a 0) b by omega]
theorem c_best (W : IW a) (C : IC h a) {x p : Nat} (hp : p < a 0 0 2) {A B D : Nat → Int32} (hK : tpK a x A B D) : f_X8_bestSet (tpM h A B D) 39 (a 2 0 0) (nI p) = some (tbI (tbN (a 0) (vx a x) (rb (a 1)) (a 1 0 x) (a 1 1 x) p (2 ^ a 0 0 5))) := by
  have hin := W.rw.inn
  have hpl := W.rw.pl
  have hT : 2 ^ a 0 0 5 ≤ 2 ^ 6 := two_le hin
  obtain ⟨-, C1⟩ := C.tpc W A B D
  have S1 := C1.ct.sh
  have hshT : nI 1 <<< (nI (a 0 0 5) &&& nI 31) = nI (2 ^ a 0 0 5) := nI_sh1 (by omega)
  have q : iter (fun (s : Int32 × Int32) => b_X8_bestSet_6 (tpM h A B D) 39 (a 2 0 0) (nI p) s.1 s.2) FU (-nI 2, nI 0) = some (tbI (tbN (a 0) (vx a x) (rb (a 1)) (a 1 0 x) (a 1 1 x) p (2 ^ a 0 0 5))) := by
    refine iter_for (fun s => (tbI (tbN (a 0) (vx a x) (rb (a 1)) (a 1 0 x) (a 1 1 x) p s), nI s)) (2 ^ a 0 0 5) (FU_lt (by omega)) (fun s hs => ?_) ?_
    · have k3 := (hK s hs).2.2
      have hpb := plT_bit (a 0) (vx a x) (rb (a 1)) (a 1 0 x) (a 1 1 x) s p
      have hpt := plT_lt W.rw (vx a x) (rb (a 1)) (a 1 0 x) (a 1 1 x) s
      have hle := tbN_le (a 0) (vx a x) (rb (a 1)) (a 1 0 x) (a 1 1 x) p s
      have es : tbN (a 0) (vx a x) (rb (a 1)) (a 1 0 x) (a 1 1 x) p (s + 1) = tfN (a 0) (vx a x) (rb (a 1)) (a 1 0 x) (a 1 1 x) p s (tbN (a 0) (vx a x) (rb (a 1)) (a 1 0 x) (a 1 1 x) p s) := rfl
      rw [es]
      show b_X8_bestSet_6 (tpM h A B D) 39 (a 2 0 0) (nI p) (tbI (tbN (a 0) (vx a x) (rb (a 1)) (a 1 0 x) (a 1 1 x) p s)) (nI s) = _
      generalize tbN (a 0) (vx a x) (rb (a 1)) (a 1 0 x) (a 1 1 x) p s = b at *
      unfold b_X8_bestSet_6 f_X8_bestSet_46 f_X8_bestSet_49 tfN
      simp (disch := omega) only [obx, nI_lit, nI_add, pk_mul, nI_eq, nI_ltI, nI_leI, if_true, if_false, if_pos, if_neg, gI_of (tR C1.ct.rd.rd), C1.ct.rd.sc, hshT, gR_of (tS_39 S1), rS_39_2 S1, aI_of (tS_42 S1), tpM_42, k3, nI_bit, hpb]
      have e1 : tbI (s + 1) = nI s := by
        rw [tbI_pos (by omega)]
        rfl
      rcases hok : okT (a 0) (vx a x) (rb (a 1)) (a 1 0 x) (a 1 1 x) p s with _ | _
      · simp
      · rcases Decidable.em (b = 0) with e0 | e0
        · subst e0
          have e2 : tbI 0 < nI 0 := by decide
          simp only [e2, if_true, decide_true, Bool.true_or, Bool.and_self, e1]
        · have e2 : ¬ tbI b < nI 0 := by
            rw [tbI_pos e0]
            exact nI_pos (by omega)
          have cb := c_better W C hK hs (show b - 1 < 2 ^ a 0 0 5 by omega)
          simp only [e2, if_true, if_false, e0, decide_false, Bool.false_or, Bool.true_and]
          rw [tbI_pos e0, cb, obx]
          cases btr (a 0) s (b - 1)
          · simp [tbI_pos e0]
          · simp [e1, show ¬ nI 1 = nI 0 by decide, show ¬ nI 1 = (0 : Int32) by decide]
    · show b_X8_bestSet_6 (tpM h A B D) 39 (a 2 0 0) (nI p) _ (nI (2 ^ a 0 0 5)) = _
      unfold b_X8_bestSet_6
      simp (disch := omega) only [obx, nI_lit, nI_add, pk_mul, nI_eq, nI_ltI, nI_leI, if_true, if_false, if_pos, if_neg, gI_of (tR C1.ct.rd.rd), C1.ct.rd.sc, hshT]
  unfold f_X8_bestSet
  simp (disch := omega) only [obx, nI_lit, nI_add, pk_mul, nI_eq, nI_ltI, nI_leI, if_true, if_false, if_pos, if_neg, ck_of (tS_39 S1), q]
def paT (ρ : RO) (V0 : Nat) (ra : Bool) (f c n : Nat) : Nat := fo (fun s m => m ||| plT ρ V0 ra f c s) 0 n
theorem paT_lt {ρ : RO} (W : RW ρ) (V0 : Nat) (ra : Bool) (f c : Nat) (n : Nat) : paT ρ V0 ra f c n < 2 ^ 7 := fo_inv (fun m => m < 2 ^ 7) (fun s m _ hm => Nat.or_lt_two_pow hm (plT_lt W V0 ra f c s)) (by decide)
theorem paT_bit (ρ : RO) (V0 : Nat) (ra : Bool) (f c p : Nat) : ∀ n, (paT ρ V0 ra f c n).testBit p = ex (okT ρ V0 ra f c p) n
  | 0 => by
    show (0 : Nat).testBit p = _
    rw [ex_no (fun i hi => by omega)]
    simp
  | n + 1 => by
    show (paT ρ V0 ra f c n ||| plT ρ V0 ra f c n).testBit p = _
    rw [Nat.testBit_or, paT_bit ρ V0 ra f c p n, plT_bit]
    rcases hx : (ex (okT ρ V0 ra f c p) n || okT ρ V0 ra f c p n) with _ | _
    · rw [Bool.or_eq_false_iff] at hx
      symm
      refine ex_no (fun j hj => ?_)
      rcases Decidable.em (j = n) with e | e
      · rw [e]; exact hx.2
      · cases hp : okT ρ V0 ra f c p j
        · rfl
        · have := ex_iff.mpr ⟨j, (show j < n by omega), hp⟩
          rw [hx.1] at this
          cases this
    · symm
      rw [Bool.or_eq_true] at hx
      rcases hx with q | q
      · obtain ⟨j, hj, hp⟩ := ex_iff.mp q
        exact ex_iff.mpr ⟨j, by omega, hp⟩
      · exact ex_iff.mpr ⟨n, by omega, q⟩
theorem c_all2 (W : IW a) (C : IC h a) {x : Nat} {A B D : Nat → Int32} (hK : tpK a x A B D) : f_X8_placesOfAll (tpM h A B D) 39 (a 2 0 0) = some (nI (paT (a 0) (vx a x) (rb (a 1)) (a 1 0 x) (a 1 1 x) (2 ^ a 0 0 5))) := by
  have hin := W.rw.inn
  have hT : 2 ^ a 0 0 5 ≤ 2 ^ 6 := two_le hin
  obtain ⟨-, C1⟩ := C.tpc W A B D
  have S1 := C1.ct.sh
  have hshT : nI 1 <<< (nI (a 0 0 5) &&& nI 31) = nI (2 ^ a 0 0 5) := nI_sh1 (by omega)
  have q : iter (fun (s : Int32 × Int32) => b_X8_placesOfAll_4 (tpM h A B D) 39 (a 2 0 0) s.1 s.2) FU (nI 0, nI 0) = some (nI (paT (a 0) (vx a x) (rb (a 1)) (a 1 0 x) (a 1 1 x) (2 ^ a 0 0 5))) := by
    refine iter_for (fun s => (nI (paT (a 0) (vx a x) (rb (a 1)) (a 1 0 x) (a 1 1 x) s), nI s)) (2 ^ a 0 0 5) (FU_lt (by omega)) (fun s hs => ?_) ?_
    · have k3 := (hK s hs).2.2
      have h1 := paT_lt W.rw (vx a x) (rb (a 1)) (a 1 0 x) (a 1 1 x) s
      have h2 := plT_lt W.rw (vx a x) (rb (a 1)) (a 1 0 x) (a 1 1 x) s
      show b_X8_placesOfAll_4 (tpM h A B D) 39 (a 2 0 0) (nI (paT (a 0) (vx a x) (rb (a 1)) (a 1 0 x) (a 1 1 x) s)) (nI s) = _
      unfold b_X8_placesOfAll_4
      simp (disch := omega) only [obx, nI_lit, nI_add, pk_mul, nI_eq, nI_ltI, nI_leI, if_true, if_false, if_pos, if_neg, gI_of (tR C1.ct.rd.rd), C1.ct.rd.sc, hshT, gR_of (tS_39 S1), rS_39_2 S1, aI_of (tS_42 S1), tpM_42, k3, nI_or]
      rfl
    · show b_X8_placesOfAll_4 (tpM h A B D) 39 (a 2 0 0) _ (nI (2 ^ a 0 0 5)) = _
      unfold b_X8_placesOfAll_4
      simp (disch := omega) only [obx, nI_lit, nI_add, pk_mul, nI_eq, nI_ltI, nI_leI, if_true, if_false, if_pos, if_neg, gI_of (tR C1.ct.rd.rd), C1.ct.rd.sc, hshT]
  unfold f_X8_placesOfAll
  simp (disch := omega) only [obx, nI_lit, nI_add, pk_mul, nI_eq, nI_ltI, nI_leI, if_true, if_false, if_pos, if_neg, ck_of (tS_39 S1), q]
theorem m_trip (W : IW a) (M : IM h a) {x p : Nat} (hx : x < a 0 0 6) (hp : p < a 0 0 2) {F0 g0 : Nat → Int32} (hg0 : gOK h g0) : OK (f_X13_tripOf (bM h F0 g0) 55 (nI x) (nI p)) (fun q => q.1 = tbI (tbN (a 0) (vx a x) (rb (a 1)) (a 1 0 x) (a 1 1 x) p (2 ^ a 0 0 5)) ∧ ∃ F g, q.2 = bM h F g ∧ gOK h g) := by
  have hin := W.rw.inn
  have hpe := W.rw.pe
  have hT : 2 ^ a 0 0 5 ≤ 2 ^ 6 := two_le hin
  have hco := W.nf.co x hx
  have hf := W.nf.pl x hx
  have e0 : 0 < a 0 0 2 := by omega
  have hshT : nI 1 <<< (nI (a 0 0 5) &&& nI 31) = nI (2 ^ a 0 0 5) := nI_sh1 (by omega)
  have key : OK (iter (fun (s : Int32 × Int32 × Mem) => b_X13_tripOf_6 s.2.2 55 (nI x) (nI p) s.1 s.2.1) FU (-nI 2, nI 0, bM h F0 g0)) (fun q => q.1 = tbI (tbN (a 0) (vx a x) (rb (a 1)) (a 1 0 x) (a 1 1 x) p (2 ^ a 0 0 5)) ∧ ∃ F g, q.2 = bM h F g ∧ gOK h g) := by
    refine iter_ok (fun s q => ∃ F g, q = (tbI (tbN (a 0) (vx a x) (rb (a 1)) (a 1 0 x) (a 1 1 x) p s), nI s, bM h F g) ∧ gOK h g) (2 ^ a 0 0 5) (FU_lt (by omega)) (fun s q hs hI => ?_) ⟨F0, g0, rfl, hg0⟩
    obtain ⟨F, g, rfl, hg⟩ := hI
    have hle := tbN_le (a 0) (vx a x) (rb (a 1)) (a 1 0 x) (a 1 1 x) p s
    have es : tbN (a 0) (vx a x) (rb (a 1)) (a 1 0 x) (a 1 1 x) p (s + 1) = tfN (a 0) (vx a x) (rb (a 1)) (a 1 0 x) (a 1 1 x) p s (tbN (a 0) (vx a x) (rb (a 1)) (a 1 0 x) (a 1 1 x) p s) := rfl
    have hend : s = 2 ^ a 0 0 5 → tbN (a 0) (vx a x) (rb (a 1)) (a 1 0 x) (a 1 1 x) p s = tbN (a 0) (vx a x) (rb (a 1)) (a 1 0 x) (a 1 1 x) p (2 ^ a 0 0 5) := fun e => by rw [e]
    rw [es]
    generalize tbN (a 0) (vx a x) (rb (a 1)) (a 1 0 x) (a 1 1 x) p s = b at *
    show OK (b_X13_tripOf_6 (bM h F g) 55 (nI x) (nI p) (tbI b) (nI s)) _
    have M1 : IM (bM h F g) a := M.fm (bM_fm hg)
    have P1 := M1.told e0
    have S1 := M1.sh
    have e1 : tbI (s + 1) = nI s := by
      rw [tbI_pos (by omega)]
      rfl
    unfold b_X13_tripOf_6
    rcases Nat.lt_or_ge s (2 ^ a 0 0 5) with c | c
    · have n1 := M1.nw.at x 1 (by omega) (by decide)
      simp only [Nat.reduceMul] at n1
      have mc := m_cost W M1 e0 (show s < 64 by omega)
      have cs := co_le W.rw s
      have keep : okT (a 0) (vx a x) (rb (a 1)) (a 1 0 x) (a 1 1 x) p s = false ∨ (b ≠ 0 ∧ btr (a 0) s (b - 1) = false) → ∀ F g, gOK h g → OK (f_X13_tripOf_113 (bM h F g) 55 (nI x) (nI p) (tbI b) (nI s)) (fun q => match q with | .inl s' => s < 2 ^ a 0 0 5 ∧ ∃ F g, s' = (tbI (tfN (a 0) (vx a x) (rb (a 1)) (a 1 0 x) (a 1 1 x) p s b), nI (s + 1), bM h F g) ∧ gOK h g | .inr r => r.1 = tbI (tbN (a 0) (vx a x) (rb (a 1)) (a 1 0 x) (a 1 1 x) p (2 ^ a 0 0 5)) ∧ ∃ F g, r.2 = bM h F g ∧ gOK h g) := by
        intro hk F g hg
        have e2 : tfN (a 0) (vx a x) (rb (a 1)) (a 1 0 x) (a 1 1 x) p s b = b := by
          unfold tfN
          rcases hk with q | ⟨q1, q2⟩
          · simp [q]
          · simp [q1, q2]
        unfold f_X13_tripOf_113
        rw [nI_1]
        exact ⟨_, rfl, c, F, g, by rw [e2], hg⟩
      have go82 : co (a 0) s ≤ a 1 1 x → (b = 0 ∨ btr (a 0) s (b - 1) = true) → OK (f_X13_tripOf_82 (bM h F g) 55 (nI x) (nI p) (tbI b) (nI s)) (fun q => match q with | .inl s' => s < 2 ^ a 0 0 5 ∧ ∃ F g, s' = (tbI (tfN (a 0) (vx a x) (rb (a 1)) (a 1 0 x) (a 1 1 x) p s b), nI (s + 1), bM h F g) ∧ gOK h g | .inr r => r.1 = tbI (tbN (a 0) (vx a x) (rb (a 1)) (a 1 0 x) (a 1 1 x) p (2 ^ a 0 0 5)) ∧ ∃ F g, r.2 = bM h F g ∧ gOK h g) := by
        intro hc hb
        obtain ⟨h', e2, F', g', B, rfl, hg', g22, hBl, hBs, hF'⟩ := m_buys W M hx c hg (F0 := F)
        have M2 : IM (bM h F' g') a := M.fm (bM_fm hg')
        have S2 := M2.sh
        have Mg : IM (rowI h 55 g') a := M.fm (gM_fm hg')
        have mf : f_X13_farTo (bM h F' g') 55 (nI x) (nI p) = _ := m_farTo W Mg hx hF' hp
        have hdl := ds_le (V := vs (a 0) (vx a x) B) (ra := rb (a 1)) W.rw hf hp
        unfold f_X13_tripOf_82
        simp (disch := omega) only [obx, nI_lit, nI_add, pk_mul, nI_eq, nI_ltI, nI_leI, if_true, if_false, if_pos, if_neg, e2, gI_of (tS_55 S2), bM_55, g22, mf]
        rcases Decidable.em (B = s) with e3 | e3
        · have hch := hBs.mp e3
          subst e3
          have hok : okT (a 0) (vx a x) (rb (a 1)) (a 1 0 x) (a 1 1 x) p B = decide (ds (a 0) (vs (a 0) (vx a x) B) (rb (a 1)) (a 1 0 x) p < 99999) := by
            unfold okT rch
            rw [decide_eq_true hc, hch, rs_bit, decide_eq_true hp]
            simp
          rw [if_pos rfl]
          rcases Nat.lt_or_ge (ds (a 0) (vs (a 0) (vx a x) B) (rb (a 1)) (a 1 0 x) p) 99999 with c2 | c2
          · rw [if_neg (by omega)]
            have e4 : tfN (a 0) (vx a x) (rb (a 1)) (a 1 0 x) (a 1 1 x) p B b = B + 1 := by
              unfold tfN
              rw [hok, decide_eq_true c2]
              rcases hb with q | q
              · simp [q]
              · simp [q]
            unfold f_X13_tripOf_113
            rw [nI_1]
            exact ⟨_, rfl, c, F', g', by rw [e4, e1], hg'⟩
          · rw [if_pos c2]
            exact keep (Or.inl (by rw [hok]; exact decide_eq_false (by omega))) F' g' hg'
        · rw [if_neg e3]
          refine keep (Or.inl ?_) F' g' hg'
          have : ch (a 0) (vx a x) (rb (a 1)) (a 1 0 x) s = false := by
            cases hq : ch (a 0) (vx a x) (rb (a 1)) (a 1 0 x) s
            · rfl
            · exact absurd (hBs.mpr hq) e3
          unfold okT
          rw [this]
          simp
      simp (disch := omega) only [obx, nI_lit, nI_add, pk_mul, nI_eq, nI_ltI, nI_leI, if_true, if_false, if_pos, if_neg, gR_of (tS_55 S1), P1.pp, gI_of (tP P1.rd.pk), P1.rd.sc, hshT, mc, rS_55_16 S1, aI_of (tS_57 S1), n1]
      rcases Nat.lt_or_ge (a 1 1 x) (co (a 0) s) with c1 | c1
      · rw [if_pos c1]
        exact OK.mono (keep (Or.inl (by unfold okT; rw [decide_eq_false (by omega)]; rfl)) F g hg) (fun q hq => by cases q <;> exact hq)
      · rw [if_neg (by omega)]
        rcases Decidable.em (b = 0) with eb | eb
        · have e2 : tbI b = -nI 2 := by
            rw [eb]
            rfl
          simp only [e2, if_true]
          rw [e2] at go82
          exact OK.mono (go82 c1 (Or.inl eb)) (fun q hq => by cases q <;> exact hq)
        · have e2 : ¬ tbI b = -nI 2 := by
            rw [tbI_pos eb, nI_nem (by omega) (by decide) (by decide)]
            exact id
          simp only [e2, if_false]
          have mcb := m_cost W M1 e0 (show b - 1 < 64 by omega)
          have cb := co_le W.rw (b - 1)
          have b1 := bcN_le s
          have b2 := bcN_le (b - 1)
          rw [tbI_pos eb] at keep go82 ⊢
          have hb1 : ∀ {β : Type} (K : Int32 → Option β), (f_X13_bits (bM h F g) (nI s)).bind K = K (nI (bcN s)) := fun K => h_bitsb _ (by omega) K
          have hb2 : ∀ {β : Type} (K : Int32 → Option β), (f_X13_bits (bM h F g) (nI (b - 1))).bind K = K (nI (bcN (b - 1))) := fun K => h_bitsb _ (by omega) K
          simp (disch := omega) only [obx, nI_lit, nI_add, pk_mul, nI_eq, nI_ltI, nI_leI, if_true, if_false, if_pos, if_neg, mcb, hb1, hb2]
          have hbt : btr (a 0) s (b - 1) = (decide (co (a 0) s < co (a 0) (b - 1)) || (decide (co (a 0) s = co (a 0) (b - 1)) && decide (bcN s < bcN (b - 1)))) := rfl
          rcases Nat.lt_or_ge (co (a 0) (b - 1)) (co (a 0) s) with c2 | c2
          · rw [if_pos c2]
            exact OK.mono (keep (Or.inr ⟨eb, by rw [hbt, decide_eq_false (by omega), decide_eq_false (by omega)]; rfl⟩) F g hg) (fun q hq => by cases q <;> exact hq)
          · rw [if_neg (by omega)]
            rcases Decidable.em (co (a 0) s = co (a 0) (b - 1)) with c3 | c3
            · rw [if_pos c3]
              rcases Nat.lt_or_ge (bcN s) (bcN (b - 1)) with c4 | c4
              · rw [if_pos c4]
                exact OK.mono (go82 c1 (Or.inr (by rw [hbt, decide_eq_true c3, decide_eq_true c4]; simp))) (fun q hq => by cases q <;> exact hq)
              · rw [if_neg (by omega)]
                exact OK.mono (keep (Or.inr ⟨eb, by rw [hbt, decide_eq_false (show ¬ co (a 0) s < co (a 0) (b - 1) by omega), decide_eq_false (show ¬ bcN s < bcN (b - 1) by omega)]; simp⟩) F g hg) (fun q hq => by cases q <;> exact hq)
            · rw [if_neg c3]
              exact OK.mono (go82 c1 (Or.inr (by rw [hbt, decide_eq_true (by omega)]; rfl))) (fun q hq => by cases q <;> exact hq)
    · have hs9 : s = 2 ^ a 0 0 5 := by omega
      simp (disch := omega) only [obx, nI_lit, nI_add, pk_mul, nI_eq, nI_ltI, nI_leI, if_true, if_false, if_pos, if_neg, gR_of (tS_55 S1), P1.pp, gI_of (tP P1.rd.pk), P1.rd.sc, hshT]
      exact ⟨_, rfl, by rw [hend hs9], F, g, rfl, hg⟩
  obtain ⟨q, e2, e3, e4⟩ := key
  have S0 : SH (bM h F0 g0) := M.sh
  refine ⟨q, ?_, e3, e4⟩
  unfold f_X13_tripOf
  simp (disch := omega) only [obx, nI_lit, nI_add, pk_mul, nI_eq, nI_ltI, nI_leI, if_true, if_false, if_pos, if_neg, ck_of (tS_55 S0), e2]
end
theorem gOK.rf (h : Mem) : gOK h (mI h 55) := fun _ _ _ _ => rfl
theorem qq_trip {a : AB} (W : IW a) (x y : Int32) : ∃ v z, z ≤ 6 ∧ z ≠ 4 ∧ QC a (fun h => f_X11_trip h 1 x y) v z ∧ QM a (fun h => f_X13_trip h 55 x y) v z := by
  have hpe := W.rw.pe
  have hpl := W.rw.pl
  have hin := W.rw.inn
  have hT : 2 ^ a 0 0 5 ≤ 2 ^ 6 := two_le hin
  rcases hb : (ix (a 0 0 6) x && ix (a 0 0 2) y) with _ | _
  · refine ⟨-nI 1, 1, by decide, by decide, fun h C => ?_, fun h M0 => ?_⟩
    · unfold f_X11_trip f_X11_trip_16
      simp only [ob, nI_lit, nI_add, pk_mul, nI_eq, nI_ltI, nI_leI, if_true, if_false, if_pos, if_neg, ck_of (tS_1 C.ct.sh), gR_of (tS_1 C.ct.sh), gI_of (tS_1 C.ct.sh), pI_of (tS_1 C.ct.sh), C.ct.rp, rS_1_2 C.ct.sh, rS_1_3 C.ct.sh, rS_1_4 C.ct.sh, rS_1_5 C.ct.sh, rS_1_6 C.ct.sh, rS_1_7 C.ct.sh, rS_1_8 C.ct.sh, rS_1_9 C.ct.sh, ck_of (tR C.ct.rd.rd), gR_of (tR C.ct.rd.rd), gI_of (tR C.ct.rd.rd), rR_9 C.ct.rd.rd, rR_10 C.ct.rd.rd, rR_11 C.ct.rd.rd, rR_12 C.ct.rd.rd, rR_13 C.ct.rd.rd, rR_14 C.ct.rd.rd, rR_15 C.ct.rd.rd, rR_16 C.ct.rd.rd, rR_17 C.ct.rd.rd, rR_18 C.ct.rd.rd, rR_19 C.ct.rd.rd, aI_of (tR_1 C.ct.rd.rd), aI_of (tR_2 C.ct.rd.rd), aI_of (tR_3 C.ct.rd.rd), aI_of (tR_4 C.ct.rd.rd), aI_of (tR_5 C.ct.rd.rd), aI_of (tR_6 C.ct.rd.rd), aI_of (tR_7 C.ct.rd.rd), aI_of (tR_8 C.ct.rd.rd), aI_of (tR_9 C.ct.rd.rd), C.ct.rd.sc, C.ct.rd.len, C.ct.rd.e1, C.ct.rd.e2, C.ct.rd.min, C.ct.rd.kd, C.ct.rd.gt, C.ct.rd.bt, C.ct.rd.ip, C.ct.rd.hd, c_refuse C.ct.sh, c_answer C.ct.sh, c_isPerson W C, c_isPlace W C, nI_b0]
      rcases g1 : ix (a 0 0 6) x with _ | _ <;> rcases g2 : ix (a 0 0 2) y with _ | _ <;> rw [g1, g2] at hb <;> first | (simp at hb; done) | (simp only [if_true, if_false, Bool.true_eq_false, Bool.false_eq_true]; exact qc_end C _ _)
    · unfold f_X13_trip f_X13_trip_21
      simp only [ck_of (tS_55 M0.sh), pI_of (tS_55 M0.sh), ob, nI_lit]; obtain ⟨h1, eh, M, F1⟩ : ∃ h1, wI h 55 0 (nI 0) = h1 ∧ IM h1 a ∧ FM h h1 := ⟨_, rfl, M0.th _, FM.w55 h _ (by decide)⟩; rw [eh]
      simp only [ob, nI_lit, nI_add, pk_mul, nI_eq, nI_ltI, nI_leI, if_true, if_false, if_pos, if_neg, ck_of (tS_55 M.sh), gR_of (tS_55 M.sh), gI_of (tS_55 M.sh), pI_of (tS_55 M.sh), rS_55_16 M.sh, rS_55_17 M.sh, rS_55_18 M.sh, rS_55_21 M.sh, rS_55_25 M.sh, rS_55_26 M.sh, rS_55_27 M.sh, rS_55_28 M.sh, rS_55_32 M.sh, rS_55_33 M.sh, rS_55_34 M.sh, m_refused M.sh, m_good M.sh, m_isPerson W M, m_isPlace W M, nI_b0]
      rcases g1 : ix (a 0 0 6) x with _ | _ <;> rcases g2 : ix (a 0 0 2) y with _ | _ <;> rw [g1, g2] at hb <;> first | (simp at hb; done) | (simp only [if_true, if_false, Bool.true_eq_false, Bool.false_eq_true]; exact qm_end F1 _ _)
  · rw [Bool.and_eq_true] at hb
    obtain ⟨hx, hy⟩ := hb
    obtain ⟨k, hk, rfl⟩ := ix_t hx (by omega)
    obtain ⟨p, hp, rfl⟩ := ix_t hy (by omega)
    have hle := tbN_le (a 0) (vx a k) (rb (a 1)) (a 1 0 k) (a 1 1 k) p (2 ^ a 0 0 5)
    have e0 : 0 < a 0 0 2 := by omega
    generalize hbq : tbN (a 0) (vx a k) (rb (a 1)) (a 1 0 k) (a 1 1 k) p (2 ^ a 0 0 5) = b at *
    refine ⟨if b = 0 then -nI 2 else nI (co (a 0) (b - 1)), 0, by decide, by decide, fun h C => ?_, fun h M0 => ?_⟩
    · obtain ⟨h', e1, A, B, D, rfl, hK⟩ := c_plan W C hk
      obtain ⟨F2, C2⟩ := C.tpc W A B D
      have S2 := C2.ct.sh
      have cb := c_best W C hp hK
      rw [hbq] at cb
      unfold f_X11_trip f_X11_trip_69 f_X8_coinsOf
      rcases Decidable.em (b = 0) with eb | eb
      · have e2 : ¬ nI 0 ≤ tbI b := by
          rw [eb]
          decide
        rw [if_pos eb]
        simp (disch := omega) only [obx, nI_lit, nI_add, pk_mul, nI_eq, nI_ltI, nI_leI, if_true, if_false, if_pos, if_neg, ck_of (tS_1 C.ct.sh), gR_of (tS_1 C.ct.sh), gI_of (tS_1 C.ct.sh), pI_of (tS_1 C.ct.sh), C.ct.rp, rS_1_2 C.ct.sh, rS_1_3 C.ct.sh, rS_1_4 C.ct.sh, rS_1_5 C.ct.sh, rS_1_6 C.ct.sh, rS_1_7 C.ct.sh, rS_1_8 C.ct.sh, rS_1_9 C.ct.sh, ck_of (tR C.ct.rd.rd), gR_of (tR C.ct.rd.rd), gI_of (tR C.ct.rd.rd), rR_9 C.ct.rd.rd, rR_10 C.ct.rd.rd, rR_11 C.ct.rd.rd, rR_12 C.ct.rd.rd, rR_13 C.ct.rd.rd, rR_14 C.ct.rd.rd, rR_15 C.ct.rd.rd, rR_16 C.ct.rd.rd, rR_17 C.ct.rd.rd, rR_18 C.ct.rd.rd, rR_19 C.ct.rd.rd, aI_of (tR_1 C.ct.rd.rd), aI_of (tR_2 C.ct.rd.rd), aI_of (tR_3 C.ct.rd.rd), aI_of (tR_4 C.ct.rd.rd), aI_of (tR_5 C.ct.rd.rd), aI_of (tR_6 C.ct.rd.rd), aI_of (tR_7 C.ct.rd.rd), aI_of (tR_8 C.ct.rd.rd), aI_of (tR_9 C.ct.rd.rd), C.ct.rd.sc, C.ct.rd.len, C.ct.rd.e1, C.ct.rd.e2, C.ct.rd.min, C.ct.rd.kd, C.ct.rd.gt, C.ct.rd.bt, C.ct.rd.ip, C.ct.rd.hd, c_refuse C.ct.sh, c_answer C.ct.sh, c_isPerson W C, hx, c_isPlace W C, hy, Bool.toNat_true, e1, gR_of (tS_1 S2), rS_1_5 S2, C2.ct.rp, cb, e2, c_answer S2]
        exact qc_end2 F2 C2.so _ _
      · rw [tbI_pos eb] at cb
        rw [if_neg eb]
        have kb := (hK (b - 1) (by omega)).2.1
        simp (disch := omega) only [obx, nI_lit, nI_add, pk_mul, nI_eq, nI_ltI, nI_leI, if_true, if_false, if_pos, if_neg, ck_of (tS_1 C.ct.sh), gR_of (tS_1 C.ct.sh), gI_of (tS_1 C.ct.sh), pI_of (tS_1 C.ct.sh), C.ct.rp, rS_1_2 C.ct.sh, rS_1_3 C.ct.sh, rS_1_4 C.ct.sh, rS_1_5 C.ct.sh, rS_1_6 C.ct.sh, rS_1_7 C.ct.sh, rS_1_8 C.ct.sh, rS_1_9 C.ct.sh, ck_of (tR C.ct.rd.rd), gR_of (tR C.ct.rd.rd), gI_of (tR C.ct.rd.rd), rR_9 C.ct.rd.rd, rR_10 C.ct.rd.rd, rR_11 C.ct.rd.rd, rR_12 C.ct.rd.rd, rR_13 C.ct.rd.rd, rR_14 C.ct.rd.rd, rR_15 C.ct.rd.rd, rR_16 C.ct.rd.rd, rR_17 C.ct.rd.rd, rR_18 C.ct.rd.rd, rR_19 C.ct.rd.rd, aI_of (tR_1 C.ct.rd.rd), aI_of (tR_2 C.ct.rd.rd), aI_of (tR_3 C.ct.rd.rd), aI_of (tR_4 C.ct.rd.rd), aI_of (tR_5 C.ct.rd.rd), aI_of (tR_6 C.ct.rd.rd), aI_of (tR_7 C.ct.rd.rd), aI_of (tR_8 C.ct.rd.rd), aI_of (tR_9 C.ct.rd.rd), C.ct.rd.sc, C.ct.rd.len, C.ct.rd.e1, C.ct.rd.e2, C.ct.rd.min, C.ct.rd.kd, C.ct.rd.gt, C.ct.rd.bt, C.ct.rd.ip, C.ct.rd.hd, c_refuse C.ct.sh, c_answer C.ct.sh, c_isPerson W C, hx, c_isPlace W C, hy, Bool.toNat_true, e1, gR_of (tS_1 S2), rS_1_5 S2, C2.ct.rp, cb, ck_of (tS_39 S2), gR_of (tS_39 S2), rS_39_1 S2, aI_of (tS_41 S2), tpM_41, kb, c_answer S2]
        exact qc_end2 F2 C2.so _ _
    · unfold f_X13_trip f_X13_trip_51
      simp only [ck_of (tS_55 M0.sh), pI_of (tS_55 M0.sh), ob, nI_lit]; obtain ⟨h1, eh, M, F1⟩ : ∃ h1, wI h 55 0 (nI 0) = h1 ∧ IM h1 a ∧ FM h h1 := ⟨_, rfl, M0.th _, FM.w55 h _ (by decide)⟩; rw [eh]
      obtain ⟨q, e1, e2, F, g, e3, hg⟩ := m_trip W M hk hp (gOK.rf h1) (F0 := mI h1 60)
      rw [bM_id] at e1
      rw [hbq] at e2
      have F2 := bM_fm (F := F) hg
      have M2 := M.fm F2
      have S2 := M2.sh
      rcases Decidable.em (b = 0) with eb | eb
      · have e4 : q.1 = -nI 2 := by
          rw [e2, eb]
          rfl
        rw [if_pos eb]
        simp (disch := omega) only [obx, nI_lit, nI_add, pk_mul, nI_eq, nI_ltI, nI_leI, if_true, if_false, if_pos, if_neg, ck_of (tS_55 M.sh), gR_of (tS_55 M.sh), gI_of (tS_55 M.sh), pI_of (tS_55 M.sh), rS_55_16 M.sh, rS_55_17 M.sh, rS_55_18 M.sh, rS_55_21 M.sh, rS_55_25 M.sh, rS_55_26 M.sh, rS_55_27 M.sh, rS_55_28 M.sh, rS_55_32 M.sh, rS_55_33 M.sh, rS_55_34 M.sh, m_refused M.sh, m_good M.sh, m_isPerson W M, hx, m_isPlace W M, hy, Bool.toNat_true, e1, e3, e4, m_good S2]
        exact qm_end (F1.tr F2) _ _
      · have e4 : q.1 = nI (b - 1) := by
          rw [e2, tbI_pos eb]
        rw [if_neg eb]
        simp (disch := omega) only [obx, nI_lit, nI_add, pk_mul, nI_eq, nI_ltI, nI_leI, if_true, if_false, if_pos, if_neg, ck_of (tS_55 M.sh), gR_of (tS_55 M.sh), gI_of (tS_55 M.sh), pI_of (tS_55 M.sh), rS_55_16 M.sh, rS_55_17 M.sh, rS_55_18 M.sh, rS_55_21 M.sh, rS_55_25 M.sh, rS_55_26 M.sh, rS_55_27 M.sh, rS_55_28 M.sh, rS_55_32 M.sh, rS_55_33 M.sh, rS_55_34 M.sh, m_refused M.sh, m_good M.sh, m_isPerson W M, hx, m_isPlace W M, hy, Bool.toNat_true, e1, e3, e4, nI_nem, m_cost W M2 e0 (show b - 1 < 64 by omega), m_good S2]
        exact qm_end (F1.tr F2) _ _
theorem st_19 : StepOK INV lc_19 := by
  intro sc L i h hL hi hI
  unfold lc_19
  simp only [show (1 : Int32) = nI 1 from rfl, show (2 : Int32) = nI 2 from rfl, show (3 : Int32) = nI 3 from rfl, show (4 : Int32) = nI 4 from rfl, show (5 : Int32) = nI 5 from rfl, nI_add, sc_at hL (show i + 1 < L by omega), sc_at hL (show i + 2 < L by omega), sc_at hL (show i + 3 < L by omega), sc_at hL (show i + 4 < L by omega), sc_at hL (show i + 5 < L by omega), ob]
  exact q2 (f := fun h => f_X11_trip h 1 (sc (i + 1)) (sc (i + 2))) (g := fun h => f_X13_trip h 55 (sc (i + 1)) (sc (i + 2))) hI (fun a W => qq_trip W _ _)
theorem qq_tripInns {a : AB} (W : IW a) (x y : Int32) : ∃ v z, z ≤ 6 ∧ z ≠ 4 ∧ QC a (fun h => f_X11_tripInns h 1 x y) v z ∧ QM a (fun h => f_X13_tripInns h 55 x y) v z := by
  have hpe := W.rw.pe
  have hpl := W.rw.pl
  rcases hb : (ix (a 0 0 6) x && ix (a 0 0 2) y) with _ | _
  · refine ⟨-nI 1, 1, by decide, by decide, fun h C => ?_, fun h M0 => ?_⟩
    · unfold f_X11_tripInns f_X11_tripInns_16
      simp only [ob, nI_lit, nI_add, pk_mul, nI_eq, nI_ltI, nI_leI, if_true, if_false, if_pos, if_neg, ck_of (tS_1 C.ct.sh), gR_of (tS_1 C.ct.sh), gI_of (tS_1 C.ct.sh), pI_of (tS_1 C.ct.sh), C.ct.rp, rS_1_2 C.ct.sh, rS_1_3 C.ct.sh, rS_1_4 C.ct.sh, rS_1_5 C.ct.sh, rS_1_6 C.ct.sh, rS_1_7 C.ct.sh, rS_1_8 C.ct.sh, rS_1_9 C.ct.sh, ck_of (tR C.ct.rd.rd), gR_of (tR C.ct.rd.rd), gI_of (tR C.ct.rd.rd), rR_9 C.ct.rd.rd, rR_10 C.ct.rd.rd, rR_11 C.ct.rd.rd, rR_12 C.ct.rd.rd, rR_13 C.ct.rd.rd, rR_14 C.ct.rd.rd, rR_15 C.ct.rd.rd, rR_16 C.ct.rd.rd, rR_17 C.ct.rd.rd, rR_18 C.ct.rd.rd, rR_19 C.ct.rd.rd, aI_of (tR_1 C.ct.rd.rd), aI_of (tR_2 C.ct.rd.rd), aI_of (tR_3 C.ct.rd.rd), aI_of (tR_4 C.ct.rd.rd), aI_of (tR_5 C.ct.rd.rd), aI_of (tR_6 C.ct.rd.rd), aI_of (tR_7 C.ct.rd.rd), aI_of (tR_8 C.ct.rd.rd), aI_of (tR_9 C.ct.rd.rd), C.ct.rd.sc, C.ct.rd.len, C.ct.rd.e1, C.ct.rd.e2, C.ct.rd.min, C.ct.rd.kd, C.ct.rd.gt, C.ct.rd.bt, C.ct.rd.ip, C.ct.rd.hd, c_refuse C.ct.sh, c_answer C.ct.sh, c_isPerson W C, c_isPlace W C, nI_b0]
      rcases g1 : ix (a 0 0 6) x with _ | _ <;> rcases g2 : ix (a 0 0 2) y with _ | _ <;> rw [g1, g2] at hb <;> first | (simp at hb; done) | (simp only [if_true, if_false, Bool.true_eq_false, Bool.false_eq_true]; exact qc_end C _ _)
    · unfold f_X13_tripInns f_X13_tripInns_34
      simp only [ck_of (tS_55 M0.sh), pI_of (tS_55 M0.sh), ob, nI_lit]; obtain ⟨h1, eh, M, F1⟩ : ∃ h1, wI h 55 0 (nI 0) = h1 ∧ IM h1 a ∧ FM h h1 := ⟨_, rfl, M0.th _, FM.w55 h _ (by decide)⟩; rw [eh]
      simp only [ob, nI_lit, nI_add, pk_mul, nI_eq, nI_ltI, nI_leI, if_true, if_false, if_pos, if_neg, ck_of (tS_55 M.sh), gR_of (tS_55 M.sh), gI_of (tS_55 M.sh), pI_of (tS_55 M.sh), rS_55_16 M.sh, rS_55_17 M.sh, rS_55_18 M.sh, rS_55_21 M.sh, rS_55_25 M.sh, rS_55_26 M.sh, rS_55_27 M.sh, rS_55_28 M.sh, rS_55_32 M.sh, rS_55_33 M.sh, rS_55_34 M.sh, m_refused M.sh, m_good M.sh, m_isPerson W M, m_isPlace W M, nI_b0]
      rcases g1 : ix (a 0 0 6) x with _ | _ <;> rcases g2 : ix (a 0 0 2) y with _ | _ <;> rw [g1, g2] at hb <;> first | (simp at hb; done) | (simp only [if_true, if_false, Bool.true_eq_false, Bool.false_eq_true]; exact qm_end F1 _ _)
  · rw [Bool.and_eq_true] at hb
    obtain ⟨hx, hy⟩ := hb
    obtain ⟨k, hk, rfl⟩ := ix_t hx (by omega)
    obtain ⟨p, hp, rfl⟩ := ix_t hy (by omega)
    refine ⟨tbI (tbN (a 0) (vx a k) (rb (a 1)) (a 1 0 k) (a 1 1 k) p (2 ^ a 0 0 5)), 0, by decide, by decide, fun h C => ?_, fun h M0 => ?_⟩
    · obtain ⟨h', e1, A, B, D, rfl, hK⟩ := c_plan W C hk
      obtain ⟨F2, C2⟩ := C.tpc W A B D
      have S2 := C2.ct.sh
      have cb := c_best W C hp hK
      unfold f_X11_tripInns
      simp (disch := omega) only [obx, nI_lit, nI_add, pk_mul, nI_eq, nI_ltI, nI_leI, if_true, if_false, if_pos, if_neg, ck_of (tS_1 C.ct.sh), gR_of (tS_1 C.ct.sh), gI_of (tS_1 C.ct.sh), pI_of (tS_1 C.ct.sh), C.ct.rp, rS_1_2 C.ct.sh, rS_1_3 C.ct.sh, rS_1_4 C.ct.sh, rS_1_5 C.ct.sh, rS_1_6 C.ct.sh, rS_1_7 C.ct.sh, rS_1_8 C.ct.sh, rS_1_9 C.ct.sh, ck_of (tR C.ct.rd.rd), gR_of (tR C.ct.rd.rd), gI_of (tR C.ct.rd.rd), rR_9 C.ct.rd.rd, rR_10 C.ct.rd.rd, rR_11 C.ct.rd.rd, rR_12 C.ct.rd.rd, rR_13 C.ct.rd.rd, rR_14 C.ct.rd.rd, rR_15 C.ct.rd.rd, rR_16 C.ct.rd.rd, rR_17 C.ct.rd.rd, rR_18 C.ct.rd.rd, rR_19 C.ct.rd.rd, aI_of (tR_1 C.ct.rd.rd), aI_of (tR_2 C.ct.rd.rd), aI_of (tR_3 C.ct.rd.rd), aI_of (tR_4 C.ct.rd.rd), aI_of (tR_5 C.ct.rd.rd), aI_of (tR_6 C.ct.rd.rd), aI_of (tR_7 C.ct.rd.rd), aI_of (tR_8 C.ct.rd.rd), aI_of (tR_9 C.ct.rd.rd), C.ct.rd.sc, C.ct.rd.len, C.ct.rd.e1, C.ct.rd.e2, C.ct.rd.min, C.ct.rd.kd, C.ct.rd.gt, C.ct.rd.bt, C.ct.rd.ip, C.ct.rd.hd, c_refuse C.ct.sh, c_answer C.ct.sh, c_isPerson W C, hx, c_isPlace W C, hy, Bool.toNat_true, e1, gR_of (tS_1 S2), rS_1_5 S2, C2.ct.rp, cb, c_answer S2]
      exact qc_end2 F2 C2.so _ _
    · unfold f_X13_tripInns
      simp only [ck_of (tS_55 M0.sh), pI_of (tS_55 M0.sh), ob, nI_lit]; obtain ⟨h1, eh, M, F1⟩ : ∃ h1, wI h 55 0 (nI 0) = h1 ∧ IM h1 a ∧ FM h h1 := ⟨_, rfl, M0.th _, FM.w55 h _ (by decide)⟩; rw [eh]
      obtain ⟨q, e1, e2, F, g, e3, hg⟩ := m_trip W M hk hp (gOK.rf h1) (F0 := mI h1 60)
      rw [bM_id] at e1
      have F2 := bM_fm (F := F) hg
      have S2 := (M.fm F2).sh
      simp (disch := omega) only [obx, nI_lit, nI_add, pk_mul, nI_eq, nI_ltI, nI_leI, if_true, if_false, if_pos, if_neg, ck_of (tS_55 M.sh), gR_of (tS_55 M.sh), gI_of (tS_55 M.sh), pI_of (tS_55 M.sh), rS_55_16 M.sh, rS_55_17 M.sh, rS_55_18 M.sh, rS_55_21 M.sh, rS_55_25 M.sh, rS_55_26 M.sh, rS_55_27 M.sh, rS_55_28 M.sh, rS_55_32 M.sh, rS_55_33 M.sh, rS_55_34 M.sh, m_refused M.sh, m_good M.sh, m_isPerson W M, hx, m_isPlace W M, hy, Bool.toNat_true, e1, e2, e3, m_good S2]
      exact qm_end (F1.tr F2) _ _
theorem st_20 : StepOK INV lc_20 := by
  intro sc L i h hL hi hI
  unfold lc_20
  simp only [show (1 : Int32) = nI 1 from rfl, show (2 : Int32) = nI 2 from rfl, show (3 : Int32) = nI 3 from rfl, show (4 : Int32) = nI 4 from rfl, show (5 : Int32) = nI 5 from rfl, nI_add, sc_at hL (show i + 1 < L by omega), sc_at hL (show i + 2 < L by omega), sc_at hL (show i + 3 < L by omega), sc_at hL (show i + 4 < L by omega), sc_at hL (show i + 5 < L by omega), ob]
  exact q2 (f := fun h => f_X11_tripInns h 1 (sc (i + 1)) (sc (i + 2))) (g := fun h => f_X13_tripInns h 55 (sc (i + 1)) (sc (i + 2))) hI (fun a W => qq_tripInns W _ _)
def frT (a : AB) (k n : Nat) : Nat := fo (fun p s => s ||| if tbN (a 0) (vx a k) (rb (a 1)) (a 1 0 k) (a 1 1 k) p (2 ^ a 0 0 5) = 0 then 0 else 2 ^ p) 0 n
theorem frT_lt (a : AB) (k : Nat) : ∀ n, frT a k n < 2 ^ n
  | 0 => by
    show (0 : Nat) < 1
    decide
  | n + 1 => by
    have ih := frT_lt a k n
    have h1 := two_le (show n ≤ n + 1 by omega)
    have h2 : (2 : Nat) ^ n < 2 ^ (n + 1) := Nat.pow_lt_pow_right (by decide) (by omega)
    show (frT a k n ||| _) < _
    exact Nat.or_lt_two_pow (by omega) (by split <;> omega)
theorem frT_bit (a : AB) (k i : Nat) : ∀ n, (frT a k n).testBit i = (decide (i < n) && ex (okT (a 0) (vx a k) (rb (a 1)) (a 1 0 k) (a 1 1 k) i) (2 ^ a 0 0 5))
  | 0 => by
    show (0 : Nat).testBit i = _
    simp
  | n + 1 => by
    show (frT a k n ||| _).testBit i = _
    rw [Nat.testBit_or, frT_bit a k i n]
    rcases Decidable.em (i = n) with e | e
    · subst e
      have h0 := tbN_0 (a 0) (vx a k) (rb (a 1)) (a 1 0 k) (a 1 1 k) i (2 ^ a 0 0 5)
      rcases hx : ex (okT (a 0) (vx a k) (rb (a 1)) (a 1 0 k) (a 1 1 k) i) (2 ^ a 0 0 5) with _ | _
      · rw [if_pos (h0.mpr hx)]
        simp
      · rw [if_neg (fun q => by rw [h0.mp q] at hx; cases hx), bit_pow]
        simp
    · have e1 : (if tbN (a 0) (vx a k) (rb (a 1)) (a 1 0 k) (a 1 1 k) n (2 ^ a 0 0 5) = 0 then 0 else 2 ^ n).testBit i = false := by
        split
        · simp
        · rw [bit_pow]
          simp
          omega
      rw [e1]
      rcases Nat.lt_or_ge i n with c | c
      · simp [c, show i < n + 1 by omega]
      · simp [show ¬ i < n by omega, show ¬ i < n + 1 by omega]
theorem fr_pa {a : AB} (W : IW a) {k : Nat} (hk : k < a 0 0 6) : paT (a 0) (vx a k) (rb (a 1)) (a 1 0 k) (a 1 1 k) (2 ^ a 0 0 5) = frT a k (a 0 0 2) := by
  apply Nat.eq_of_testBit_eq
  intro i
  rw [paT_bit, frT_bit]
  rcases Nat.lt_or_ge i (a 0 0 2) with c | c
  · simp [c]
  · rw [decide_eq_false (by omega), Bool.false_and]
    refine ex_no (fun s _ => ?_)
    unfold okT rch
    rw [rs_bit, decide_eq_false (show ¬ i < a 0 0 2 by omega)]
    simp
theorem qq_farReach {a : AB} (W : IW a) (x : Int32) : ∃ v z, z ≤ 6 ∧ z ≠ 4 ∧ QC a (fun h => f_X11_farReach h 1 x) v z ∧ QM a (fun h => f_X13_farReach h 55 x) v z := by
  have hpe := W.rw.pe
  have hpl := W.rw.pl
  rcases hx : ix (a 0 0 6) x with _ | _
  · refine ⟨-nI 1, 1, by decide, by decide, fun h C => ?_, fun h M0 => ?_⟩
    · unfold f_X11_farReach
      simp (disch := omega) only [obx, nI_lit, nI_add, pk_mul, nI_eq, nI_ltI, nI_leI, if_true, if_false, if_pos, if_neg, ck_of (tS_1 C.ct.sh), gR_of (tS_1 C.ct.sh), gI_of (tS_1 C.ct.sh), pI_of (tS_1 C.ct.sh), C.ct.rp, rS_1_2 C.ct.sh, rS_1_3 C.ct.sh, rS_1_4 C.ct.sh, rS_1_5 C.ct.sh, rS_1_6 C.ct.sh, rS_1_7 C.ct.sh, rS_1_8 C.ct.sh, rS_1_9 C.ct.sh, ck_of (tR C.ct.rd.rd), gR_of (tR C.ct.rd.rd), gI_of (tR C.ct.rd.rd), rR_9 C.ct.rd.rd, rR_10 C.ct.rd.rd, rR_11 C.ct.rd.rd, rR_12 C.ct.rd.rd, rR_13 C.ct.rd.rd, rR_14 C.ct.rd.rd, rR_15 C.ct.rd.rd, rR_16 C.ct.rd.rd, rR_17 C.ct.rd.rd, rR_18 C.ct.rd.rd, rR_19 C.ct.rd.rd, aI_of (tR_1 C.ct.rd.rd), aI_of (tR_2 C.ct.rd.rd), aI_of (tR_3 C.ct.rd.rd), aI_of (tR_4 C.ct.rd.rd), aI_of (tR_5 C.ct.rd.rd), aI_of (tR_6 C.ct.rd.rd), aI_of (tR_7 C.ct.rd.rd), aI_of (tR_8 C.ct.rd.rd), aI_of (tR_9 C.ct.rd.rd), C.ct.rd.sc, C.ct.rd.len, C.ct.rd.e1, C.ct.rd.e2, C.ct.rd.min, C.ct.rd.kd, C.ct.rd.gt, C.ct.rd.bt, C.ct.rd.ip, C.ct.rd.hd, c_refuse C.ct.sh, c_answer C.ct.sh, c_isPerson W C, hx, Bool.toNat_false]
      exact qc_end C _ _
    · unfold f_X13_farReach
      simp only [ck_of (tS_55 M0.sh), pI_of (tS_55 M0.sh), ob, nI_lit]; obtain ⟨h1, eh, M, F1⟩ : ∃ h1, wI h 55 0 (nI 0) = h1 ∧ IM h1 a ∧ FM h h1 := ⟨_, rfl, M0.th _, FM.w55 h _ (by decide)⟩; rw [eh]
      simp (disch := omega) only [obx, nI_lit, nI_add, pk_mul, nI_eq, nI_ltI, nI_leI, if_true, if_false, if_pos, if_neg, ck_of (tS_55 M.sh), gR_of (tS_55 M.sh), gI_of (tS_55 M.sh), pI_of (tS_55 M.sh), rS_55_16 M.sh, rS_55_17 M.sh, rS_55_18 M.sh, rS_55_21 M.sh, rS_55_25 M.sh, rS_55_26 M.sh, rS_55_27 M.sh, rS_55_28 M.sh, rS_55_32 M.sh, rS_55_33 M.sh, rS_55_34 M.sh, m_refused M.sh, m_good M.sh, m_isPerson W M, hx, Bool.toNat_false]
      exact qm_end F1 _ _
  · obtain ⟨k, hk, rfl⟩ := ix_t hx (by omega)
    have e0 := told_of W (i := 0) (j := 6) (by omega)
    refine ⟨nI (frT a k (a 0 0 2)), 0, by decide, by decide, fun h C => ?_, fun h M0 => ?_⟩
    · obtain ⟨h', e1, A, B, D, rfl, hK⟩ := c_plan W C hk
      obtain ⟨F2, C2⟩ := C.tpc W A B D
      have S2 := C2.ct.sh
      have cb := c_all2 W C hK
      rw [fr_pa W hk] at cb
      unfold f_X11_farReach
      simp (disch := omega) only [obx, nI_lit, nI_add, pk_mul, nI_eq, nI_ltI, nI_leI, if_true, if_false, if_pos, if_neg, ck_of (tS_1 C.ct.sh), gR_of (tS_1 C.ct.sh), gI_of (tS_1 C.ct.sh), pI_of (tS_1 C.ct.sh), C.ct.rp, rS_1_2 C.ct.sh, rS_1_3 C.ct.sh, rS_1_4 C.ct.sh, rS_1_5 C.ct.sh, rS_1_6 C.ct.sh, rS_1_7 C.ct.sh, rS_1_8 C.ct.sh, rS_1_9 C.ct.sh, ck_of (tR C.ct.rd.rd), gR_of (tR C.ct.rd.rd), gI_of (tR C.ct.rd.rd), rR_9 C.ct.rd.rd, rR_10 C.ct.rd.rd, rR_11 C.ct.rd.rd, rR_12 C.ct.rd.rd, rR_13 C.ct.rd.rd, rR_14 C.ct.rd.rd, rR_15 C.ct.rd.rd, rR_16 C.ct.rd.rd, rR_17 C.ct.rd.rd, rR_18 C.ct.rd.rd, rR_19 C.ct.rd.rd, aI_of (tR_1 C.ct.rd.rd), aI_of (tR_2 C.ct.rd.rd), aI_of (tR_3 C.ct.rd.rd), aI_of (tR_4 C.ct.rd.rd), aI_of (tR_5 C.ct.rd.rd), aI_of (tR_6 C.ct.rd.rd), aI_of (tR_7 C.ct.rd.rd), aI_of (tR_8 C.ct.rd.rd), aI_of (tR_9 C.ct.rd.rd), C.ct.rd.sc, C.ct.rd.len, C.ct.rd.e1, C.ct.rd.e2, C.ct.rd.min, C.ct.rd.kd, C.ct.rd.gt, C.ct.rd.bt, C.ct.rd.ip, C.ct.rd.hd, c_refuse C.ct.sh, c_answer C.ct.sh, c_isPerson W C, hx, Bool.toNat_true, e1, gR_of (tS_1 S2), rS_1_5 S2, C2.ct.rp, cb, c_answer S2]
      exact qc_end2 F2 C2.so _ _
    · unfold f_X13_farReach
      simp only [ck_of (tS_55 M0.sh), pI_of (tS_55 M0.sh), ob, nI_lit]; obtain ⟨h1, eh, M, F1⟩ : ∃ h1, wI h 55 0 (nI 0) = h1 ∧ IM h1 a ∧ FM h h1 := ⟨_, rfl, M0.th _, FM.w55 h _ (by decide)⟩; rw [eh]
      have key : OK (iter (fun (s : Int32 × Int32 × Mem) => b_X13_farReach_23 s.2.2 55 (nI k) s.1 s.2.1) FU (nI 0, nI 0, bM h1 (mI h1 60) (mI h1 55))) (fun q => q.1 = nI (frT a k (a 0 0 2)) ∧ ∃ F g, q.2 = bM h1 F g ∧ gOK h1 g) := by
        refine iter_ok (fun p q => ∃ F g, q = (nI (frT a k p), nI p, bM h1 F g) ∧ gOK h1 g) (a 0 0 2) (FU_lt (by omega)) (fun p q hp hI => ?_) ⟨_, _, rfl, gOK.rf h1⟩
        obtain ⟨F, g, rfl, hg⟩ := hI
        show OK (b_X13_farReach_23 (bM h1 F g) 55 (nI k) (nI (frT a k p)) (nI p)) _
        have M1 : IM (bM h1 F g) a := M.fm (bM_fm hg)
        have P1 := M1.told e0
        have S1 := M1.sh
        unfold b_X13_farReach_23 f_X13_farReach_53
        rcases Nat.lt_or_ge p (a 0 0 2) with c | c
        · obtain ⟨q, e1, e2, F', g', e3, hg'⟩ := m_trip W M hk c hg (F0 := F)
          have hsh : nI 1 <<< (nI p &&& nI 31) = nI (2 ^ p) := nI_sh1 (by omega)
          have h1 := frT_lt a k p
          have h2 := two_le (show p ≤ 7 by omega)
          have es : frT a k (p + 1) = frT a k p ||| if tbN (a 0) (vx a k) (rb (a 1)) (a 1 0 k) (a 1 1 k) p (2 ^ a 0 0 5) = 0 then 0 else 2 ^ p := rfl
          have hle := tbN_le (a 0) (vx a k) (rb (a 1)) (a 1 0 k) (a 1 1 k) p (2 ^ a 0 0 5)
          have hT : 2 ^ a 0 0 5 ≤ 2 ^ 6 := two_le W.rw.inn
          rw [es]
          generalize tbN (a 0) (vx a k) (rb (a 1)) (a 1 0 k) (a 1 1 k) p (2 ^ a 0 0 5) = b at *
          simp (disch := omega) only [obx, nI_lit, nI_add, pk_mul, nI_eq, nI_ltI, nI_leI, if_true, if_false, if_pos, if_neg, gR_of (tS_55 S1), P1.pp, gI_of (tP P1.rd.pk), P1.rd.sc, e1, e2, e3, hsh, nI_or]
          rcases Decidable.em (b = 0) with eb | eb
          · have e4 : tbI b = -nI 2 := by
              rw [eb]
              rfl
            simp only [e4, eb, if_true]
            exact ⟨_, rfl, c, F', g', rfl, hg'⟩
          · have e4 : ¬ tbI b = -nI 2 := by
              rw [tbI_pos eb, nI_nem (by omega) (by decide) (by decide)]
              exact id
            simp only [e4, eb, if_false]
            exact ⟨_, rfl, c, F', g', rfl, hg'⟩
        · have hp9 : p = a 0 0 2 := by omega
          subst hp9
          simp (disch := omega) only [obx, nI_lit, nI_add, pk_mul, nI_eq, nI_ltI, nI_leI, if_true, if_false, if_pos, if_neg, gR_of (tS_55 S1), P1.pp, gI_of (tP P1.rd.pk), P1.rd.sc]
          exact ⟨_, rfl, rfl, F, g, rfl, hg⟩
      obtain ⟨q, e1, e2, F, g, e3, hg⟩ := key
      rw [bM_id] at e1
      have F2 := bM_fm (F := F) hg
      have S2 := (M.fm F2).sh
      simp (disch := omega) only [obx, nI_lit, nI_add, pk_mul, nI_eq, nI_ltI, nI_leI, if_true, if_false, if_pos, if_neg, ck_of (tS_55 M.sh), gR_of (tS_55 M.sh), gI_of (tS_55 M.sh), pI_of (tS_55 M.sh), rS_55_16 M.sh, rS_55_17 M.sh, rS_55_18 M.sh, rS_55_21 M.sh, rS_55_25 M.sh, rS_55_26 M.sh, rS_55_27 M.sh, rS_55_28 M.sh, rS_55_32 M.sh, rS_55_33 M.sh, rS_55_34 M.sh, m_refused M.sh, m_good M.sh, m_isPerson W M, hx, Bool.toNat_true, e1, e2, e3, m_good S2]
      exact qm_end (F1.tr F2) _ _
theorem st_21 : StepOK INV lc_21 := by
  intro sc L i h hL hi hI
  unfold lc_21
  simp only [show (1 : Int32) = nI 1 from rfl, show (2 : Int32) = nI 2 from rfl, show (3 : Int32) = nI 3 from rfl, show (4 : Int32) = nI 4 from rfl, show (5 : Int32) = nI 5 from rfl, nI_add, sc_at hL (show i + 1 < L by omega), sc_at hL (show i + 2 < L by omega), sc_at hL (show i + 3 < L by omega), sc_at hL (show i + 4 < L by omega), sc_at hL (show i + 5 < L by omega), ob]
  exact q2 (f := fun h => f_X11_farReach h 1 (sc (i + 1))) (g := fun h => f_X13_farReach h 55 (sc (i + 1))) hI (fun a W => qq_farReach W _)
