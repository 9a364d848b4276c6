/-! ===== soonest ===== -/
def sof (a : AB) (p x : Nat) (s : Int32 × Nat) : Int32 × Nat := if ds (a 0) (vx a x) (rb (a 1)) (a 1 0 x) p < s.2 then (nI x, ds (a 0) (vx a x) (rb (a 1)) (a 1 0 x) p) else s
def soC (l : Nat) : Nat := if l < 99999 then l else 1000000
theorem qq_soonest {a : AB} (W : IW a) (y : Int32) : ∃ v z, z ≤ 6 ∧ z ≠ 4 ∧ QC a (fun h => f_X11_soonest h 1 y) v z ∧ QM a (fun h => f_X13_soonest h 55 y) v z := by
  have hpe := W.rw.pe
  have hpl := W.rw.pl
  rcases hy : ix (a 0 0 2) y with _ | _
  · refine ⟨-nI 1, 1, by decide, by decide, fun h C => ?_, fun h M0 => ?_⟩
    · unfold f_X11_soonest
      simp (disch := omega) only [obx, nI_lit, nI_add, pk_mul, nI_eq, nI_ltI, nI_leI, if_true, if_false, if_pos, if_neg, ck_of (tS_1 C.ct.sh), gR_of (tS_1 C.ct.sh), gI_of (tS_1 C.ct.sh), pI_of (tS_1 C.ct.sh), C.ct.rp, rS_1_2 C.ct.sh, rS_1_3 C.ct.sh, rS_1_4 C.ct.sh, rS_1_5 C.ct.sh, rS_1_6 C.ct.sh, rS_1_7 C.ct.sh, rS_1_8 C.ct.sh, rS_1_9 C.ct.sh, ck_of (tR C.ct.rd.rd), gR_of (tR C.ct.rd.rd), gI_of (tR C.ct.rd.rd), rR_9 C.ct.rd.rd, rR_10 C.ct.rd.rd, rR_11 C.ct.rd.rd, rR_12 C.ct.rd.rd, rR_13 C.ct.rd.rd, rR_14 C.ct.rd.rd, rR_15 C.ct.rd.rd, rR_16 C.ct.rd.rd, rR_17 C.ct.rd.rd, rR_18 C.ct.rd.rd, rR_19 C.ct.rd.rd, aI_of (tR_1 C.ct.rd.rd), aI_of (tR_2 C.ct.rd.rd), aI_of (tR_3 C.ct.rd.rd), aI_of (tR_4 C.ct.rd.rd), aI_of (tR_5 C.ct.rd.rd), aI_of (tR_6 C.ct.rd.rd), aI_of (tR_7 C.ct.rd.rd), aI_of (tR_8 C.ct.rd.rd), aI_of (tR_9 C.ct.rd.rd), C.ct.rd.sc, C.ct.rd.len, C.ct.rd.e1, C.ct.rd.e2, C.ct.rd.min, C.ct.rd.kd, C.ct.rd.gt, C.ct.rd.bt, C.ct.rd.ip, C.ct.rd.hd, c_refuse C.ct.sh, c_answer C.ct.sh, c_isPlace W C, hy, Bool.toNat_false]
      exact qc_end C _ _
    · unfold f_X13_soonest
      simp only [ck_of (tS_55 M0.sh), pI_of (tS_55 M0.sh), ob, nI_lit]; obtain ⟨h1, eh, M, F1⟩ : ∃ h1, wI h 55 0 (nI 0) = h1 ∧ IM h1 a ∧ FM h h1 := ⟨_, rfl, M0.th _, FM.w55 h _ (by decide)⟩; rw [eh]
      simp (disch := omega) only [obx, nI_lit, nI_add, pk_mul, nI_eq, nI_ltI, nI_leI, if_true, if_false, if_pos, if_neg, ck_of (tS_55 M.sh), gR_of (tS_55 M.sh), gI_of (tS_55 M.sh), pI_of (tS_55 M.sh), rS_55_16 M.sh, rS_55_17 M.sh, rS_55_18 M.sh, rS_55_21 M.sh, rS_55_25 M.sh, rS_55_26 M.sh, rS_55_27 M.sh, rS_55_28 M.sh, rS_55_32 M.sh, rS_55_33 M.sh, rS_55_34 M.sh, m_refused M.sh, m_good M.sh, m_isPlace W M, hy, Bool.toNat_false]
      exact qm_end F1 _ _
  · obtain ⟨p, hp, rfl⟩ := ix_t hy (by omega)
    have hI : ∀ x s, x < a 0 0 6 → s.2 ≤ 99999 → (sof a p x s).2 ≤ 99999 := by
      intro x s hx hs
      unfold sof
      split
      · exact ds_le W.rw (W.nf.pl x hx) hp
      · exact hs
    have hle : ∀ x, x ≤ a 0 0 6 → (fo (sof a p) (-nI 2, 99999) x).2 ≤ 99999 := by
      intro x
      induction x with
      | zero => intro _; exact Nat.le_refl _
      | succ x ih => intro hx; exact hI x _ (by omega) (ih (by omega))
    refine ⟨(fo (sof a p) (-nI 2, 99999) (a 0 0 6)).1, 0, by decide, by decide, fun h C => ?_, fun h M0 => ?_⟩
    · have key : OK (iter (fun (s : Int32 × Int32 × Int32 × Mem) => b_X11_soonest_23 s.2.2.2 1 (nI p) s.1 s.2.1 s.2.2.1) FU (-nI 2, nI 1000000, nI 0, h)) (fun r => r.1 = (fo (sof a p) (-nI 2, 99999) (a 0 0 6)).1 ∧ FQ LQ h r.2 ∧ IC r.2 a) := by
        refine iter_ok (fun x s => ∃ m : Mem, s = ((fo (sof a p) (-nI 2, 99999) x).1, nI (soC (fo (sof a p) (-nI 2, 99999) x).2), nI x, m) ∧ FQ LQ h m ∧ IC m a) (a 0 0 6) (FU_lt (by omega)) (fun x s hx hIv => ?_) ⟨h, rfl, FQ.rf _ _, C⟩
        obtain ⟨m, rfl, fm, Cm⟩ := hIv
        have hl := hle x (by omega)
        have hsucc : fo (sof a p) (-nI 2, 99999) (x + 1) = sof a p x (fo (sof a p) (-nI 2, 99999) x) := rfl
        rw [hsucc]
        have hend : x = a 0 0 6 → fo (sof a p) (-nI 2, 99999) x = fo (sof a p) (-nI 2, 99999) (a 0 0 6) := fun e => by rw [e]
        generalize fo (sof a p) (-nI 2, 99999) x = X at *
        show OK (b_X11_soonest_23 m 1 (nI p) X.1 (nI (soC X.2)) (nI x)) _
        have SX := Cm.ct.sh
        unfold b_X11_soonest_23 f_X11_soonest_56
        rcases Nat.lt_or_ge x (a 0 0 6) with c | c
        · obtain ⟨F2, C2⟩ := Cm.wy W (vx a x) (rb (a 1)) (lF m (Lk (a 0) (vx a x) (rb (a 1)) p (a 0 0 2)))
          have h0 := W.nf.pl x c
          have hd := ds_le (V := vx a x) (ra := rb (a 1)) W.rw h0 hp
          have cm := c_minTo W Cm c hp
          simp (disch := omega) only [obx, nI_lit, nI_add, pk_mul, nI_eq, nI_ltI, nI_leI, if_true, if_false, if_pos, if_neg, gR_of (tS_1 SX), Cm.ct.rp, gI_of (tR Cm.ct.rd.rd), Cm.ct.rd.sc, cm]
          unfold sof dd soC
          rcases Nat.lt_or_ge (ds (a 0) (vx a x) (rb (a 1)) (a 1 0 x) p) X.2 with c2 | c2
          · have h9 : ds (a 0) (vx a x) (rb (a 1)) (a 1 0 x) p < 99999 := by omega
            rw [if_pos h9, if_pos c2]
            have e9 : ¬ nI (if X.2 < 99999 then X.2 else 1000000) ≤ nI (ds (a 0) (vx a x) (rb (a 1)) (a 1 0 x) p) := by
              rw [nI_leI (by split <;> omega) (by omega)]
              split <;> omega
            rw [if_neg e9]
            refine ⟨_, rfl, c, _, ?_, fm.tr F2, C2⟩
            simp only [h9, if_true]
          · rw [if_neg (show ¬ ds (a 0) (vx a x) (rb (a 1)) (a 1 0 x) p < X.2 by omega)]
            have e9 : nI (if X.2 < 99999 then X.2 else 1000000) ≤ nI (if ds (a 0) (vx a x) (rb (a 1)) (a 1 0 x) p < 99999 then ds (a 0) (vx a x) (rb (a 1)) (a 1 0 x) p else 1000000) := by
              rw [nI_leI (by split <;> omega) (by split <;> omega)]
              split <;> split <;> omega
            rw [if_pos e9]
            exact ⟨_, rfl, c, _, rfl, fm.tr F2, C2⟩
        · have hx9 : x = a 0 0 6 := by omega
          simp (disch := omega) only [obx, nI_lit, nI_add, pk_mul, nI_eq, nI_ltI, nI_leI, if_true, if_false, if_pos, if_neg, gR_of (tS_1 SX), Cm.ct.rp, gI_of (tR Cm.ct.rd.rd), Cm.ct.rd.sc]
          exact ⟨_, rfl, by rw [hend hx9], fm, Cm⟩
      obtain ⟨r, q, r1, r2, r3⟩ := key
      unfold f_X11_soonest
      simp (disch := omega) only [obx, nI_lit, nI_add, pk_mul, nI_eq, nI_ltI, nI_leI, if_true, if_false, if_pos, if_neg, ck_of (tS_1 C.ct.sh), gR_of (tS_1 C.ct.sh), gI_of (tS_1 C.ct.sh), pI_of (tS_1 C.ct.sh), C.ct.rp, rS_1_2 C.ct.sh, rS_1_3 C.ct.sh, rS_1_4 C.ct.sh, rS_1_5 C.ct.sh, rS_1_6 C.ct.sh, rS_1_7 C.ct.sh, rS_1_8 C.ct.sh, rS_1_9 C.ct.sh, ck_of (tR C.ct.rd.rd), gR_of (tR C.ct.rd.rd), gI_of (tR C.ct.rd.rd), rR_9 C.ct.rd.rd, rR_10 C.ct.rd.rd, rR_11 C.ct.rd.rd, rR_12 C.ct.rd.rd, rR_13 C.ct.rd.rd, rR_14 C.ct.rd.rd, rR_15 C.ct.rd.rd, rR_16 C.ct.rd.rd, rR_17 C.ct.rd.rd, rR_18 C.ct.rd.rd, rR_19 C.ct.rd.rd, aI_of (tR_1 C.ct.rd.rd), aI_of (tR_2 C.ct.rd.rd), aI_of (tR_3 C.ct.rd.rd), aI_of (tR_4 C.ct.rd.rd), aI_of (tR_5 C.ct.rd.rd), aI_of (tR_6 C.ct.rd.rd), aI_of (tR_7 C.ct.rd.rd), aI_of (tR_8 C.ct.rd.rd), aI_of (tR_9 C.ct.rd.rd), C.ct.rd.sc, C.ct.rd.len, C.ct.rd.e1, C.ct.rd.e2, C.ct.rd.min, C.ct.rd.kd, C.ct.rd.gt, C.ct.rd.bt, C.ct.rd.ip, C.ct.rd.hd, c_refuse C.ct.sh, c_answer C.ct.sh, c_isPlace W C, hy, Bool.toNat_true, q, c_answer r3.ct.sh, r1]
      exact qc_end2 r2 r3.so _ _
    · unfold f_X13_soonest
      simp only [ck_of (tS_55 M0.sh), pI_of (tS_55 M0.sh), ob, nI_lit]; obtain ⟨h1, eh, M, F1⟩ : ∃ h1, wI h 55 0 (nI 0) = h1 ∧ IM h1 a ∧ FM h h1 := ⟨_, rfl, M0.th _, FM.w55 h _ (by decide)⟩; rw [eh]
      have key : OK (iter (fun (s : Int32 × Int32 × Int32 × Mem) => b_X13_soonest_29 s.2.2.2 55 (nI p) s.1 s.2.1 s.2.2.1) FU (-nI 2, nI 99999, nI 0, rowI h1 60 (mI h1 60))) (fun r => r.1 = (fo (sof a p) (-nI 2, 99999) (a 0 0 6)).1 ∧ ∃ F', r.2 = rowI h1 60 F') := by
        refine iter_ok (fun x s => ∃ F' : Nat → Int32, s = ((fo (sof a p) (-nI 2, 99999) x).1, nI (fo (sof a p) (-nI 2, 99999) x).2, nI x, rowI h1 60 F')) (a 0 0 6) (FU_lt (by omega)) (fun x s hx hIv => ?_) ⟨_, rfl⟩
        obtain ⟨F', rfl⟩ := hIv
        have hl := hle x (by omega)
        have hsucc : fo (sof a p) (-nI 2, 99999) (x + 1) = sof a p x (fo (sof a p) (-nI 2, 99999) x) := rfl
        rw [hsucc]
        have hend : x = a 0 0 6 → fo (sof a p) (-nI 2, 99999) x = fo (sof a p) (-nI 2, 99999) (a 0 0 6) := fun e => by rw [e]
        generalize fo (sof a p) (-nI 2, 99999) x = X at *
        show OK (b_X13_soonest_29 (rowI h1 60 F') 55 (nI p) X.1 (nI X.2) (nI x)) _
        have M1 : IM (rowI h1 60 F') a := M.fm (FM.r60 F')
        have e0 : 0 < a 0 0 2 := by omega
        have P1 := M1.told e0
        have S1 := M1.sh
        unfold b_X13_soonest_29 f_X13_soonest_72
        rcases Nat.lt_or_ge x (a 0 0 6) with c | c
        · have h0 := W.nf.pl x c
          have hd := ds_le (V := vx a x) (ra := rb (a 1)) W.rw h0 hp
          obtain ⟨F2, e2, hF2⟩ := m_waysOf W M1 c
          have mf := m_farTo W M1 c hF2 hp
          rw [rowI_rowI] at e2 mf
          simp (disch := omega) only [obx, nI_lit, nI_add, pk_mul, nI_eq, nI_ltI, nI_leI, if_true, if_false, if_pos, if_neg, gR_of (tS_55 S1), P1.pp, gI_of (tP P1.rd.pk), P1.rd.sc, e2, mf]
          unfold sof
          rcases Nat.lt_or_ge (ds (a 0) (vx a x) (rb (a 1)) (a 1 0 x) p) X.2 with c2 | c2
          · rw [if_pos c2, if_pos c2]
            exact ⟨_, rfl, c, F2, rfl⟩
          · rw [if_neg (by omega), if_neg (by omega)]
            exact ⟨_, rfl, c, F2, rfl⟩
        · have hx9 : x = a 0 0 6 := by omega
          simp (disch := omega) only [obx, nI_lit, nI_add, pk_mul, nI_eq, nI_ltI, nI_leI, if_true, if_false, if_pos, if_neg, gR_of (tS_55 S1), P1.pp, gI_of (tP P1.rd.pk), P1.rd.sc]
          exact ⟨_, rfl, by rw [hend hx9], F', rfl⟩
      obtain ⟨r, q, r1, F', r2⟩ := key
      rw [rowI_id] at q
      have S2 := M.sh.row 60 F'
      simp (disch := omega) only [obx, nI_lit, nI_add, pk_mul, nI_eq, nI_ltI, nI_leI, if_true, if_false, if_pos, if_neg, ck_of (tS_55 M.sh), gR_of (tS_55 M.sh), gI_of (tS_55 M.sh), pI_of (tS_55 M.sh), rS_55_16 M.sh, rS_55_17 M.sh, rS_55_18 M.sh, rS_55_21 M.sh, rS_55_25 M.sh, rS_55_26 M.sh, rS_55_27 M.sh, rS_55_28 M.sh, rS_55_32 M.sh, rS_55_33 M.sh, rS_55_34 M.sh, m_refused M.sh, m_good M.sh, m_isPlace W M, hy, Bool.toNat_true, q, r1, r2, m_good S2]
      exact qm_end (F1.tr (FM.r60 F')) _ _
theorem st_22 : StepOK INV lc_22 := by
  intro sc L i h hL hi hI
  unfold lc_22
  simp only [show (1 : Int32) = nI 1 from rfl, show (2 : Int32) = nI 2 from rfl, show (3 : Int32) = nI 3 from rfl, show (4 : Int32) = nI 4 from rfl, show (5 : Int32) = nI 5 from rfl, nI_add, sc_at hL (show i + 1 < L by omega), sc_at hL (show i + 2 < L by omega), sc_at hL (show i + 3 < L by omega), sc_at hL (show i + 4 < L by omega), sc_at hL (show i + 5 < L by omega), ob]
  exact q2 (f := fun h => f_X11_soonest h 1 (sc (i + 1))) (g := fun h => f_X13_soonest h 55 (sc (i + 1))) hI (fun a W => qq_soonest W _)
/-! ===== wayAt ===== -/
section
variable {ρ : RO} {V : Nat} {ra : Bool}
/-- the next place of the first way from x to p -/
def nxP (ρ : RO) (V : Nat) (ra : Bool) (p x : Nat) : Nat := ff (fun q => pq ρ x q V ra && decide (qm ρ x q + ds ρ V ra q p = ds ρ V ra x p)) (ρ 0 2)
def ptP (ρ : RO) (V : Nat) (ra : Bool) (p f k : Nat) : Nat := fo (fun _ x => nxP ρ V ra p x) f k
theorem nxP_ok (W : RW ρ) {p x : Nat} (hp : p < ρ 0 2) (hx : x < ρ 0 2) (hne : x ≠ p) (h : ds ρ V ra x p < 99999) : nxP ρ V ra p x < ρ 0 2 ∧ pq ρ x (nxP ρ V ra p x) V ra = true ∧ qm ρ x (nxP ρ V ra p x) + ds ρ V ra (nxP ρ V ra p x) p = ds ρ V ra x p := by
  obtain ⟨m, hm, e1, e2⟩ := ds_via W hx hp hne h
  have hlt : nxP ρ V ra p x < ρ 0 2 := by
    rcases Nat.lt_or_ge (nxP ρ V ra p x) (ρ 0 2) with c | c
    · exact c
    · have := ff_no (fun q => pq ρ x q V ra && decide (qm ρ x q + ds ρ V ra q p = ds ρ V ra x p)) (ρ 0 2) m (by
        show m < nxP ρ V ra p x
        omega)
      rw [e1] at this
      simp [e2] at this
  have := ff_at _ _ hlt
  change (pq ρ x (nxP ρ V ra p x) V ra && decide (qm ρ x (nxP ρ V ra p x) + ds ρ V ra (nxP ρ V ra p x) p = ds ρ V ra x p)) = true at this
  rw [Bool.and_eq_true, decide_eq_true_iff] at this
  exact ⟨hlt, this.1, this.2⟩
/-- as long as it hasn't come there -/
theorem ptP_ok (W : RW ρ) {p f : Nat} (hp : p < ρ 0 2) (hf : f < ρ 0 2) (h : ds ρ V ra f p < 99999) : ∀ k, (∀ j, j < k → ptP ρ V ra p f j ≠ p) → ptP ρ V ra p f k < ρ 0 2 ∧ ds ρ V ra (ptP ρ V ra p f k) p < 99999 ∧ cn (fun q => decide (ds ρ V ra q p < ds ρ V ra (ptP ρ V ra p f k) p)) (ρ 0 2) + k < ρ 0 2
  | 0, _ => by
    refine ⟨hf, h, ?_⟩
    have h1 : cn (fun q => decide (ds ρ V ra q p < ds ρ V ra f p)) (ρ 0 2) < cn (fun _ => true) (ρ 0 2) := cn_lt (fun _ _ _ => rfl) ⟨f, hf, rfl, by simp⟩
    have h2 := cn_le (fun _ => true) (ρ 0 2)
    show cn (fun q => decide (ds ρ V ra q p < ds ρ V ra f p)) (ρ 0 2) + 0 < _
    omega
  | k + 1, hj => by
    obtain ⟨i1, i2, i3⟩ := ptP_ok W hp hf h k (fun j hj' => hj j (by omega))
    have hne := hj k (by omega)
    have e : ptP ρ V ra p f (k + 1) = nxP ρ V ra p (ptP ρ V ra p f k) := rfl
    rw [e]
    generalize ptP ρ V ra p f k = x at *
    obtain ⟨j1, j2, j3⟩ := nxP_ok W hp i1 hne i2
    have w := pq_qm W i1 j1 j2
    refine ⟨j1, by omega, ?_⟩
    have h1 : cn (fun q => decide (ds ρ V ra q p < ds ρ V ra (nxP ρ V ra p x) p)) (ρ 0 2) < cn (fun q => decide (ds ρ V ra q p < ds ρ V ra x p)) (ρ 0 2) := cn_lt (fun q _ hq => by
      simp only [decide_eq_true_iff] at hq ⊢
      omega) ⟨nxP ρ V ra p x, j1, by simp only [decide_eq_true_iff]; omega, by simp⟩
    omega
theorem ptP_end (W : RW ρ) {p f : Nat} (hp : p < ρ 0 2) (hf : f < ρ 0 2) (h : ds ρ V ra f p < 99999) : ¬ ∀ j, j < ρ 0 2 → ptP ρ V ra p f j ≠ p := by
  intro q
  have := (ptP_ok W hp hf h (ρ 0 2) q).2.2
  omega
end
theorem c_behind {h : Mem} {a : AB} (W : IW a) (C : IC h a) {V x p : Nat} {ra : Bool} (hp : p < a 0 0 2) (hV : V < 8192) (h0 : V ≠ 0) (hx : x < a 0 0 2) (hne : x ≠ p) (hd : ds (a 0) V ra x p < 99999) : f_X10_placeBehind (wyM h V ra (lF h (Lk (a 0) V ra p (a 0 0 2)))) 37 (a 2 0 0) (nI x) = some (nI (nxP (a 0) V ra p x)) := by
  have hpl := W.rw.pl
  have hro := W.rw.ro
  obtain ⟨F2, C2⟩ := C.wy W V ra (lF h (Lk (a 0) V ra p (a 0 0 2)))
  have S2 := C2.ct.sh
  have hdx := ds_bd W.rw hx hp hd
  obtain ⟨n1, n2, n3⟩ := nxP_ok W.rw hp hx hne hd
  have ddx : dd (a 0) V ra p x = ds (a 0) V ra x p := if_pos hd
  have q : iter (fun (s : Int32) => b_X10_placeBehind_2 (wyM h V ra (lF h (Lk (a 0) V ra p (a 0 0 2)))) 37 (a 2 0 0) (nI x) s) FU (nI 0) = some (if ff (fun q => pq (a 0) x q V ra && decide (qm (a 0) x q + ds (a 0) V ra q p = ds (a 0) V ra x p)) (a 0 0 2) < a 0 0 2 then Sum.inl (nI (ff (fun q => pq (a 0) x q V ra && decide (qm (a 0) x q + ds (a 0) V ra q p = ds (a 0) V ra x p)) (a 0 0 2))) else Sum.inr ()) := by
    refine iter_ff2 (fun i => nI i) (fun q => pq (a 0) x q V ra && decide (qm (a 0) x q + ds (a 0) V ra q p = ds (a 0) V ra x p)) (a 0 0 2) (fun i => Sum.inl (nI i)) (Sum.inr ()) (FU_lt (by omega)) (fun i hi _ => ?_) (fun _ => ?_)
    · have cb := c_between W C2 hx hi
      have hb := b_le W.rw hx hi
      have l1 := Lk_dd (V := V) (ra := ra) W.rw hp hx
      have l2 := Lk_dd (V := V) (ra := ra) W.rw hp hi
      have hdi := ds_le (V := V) (ra := ra) W.rw hi hp
      show b_X10_placeBehind_2 (wyM h V ra (lF h (Lk (a 0) V ra p (a 0 0 2)))) 37 (a 2 0 0) (nI x) (nI i) = _
      unfold b_X10_placeBehind_2 f_X10_placeBehind_65
      rcases Decidable.em (a 0 13 (7 * x + i) = 0) with e | e
      · have e1 : pq (a 0) x i V ra = false := by
          unfold pq
          rw [e]
          rfl
        simp (disch := omega) only [obx, nI_lit, nI_add, pk_mul, nI_eq, nI_ltI, nI_leI, if_true, if_false, if_pos, if_neg, gI_of (tR C2.ct.rd.rd), C2.ct.rd.sc, cb, kN_neg, e1, Bool.false_and, Bool.false_eq_true]
      · obtain ⟨j, hj, ej⟩ : ∃ j, j < a 0 0 3 ∧ a 0 13 (7 * x + i) = j + 1 := by
          rcases b_or W.rw hx hi with q | q
          · exact absurd q e
          · exact q
        have e1 : pq (a 0) x i V ra = op (a 0) j V ra := by
          unfold pq
          rw [ej]
          simp
        have e2 : qm (a 0) x i = a 0 5 j := by
          unfold qm
          rw [ej, if_neg (by omega)]
          rfl
        have h5 := W.rw.min j hj
        rw [ej] at cb
        have cb2 : nI (j + 1) - nI 1 = nI j := by
          rw [pk_sub (by omega)]
          rfl
        rw [cb2] at cb
        have ddi : (a 0 5 j + dd (a 0) V ra p i = ds (a 0) V ra x p) ↔ (qm (a 0) x i + ds (a 0) V ra i p = ds (a 0) V ra x p) := by
          rw [e2]
          unfold dd
          split <;> omega
        have ddl : dd (a 0) V ra p i ≤ 1000000 := by
          unfold dd
          split <;> omega
        simp (disch := omega) only [obx, nI_lit, nI_add, pk_mul, nI_eq, nI_ltI, nI_leI, if_true, if_false, if_pos, if_neg, gI_of (tR C2.ct.rd.rd), C2.ct.rd.sc, cb, gR_of (tR C2.ct.rd.rd), rR_12 C2.ct.rd.rd, aI_of (tR_4 C2.ct.rd.rd), C2.ct.rd.min, gR_of (tS_37 S2), rS_37_0 S2, aI_of (tS_38 S2), wyM_38, lF_at, l1, l2, ddx, gI_of (tS_37 S2), wyM_1, wyM_2, c_open W.rw C2.ct ra hj hV h0, nI_b0]
        rw [e1]
        rcases Decidable.em (qm (a 0) x i + ds (a 0) V ra i p = ds (a 0) V ra x p) with c | c
        · rw [if_pos (ddi.mpr c)]
          cases op (a 0) j V ra <;> simp [c]
        · rw [if_neg (fun q => c (ddi.mp q))]
          simp [c]
    · unfold b_X10_placeBehind_2
      simp (disch := omega) only [obx, nI_lit, nI_add, pk_mul, nI_eq, nI_ltI, nI_leI, if_true, if_false, if_pos, if_neg, gI_of (tR C2.ct.rd.rd), C2.ct.rd.sc]
  have hq : ff (fun q => pq (a 0) x q V ra && decide (qm (a 0) x q + ds (a 0) V ra q p = ds (a 0) V ra x p)) (a 0 0 2) = nxP (a 0) V ra p x := rfl
  rw [hq, if_pos n1] at q
  unfold f_X10_placeBehind
  simp (disch := omega) only [obx, nI_lit, nI_add, pk_mul, nI_eq, nI_ltI, nI_leI, if_true, if_false, if_pos, if_neg, ck_of (tS_37 S2), q]
  rfl
