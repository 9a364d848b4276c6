/-! ===== frames ===== -/
theorem CT.fq {l : List Nat} {h h' : Mem} {r : Nat} {ρ : RO} (C : CT h r ρ) (f : FQ l h h') (hl : ∀ k, k < 12 → r + k ∉ l) : CT h' r ρ := by
  obtain ⟨c0, c1, c2, c3, c4⟩ := C
  have eI2 : ∀ k, k < 12 → mI h' (r + k) = mI h (r + k) := fun k hk => f.2.2.2.2 _ (hl k hk)
  refine ⟨f.sh c0, by rw [f.2.1]; exact c1, c2.fr (fun k hk => by rw [f.1]) (by rw [f.2.1]) (fun k hk => eI2 k (by omega)), ?_, ?_⟩
  · rw [eI2 10 (by decide)]; exact c3
  · rw [eI2 10 (by decide)]; exact c4
theorem MT.fq {l : List Nat} {h h' : Mem} {p : Nat} {ρ : RO} (M : MT h p ρ) (f : FQ l h h') (hl : ∀ k, k < 19 → p + k ∉ l) : MT h' p ρ := by
  obtain ⟨c0, c1, c2, c3⟩ := M
  exact ⟨f.sh c0, by rw [f.2.1]; exact c1, c2, c3.fr (fun k hk => by rw [f.1]) (by rw [f.2.1]) (fun k hk => f.2.2.2.2 _ (hl k (by omega)))⟩
theorem IW.ra {a : AB} (W : IW a) : a 2 0 0 = 2 ∨ a 2 0 0 = 21 := by
  rcases W.rr with q | q
  · exact Or.inl q.1
  · exact Or.inr q.1
section
variable {h : Mem} {r p : Nat} {ρ ν : RO}
theorem c_e1 (W : RW ρ) (C : CRd h r ρ) {j : Nat} (hj : j < ρ 0 3) : f_X5_oneEnd h r (nI j) = some (nI (ρ 3 j)) := by
  have := W.ro
  unfold f_X5_oneEnd
  simp (disch := omega) only [ob, nI_lit, nI_add, pk_mul, nI_eq, nI_ltI, nI_leI, if_true, if_false, if_pos, if_neg, ck_of (tR C.rd), gR_of (tR C.rd), gI_of (tR C.rd), rR_9 C.rd, rR_10 C.rd, rR_11 C.rd, rR_12 C.rd, rR_13 C.rd, rR_14 C.rd, rR_15 C.rd, rR_16 C.rd, rR_17 C.rd, rR_18 C.rd, rR_19 C.rd, aI_of (tR_1 C.rd), aI_of (tR_2 C.rd), aI_of (tR_3 C.rd), aI_of (tR_4 C.rd), aI_of (tR_5 C.rd), aI_of (tR_6 C.rd), aI_of (tR_7 C.rd), aI_of (tR_8 C.rd), aI_of (tR_9 C.rd), aI_of (tR_10 C.rd), aI_of (tR_11 C.rd), C.sc, C.len, C.note, C.e1, C.e2, C.min, C.kd, C.gt, C.bt, C.ip, C.hd]
theorem c_e2 (W : RW ρ) (C : CRd h r ρ) {j : Nat} (hj : j < ρ 0 3) : f_X5_otherEnd h r (nI j) = some (nI (ρ 4 j)) := by
  have := W.ro
  unfold f_X5_otherEnd
  simp (disch := omega) only [ob, nI_lit, nI_add, pk_mul, nI_eq, nI_ltI, nI_leI, if_true, if_false, if_pos, if_neg, ck_of (tR C.rd), gR_of (tR C.rd), gI_of (tR C.rd), rR_9 C.rd, rR_10 C.rd, rR_11 C.rd, rR_12 C.rd, rR_13 C.rd, rR_14 C.rd, rR_15 C.rd, rR_16 C.rd, rR_17 C.rd, rR_18 C.rd, rR_19 C.rd, aI_of (tR_1 C.rd), aI_of (tR_2 C.rd), aI_of (tR_3 C.rd), aI_of (tR_4 C.rd), aI_of (tR_5 C.rd), aI_of (tR_6 C.rd), aI_of (tR_7 C.rd), aI_of (tR_8 C.rd), aI_of (tR_9 C.rd), aI_of (tR_10 C.rd), aI_of (tR_11 C.rd), C.sc, C.len, C.note, C.e1, C.e2, C.min, C.kd, C.gt, C.bt, C.ip, C.hd]
/-! ===== days ===== -/
def dr (s : Nat) : Nat := (75 * s + 74) % 65537
theorem dr_lt (s : Nat) : dr s < 65537 := Nat.mod_lt _ (by decide)
/-- seed, place, how often one went -/
def dyf (ρ : RO) (V : Nat) (q : Nat × Nat × Nat) : Nat × Nat × Nat :=
  if op ρ (dr (dr q.1) % ρ 0 3) V (decide (dr q.1 % 100 < ρ 0 0)) = true then
    (if q.2.1 = ρ 3 (dr (dr q.1) % ρ 0 3) then (dr (dr q.1), ρ 4 (dr (dr q.1) % ρ 0 3), q.2.2 + 1)
     else if q.2.1 = ρ 4 (dr (dr q.1) % ρ 0 3) then (dr (dr q.1), ρ 3 (dr (dr q.1) % ρ 0 3), q.2.2 + 1) else (dr (dr q.1), q.2.1, q.2.2))
  else (dr (dr q.1), q.2.1, q.2.2)
def dy (ρ : RO) (V : Nat) (q : Nat × Nat × Nat) : Nat → Nat × Nat × Nat
  | 0 => q
  | d + 1 => dyf ρ V (dy ρ V q d)
def fw (G : Int32) (P : Nat → Nat) : Nat → Nat
  | 0 => 0
  | d + 1 => if nI (P (d + 1)) = G ∧ fw G P d = 0 then d + 1 else fw G P d
theorem fw_le (G : Int32) (P : Nat → Nat) : ∀ d, fw G P d ≤ d
  | 0 => Nat.le_refl 0
  | d + 1 => by
    have := fw_le G P d
    unfold fw
    split <;> omega
theorem dy_s (ρ : RO) (V : Nat) (q : Nat × Nat × Nat) (hq : q.1 < 65537) : ∀ d, (dy ρ V q d).1 < 65537
  | 0 => hq
  | d + 1 => by
    show (dyf ρ V _).1 < _
    unfold dyf
    repeat' split
    all_goals exact dr_lt _
theorem dy_p (W : RW ρ) (hr : 0 < ρ 0 3) (V : Nat) (q : Nat × Nat × Nat) (hq : q.2.1 < ρ 0 2) : ∀ d, (dy ρ V q d).2.1 < ρ 0 2
  | 0 => hq
  | d + 1 => by
    have ih := dy_p W hr V q hq d
    have hj : dr (dr (dy ρ V q d).1) % ρ 0 3 < ρ 0 3 := Nat.mod_lt _ hr
    show (dyf ρ V _).2.1 < _
    unfold dyf
    repeat' split
    · exact W.e2 _ hj
    · exact W.e1 _ hj
    · exact ih
    · exact ih
theorem dy_w (ρ : RO) (V : Nat) (q : Nat × Nat × Nat) (hq : q.2.2 = 0) : ∀ d, (dy ρ V q d).2.2 ≤ d
  | 0 => by
    show q.2.2 ≤ 0
    omega
  | d + 1 => by
    have ih := dy_w ρ V q hq d
    show (dyf ρ V _).2.2 ≤ d + 1
    unfold dyf
    repeat' split
    all_goals (simp only; omega)
theorem c_draw (S : SH h) (f : Nat → Int32) {s : Nat} (hs : s < 65537) (e : f 0 = nI s) : f_X0_draw (rowI h 54 f) 54 = some (nI (dr s), rowI h 54 (upd f 0 (nI (dr s)))) := by
  unfold f_X0_draw dr
  have S1 := S.row 54 f
  simp (disch := omega) only [ob, nI_lit, nI_add, pk_mul, nI_eq, nI_ltI, nI_leI, if_true, if_false, if_pos, if_neg, ck_of (tS_54 S1), gI_of (tS_54 S1), mI_row, e, irm_of, pI_of (tS_54 S1), rowI_wI, gI_of (tS_54 (S.row 54 (upd f 0 _))), pk_us]
theorem c_walk (S : SH h) (F : Nat → Int32) {p w x y : Nat} (hp : p < 1024) (hx : x < 1024) (hy : y < 1024) (e2 : F 2 = nI p) (e3 : F 3 = nI w) : f_X0_walk (rowI h 54 F) 54 (nI x) (nI y) = some (rowI h 54 (if p = x then upd (upd F 2 (nI y)) 3 (nI (w + 1)) else if p = y then upd (upd F 2 (nI x)) 3 (nI (w + 1)) else F)) := by
  have S1 := S.row 54 F
  have S2 := fun f => S.row 54 f
  unfold f_X0_walk
  simp (disch := omega) only [ob, nI_lit, nI_add, pk_mul, nI_eq, nI_ltI, nI_leI, if_true, if_false, if_pos, if_neg, ck_of (tS_54 S1), gI_of (tS_54 S1), mI_row, e2, pI_of (tS_54 S1), rowI_wI, gI_of (tS_54 (S2 _)), pk_un (show (3 : Nat) ≠ 2 by decide), e3, pI_of (tS_54 (S2 _))]
  repeat' split
  all_goals rfl
theorem c_pass (W : RW ρ) (C : CT h r ρ) (hr : r = 2 ∨ r = 21) (hro : 0 < ρ 0 3) {V n : Nat} (hV : V < 8192) (hV0 : V ≠ 0) (G : Int32) (q0 : Nat × Nat × Nat) (hq1 : q0.1 < 65537) (hq2 : q0.2.1 < ρ 0 2) (hq3 : q0.2.2 = 0) (hn : n ≤ 90) (f0 : Nat → Int32) (e0 : f0 0 = nI q0.1) (e1 : f0 1 = G) (e2 : f0 2 = nI q0.2.1) (e3 : f0 3 = nI 0) (e4 : f0 4 = nI 0) :
    OK (f_X0_pass (rowI h 54 f0) 54 r (nI V) (nI n)) (fun h' => ∃ f, h' = rowI h 54 f ∧ f 2 = nI (dy ρ V q0 n).2.1 ∧ f 3 = nI (dy ρ V q0 n).2.2 ∧ f 4 = nI (fw G (fun d => (dy ρ V q0 d).2.1) n)) := by
  have hro2 := W.ro
  have hpl := W.pl
  have hrain := W.all 0 0
  have S := C.sh
  have key : OK (iter (fun (s : Int32 × Mem) => b_X0_pass_3 s.2 54 r (nI V) (nI n) s.1) FU (nI (0 + 1), rowI h 54 f0)) (fun h' => ∃ f, h' = rowI h 54 f ∧ f 2 = nI (dy ρ V q0 n).2.1 ∧ f 3 = nI (dy ρ V q0 n).2.2 ∧ f 4 = nI (fw G (fun d => (dy ρ V q0 d).2.1) n)) := by
    refine iter_ok (fun d s => ∃ f, s = (nI (d + 1), rowI h 54 f) ∧ f 0 = nI (dy ρ V q0 d).1 ∧ f 1 = G ∧ f 2 = nI (dy ρ V q0 d).2.1 ∧ f 3 = nI (dy ρ V q0 d).2.2 ∧ f 4 = nI (fw G (fun d => (dy ρ V q0 d).2.1) d)) n (FU_lt (by omega)) (fun d s hd hI => ?_) ⟨f0, rfl, e0, e1, e2, by rw [e3]; show nI 0 = nI q0.2.2; rw [hq3], e4⟩
    obtain ⟨f, rfl, g0, g1, g2, g3, g4⟩ := hI
    show OK (b_X0_pass_3 (rowI h 54 f) 54 r (nI V) (nI n) (nI (d + 1))) _
    unfold b_X0_pass_3
    rcases Nat.lt_or_ge d n with hdn | hdn
    · have hs := dy_s ρ V q0 hq1 d
      have hp := dy_p W hro V q0 hq2 d
      have hp' := dy_p W hro V q0 hq2 (d + 1)
      have hw := dy_w ρ V q0 hq3 d
      have hfw := fw_le G (fun d => (dy ρ V q0 d).2.1) d
      generalize hQ : dy ρ V q0 d = Q at *
      have hd1 := dr_lt Q.1
      have hd2 := dr_lt (dr Q.1)
      have hj : dr (dr Q.1) % ρ 0 3 < ρ 0 3 := Nat.mod_lt _ hro
      have Cf : ∀ f', CT (rowI h 54 f') r ρ := fun f' => C.fq (FQ.row (l := [54]) h f' (by decide)) (fun k hk hq => by
        simp only [List.mem_cons, List.not_mem_nil, or_false] at hq
        omega)
      have dw1 := c_draw S f hs g0
      have dw2 := c_draw S (upd f 0 (nI (dr Q.1))) hd1 pk_us
      generalize hF : upd (upd f 0 (nI (dr Q.1))) 0 (nI (dr (dr Q.1))) = F at dw2
      have F0 : F 0 = nI (dr (dr Q.1)) := by rw [← hF, pk_us]
      have Fk : ∀ k, k ≠ 0 → F k = f k := fun k hk => by rw [← hF, pk_un hk, pk_un hk]
      -- the end of the day
      have fin : ∀ f', f' 0 = nI (dy ρ V q0 (d + 1)).1 → f' 1 = G → f' 2 = nI (dy ρ V q0 (d + 1)).2.1 → f' 3 = nI (dy ρ V q0 (d + 1)).2.2 → f' 4 = nI (fw G (fun d => (dy ρ V q0 d).2.1) d) → OK (f_X0_pass_76 (rowI h 54 f') 54 r (nI V) (nI n) (nI (d + 1))) (fun q => match q with | .inl s' => d < n ∧ ∃ f, s' = (nI (d + 1 + 1), rowI h 54 f) ∧ f 0 = nI (dy ρ V q0 (d + 1)).1 ∧ f 1 = G ∧ f 2 = nI (dy ρ V q0 (d + 1)).2.1 ∧ f 3 = nI (dy ρ V q0 (d + 1)).2.2 ∧ f 4 = nI (fw G (fun d => (dy ρ V q0 d).2.1) (d + 1)) | .inr r => ∃ f, r = rowI h 54 f ∧ f 2 = nI (dy ρ V q0 n).2.1 ∧ f 3 = nI (dy ρ V q0 n).2.2 ∧ f 4 = nI (fw G (fun d => (dy ρ V q0 d).2.1) n)) := by
        intro f' k0 k1 k2 k3 k4
        have S1 := S.row 54 f'
        unfold f_X0_pass_76 f_X0_pass_100
        simp (disch := omega) only [ob, nI_lit, nI_add, pk_mul, nI_eq, nI_ltI, nI_leI, if_true, if_false, if_pos, if_neg, gI_of (tS_54 S1), mI_row, k1, k2, k4, pI_of (tS_54 S1), rowI_wI]
        rcases Decidable.em (nI (dy ρ V q0 (d + 1)).2.1 = G) with c1 | c1
        · rcases Decidable.em (fw G (fun d => (dy ρ V q0 d).2.1) d = 0) with c2 | c2
          · rw [if_pos c1, if_pos c2]
            refine ⟨_, rfl, hdn, _, rfl, ?_, ?_, ?_, ?_, ?_⟩
            · rw [pk_un (by decide)]; exact k0
            · rw [pk_un (by decide)]; exact k1
            · rw [pk_un (by decide)]; exact k2
            · rw [pk_un (by decide)]; exact k3
            · rw [pk_us]
              show _ = nI (if _ ∧ _ then d + 1 else _)
              rw [if_pos ⟨c1, c2⟩]
          · rw [if_pos c1, if_neg c2]
            refine ⟨_, rfl, hdn, _, rfl, k0, k1, k2, k3, ?_⟩
            rw [k4]
            show _ = nI (if _ ∧ _ then d + 1 else _)
            rw [if_neg (fun q => c2 q.2)]
        · rw [if_neg c1]
          refine ⟨_, rfl, hdn, _, rfl, k0, k1, k2, k3, ?_⟩
          rw [k4]
          show _ = nI (if _ ∧ _ then d + 1 else _)
          rw [if_neg (fun q => c1 q.1)]
      have hdy : dy ρ V q0 (d + 1) = dyf ρ V Q := by
        show dyf ρ V (dy ρ V q0 d) = _
        rw [hQ]
      have go35 : OK (f_X0_pass_35 (rowI h 54 (upd f 0 (nI (dr Q.1)))) 54 r (nI V) (nI n) (nI (d + 1)) (nI (decide (dr Q.1 % 100 < ρ 0 0)).toNat)) (fun q => match q with | .inl s' => d < n ∧ ∃ f, s' = (nI (d + 1 + 1), rowI h 54 f) ∧ f 0 = nI (dy ρ V q0 (d + 1)).1 ∧ f 1 = G ∧ f 2 = nI (dy ρ V q0 (d + 1)).2.1 ∧ f 3 = nI (dy ρ V q0 (d + 1)).2.2 ∧ f 4 = nI (fw G (fun d => (dy ρ V q0 d).2.1) (d + 1)) | .inr r => ∃ f, r = rowI h 54 f ∧ f 2 = nI (dy ρ V q0 n).2.1 ∧ f 3 = nI (dy ρ V q0 n).2.2 ∧ f 4 = nI (fw G (fun d => (dy ρ V q0 d).2.1) n)) := by
        have CF := Cf F
        have SF := CF.sh
        have he1 := W.e1 _ hj
        have he2 := W.e2 _ hj
        have hwk := c_walk S F (p := Q.2.1) (w := Q.2.2) (x := ρ 3 (dr (dr Q.1) % ρ 0 3)) (y := ρ 4 (dr (dr Q.1) % ρ 0 3)) (by omega) (by omega) (by omega) (by rw [Fk 2 (by decide)]; exact g2) (by rw [Fk 3 (by decide)]; exact g3)
        unfold f_X0_pass_35
        simp (disch := omega) only [ob, nI_lit, nI_add, pk_mul, nI_eq, nI_ltI, nI_leI, if_true, if_false, if_pos, if_neg, dw2, gI_of (tR CF.rd.rd), CF.rd.sc, irm_of, c_open W CF (decide (dr Q.1 % 100 < ρ 0 0)) hj hV hV0, c_e1 W CF.rd hj, c_e2 W CF.rd hj, hwk, nI_b0]
        rcases hop : op ρ (dr (dr Q.1) % ρ 0 3) V (decide (dr Q.1 % 100 < ρ 0 0)) with _ | _
        · rw [if_pos rfl]
          have e9 : dyf ρ V Q = (dr (dr Q.1), Q.2.1, Q.2.2) := by
            unfold dyf
            rw [hop, if_neg (by decide)]
          refine fin F ?_ ?_ ?_ ?_ ?_
          · rw [hdy, e9]; exact F0
          · rw [Fk 1 (by decide)]; exact g1
          · rw [Fk 2 (by decide), hdy, e9]; exact g2
          · rw [Fk 3 (by decide), hdy, e9]; exact g3
          · rw [Fk 4 (by decide)]; exact g4
        · rw [if_neg (by decide)]
          rcases Decidable.em (Q.2.1 = ρ 3 (dr (dr Q.1) % ρ 0 3)) with c1 | c1
          · have e9 : dyf ρ V Q = (dr (dr Q.1), ρ 4 (dr (dr Q.1) % ρ 0 3), Q.2.2 + 1) := by
              unfold dyf
              rw [hop, if_pos rfl, if_pos c1]
            rw [if_pos c1]
            refine fin _ ?_ ?_ ?_ ?_ ?_
            · rw [pk_un (by decide), pk_un (by decide), hdy, e9]; exact F0
            · rw [pk_un (by decide), pk_un (by decide), Fk 1 (by decide)]; exact g1
            · rw [pk_un (by decide), pk_us, hdy, e9]
            · rw [pk_us, hdy, e9]
            · rw [pk_un (by decide), pk_un (by decide), Fk 4 (by decide)]; exact g4
          · rcases Decidable.em (Q.2.1 = ρ 4 (dr (dr Q.1) % ρ 0 3)) with c2 | c2
            · have e9 : dyf ρ V Q = (dr (dr Q.1), ρ 3 (dr (dr Q.1) % ρ 0 3), Q.2.2 + 1) := by
                unfold dyf
                rw [hop, if_pos rfl, if_neg c1, if_pos c2]
              rw [if_neg c1, if_pos c2]
              refine fin _ ?_ ?_ ?_ ?_ ?_
              · rw [pk_un (by decide), pk_un (by decide), hdy, e9]; exact F0
              · rw [pk_un (by decide), pk_un (by decide), Fk 1 (by decide)]; exact g1
              · rw [pk_un (by decide), pk_us, hdy, e9]
              · rw [pk_us, hdy, e9]
              · rw [pk_un (by decide), pk_un (by decide), Fk 4 (by decide)]; exact g4
            · have e9 : dyf ρ V Q = (dr (dr Q.1), Q.2.1, Q.2.2) := by
                unfold dyf
                rw [hop, if_pos rfl, if_neg c1, if_neg c2]
              rw [if_neg c1, if_neg c2]
              refine fin F ?_ ?_ ?_ ?_ ?_
              · rw [hdy, e9]; exact F0
              · rw [Fk 1 (by decide)]; exact g1
              · rw [Fk 2 (by decide), hdy, e9]; exact g2
              · rw [Fk 3 (by decide), hdy, e9]; exact g3
              · rw [Fk 4 (by decide)]; exact g4
      have C1 := Cf (upd f 0 (nI (dr Q.1)))
      simp (disch := omega) only [ob, nI_lit, nI_add, pk_mul, nI_eq, nI_ltI, nI_leI, if_true, if_false, if_pos, if_neg, gI_of (tR (Cf f).rd.rd), (Cf f).rd.sc, dw1, irm_of, gI_of (tR C1.rd.rd), C1.rd.sc]
      rcases Nat.lt_or_ge (dr Q.1 % 100) (ρ 0 0) with c | c
      · rw [if_neg (by omega)]
        rw [decide_eq_true c] at go35
        exact OK.mono go35 (fun q hq => by cases q <;> exact hq)
      · rw [if_pos c]
        rw [decide_eq_false (by omega)] at go35
        exact OK.mono go35 (fun q hq => by cases q <;> exact hq)
    · have : d = n := by omega
      subst this
      simp (disch := omega) only [ob, nI_lit, nI_add, pk_mul, nI_eq, nI_ltI, nI_leI, if_true, if_false, if_pos, if_neg]
      exact ⟨_, rfl, f, rfl, g2, g3, g4⟩
  unfold f_X0_pass
  rw [ck_of (tS_54 (S.row 54 f0)), ob]
  obtain ⟨h', q1, q2⟩ := key
  refine ⟨h', ?_, q2⟩
  have q1' : iter (fun (s : Int32 × Mem) => b_X0_pass_3 s.2 54 r (nI V) (nI n) s.1) FU (1, rowI h 54 f0) = some h' := q1
  rw [q1']
  rfl
end
