/-! ===== days in the reference ===== -/
theorem m_drawn (h : Mem) {s : Nat} (hs : s < 65537) : f_X13_drawn h (nI s) = some (nI (dr s)) := by
  unfold f_X13_drawn dr
  rw [nI_l (by omega), show (75 : Int64) = lN 75 from rfl, show (74 : Int64) = lN 74 from rfl, show (65537 : Int64) = lN 65537 from rfl, lN_mul, lN_add, pk_lRem (by omega) (by decide) (by decide), lN_i]
section
variable {h : Mem} {p : Nat} {ρ ν : RO}
theorem m_days (W : RW ρ) (M : MT h p ρ) (N : mNw h ν) (hp69 : 69 ≤ p) (hro : 0 < ρ 0 3) {x n s0 : Nat} (hx : x < 4) (h0 : ν 0 x < ρ 0 2) (h2 : ν 2 x < 64) (h3 : ν 3 x < 64) (hs0 : s0 < 65537) (G : Int32) (hn : n ≤ 90) :
    OK (f_X13_roamsBy h 55 (nI x) (nI s0) (nI n) G) (fun h' => ∃ f, h' = rowI h 55 f ∧ (∀ k, k ≠ 37 → k ≠ 38 → k ≠ 39 → f k = mI h 55 k) ∧ f 37 = nI (dy ρ (vo (ν 2 x) (ν 3 x)) (s0, ν 0 x, 0) n).2.1 ∧ f 38 = nI (dy ρ (vo (ν 2 x) (ν 3 x)) (s0, ν 0 x, 0) n).2.2 ∧ f 39 = nI (fw G (fun d => (dy ρ (vo (ν 2 x) (ν 3 x)) (s0, ν 0 x, 0) d).2.1) n)) := by
  have hro2 := W.ro
  have hpl := W.pl
  have hrain := W.all 0 0
  have S := M.sh
  have n0 := N.at x 0 hx (by decide)
  have n2 := N.at x 2 hx (by decide)
  have n3 := N.at x 3 hx (by decide)
  simp only [Nat.reduceMul] at n0 n2 n3
  generalize hV : vo (ν 2 x) (ν 3 x) = V
  generalize hq0 : ((s0, ν 0 x, 0) : Nat × Nat × Nat) = q0
  have hq1 : q0.1 < 65537 := by rw [← hq0]; exact hs0
  have hq2 : q0.2.1 < ρ 0 2 := by rw [← hq0]; exact h0
  have hq3 : q0.2.2 = 0 := by rw [← hq0]
  let f0 : Nat → Int32 := upd (upd (upd (mI h 55) 37 (nI (ν 0 x))) 38 (nI 0)) 39 (nI 0)
  have key : OK (iter (fun (s : Int32 × Int32 × Mem) => b_X13_roamsBy_28 s.2.2 55 (nI x) (nI n) G s.1 s.2.1) FU (nI s0, nI (0 + 1), rowI h 55 f0)) (fun h' => ∃ f, h' = rowI h 55 f ∧ (∀ k, k ≠ 37 → k ≠ 38 → k ≠ 39 → f k = mI h 55 k) ∧ f 37 = nI (dy ρ V q0 n).2.1 ∧ f 38 = nI (dy ρ V q0 n).2.2 ∧ f 39 = nI (fw G (fun d => (dy ρ V q0 d).2.1) n)) := by
    refine iter_ok (fun d s => ∃ f, s = (nI (dy ρ V q0 d).1, nI (d + 1), rowI h 55 f) ∧ (∀ k, k ≠ 37 → k ≠ 38 → k ≠ 39 → f k = mI h 55 k) ∧ f 37 = nI (dy ρ V q0 d).2.1 ∧ f 38 = nI (dy ρ V q0 d).2.2 ∧ f 39 = nI (fw G (fun d => (dy ρ V q0 d).2.1) d)) n (FU_lt (by omega)) (fun d s hd hI => ?_) ⟨f0, by rw [← hq0]; rfl, fun k h1 h2 h3 => by
        show upd (upd (upd (mI h 55) 37 (nI (ν 0 x))) 38 (nI 0)) 39 (nI 0) k = _
        rw [pk_un h3, pk_un h2, pk_un h1], by
        show upd (upd (upd (mI h 55) 37 (nI (ν 0 x))) 38 (nI 0)) 39 (nI 0) 37 = _
        rw [pk_un (by decide), pk_un (by decide), pk_us, ← hq0]; rfl, by
        show upd (upd (upd (mI h 55) 37 (nI (ν 0 x))) 38 (nI 0)) 39 (nI 0) 38 = _
        rw [pk_un (by decide), pk_us, ← hq0]; rfl, by
        show upd (upd (upd (mI h 55) 37 (nI (ν 0 x))) 38 (nI 0)) 39 (nI 0) 39 = _
        rw [pk_us]; rfl⟩
    obtain ⟨f, rfl, gk, g2, g3, g4⟩ := hI
    show OK (b_X13_roamsBy_28 (rowI h 55 f) 55 (nI x) (nI n) G (nI (dy ρ V q0 d).1) (nI (d + 1))) _
    unfold b_X13_roamsBy_28
    rcases Nat.lt_or_ge d n with hdn | hdn
    · have hs := dy_s ρ V q0 hq1 d
      have hp := dy_p W hro V q0 hq2 d
      have hp' := dy_p W hro V q0 hq2 (d + 1)
      have hw := dy_w ρ V q0 hq3 d
      have hfw := fw_le G (fun d => (dy ρ V q0 d).2.1) d
      generalize hQ : dy ρ V q0 d = Q at *
      have hd1 := dr_lt Q.1
      have hd2 := dr_lt (dr Q.1)
      have hdy : dy ρ V q0 (d + 1) = dyf ρ V Q := by
        show dyf ρ V (dy ρ V q0 d) = _
        rw [hQ]
      have w1 := fun m => m_drawn m hs
      have w2 := fun m => m_drawn m hd1
      unfold dyf at hdy
      generalize dr (dr Q.1) = D2 at *
      generalize dr Q.1 = D1 at *
      have hj : D2 % ρ 0 3 < ρ 0 3 := Nat.mod_lt _ hro
      have he1 := W.e1 _ hj
      have he2 := W.e2 _ hj
      have Mf : ∀ f', MT (rowI h 55 f') p ρ := fun f' => M.fq (FQ.row (l := [55]) h f' (by decide)) (fun k hk hq => by
        simp only [List.mem_cons, List.not_mem_nil, or_false] at hq
        omega)
      -- the end of the day
      have fin : ∀ f', (∀ k, k ≠ 37 → k ≠ 38 → k ≠ 39 → f' k = mI h 55 k) → f' 37 = nI (dy ρ V q0 (d + 1)).2.1 → f' 38 = nI (dy ρ V q0 (d + 1)).2.2 → f' 39 = nI (fw G (fun d => (dy ρ V q0 d).2.1) d) → OK (f_X13_roamsBy_189 (rowI h 55 f') 55 (nI x) (nI n) G (nI D2) (nI (d + 1))) (fun q => match q with | .inl s' => d < n ∧ ∃ f, s' = (nI (dy ρ V q0 (d + 1)).1, nI (d + 1 + 1), rowI h 55 f) ∧ (∀ k, k ≠ 37 → k ≠ 38 → k ≠ 39 → f k = mI h 55 k) ∧ f 37 = nI (dy ρ V q0 (d + 1)).2.1 ∧ f 38 = nI (dy ρ V q0 (d + 1)).2.2 ∧ f 39 = nI (fw G (fun d => (dy ρ V q0 d).2.1) (d + 1)) | .inr r => ∃ f, r = rowI h 55 f ∧ (∀ k, k ≠ 37 → k ≠ 38 → k ≠ 39 → f k = mI h 55 k) ∧ f 37 = nI (dy ρ V q0 n).2.1 ∧ f 38 = nI (dy ρ V q0 n).2.2 ∧ f 39 = nI (fw G (fun d => (dy ρ V q0 d).2.1) n)) := by
        intro f' kk k2 k3 k4
        have S1 := S.row 55 f'
        have es : nI D2 = nI (dy ρ V q0 (d + 1)).1 := by
          rw [hdy]
          repeat' split
          all_goals rfl
        rw [es]
        unfold f_X13_roamsBy_189 f_X13_roamsBy_211
        simp (disch := omega) only [ob, nI_lit, nI_add, pk_mul, nI_eq, nI_ltI, nI_leI, if_true, if_false, if_pos, if_neg, gI_of (tS_55 S1), mI_row, k2, k4, pI_of (tS_55 S1), rowI_wI]
        rcases Decidable.em (fw G (fun d => (dy ρ V q0 d).2.1) d = 0) with c2 | c2
        · rcases Decidable.em (nI (dy ρ V q0 (d + 1)).2.1 = G) with c1 | c1
          · rw [if_pos c2, if_pos c1]
            refine ⟨_, rfl, hdn, _, rfl, fun k h1 h2 h3 => ?_, ?_, ?_, ?_⟩
            · rw [pk_un h3]; exact kk k h1 h2 h3
            · rw [pk_un (by decide)]; exact k2
            · rw [pk_un (by decide)]; exact k3
            · rw [pk_us]
              show _ = nI (if _ ∧ _ then d + 1 else _)
              rw [if_pos ⟨c1, c2⟩]
          · rw [if_pos c2, if_neg c1]
            refine ⟨_, rfl, hdn, _, rfl, kk, k2, k3, ?_⟩
            rw [k4]
            show _ = nI (if _ ∧ _ then d + 1 else _)
            rw [if_neg (fun q => c1 q.1)]
        · rw [if_neg c2]
          refine ⟨_, rfl, hdn, _, rfl, kk, k2, k3, ?_⟩
          rw [k4]
          show _ = nI (if _ ∧ _ then d + 1 else _)
          rw [if_neg (fun q => c2 q.2)]
      have MF := Mf f
      have SF := MF.sh
      have NF' : mNw (rowI h 55 f) ν := by
        show rM (mI (rowI h 55 f) 57) 0 ν
        rw [mI_row_ne _ _ (by decide)]
        exact N
      have m0 := NF'.at x 0 hx (by decide)
      have m2 := NF'.at x 2 hx (by decide)
      have m3 := NF'.at x 3 hx (by decide)
      simp only [Nat.reduceMul] at m0 m2 m3
      have hpq : pq ρ (ρ 3 (D2 % ρ 0 3)) (ρ 4 (D2 % ρ 0 3)) (vo (ν 2 x) (ν 3 x)) (decide (D1 % 100 < ρ 0 0)) = op ρ (D2 % ρ 0 3) V (decide (D1 % 100 < ρ 0 0)) := by
        unfold pq
        rw [W.b1 _ hj, hV]
        simp
      have mp := m_passes W MF (kn := ν 2 x) (fg := ν 3 x) (decide (D1 % 100 < ρ 0 0)) he1 he2 h2 h3
      rw [hpq] at mp
      have go61 : OK (f_X13_roamsBy_61 (rowI h 55 f) 55 (nI x) (nI n) G (nI D1) (nI (d + 1)) (nI (decide (D1 % 100 < ρ 0 0)).toNat)) (fun q => match q with | .inl s' => d < n ∧ ∃ f, s' = (nI (dy ρ V q0 (d + 1)).1, nI (d + 1 + 1), rowI h 55 f) ∧ (∀ k, k ≠ 37 → k ≠ 38 → k ≠ 39 → f k = mI h 55 k) ∧ f 37 = nI (dy ρ V q0 (d + 1)).2.1 ∧ f 38 = nI (dy ρ V q0 (d + 1)).2.2 ∧ f 39 = nI (fw G (fun d => (dy ρ V q0 d).2.1) (d + 1)) | .inr r => ∃ f, r = rowI h 55 f ∧ (∀ k, k ≠ 37 → k ≠ 38 → k ≠ 39 → f k = mI h 55 k) ∧ f 37 = nI (dy ρ V q0 n).2.1 ∧ f 38 = nI (dy ρ V q0 n).2.2 ∧ f 39 = nI (fw G (fun d => (dy ρ V q0 d).2.1) n)) := by
        have go128 : Q.2.1 = ρ 3 (D2 % ρ 0 3) ∨ Q.2.1 = ρ 4 (D2 % ρ 0 3) → OK (f_X13_roamsBy_128 (rowI h 55 f) 55 (nI x) (nI n) G (nI D2) (nI (d + 1)) (nI (decide (D1 % 100 < ρ 0 0)).toNat) (nI (ρ 3 (D2 % ρ 0 3))) (nI (ρ 4 (D2 % ρ 0 3)))) (fun q => match q with | .inl s' => d < n ∧ ∃ f, s' = (nI (dy ρ V q0 (d + 1)).1, nI (d + 1 + 1), rowI h 55 f) ∧ (∀ k, k ≠ 37 → k ≠ 38 → k ≠ 39 → f k = mI h 55 k) ∧ f 37 = nI (dy ρ V q0 (d + 1)).2.1 ∧ f 38 = nI (dy ρ V q0 (d + 1)).2.2 ∧ f 39 = nI (fw G (fun d => (dy ρ V q0 d).2.1) (d + 1)) | .inr r => ∃ f, r = rowI h 55 f ∧ (∀ k, k ≠ 37 → k ≠ 38 → k ≠ 39 → f k = mI h 55 k) ∧ f 37 = nI (dy ρ V q0 n).2.1 ∧ f 38 = nI (dy ρ V q0 n).2.2 ∧ f 39 = nI (fw G (fun d => (dy ρ V q0 d).2.1) n)) := by
          intro hor
          unfold f_X13_roamsBy_128 f_X13_roamsBy_176
          simp (disch := omega) only [ob, nI_lit, nI_add, pk_mul, nI_eq, nI_ltI, nI_leI, if_true, if_false, if_pos, if_neg, gR_of (tS_55 SF), rS_55_16 SF, aI_of (tS_57 SF), m2, m3, mp, gI_of (tS_55 SF), mI_row, g2, pI_of (tS_55 SF), rowI_wI, nI_b0]
          rcases hop : op ρ (D2 % ρ 0 3) V (decide (D1 % 100 < ρ 0 0)) with _ | _
          · rw [if_pos rfl]
            have e9 : dy ρ V q0 (d + 1) = (D2, Q.2.1, Q.2.2) := by
              rw [hdy]
              rw [hop, if_neg (by decide)]
            refine fin f gk ?_ ?_ g4
            · rw [e9]; exact g2
            · rw [e9]; exact g3
          · rw [if_neg (by decide)]
            rcases Decidable.em (Q.2.1 = ρ 3 (D2 % ρ 0 3)) with c1 | c1
            · have e9 : dy ρ V q0 (d + 1) = (D2, ρ 4 (D2 % ρ 0 3), Q.2.2 + 1) := by
                rw [hdy]
                rw [hop, if_pos rfl, if_pos c1]
              have S2 := S.row 55 (upd f 37 (nI (ρ 4 (D2 % ρ 0 3))))
              rw [if_pos c1]
              simp (disch := omega) only [ob, nI_lit, nI_add, pk_mul, nI_eq, nI_ltI, nI_leI, if_true, if_false, if_pos, if_neg, gI_of (tS_55 S2), mI_row, pk_un (show (38 : Nat) ≠ 37 by decide), g3, pI_of (tS_55 S2), rowI_wI]
              refine fin _ (fun k h1 h2 h3 => ?_) ?_ ?_ ?_
              · rw [pk_un h2, pk_un h1]; exact gk k h1 h2 h3
              · rw [pk_un (by decide), pk_us, e9]
              · rw [pk_us, e9]
              · rw [pk_un (by decide), pk_un (by decide)]; exact g4
            · have c2 := hor.resolve_left c1
              have e9 : dy ρ V q0 (d + 1) = (D2, ρ 3 (D2 % ρ 0 3), Q.2.2 + 1) := by
                rw [hdy]
                rw [hop, if_pos rfl, if_neg c1, if_pos c2]
              have S2 := S.row 55 (upd f 37 (nI (ρ 3 (D2 % ρ 0 3))))
              rw [if_neg c1]
              simp (disch := omega) only [ob, nI_lit, nI_add, pk_mul, nI_eq, nI_ltI, nI_leI, if_true, if_false, if_pos, if_neg, gI_of (tS_55 S2), mI_row, pk_un (show (38 : Nat) ≠ 37 by decide), g3, pI_of (tS_55 S2), rowI_wI]
              refine fin _ (fun k h1 h2 h3 => ?_) ?_ ?_ ?_
              · rw [pk_un h2, pk_un h1]; exact gk k h1 h2 h3
              · rw [pk_un (by decide), pk_us, e9]
              · rw [pk_us, e9]
              · rw [pk_un (by decide), pk_un (by decide)]; exact g4
        unfold f_X13_roamsBy_61
        rw [w2, ob]
        simp (disch := omega) only [ob, nI_lit, nI_add, pk_mul, nI_eq, nI_ltI, nI_leI, if_true, if_false, if_pos, if_neg, gR_of (tS_55 SF), MF.pp, gR_of (tP MF.rd.pk), rP_15 MF.rd.pk, rP_16 MF.rd.pk, gI_of (tP MF.rd.pk), MF.rd.sc, irm_of, aI_of (tP_6 MF.rd.pk), aI_of (tP_7 MF.rd.pk), MF.rd.e1, MF.rd.e2, gI_of (tS_55 SF), mI_row, g2]
        rcases Decidable.em (Q.2.1 = ρ 3 (D2 % ρ 0 3)) with c1 | c1
        · rw [if_pos c1]
          exact go128 (Or.inl c1)
        · rw [if_neg c1]
          rcases Decidable.em (Q.2.1 = ρ 4 (D2 % ρ 0 3)) with c2 | c2
          · rw [if_pos c2]
            exact go128 (Or.inr c2)
          · rw [if_neg c2]
            have e9 : dy ρ V q0 (d + 1) = (D2, Q.2.1, Q.2.2) := by
              rw [hdy]
              rw [if_neg c1, if_neg c2]
              split <;> rfl
            refine fin f gk ?_ ?_ g4
            · rw [e9]; exact g2
            · rw [e9]; exact g3
      rw [w1, ob]
      simp (disch := omega) only [ob, nI_lit, nI_add, pk_mul, nI_eq, nI_ltI, nI_leI, if_true, if_false, if_pos, if_neg, irm_of, gR_of (tS_55 SF), MF.pp, gI_of (tP MF.rd.pk), MF.rd.sc]
      rcases Nat.lt_or_ge (D1 % 100) (ρ 0 0) with c | c
      · rw [if_neg (by omega)]
        rw [decide_eq_true c] at go61
        exact OK.mono go61 (fun q hq => by cases q <;> exact hq)
      · rw [if_pos c]
        rw [decide_eq_false (by omega)] at go61
        exact OK.mono go61 (fun q hq => by cases q <;> exact hq)
    · have : d = n := by omega
      subst this
      simp (disch := omega) only [ob, nI_lit, nI_add, pk_mul, nI_eq, nI_ltI, nI_leI, if_true, if_false, if_pos, if_neg]
      exact ⟨_, rfl, f, rfl, gk, g2, g3, g4⟩
  obtain ⟨h', q1, q2⟩ := key
  refine ⟨h', ?_, q2⟩
  have e37 : wI (wI (wI h 55 37 (nI (ν 0 x))) 55 38 (nI 0)) 55 39 (nI 0) = rowI h 55 f0 := by
    rw [show wI h 55 37 (nI (ν 0 x)) = rowI h 55 (upd (mI h 55) 37 (nI (ν 0 x))) from rfl, rowI_wI, rowI_wI]
  unfold f_X13_roamsBy
  simp (disch := omega) only [ob, nI_lit, nI_add, pk_mul, nI_eq, nI_ltI, nI_leI, if_true, if_false, if_pos, if_neg, ck_of (tS_55 S), gR_of (tS_55 S), rS_55_16 S, aI_of (tS_57 S), n0, pI_of (tS_55 S), pI_of (tS_55 (S.wI 55 37 _)), pI_of (tS_55 ((S.wI 55 37 _).wI 55 38 _)), e37]
  have q1' : iter (fun (s : Int32 × Int32 × Mem) => b_X13_roamsBy_28 s.2.2 55 (nI x) (nI n) G s.1 s.2.1) FU (nI s0, nI 1, rowI h 55 f0) = some h' := q1
  rw [q1']
  rfl
end
