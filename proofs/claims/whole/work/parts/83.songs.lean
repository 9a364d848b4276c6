/-! ===== both songs are one ===== -/
theorem pms_head : ∀ m, m < 7 → (pms m (List.range m)).head? = some (List.range m) ∧ (pms m (List.range m)).length ≤ 720 := by decide +kernel
section
variable {h : Mem} {p : Nat} {ρ : RO}
theorem bit_T {c T : Nat} (hc : c < 2 ^ T) {u : Nat} (hu : c.testBit u = true) : u < T := by
  rcases Nat.lt_or_ge u T with q | q
  · exact q
  · rw [Nat.testBit_lt_two_pow (Nat.lt_of_lt_of_le hc (two_le q))] at hu
    cases hu
theorem cls_best (W : RW ρ) {c : Nat} (hc : c < 2 ^ ρ 0 1) : Best (mx ρ c) (bs ρ (wi ρ c) 6 0 6).2 := by
  have hT : ∀ u, c.testBit u = true → u < ρ 0 1 := fun u hu => bit_T hc hu
  obtain ⟨hnd, hT2⟩ := wi_lt W hc
  have e0 : wi ρ c ^^^ (wi ρ c &&& 0) = wi ρ c := by rw [Nat.and_zero, Nat.xor_zero]
  have b := bs_best hnd hT2 6 0 6 (bc_tab _ (rest_lt hnd)).1
  rw [e0] at b
  have b2 := b.rows hnd (wi_dif W hT)
  have e : (fun r => ∃ t, (wi ρ c).testBit t = true ∧ row ρ t = r) = mx ρ c := by
    funext r
    exact propext (wi_mx W hT r)
  rw [e] at b2
  exact b2
theorem lvs_mem {c t : Nat} : t ∈ lvs ρ c (ρ 0 1) ↔ t < ρ 0 1 ∧ lvb ρ c t = true := by
  unfold lvs
  rw [List.mem_filter, List.mem_range]
theorem lvs_nodup (c n : Nat) : (lvs ρ c n).Nodup := List.Pairwise.filter _ List.nodup_range
theorem m_songs (W : RW ρ) (M : MT h p ρ) (hp : 69 ≤ p) {c : Nat} (hc : c < 2 ^ ρ 0 1) : OK (f_X13_songs h 55 (nI c)) (fun h' => FM h h' ∧ mI h' 55 30 = nI (bs ρ (wi ρ c) 6 0 6).2.length ∧ hl (mI h' 63) (bs ρ (wi ρ c) 6 0 6).2) := by
  have htu := W.tu
  have h26 : 2 ^ ρ 0 1 ≤ 2 ^ 6 := two_le htu
  have hT : ∀ u, c.testBit u = true → u < ρ 0 1 := fun u hu => bit_T hc hu
  obtain ⟨h1, e1, F, e2, hF⟩ := m_leaves W M hp (show c < 64 by omega)
  have hll := lvs_len (ρ := ρ) c (ρ 0 1)
  have hnd := lvs_nodup (ρ := ρ) c (ρ 0 1)
  have hmem := fun t => lvs_mem (ρ := ρ) (c := c) (t := t)
  generalize lvs ρ c (ρ 0 1) = ls at *
  have f1 : FQ [55, 64] h h1 := e2 ▸ lfM_f h F _
  have M1 : MT h1 p ρ := M.fq f1 (fun k hk hq => by
    simp only [List.mem_cons, List.not_mem_nil, or_false] at hq
    omega)
  have i31 : mI h1 55 31 = nI ls.length := by
    rw [e2]
    unfold lfM
    rw [mI_wI_at, pk_us]
  have i55 : ∀ k, k ≠ 31 → mI h1 55 k = mI h 55 k := fun k hk => by
    rw [e2]
    unfold lfM
    rw [mI_wI_at, pk_un hk, mI_row_ne _ _ (by decide)]
  have i64 : mI h1 64 = F := by
    rw [e2]
    unfold lfM
    rw [mI_wI_ne _ _ _ (by decide), mI_row]
  have K : LF h1 ρ ls := ⟨by omega, hnd, fun t ht => ((hmem t).1 ht).1, by rw [i64]; exact hF⟩
  have S1 := M1.sh
  obtain ⟨g, hg⟩ : ∃ g, upd (mI h1 55) 30 (nI 49) = g := ⟨_, rfl⟩
  have g31 : g 31 = nI ls.length := by rw [← hg, pk_un (by decide), i31]
  have h2 : wI h1 55 30 (nI 49) = soM h1 (mI h1 61) (mI h1 62) (mI h1 63) g := by
    rw [← hg, ← soM_w55, soM_id]
  have l1 : OK (iter (fun (s : Int32 × Mem) => b_X13_songs_13 s.2 55 s.1) FU (nI 0, soM h1 (mI h1 61) (mI h1 62) (mI h1 63) g)) (fun h' => ∃ A, h' = soM h1 A (mI h1 62) (mI h1 63) g ∧ ∀ j, j < ls.length → A j = nI j) := by
    refine iter_ok (fun i s => ∃ A, s = (nI i, soM h1 A (mI h1 62) (mI h1 63) g) ∧ ∀ j, j < i → A j = nI j) ls.length (FU_lt (by omega)) (fun i s hi hI => ?_) ⟨mI h1 61, rfl, fun j hj => by omega⟩
    obtain ⟨A, rfl, hA⟩ := hI
    show OK (b_X13_songs_13 (soM h1 A (mI h1 62) (mI h1 63) g) 55 (nI i)) _
    have S2 : SH (soM h1 A (mI h1 62) (mI h1 63) g) := S1
    rcases Nat.lt_or_ge i ls.length with d | d
    · have e : b_X13_songs_13 (soM h1 A (mI h1 62) (mI h1 63) g) 55 (nI i) = some (.inl (nI (i + 1), soM h1 (upd A i (nI i)) (mI h1 62) (mI h1 63) g)) := by
        unfold b_X13_songs_13
        simp (disch := omega) only [ob, nI_lit, nI_add, pk_mul, nI_eq, nI_ltI, nI_leI, if_true, if_false, if_pos, if_neg, gI_of (tS_55 S2), gR_of (tS_55 S2), soM_55, g31, rS_55_25 S2, sI_of (tS_61 S2), soM_w61]
      rw [e]
      refine ⟨_, rfl, d, _, rfl, fun j hj => ?_⟩
      rcases Decidable.em (j = i) with z | z
      · rw [z, pk_us]
      · rw [pk_un z]
        exact hA j (by omega)
    · have e : b_X13_songs_13 (soM h1 A (mI h1 62) (mI h1 63) g) 55 (nI i) = some (.inr (soM h1 A (mI h1 62) (mI h1 63) g)) := by
        unfold b_X13_songs_13
        simp (disch := omega) only [ob, nI_lit, nI_add, pk_mul, nI_eq, nI_ltI, nI_leI, if_true, if_false, if_pos, if_neg, gI_of (tS_55 S2), soM_55, g31]
      rw [e]
      exact ⟨_, rfl, A, rfl, fun j hj => hA j (by omega)⟩
  obtain ⟨h3, e3, A, e4, hA⟩ := l1
  obtain ⟨ph, pl⟩ := pms_head ls.length (by omega)
  have pc := chn_all ls.length (by omega)
  have pb := fun (y : List Nat) => @ref_best ρ (mx ρ c) (fun i => ls.getD i 0) ls.length y
  cases hP : pms ls.length (List.range ls.length) with
  | nil => exact absurd hP (pms_ne _)
  | cons x P =>
    have hx : x = List.range ls.length := by
      rw [hP] at ph
      simpa using ph
    have hAx : hl A x := by
      rw [hx]
      intro i hi
      rw [List.length_range] at hi
      rw [hA i hi, getD_at (by rw [List.length_range]; exact hi), List.getElem_range]
    have hO : BO g (mI h1 63) none := by
      show g 30 = nI 49
      rw [← hg, pk_us]
    have pl2 : P.length + 1 ≤ 720 := by
      rw [hP] at pl
      simpa using pl
    have hN : P.length + 2 ≤ FU := FU_lt (n := P.length + 1) (by omega)
    obtain ⟨h4, e5, A', B', E', g', e6, hO', hg'⟩ := m_all W M1 hp K P x FU A (mI h1 62) (mI h1 63) g none hN (by rw [← hP]; exact pc) (fun y hy => by rw [hP]; exact hy) hAx hO g31
    have ef : (x :: P).foldl (fun o x => bst o (so ρ ls x)) none = (P.map (so ρ ls)).foldl bst (some (so ρ ls x)) := by
      rw [List.foldl_cons, List.foldl_map]
      rfl
    rw [ef] at hO'
    obtain ⟨y, y1, y2, y3, y4⟩ := bst_fo (P.map (so ρ ls)) (so ρ ls x)
    rw [y1] at hO'
    have hbest : Best (mx ρ c) y := by
      refine pb y (fun i hi => ?_) (fun i j hi hj e => ?_) (fun r => ?_) ?_ (fun x' hx' => ?_)
      · have := ((hmem _).1 (List.getElem_mem hi)).1
        rw [getD_at hi]
        omega
      · have e := lvb_dif W hT ((hmem _).1 (by rw [getD_at hi]; exact List.getElem_mem hi)).2 ((hmem _).1 (by rw [getD_at hj]; exact List.getElem_mem hj)).2 e
        exact (List.getD_inj hi hj hnd).1 e
      · rw [← lvb_mx W hT]
        constructor
        · rintro ⟨t, ht, e⟩
          have ht2 : t ∈ ls := (hmem t).2 ⟨hT t ((lvb_iff hT).1 ht).1, ht⟩
          obtain ⟨i, hi, e3⟩ := List.mem_iff_getElem.1 ht2
          exact ⟨i, hi, by rw [getD_at hi, e3, e]⟩
        · rintro ⟨i, hi, e⟩
          exact ⟨_, ((hmem _).1 (by rw [getD_at hi]; exact List.getElem_mem hi)).2, e⟩
      · rw [hP]
        rcases y2 with y2 | y2
        · exact ⟨x, List.mem_cons_self .., y2⟩
        · obtain ⟨x', hx', e⟩ := List.mem_map.1 y2
          exact ⟨x', List.mem_cons_of_mem _ hx', e.symm⟩
      · rw [hP] at hx'
        rcases List.mem_cons.1 hx' with e | e
        · rw [e]
          exact y3
        · exact y4 _ (List.mem_map.2 ⟨x', e, rfl⟩)
    have ey := hbest.uniq (cls_best W hc)
    obtain ⟨h30, hE, _, _⟩ := hO'
    unfold f_X13_songs
    simp (disch := omega) only [ob, nI_lit, nI_add, pk_mul, nI_eq, nI_ltI, nI_leI, if_true, if_false, if_pos, if_neg, ck_of (tS_55 M.sh), e1, pI_of (tS_55 S1), h2, e3, e4, e5, e6]
    have k55 : ∀ k, k ≠ 29 → k ≠ 30 → k ≠ 31 → mI (soM h1 A' B' E' g') 55 k = mI h 55 k := fun k q1 q2 q3 => by
      rw [soM_55, hg' k q1 q2, ← hg, pk_un q2, i55 k q3]
    refine ⟨_, rfl, ⟨(f1.sub (by decide)).tr ((soM_f h1 A' B' E' g').sub (by decide)), ⟨k55 6 (by decide) (by decide) (by decide), k55 12 (by decide) (by decide) (by decide), k55 19 (by decide) (by decide) (by decide), k55 20 (by decide) (by decide) (by decide)⟩, ?_⟩, ?_, ?_⟩
    · rw [(soM_f h1 A' B' E' g').2.2.2.2 65 (by decide), f1.2.2.2.2 65 (by decide)]
    · rw [soM_55, h30, ey]
    · rw [soM_63, ← ey]
      exact hE
end
