/-! ===== the reference lays a song ===== -/
def soM (h : Mem) (A B E g : Nat → Int32) : Mem := rowI (rowI (rowI (rowI h 61 A) 62 B) 63 E) 55 g
theorem soM_i (h : Mem) (A B E g : Nat → Int32) (x : Nat) : mI (soM h A B E g) x = if x = 55 then g else if x = 63 then E else if x = 62 then B else if x = 61 then A else mI h x := by
  unfold soM
  rcases Decidable.em (x = 55) with e | e
  · subst e
    rw [if_pos rfl, mI_row]
  · rw [if_neg e, mI_row_ne _ _ e]
    rcases Decidable.em (x = 63) with e | e
    · subst e
      rw [if_pos rfl, mI_row]
    · rw [if_neg e, mI_row_ne _ _ e]
      rcases Decidable.em (x = 62) with e | e
      · subst e
        rw [if_pos rfl, mI_row]
      · rw [if_neg e, mI_row_ne _ _ e]
        rcases Decidable.em (x = 61) with e | e
        · subst e
          rw [if_pos rfl, mI_row]
        · rw [if_neg e, mI_row_ne _ _ e]
theorem soM_55 (h : Mem) (A B E g : Nat → Int32) : mI (soM h A B E g) 55 = g := by rw [soM_i]; rfl
theorem soM_61 (h : Mem) (A B E g : Nat → Int32) : mI (soM h A B E g) 61 = A := by rw [soM_i]; rfl
theorem soM_62 (h : Mem) (A B E g : Nat → Int32) : mI (soM h A B E g) 62 = B := by rw [soM_i]; rfl
theorem soM_63 (h : Mem) (A B E g : Nat → Int32) : mI (soM h A B E g) 63 = E := by rw [soM_i]; rfl
theorem soM_64 (h : Mem) (A B E g : Nat → Int32) : mI (soM h A B E g) 64 = mI h 64 := by rw [soM_i]; rfl
theorem soM_f (h : Mem) (A B E g : Nat → Int32) : FQ [55, 61, 62, 63] h (soM h A B E g) := (FQ.row h A (by decide)).tr ((FQ.row _ B (by decide)).tr ((FQ.row _ E (by decide)).tr (FQ.row _ g (by decide))))
theorem soM_w {h h' : Mem} {A B E g A' B' E' g' : Nat → Int32} {y k : Nat} {v : Int32} (e : ∀ x, (if x = y then upd (mI (soM h A B E g) y) k v else mI (soM h A B E g) x) = mI (soM h A' B' E' g') x) : wI (soM h A B E g) y k v = soM h A' B' E' g' := by
  refine mem_ext (fun x => ?_) rfl rfl rfl rfl
  rw [← e x]
  rcases Decidable.em (x = y) with q | q
  · subst q
    rw [mI_wI_at, if_pos rfl]
  · rw [mI_wI_ne _ _ _ q, if_neg q]
theorem soM_w55 (h : Mem) (A B E g : Nat → Int32) (k : Nat) (v : Int32) : wI (soM h A B E g) 55 k v = soM h A B E (upd g k v) := by
  refine soM_w (h' := h) (fun x => ?_)
  rw [soM_55, soM_i, soM_i]
  rcases Decidable.em (x = 55) with e | e
  · simp only [e, if_true]
  · simp only [e, if_false]
theorem soM_w61 (h : Mem) (A B E g : Nat → Int32) (k : Nat) (v : Int32) : wI (soM h A B E g) 61 k v = soM h (upd A k v) B E g := by
  refine soM_w (h' := h) (fun x => ?_)
  rw [soM_61, soM_i, soM_i]
  rcases Decidable.em (x = 61) with e | e
  · subst e
    rfl
  · simp only [e, if_false]
theorem soM_w62 (h : Mem) (A B E g : Nat → Int32) (k : Nat) (v : Int32) : wI (soM h A B E g) 62 k v = soM h A (upd B k v) E g := by
  refine soM_w (h' := h) (fun x => ?_)
  rw [soM_62, soM_i, soM_i]
  rcases Decidable.em (x = 62) with e | e
  · subst e
    rfl
  · simp only [e, if_false]
theorem soM_w63 (h : Mem) (A B E g : Nat → Int32) (k : Nat) (v : Int32) : wI (soM h A B E g) 63 k v = soM h A B (upd E k v) g := by
  refine soM_w (h' := h) (fun x => ?_)
  rw [soM_63, soM_i, soM_i]
  rcases Decidable.em (x = 63) with e | e
  · subst e
    rfl
  · simp only [e, if_false]
theorem soM_id (h : Mem) : soM h (mI h 61) (mI h 62) (mI h 63) (mI h 55) = h := by
  unfold soM
  rw [rowI_id, rowI_id, rowI_id, rowI_id]
section
variable {h : Mem} {p : Nat} {ρ : RO}
theorem MT.so (M : MT h p ρ) (hp : 69 ≤ p) (A B E g : Nat → Int32) : MT (soM h A B E g) p ρ := M.fq (soM_f h A B E g) (fun k hk hq => by
  simp only [List.mem_cons, List.not_mem_nil, or_false] at hq
  omega)
theorem sgT_snoc2 (s t : Nat) : ∀ (xs : List Nat) (l : Nat), sgT ρ l (xs ++ [s] ++ [t]) = sgT ρ l (xs ++ [s]) ++ tl ρ t (o7 ρ s t)
  | [], l => by simp [sgT]
  | x :: xs, l => by
    have := sgT_snoc2 s t xs x
    show tl ρ x (o7 ρ l x) ++ sgT ρ x (xs ++ [s] ++ [t]) = tl ρ x (o7 ρ l x) ++ sgT ρ x (xs ++ [s]) ++ _
    rw [this, List.append_assoc]
def oj (ρ : RO) (ts : List Nat) (j : Nat) : Nat := if j = 0 then 0 else ov ρ (ts.getD (j - 1) 0) (ts.getD j 0)
theorem getD_at {ts : List Nat} {j : Nat} (hj : j < ts.length) : ts.getD j 0 = ts[j] := by
  rw [List.getD_eq_getElem?_getD, List.getElem?_eq_getElem hj]
  rfl
theorem sgT_take {ts : List Nat} (hn : ts.Nodup) (h6 : ∀ t, t ∈ ts → t < 6) : ∀ j, j < ts.length → sgT ρ 6 (ts.take (j + 1)) = sgT ρ 6 (ts.take j) ++ tl ρ (ts.getD j 0) (oj ρ ts j)
  | 0 => fun hj => by
    rw [List.take_succ_eq_append_getElem hj, getD_at hj]
    show tl ρ ts[0] (o7 ρ 6 ts[0]) ++ [] = [] ++ tl ρ ts[0] 0
    rw [List.append_nil, List.nil_append]
    rfl
  | j + 1 => fun hj => by
    rw [List.take_succ_eq_append_getElem hj, List.take_succ_eq_append_getElem (show j < ts.length by omega), sgT_snoc2, getD_at hj]
    congr 2
    have e1 : ts[j] < 6 := h6 _ (List.getElem_mem _)
    have e2 : ts[j] ≠ ts[j + 1] := fun e => by
      have := (List.getElem_inj hn).1 e
      omega
    unfold o7 oj
    rw [if_neg (by omega), if_neg e2, if_neg (by omega), getD_at hj, Nat.add_sub_cancel, getD_at (show j < ts.length by omega)]
theorem sgT_len (W : RW ρ) : ∀ (ts : List Nat) (l : Nat), (∀ t, t ∈ ts → t < ρ 0 1) → (sgT ρ l ts).length ≤ 8 * ts.length
  | [], _, _ => by simp [sgT]
  | t :: ts, l, ht => by
    have := sgT_len W ts t (fun u hu => ht u (List.mem_cons_of_mem _ hu))
    have := W.len t (ht t (List.mem_cons_self ..))
    show (tl ρ t (o7 ρ l t) ++ sgT ρ t ts).length ≤ _
    rw [List.length_append, tl_len, List.length_cons]
    omega
/-- what the orders and the tunes left are, in a memory -/
def OT (A F : Nat → Int32) (ρ : RO) (ts : List Nat) : Prop := (ts.length ≤ 6) ∧ (ts.Nodup) ∧ (∀ t, t ∈ ts → t < ρ 0 1) ∧ (∀ j, j < ts.length → ∃ k, k < 6 ∧ A j = nI k ∧ F k = nI (ts.getD j 0))
theorem OT.le {A F : Nat → Int32} {ρ : RO} {ts : List Nat} (H : OT A F ρ ts) : ts.length ≤ 6 := H.1
theorem OT.nd {A F : Nat → Int32} {ρ : RO} {ts : List Nat} (H : OT A F ρ ts) : ts.Nodup := H.2.1
theorem OT.lt {A F : Nat → Int32} {ρ : RO} {ts : List Nat} (H : OT A F ρ ts) : ∀ t, t ∈ ts → t < ρ 0 1 := H.2.2.1
theorem OT.at {A F : Nat → Int32} {ρ : RO} {ts : List Nat} (H : OT A F ρ ts) : ∀ j, j < ts.length → ∃ k, k < 6 ∧ A j = nI k ∧ F k = nI (ts.getD j 0) := H.2.2.2
theorem m_lay1 (W : RW ρ) (M : MT h p ρ) (hp : 69 ≤ p) {A B E g : Nat → Int32} {t o j : Nat} {y : List Nat} (ht : t < ρ 0 1) (ho : o ≤ ρ 1 t) (hy : y.length ≤ 40) (hB : hl B y) (h29 : g 29 = nI y.length) : OK (iter (fun (s : Int32 × Mem) => b_X13_laysSong_57 s.2 55 (nI j) (nI t) s.1) FU (nI o, soM h A B E g)) (fun h' => ∃ B' g', h' = soM h A B' E g' ∧ hl B' (y ++ tl ρ t o) ∧ g' 29 = nI (y ++ tl ρ t o).length ∧ ∀ k, k ≠ 29 → g' k = g k) := by
  have hlen := W.len t ht
  have htu := W.tu
  refine iter_ok (fun i s => ∃ B' g', s = (nI (o + i), soM h A B' E g') ∧ hl B' (y ++ (tl ρ t o).take i) ∧ g' 29 = nI (y.length + i) ∧ ∀ k, k ≠ 29 → g' k = g k) (ρ 1 t - o) (FU_lt (by omega)) (fun i s hi hI => ?_) ⟨B, g, rfl, by simpa using hB, by simpa using h29, fun k _ => rfl⟩
  obtain ⟨B, g', rfl, hB, h29, hg⟩ := hI
  show OK (b_X13_laysSong_57 (soM h A B E g') 55 (nI j) (nI t) (nI (o + i))) _
  have M2 := M.so hp A B E g'
  have M3 := M.so hp A (upd B (y.length + i) (nI (ρ 2 (8 * t + (o + i))))) E g'
  rcases Nat.lt_or_ge i (ρ 1 t - o) with c | c
  · have e : b_X13_laysSong_57 (soM h A B E g') 55 (nI j) (nI t) (nI (o + i)) = some (.inl (nI (o + (i + 1)), soM h A (upd B (y.length + i) (nI (ρ 2 (8 * t + (o + i))))) E (upd g' 29 (nI (y.length + i + 1))))) := by
      unfold b_X13_laysSong_57
      simp (disch := omega) only [ob, nI_lit, nI_add, pk_mul, nI_eq, nI_ltI, nI_leI, if_true, if_false, if_pos, if_neg, gR_of (tS_55 M2.sh), M2.pp, gR_of (tP M2.rd.pk), rP_10 M2.rd.pk, aI_of (tP_1 M2.rd.pk), M2.rd.len, rS_55_26 M2.sh, gI_of (tS_55 M2.sh), soM_55, h29, m_note W M2 ht (show o + i < ρ 1 t by omega), sI_of (tS_62 M2.sh), soM_w62, gI_of (tS_55 M3.sh), pI_of (tS_55 M3.sh), soM_w55]
      rfl
    rw [e]
    refine ⟨_, rfl, c, _, _, rfl, ?_, by rw [pk_us]; rfl, fun k hk => by rw [pk_un hk]; exact hg k hk⟩
    have hlt : i < (tl ρ t o).length := by rw [tl_len]; exact c
    rw [List.take_succ_eq_append_getElem hlt, tl_at hlt, ← List.append_assoc]
    have hle : (y ++ (tl ρ t o).take i).length = y.length + i := by
      rw [List.length_append, List.length_take, tl_len]
      omega
    have := hl_snoc hB (ρ 2 (8 * t + (o + i)))
    rw [hle] at this
    exact this
  · have e : b_X13_laysSong_57 (soM h A B E g') 55 (nI j) (nI t) (nI (o + i)) = some (.inr (soM h A B E g')) := by
      unfold b_X13_laysSong_57
      simp (disch := omega) only [ob, nI_lit, nI_add, pk_mul, nI_eq, nI_ltI, nI_leI, if_true, if_false, if_pos, if_neg, gR_of (tS_55 M2.sh), M2.pp, gR_of (tP M2.rd.pk), rP_10 M2.rd.pk, aI_of (tP_1 M2.rd.pk), M2.rd.len]
    rw [e]
    have hle : (tl ρ t o).take i = tl ρ t o := List.take_of_length_le (by rw [tl_len]; exact c)
    rw [hle] at hB
    refine ⟨_, rfl, B, g', rfl, hB, ?_, hg⟩
    rw [h29, List.length_append, tl_len]
    congr 1
    omega
theorem m_lay (W : RW ρ) (M : MT h p ρ) (hp : 69 ≤ p) {A B E g : Nat → Int32} {ts : List Nat} (O : OT A (mI h 64) ρ ts) (h31 : g 31 = nI ts.length) : OK (f_X13_laysSong (soM h A B E g) 55) (fun h' => ∃ B' g', h' = soM h A B' E g' ∧ hl B' (sgT ρ 6 ts) ∧ g' 29 = nI (sgT ρ 6 ts).length ∧ ∀ k, k ≠ 29 → g' k = g k) := by
  have htu := W.tu
  have hle := O.le
  have M0 := M.so hp A B E g
  have h6 : ∀ t, t ∈ ts → t < 6 := fun t ht => by have := O.lt t ht; omega
  have q : OK (iter (fun (s : Int32 × Mem) => b_X13_laysSong_7 s.2 55 s.1) FU (nI 0, soM h A B E (upd g 29 (nI 0)))) (fun h' => ∃ B' g', h' = soM h A B' E g' ∧ hl B' (sgT ρ 6 ts) ∧ g' 29 = nI (sgT ρ 6 ts).length ∧ ∀ k, k ≠ 29 → g' k = g k) := by
    refine iter_ok (fun j s => ∃ B' g', s = (nI j, soM h A B' E g') ∧ hl B' (sgT ρ 6 (ts.take j)) ∧ g' 29 = nI (sgT ρ 6 (ts.take j)).length ∧ ∀ k, k ≠ 29 → g' k = g k) ts.length (FU_lt (by omega)) (fun j s hj hI => ?_) ⟨B, upd g 29 (nI 0), rfl, hl_nil _, by rw [pk_us]; rfl, fun k hk => pk_un hk⟩
    obtain ⟨B, g', rfl, hB, h29, hg⟩ := hI
    show OK (b_X13_laysSong_7 (soM h A B E g') 55 (nI j)) _
    have M2 := M.so hp A B E g'
    have k31 : g' 31 = nI ts.length := by rw [hg 31 (by decide), h31]
    rcases Nat.lt_or_ge j ts.length with c | c
    · obtain ⟨k, hk, ak, fk⟩ := O.at j c
      have ht : ts.getD j 0 < ρ 0 1 := by rw [getD_at c]; exact O.lt _ (List.getElem_mem _)
      have hle2 := ov_le (ρ := ρ) (ts.getD (j - 1) 0) (ts.getD j 0)
      have ho : oj ρ ts j ≤ ρ 1 (ts.getD j 0) := by
        unfold oj
        split <;> omega
      have hy : (sgT ρ 6 (ts.take j)).length ≤ 40 := by
        have := sgT_len W (ts.take j) 6 (fun t ht => O.lt t (List.mem_of_mem_take ht))
        rw [List.length_take] at this
        omega
      obtain ⟨h', e, B', g2, e2, hB2, g29, hg2⟩ := m_lay1 W M hp (E := E) (A := A) (j := j) ht ho hy hB h29
      have e3 : b_X13_laysSong_7 (soM h A B E g') 55 (nI j) = some (.inl (nI (j + 1), soM h A B' E g2)) := by
        unfold b_X13_laysSong_7 f_X13_laysSong_53
        rcases Decidable.em (j = 0) with z | z
        · have z2 : oj ρ ts j = 0 := by
            unfold oj
            rw [if_pos z]
          rw [z2] at e
          simp (disch := omega) only [ob, nI_lit, nI_add, pk_mul, nI_eq, nI_ltI, nI_leI, if_true, if_false, if_pos, if_neg, gI_of (tS_55 M2.sh), gR_of (tS_55 M2.sh), soM_55, k31, rS_55_28 M2.sh, rS_55_25 M2.sh, aI_of (tS_61 M2.sh), soM_61, ak, aI_of (tS_64 M2.sh), soM_64, fk, e, e2]
        · obtain ⟨k', hk', ak', fk'⟩ := O.at (j - 1) (by omega)
          have ht' : ts.getD (j - 1) 0 < ρ 0 1 := by rw [getD_at (show j - 1 < ts.length by omega)]; exact O.lt _ (List.getElem_mem _)
          have z2 : oj ρ ts j = ov ρ (ts.getD (j - 1) 0) (ts.getD j 0) := by
            unfold oj
            rw [if_neg z]
          rw [z2] at e
          simp (disch := omega) only [ob, nI_lit, nI_add, pk_mul, nI_eq, nI_ltI, nI_leI, if_true, if_false, if_pos, if_neg, gI_of (tS_55 M2.sh), gR_of (tS_55 M2.sh), soM_55, k31, rS_55_28 M2.sh, rS_55_25 M2.sh, aI_of (tS_61 M2.sh), soM_61, ak, aI_of (tS_64 M2.sh), soM_64, fk, pk_sub, ak', fk', m_ov W M2 ht' ht, e, e2]
      rw [e3]
      refine ⟨_, rfl, c, B', g2, rfl, ?_, ?_, fun k hk => by rw [hg2 k hk, hg k hk]⟩
      · rw [sgT_take O.nd h6 j c]
        exact hB2
      · rw [sgT_take O.nd h6 j c]
        exact g29
    · have e : b_X13_laysSong_7 (soM h A B E g') 55 (nI j) = some (.inr (soM h A B E g')) := by
        unfold b_X13_laysSong_7
        simp (disch := omega) only [ob, nI_lit, nI_add, pk_mul, nI_eq, nI_ltI, nI_leI, if_true, if_false, if_pos, if_neg, gI_of (tS_55 M2.sh), soM_55, k31]
      rw [e]
      rw [List.take_of_length_le c] at hB h29
      exact ⟨_, rfl, B, g', rfl, hB, h29, hg⟩
  obtain ⟨h', e, k⟩ := q
  unfold f_X13_laysSong
  simp (disch := omega) only [ob, nI_lit, nI_add, pk_mul, nI_eq, nI_ltI, nI_leI, if_true, if_false, if_pos, if_neg, ck_of (tS_55 M0.sh), pI_of (tS_55 M0.sh), soM_w55, e]
  exact ⟨_, rfl, k⟩
end
