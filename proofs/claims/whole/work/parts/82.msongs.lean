/-! ===== the reference: the best of all songs ===== -/
def bst (o : Option (List Nat)) (y : List Nat) : Option (List Nat) := if btO y o = true then some y else o
theorem bst_fo : ∀ (l : List (List Nat)) (b : List Nat), ∃ y, l.foldl bst (some b) = some y ∧ (y = b ∨ y ∈ l) ∧ bt2 b y = false ∧ ∀ z, z ∈ l → bt2 z y = false
  | [], b => ⟨b, rfl, Or.inl rfl, bt2_irr b, fun z hz => by simp at hz⟩
  | a :: l, b => by
    cases q : bt2 a b
    · have e : bst (some b) a = some b := by
        show (if bt2 a b = true then some a else some b) = _
        rw [q]
        rfl
      obtain ⟨y, h1, h2, h3, h4⟩ := bst_fo l b
      refine ⟨y, by rw [List.foldl_cons, e, h1], ?_, h3, fun z hz => ?_⟩
      · rcases h2 with h2 | h2
        · exact Or.inl h2
        · exact Or.inr (List.mem_cons_of_mem _ h2)
      · rcases List.mem_cons.1 hz with e2 | e2
        · rw [e2]
          exact bt2_neg q h3
        · exact h4 z e2
    · have e : bst (some b) a = some a := by
        show (if bt2 a b = true then some a else some b) = _
        rw [q]
        rfl
      obtain ⟨y, h1, h2, h3, h4⟩ := bst_fo l a
      refine ⟨y, by rw [List.foldl_cons, e, h1], ?_, ?_, fun z hz => ?_⟩
      · rcases h2 with h2 | h2
        · exact Or.inr (by rw [h2]; exact List.mem_cons_self ..)
        · exact Or.inr (List.mem_cons_of_mem _ h2)
      · cases w : bt2 b y
        · rfl
        · have := bt2_tr q w
          rw [h3] at this
          cases this
      · rcases List.mem_cons.1 hz with e2 | e2
        · rw [e2]
          exact h3
        · exact h4 z e2
theorem pms_ne (m : Nat) : pms m (List.range m) ≠ [] := fun e => by
  have : List.range m ∈ pms m (List.range m) := pms_mem.2 ⟨List.nodup_range, fun i => List.mem_range⟩
  rw [e] at this
  simp at this
section
variable {h : Mem} {p : Nat} {ρ : RO}
theorem sgT_all (W : RW ρ) : ∀ (ts : List Nat) (l x : Nat), x ∈ sgT ρ l ts → x < 1024
  | [], _, _, hx => by simp [sgT] at hx
  | t :: ts, l, x, hx => by
    rcases List.mem_append.1 hx with q | q
    · exact tl_all W _ _ x q
    · exact sgT_all W ts t x q
theorem getD_all {y : List Nat} (hy : ∀ x, x ∈ y → x < 1024) (i : Nat) : y.getD i 0 < 1024 := by
  rcases Nat.lt_or_ge i y.length with c | c
  · rw [getD_at c]
    exact hy _ (List.getElem_mem c)
  · rw [List.getD_eq_getElem?_getD, List.getElem?_eq_none c]
    decide
/-- copying a song -/
theorem m_copy (S : SH h) {A B E g : Nat → Int32} {y : List Nat} (hy : y.length ≤ 48) (hB : hl B y) (h29 : g 29 = nI y.length) : OK (iter (fun (s : Int32 × Mem) => b_X13_songs_61 s.2 55 s.1) FU (nI 0, soM h A B E g)) (fun h' => ∃ E', h' = soM h A B E' g ∧ hl E' y) := by
  refine iter_ok (fun i s => ∃ E', s = (nI i, soM h A B E' g) ∧ ∀ j, j < i → E' j = nI (y.getD j 0)) y.length (FU_lt (by omega)) (fun i s hi hI => ?_) ⟨E, rfl, fun j hj => by omega⟩
  obtain ⟨E, rfl, hE⟩ := hI
  show OK (b_X13_songs_61 (soM h A B E g) 55 (nI i)) _
  have S1 : SH (soM h A B E g) := S
  rcases Nat.lt_or_ge i y.length with c | c
  · have e : b_X13_songs_61 (soM h A B E g) 55 (nI i) = some (.inl (nI (i + 1), soM h A B (upd E i (nI (y.getD i 0))) g)) := by
      unfold b_X13_songs_61
      simp (disch := omega) only [ob, nI_lit, nI_add, pk_mul, nI_eq, nI_ltI, nI_leI, if_true, if_false, if_pos, if_neg, gI_of (tS_55 S1), gR_of (tS_55 S1), soM_55, h29, rS_55_26 S1, rS_55_27 S1, aI_of (tS_62 S1), soM_62, hB i c, sI_of (tS_63 S1), soM_w63]
    rw [e]
    refine ⟨_, rfl, c, _, rfl, fun j hj => ?_⟩
    rcases Decidable.em (j = i) with z | z
    · rw [z, pk_us]
    · rw [pk_un z]
      exact hE j (by omega)
  · have e : b_X13_songs_61 (soM h A B E g) 55 (nI i) = some (.inr (soM h A B E g)) := by
      unfold b_X13_songs_61
      simp (disch := omega) only [ob, nI_lit, nI_add, pk_mul, nI_eq, nI_ltI, nI_leI, if_true, if_false, if_pos, if_neg, gI_of (tS_55 S1), soM_55, h29]
    rw [e]
    exact ⟨_, rfl, E, rfl, fun j hj => hE j (by omega)⟩
/-- the tunes left, in the memory -/
def LF (h : Mem) (ρ : RO) (ls : List Nat) : Prop := (ls.length ≤ 6) ∧ (ls.Nodup) ∧ (∀ t, t ∈ ls → t < ρ 0 1) ∧ (hl (mI h 64) ls)
theorem LF.le {h : Mem} {ρ : RO} {ls : List Nat} (H : LF h ρ ls) : ls.length ≤ 6 := H.1
theorem LF.nd {h : Mem} {ρ : RO} {ls : List Nat} (H : LF h ρ ls) : ls.Nodup := H.2.1
theorem LF.lt {h : Mem} {ρ : RO} {ls : List Nat} (H : LF h ρ ls) : ∀ t, t ∈ ls → t < ρ 0 1 := H.2.2.1
theorem LF.at {h : Mem} {ρ : RO} {ls : List Nat} (H : LF h ρ ls) : hl (mI h 64) ls := H.2.2.2
theorem LF.ot {ls : List Nat} (K : LF h ρ ls) {A : Nat → Int32} {x : List Nat} (hx : x ∈ pms ls.length (List.range ls.length)) (hA : hl A x) : OT A (mI h 64) ρ (x.map (fun i => ls.getD i 0)) ∧ x.length = ls.length := by
  have hxl : x.length = ls.length := by
    have := ((pms_iff _ _ _ (List.length_range ..)).1 hx).length_eq
    rwa [List.length_range] at this
  rw [pms_mem] at hx
  have hle := K.le
  refine ⟨⟨by rw [List.length_map, hxl]; exact hle, nodup_map hx.1 (fun i j hi hj e => ?_), fun t ht => ?_, fun j hj => ?_⟩, hxl⟩
  · exact (List.getD_inj ((hx.2 i).1 hi) ((hx.2 j).1 hj) K.nd).1 e
  · obtain ⟨i, hi, e⟩ := List.mem_map.1 ht
    rw [← e, getD_at ((hx.2 i).1 hi)]
    exact K.lt _ (List.getElem_mem _)
  · rw [List.length_map] at hj
    have hi : x.getD j 0 < ls.length := by
      rw [getD_at hj]
      exact (hx.2 _).1 (List.getElem_mem _)
    refine ⟨x.getD j 0, by omega, hA j hj, ?_⟩
    rw [K.at _ hi]
    congr 1
    rw [getD_at (show j < (x.map (fun i => ls.getD i 0)).length by rw [List.length_map]; exact hj), List.getElem_map, getD_at hj]
def so (ρ : RO) (ls x : List Nat) : List Nat := sgT ρ 6 (x.map (fun i => ls.getD i 0))
theorem m_step (W : RW ρ) (M : MT h p ρ) (hp : 69 ≤ p) {ls x : List Nat} (K : LF h ρ ls) {A B E g : Nat → Int32} {o : Option (List Nat)} (hx : x ∈ pms ls.length (List.range ls.length)) (hA : hl A x) (hO : BO g E o) (h31 : g 31 = nI ls.length) : ∃ B' E' g', (∀ k, k ≠ 29 → k ≠ 30 → g' k = g k) ∧ BO g' E' (bst o (so ρ ls x)) ∧ b_X13_songs_36 (soM h A B E g) 55 (nI 1) = (f_X13_nextOrder (soM h A B' E' g') 55).bind fun q => some (.inl (q.1, q.2)) := by
  have hle := K.le
  obtain ⟨O, hxl⟩ := K.ot hx hA
  have S := M.sh
  have h31' : g 31 = nI (x.map (fun i => ls.getD i 0)).length := by rw [List.length_map, hxl, h31]
  obtain ⟨h1, e1, B', g1, e2, hB, g29, hg⟩ := m_lay W M hp (B := B) (E := E) O h31'
  have sl : (so ρ ls x).length ≤ 48 := by
    have := sgT_len W _ 6 O.lt
    have := O.le
    unfold so
    omega
  have ss : ∀ i, (so ρ ls x).getD i 0 < 1024 := getD_all (sgT_all W _ 6)
  have S1 : SH (soM h A B' E g1) := S
  have O1 : BO g1 E o := by
    have e30 := hg 30 (by decide)
    cases o with
    | none => exact e30.trans hO
    | some b => exact ⟨e30.trans hO.1, hO.2⟩
  have hb := m_better (h := h) (A := A) (B := B') (E := E) (g := g1) S1 sl hB ss g29 O1
  cases q : btO (so ρ ls x) o
  · refine ⟨B', E, g1, fun k h29 _ => hg k h29, ?_, ?_⟩
    · unfold bst
      rw [q]
      exact O1
    · unfold b_X13_songs_36 f_X13_songs_87
      rw [q] at hb
      simp (disch := omega) only [ob, nI_lit, nI_add, pk_mul, nI_eq, nI_ltI, nI_leI, if_true, if_false, if_pos, if_neg, e1, e2, hb, Bool.toNat_false]
  · rw [q] at hb
    have h29' : upd g1 30 (nI (so ρ ls x).length) 29 = nI (so ρ ls x).length := by
      rw [pk_un (by decide)]
      exact g29
    obtain ⟨h2, e3, E', e4, hE⟩ := m_copy (h := h) (A := A) (B := B') (E := E) (g := upd g1 30 (nI (so ρ ls x).length)) S sl hB h29'
    refine ⟨B', E', upd g1 30 (nI (so ρ ls x).length), fun k h29 h30 => by rw [pk_un h30]; exact hg k h29, ?_, ?_⟩
    · unfold bst
      rw [q]
      exact ⟨pk_us .., hE, sl, ss⟩
    · unfold b_X13_songs_36 f_X13_songs_87
      have g29' : g1 29 = nI (so ρ ls x).length := g29
      simp (disch := omega) only [ob, nI_lit, nI_add, pk_mul, nI_eq, nI_ltI, nI_leI, if_true, if_false, if_pos, if_neg, e1, e2, hb, Bool.toNat_true, gI_of (tS_55 S1), soM_55, g29', pI_of (tS_55 S1), soM_w55, e3, e4]
theorem m_all (W : RW ρ) (M : MT h p ρ) (hp : 69 ≤ p) {ls : List Nat} (K : LF h ρ ls) : ∀ (P : List (List Nat)) (x : List Nat) (N : Nat) (A B E g : Nat → Int32) (o : Option (List Nat)), P.length + 2 ≤ N → chn ls.length (x :: P) = true → (∀ y, y ∈ x :: P → y ∈ pms ls.length (List.range ls.length)) → hl A x → BO g E o → g 31 = nI ls.length → OK (iter (fun (s : Int32 × Mem) => b_X13_songs_36 s.2 55 s.1) N (nI 1, soM h A B E g)) (fun h' => ∃ A' B' E' g', h' = soM h A' B' E' g' ∧ BO g' E' ((x :: P).foldl (fun o x => bst o (so ρ ls x)) o) ∧ ∀ k, k ≠ 29 → k ≠ 30 → g' k = g k) := by
  have hle := K.le
  have S := M.sh
  have hxs : ∀ x A, x ∈ pms ls.length (List.range ls.length) → hl A x → x.length = ls.length ∧ (∀ i, i < ls.length → x.getD i 0 < 6) ∧ (∀ k, k < ls.length → A k = nI (x.getD k 0)) := by
    intro x A hx hA
    have hxl : x.length = ls.length := by
      have := ((pms_iff _ _ _ (List.length_range ..)).1 hx).length_eq
      rwa [List.length_range] at this
    refine ⟨hxl, fun i hi => ?_, fun k hk => hA k (by omega)⟩
    rw [getD_at (show i < x.length by omega)]
    have := ((pms_mem.1 hx).2 _).1 (List.getElem_mem (show i < x.length by omega))
    omega
  intro P
  induction P with
  | nil =>
    intro x N A B E g o hN hc hP hA hO h31
    obtain ⟨N, rfl⟩ : ∃ M, N = M + 1 + 1 := ⟨N - 2, by simp at hN; omega⟩
    have hx := hP x (List.mem_cons_self ..)
    obtain ⟨B', E', g', hg, hO', e⟩ := m_step W M hp K (B := B) hx hA hO h31
    obtain ⟨_, hx6, hA2⟩ := hxs x A hx hA
    have n0 : nO ls.length (fun i => x.getD i 0) = none := by
      have : (nO ls.length (fun i => x.getD i 0)).isNone = true := hc
      rwa [Option.isNone_iff_eq_none] at this
    have e2 := (m_nextO (h := h) (B := B') (E := E') (g := g') S hle hx6 hA2 (by rw [hg 31 (by decide) (by decide), h31])).1 n0
    rw [e2, ob] at e
    have e3 : b_X13_songs_36 (soM h A B' E' g') 55 (nI 0) = some (.inr (soM h A B' E' g')) := by
      unfold b_X13_songs_36
      rw [if_pos (show nI 0 = 0 from rfl)]
    rw [iter_step e, iter_exit e3]
    exact ⟨_, rfl, A, B', E', g', rfl, hO', hg⟩
  | cons x' P ih =>
    intro x N A B E g o hN hc hP hA hO h31
    obtain ⟨N, rfl⟩ : ∃ M, N = M + 1 := ⟨N - 1, by simp at hN; omega⟩
    have hx := hP x (List.mem_cons_self ..)
    obtain ⟨B', E', g', hg, hO', e⟩ := m_step W M hp K (B := B) hx hA hO h31
    obtain ⟨_, hx6, hA2⟩ := hxs x A hx hA
    have k31 : g' 31 = nI ls.length := by rw [hg 31 (by decide) (by decide), h31]
    unfold chn at hc
    rw [Bool.and_eq_true] at hc
    obtain ⟨c1, c2⟩ := hc
    cases n0 : nO ls.length (fun i => x.getD i 0) with
    | none =>
      rw [n0] at c1
      cases c1
    | some y =>
      rw [n0] at c1
      have c1 : (List.range ls.length).map y = x' := by simpa using c1
      obtain ⟨A', e2, hA'⟩ := (m_nextO (h := h) (B := B') (E := E') (g := g') S hle hx6 hA2 k31).2 y n0
      rw [e2, ob] at e
      rw [iter_step e]
      have hA3 : hl A' x' := by
        intro i hi
        have hi2 : i < ls.length := by
          rw [← c1, List.length_map, List.length_range] at hi
          exact hi
        rw [hA' i hi2, getD_at hi]
        subst c1
        simp
      obtain ⟨h', e3, A2, B2, E2, g2, e4, hO2, hg2⟩ := ih x' N A' B' E' g' _ (by simp at hN ⊢; omega) c2 (fun y hy => hP y (List.mem_cons_of_mem _ hy)) hA3 hO' k31
      exact ⟨h', e3, A2, B2, E2, g2, e4, hO2, fun k h1 h2 => by rw [hg2 k h1 h2, hg k h1 h2]⟩
end
