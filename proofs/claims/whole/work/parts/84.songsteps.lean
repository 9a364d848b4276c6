/-! ===== song and songAt ===== -/
def tsB (T : Nat) (x : Int32) : Bool := decide (¬ x < nI 1) && decide (¬ nI (2 ^ T) ≤ x)
theorem ts_if (T : Nat) (x : Int32) : (if x < nI 1 then some (nI 0) else if nI (2 ^ T) ≤ x then some (nI 0) else some (nI 1)) = some (nI (tsB T x).toNat) := by
  unfold tsB
  rcases Decidable.em (x < nI 1) with e | e
  · simp [e]
  · rcases Decidable.em (nI (2 ^ T) ≤ x) with e2 | e2 <;> simp [e, e2]
theorem ts_0 (x : Int32) : tsB 0 x = false := by
  unfold tsB
  rcases Decidable.em (x < nI 1) with e | e
  · simp [e]
  · have : nI (2 ^ 0) ≤ x := by
      show nI 1 ≤ x
      rw [Int32.le_iff_toInt_le]
      rw [Int32.lt_iff_toInt_lt] at e
      omega
    simp only [this, not_true, decide_false, Bool.and_false]
theorem ts_t {T : Nat} {x : Int32} (hT : T ≤ 6) (h : tsB T x = true) : ∃ c, 1 ≤ c ∧ c < 2 ^ T ∧ x = nI c := by
  have h26 : 2 ^ T ≤ 2 ^ 6 := two_le hT
  unfold tsB at h
  simp only [Bool.and_eq_true, decide_eq_true_iff] at h
  have hx : ix (2 ^ T) x = true := by
    unfold ix
    rw [Bool.and_eq_true, decide_eq_true_iff, decide_eq_true_iff]
    refine ⟨fun q => h.1 ?_, h.2⟩
    rw [Int32.lt_iff_toInt_lt] at *
    have e0 : (nI 0).toInt = 0 := by decide
    have e1 : (nI 1).toInt = 1 := by decide
    omega
  obtain ⟨c, hc, rfl⟩ := ix_t hx (by omega)
  refine ⟨c, ?_, hc, rfl⟩
  rcases Nat.lt_or_ge c 1 with q | q
  · have : c = 0 := by omega
    subst this
    exact absurd (show nI 0 < nI 1 by decide) h.1
  · exact q
section
variable {h : Mem} {a : AB}
theorem c_areTunes (W : IW a) (C : IC h a) (x : Int32) : f_X11_areTunes h 1 x = some (nI (tsB (a 0 0 1) x).toNat) := by
  have htu := W.rw.tu
  have hsh : nI 1 <<< (nI (a 0 0 1) &&& nI 31) = nI (2 ^ a 0 0 1) := nI_sh1 (by omega)
  unfold f_X11_areTunes f_X11_areTunes_22
  simp (disch := omega) only [ob, nI_lit, ck_of (tS_1 C.ct.sh), gR_of (tS_1 C.ct.sh), gI_of (tS_1 C.ct.sh), pI_of (tS_1 C.ct.sh), C.ct.rp, rS_1_2 C.ct.sh, rS_1_3 C.ct.sh, rS_1_4 C.ct.sh, rS_1_5 C.ct.sh, rS_1_6 C.ct.sh, rS_1_7 C.ct.sh, rS_1_8 C.ct.sh, rS_1_9 C.ct.sh, ck_of (tR C.ct.rd.rd), gR_of (tR C.ct.rd.rd), gI_of (tR C.ct.rd.rd), rR_9 C.ct.rd.rd, rR_10 C.ct.rd.rd, rR_11 C.ct.rd.rd, rR_12 C.ct.rd.rd, rR_13 C.ct.rd.rd, rR_14 C.ct.rd.rd, rR_15 C.ct.rd.rd, rR_16 C.ct.rd.rd, rR_17 C.ct.rd.rd, rR_18 C.ct.rd.rd, rR_19 C.ct.rd.rd, aI_of (tR_1 C.ct.rd.rd), aI_of (tR_2 C.ct.rd.rd), aI_of (tR_3 C.ct.rd.rd), aI_of (tR_4 C.ct.rd.rd), aI_of (tR_5 C.ct.rd.rd), aI_of (tR_6 C.ct.rd.rd), aI_of (tR_7 C.ct.rd.rd), aI_of (tR_8 C.ct.rd.rd), aI_of (tR_9 C.ct.rd.rd), C.ct.rd.sc, C.ct.rd.len, C.ct.rd.e1, C.ct.rd.e2, C.ct.rd.min, C.ct.rd.kd, C.ct.rd.gt, C.ct.rd.bt, C.ct.rd.ip, C.ct.rd.hd, c_refuse C.ct.sh, c_answer C.ct.sh, hsh]
  exact ts_if _ x
theorem m_areTunes (W : IW a) (M : IM h a) (x : Int32) : f_X13_areTunes h 55 x = some (nI (tsB (a 0 0 1) x).toNat) := by
  have htu := W.rw.tu
  have hsh : nI 1 <<< (nI (a 0 0 1) &&& nI 31) = nI (2 ^ a 0 0 1) := nI_sh1 (by omega)
  unfold f_X13_areTunes f_X13_areTunes_29
  rcases Decidable.em (a 0 0 2 = 0) with e | e
  · have e1 : a 0 0 1 = 0 := (W.un e).2.2.1 0 1
    rw [e1, ts_0]
    simp only [ob, ck_of (tS_55 M.sh), gR_of (tS_55 M.sh), m_null M e, if_true]
    rfl
  · have P := M.told (by omega)
    simp (disch := omega) only [ob, nI_lit, ck_of (tS_55 M.sh), gR_of (tS_55 M.sh), gI_of (tS_55 M.sh), pI_of (tS_55 M.sh), rS_55_16 M.sh, rS_55_17 M.sh, rS_55_18 M.sh, rS_55_21 M.sh, rS_55_25 M.sh, rS_55_26 M.sh, rS_55_27 M.sh, rS_55_28 M.sh, rS_55_32 M.sh, rS_55_33 M.sh, rS_55_34 M.sh, m_refused M.sh, m_good M.sh, P.pp, ck_of (tP P.rd.pk), gR_of (tP P.rd.pk), gI_of (tP P.rd.pk), rP_10 P.rd.pk, rP_11 P.rd.pk, rP_12 P.rd.pk, rP_13 P.rd.pk, rP_14 P.rd.pk, rP_15 P.rd.pk, rP_16 P.rd.pk, rP_17 P.rd.pk, rP_18 P.rd.pk, rP_19 P.rd.pk, rP_20 P.rd.pk, rP_21 P.rd.pk, rP_22 P.rd.pk, rP_23 P.rd.pk, rP_24 P.rd.pk, aI_of (tP_1 P.rd.pk), aI_of (tP_2 P.rd.pk), aI_of (tP_3 P.rd.pk), aI_of (tP_4 P.rd.pk), aI_of (tP_5 P.rd.pk), aI_of (tP_6 P.rd.pk), aI_of (tP_7 P.rd.pk), aI_of (tP_8 P.rd.pk), aI_of (tP_9 P.rd.pk), aI_of (tP_10 P.rd.pk), aI_of (tP_11 P.rd.pk), aI_of (tP_12 P.rd.pk), aI_of (tP_13 P.rd.pk), aI_of (tP_14 P.rd.pk), aI_of (tP_15 P.rd.pk), P.rd.sc, P.rd.len, P.rd.note, P.rd.min, P.rd.kd, P.rd.gt, P.rd.e1, P.rd.e2, P.rd.i8, P.rd.i9, P.rd.i10, P.rd.i11, P.rd.hd, P.nz, if_false, hsh]
    exact ts_if _ x
theorem SV.sg (W : IW a) {h1 : Mem} {r c : Nat} (C : CT h1 r (a 0)) (rr : r = 2 ∨ r = 21) (K : SK h1 (a 0)) (V : SV h1 (a 0) c) : SG h1 r (a 0) (wi (a 0) c) := ⟨C, rr, V.nd, V.ov, K.1⟩
theorem CT.f43 {h1 : Mem} {r : Nat} {ρ : RO} (C : CT h r ρ) (rr : r = 2 ∨ r = 21) (f : FQ [43, 44, 45, 46] h h1) : CT h1 r ρ := C.fq f (fun k hk hq => by
  simp only [List.mem_cons, List.not_mem_nil, or_false] at hq
  omega)
theorem c_notes {h1 : Mem} {ρ : RO} {c : Nat} (S : SH h1) (V : SV h1 ρ c) : f_X6_notes h1 43 = some (nI (bs ρ (wi ρ c) 6 0 6).2.length) := by
  have e : mI h1 45 6 = nI (bs ρ (wi ρ c) 6 0 6).2.length := V.le 0 6 (Or.inl ⟨rfl, rfl⟩)
  unfold f_X6_notes
  simp (disch := omega) only [ob, nI_lit, nI_add, pk_mul, nI_eq, nI_ltI, nI_leI, if_true, if_false, if_pos, if_neg, ck_of (tS_43 S), gR_of (tS_43 S), rS_43_1 S, aI_of (tS_45 S), e]
theorem IW.r2 (W : IW a) : a 2 0 0 = 2 ∨ a 2 0 0 = 21 := by
  have := W.rr
  omega
theorem c_noteAt (W : IW a) {h1 : Mem} {r c i : Nat} (C : CT h1 r (a 0)) (rr : r = 2 ∨ r = 21) (K : SK h1 (a 0)) (V : SV h1 (a 0) c) (hi : i < (bs (a 0) (wi (a 0) c) 6 0 6).2.length) : f_X6_noteAt h1 43 r (nI i) = some (nI ((bs (a 0) (wi (a 0) c) 6 0 6).2.getD i 0)) := by
  have G := SV.sg W C rr K V
  obtain ⟨hnd, hT⟩ := wi_lt W.rw V.lt
  have T : TB (a 0) (wi (a 0) c) (fun b' _ => 0 < b') (mI h1 45) (mI h1 46) := fun b l hs _ => ⟨V.le b l hs, V.nx b l hs⟩
  have I := bs6I (ρ := a 0) hnd 0 6
  have z : (bs (a 0) (wi (a 0) c) 6 0 6).1 ≠ 0 := by
    intro z
    rw [(I.no z).1] at hi
    simp at hi
  obtain ⟨a1, a2, a3, _⟩ := I.at z
  have e : mI h1 46 6 = nI ((bs (a 0) (wi (a 0) c) 6 0 6).1 - 1) := by
    have := V.nx 0 6 (Or.inl ⟨rfl, rfl⟩)
    rw [pk_sub (by omega)] at this
    exact this
  have hi2 := hi
  rw [a3] at hi2
  have k := c_noteBehind W.rw G hnd hT rfl T (l := 6) (Or.inl rfl) (Nat.zero_and _) a2 hi2
  rw [← a3] at k
  unfold f_X6_noteAt
  simp (disch := omega) only [ob, nI_lit, ck_of (tS_43 C.sh), gR_of (tS_43 C.sh), rS_43_2 C.sh, aI_of (tS_46 C.sh), e, k]
theorem qq_song (W : IW a) (x : Int32) : ∃ v z, z ≤ 6 ∧ z ≠ 4 ∧ QC a (fun h => f_X11_song h 1 x) v z ∧ QM a (fun h => f_X13_song h 55 x) v z := by
  rcases hx : tsB (a 0 0 1) x with _ | _
  · refine ⟨-nI 1, 1, by decide, by decide, fun h C => ?_, fun h M0 => ?_⟩
    · unfold f_X11_song
      simp (disch := omega) only [ob, nI_lit, nI_add, pk_mul, nI_eq, nI_ltI, nI_leI, if_true, if_false, if_pos, if_neg, ck_of (tS_1 C.ct.sh), gR_of (tS_1 C.ct.sh), gI_of (tS_1 C.ct.sh), pI_of (tS_1 C.ct.sh), C.ct.rp, rS_1_2 C.ct.sh, rS_1_3 C.ct.sh, rS_1_4 C.ct.sh, rS_1_5 C.ct.sh, rS_1_6 C.ct.sh, rS_1_7 C.ct.sh, rS_1_8 C.ct.sh, rS_1_9 C.ct.sh, ck_of (tR C.ct.rd.rd), gR_of (tR C.ct.rd.rd), gI_of (tR C.ct.rd.rd), rR_9 C.ct.rd.rd, rR_10 C.ct.rd.rd, rR_11 C.ct.rd.rd, rR_12 C.ct.rd.rd, rR_13 C.ct.rd.rd, rR_14 C.ct.rd.rd, rR_15 C.ct.rd.rd, rR_16 C.ct.rd.rd, rR_17 C.ct.rd.rd, rR_18 C.ct.rd.rd, rR_19 C.ct.rd.rd, aI_of (tR_1 C.ct.rd.rd), aI_of (tR_2 C.ct.rd.rd), aI_of (tR_3 C.ct.rd.rd), aI_of (tR_4 C.ct.rd.rd), aI_of (tR_5 C.ct.rd.rd), aI_of (tR_6 C.ct.rd.rd), aI_of (tR_7 C.ct.rd.rd), aI_of (tR_8 C.ct.rd.rd), aI_of (tR_9 C.ct.rd.rd), C.ct.rd.sc, C.ct.rd.len, C.ct.rd.e1, C.ct.rd.e2, C.ct.rd.min, C.ct.rd.kd, C.ct.rd.gt, C.ct.rd.bt, C.ct.rd.ip, C.ct.rd.hd, c_refuse C.ct.sh, c_answer C.ct.sh, c_areTunes W C, hx, Bool.toNat_false]
      exact qc_end C _ _
    · unfold f_X13_song
      simp only [ck_of (tS_55 M0.sh), pI_of (tS_55 M0.sh), ob, nI_lit]; obtain ⟨h1, eh, M, F1⟩ : ∃ h1, wI h 55 0 (nI 0) = h1 ∧ IM h1 a ∧ FM h h1 := ⟨_, rfl, M0.th _, FM.w55 h _ (by decide)⟩; rw [eh]
      simp (disch := omega) only [ob, nI_lit, nI_add, pk_mul, nI_eq, nI_ltI, nI_leI, if_true, if_false, if_pos, if_neg, ck_of (tS_55 M.sh), gR_of (tS_55 M.sh), gI_of (tS_55 M.sh), pI_of (tS_55 M.sh), rS_55_16 M.sh, rS_55_17 M.sh, rS_55_18 M.sh, rS_55_21 M.sh, rS_55_25 M.sh, rS_55_26 M.sh, rS_55_27 M.sh, rS_55_28 M.sh, rS_55_32 M.sh, rS_55_33 M.sh, rS_55_34 M.sh, m_refused M.sh, m_good M.sh, m_areTunes W M, hx, Bool.toNat_false]
      exact qm_end F1 _ _
  · obtain ⟨c, h1, hc, rfl⟩ := ts_t W.rw.tu hx
    have e0 : 0 < a 0 0 2 := by
      rcases Nat.eq_zero_or_pos (a 0 0 2) with e | e
      · rw [(W.un e).2.2.1 0 1] at hc
        omega
      · exact e
    refine ⟨nI (bs (a 0) (wi (a 0) c) 6 0 6).2.length, 0, by decide, by decide, fun h C => ?_, fun h M0 => ?_⟩
    · obtain ⟨h4, e4, f4, K, V⟩ := c_compose W.rw C.ct W.r2 C.so h1 hc
      have C4 := C.ct.f43 W.r2 f4
      unfold f_X11_song
      simp (disch := omega) only [ob, nI_lit, nI_add, pk_mul, nI_eq, nI_ltI, nI_leI, if_true, if_false, if_pos, if_neg, ck_of (tS_1 C.ct.sh), gR_of (tS_1 C.ct.sh), gI_of (tS_1 C.ct.sh), pI_of (tS_1 C.ct.sh), C.ct.rp, rS_1_2 C.ct.sh, rS_1_3 C.ct.sh, rS_1_4 C.ct.sh, rS_1_5 C.ct.sh, rS_1_6 C.ct.sh, rS_1_7 C.ct.sh, rS_1_8 C.ct.sh, rS_1_9 C.ct.sh, ck_of (tR C.ct.rd.rd), gR_of (tR C.ct.rd.rd), gI_of (tR C.ct.rd.rd), rR_9 C.ct.rd.rd, rR_10 C.ct.rd.rd, rR_11 C.ct.rd.rd, rR_12 C.ct.rd.rd, rR_13 C.ct.rd.rd, rR_14 C.ct.rd.rd, rR_15 C.ct.rd.rd, rR_16 C.ct.rd.rd, rR_17 C.ct.rd.rd, rR_18 C.ct.rd.rd, rR_19 C.ct.rd.rd, aI_of (tR_1 C.ct.rd.rd), aI_of (tR_2 C.ct.rd.rd), aI_of (tR_3 C.ct.rd.rd), aI_of (tR_4 C.ct.rd.rd), aI_of (tR_5 C.ct.rd.rd), aI_of (tR_6 C.ct.rd.rd), aI_of (tR_7 C.ct.rd.rd), aI_of (tR_8 C.ct.rd.rd), aI_of (tR_9 C.ct.rd.rd), C.ct.rd.sc, C.ct.rd.len, C.ct.rd.e1, C.ct.rd.e2, C.ct.rd.min, C.ct.rd.kd, C.ct.rd.gt, C.ct.rd.bt, C.ct.rd.ip, C.ct.rd.hd, c_refuse C.ct.sh, c_answer C.ct.sh, c_areTunes W C, hx, Bool.toNat_true, e4, gR_of (tS_1 C4.sh), rS_1_6 C4.sh, c_notes C4.sh V, c_answer C4.sh]
      exact qc_end2 (f4.sub (by decide)) K _ _
    · unfold f_X13_song
      simp only [ck_of (tS_55 M0.sh), pI_of (tS_55 M0.sh), ob, nI_lit]; obtain ⟨h1, eh, M, F1⟩ : ∃ h1, wI h 55 0 (nI 0) = h1 ∧ IM h1 a ∧ FM h h1 := ⟨_, rfl, M0.th _, FM.w55 h _ (by decide)⟩; rw [eh]
      have P := M.told e0
      obtain ⟨h3, e3, f3, i3, k3⟩ := m_songs W.rw P (M.p69 e0) hc
      have S3 := f3.1.sh M.sh
      simp (disch := omega) only [ob, nI_lit, nI_add, pk_mul, nI_eq, nI_ltI, nI_leI, if_true, if_false, if_pos, if_neg, ck_of (tS_55 M.sh), gR_of (tS_55 M.sh), gI_of (tS_55 M.sh), pI_of (tS_55 M.sh), rS_55_16 M.sh, rS_55_17 M.sh, rS_55_18 M.sh, rS_55_21 M.sh, rS_55_25 M.sh, rS_55_26 M.sh, rS_55_27 M.sh, rS_55_28 M.sh, rS_55_32 M.sh, rS_55_33 M.sh, rS_55_34 M.sh, m_refused M.sh, m_good M.sh, m_areTunes W M, hx, Bool.toNat_true, e3, gI_of (tS_55 S3), i3, m_good S3]
      exact qm_end (F1.tr f3) _ _
theorem st_23 : StepOK INV lc_23 := by
  intro sc L i h hL hi hI
  unfold lc_23
  simp only [show (1 : Int32) = nI 1 from rfl, show (2 : Int32) = nI 2 from rfl, show (3 : Int32) = nI 3 from rfl, show (4 : Int32) = nI 4 from rfl, show (5 : Int32) = nI 5 from rfl, nI_add, sc_at hL (show i + 1 < L by omega), sc_at hL (show i + 2 < L by omega), sc_at hL (show i + 3 < L by omega), sc_at hL (show i + 4 < L by omega), sc_at hL (show i + 5 < L by omega), ob]
  exact q2 (f := fun h => f_X11_song h 1 (sc (i + 1))) (g := fun h => f_X13_song h 55 (sc (i + 1))) hI (fun a W => qq_song W _)
theorem qq_songAt (W : IW a) (x y : Int32) : ∃ v z, z ≤ 6 ∧ z ≠ 4 ∧ QC a (fun h => f_X11_songAt h 1 x y) v z ∧ QM a (fun h => f_X13_songAt h 55 x y) v z := by
  rcases hx : tsB (a 0 0 1) x with _ | _
  · refine ⟨-nI 1, 1, by decide, by decide, fun h C => ?_, fun h M0 => ?_⟩
    · unfold f_X11_songAt
      simp (disch := omega) only [ob, nI_lit, nI_add, pk_mul, nI_eq, nI_ltI, nI_leI, if_true, if_false, if_pos, if_neg, ck_of (tS_1 C.ct.sh), gR_of (tS_1 C.ct.sh), gI_of (tS_1 C.ct.sh), pI_of (tS_1 C.ct.sh), C.ct.rp, rS_1_2 C.ct.sh, rS_1_3 C.ct.sh, rS_1_4 C.ct.sh, rS_1_5 C.ct.sh, rS_1_6 C.ct.sh, rS_1_7 C.ct.sh, rS_1_8 C.ct.sh, rS_1_9 C.ct.sh, ck_of (tR C.ct.rd.rd), gR_of (tR C.ct.rd.rd), gI_of (tR C.ct.rd.rd), rR_9 C.ct.rd.rd, rR_10 C.ct.rd.rd, rR_11 C.ct.rd.rd, rR_12 C.ct.rd.rd, rR_13 C.ct.rd.rd, rR_14 C.ct.rd.rd, rR_15 C.ct.rd.rd, rR_16 C.ct.rd.rd, rR_17 C.ct.rd.rd, rR_18 C.ct.rd.rd, rR_19 C.ct.rd.rd, aI_of (tR_1 C.ct.rd.rd), aI_of (tR_2 C.ct.rd.rd), aI_of (tR_3 C.ct.rd.rd), aI_of (tR_4 C.ct.rd.rd), aI_of (tR_5 C.ct.rd.rd), aI_of (tR_6 C.ct.rd.rd), aI_of (tR_7 C.ct.rd.rd), aI_of (tR_8 C.ct.rd.rd), aI_of (tR_9 C.ct.rd.rd), C.ct.rd.sc, C.ct.rd.len, C.ct.rd.e1, C.ct.rd.e2, C.ct.rd.min, C.ct.rd.kd, C.ct.rd.gt, C.ct.rd.bt, C.ct.rd.ip, C.ct.rd.hd, c_refuse C.ct.sh, c_answer C.ct.sh, c_areTunes W C, hx, Bool.toNat_false]
      exact qc_end C _ _
    · unfold f_X13_songAt
      simp only [ck_of (tS_55 M0.sh), pI_of (tS_55 M0.sh), ob, nI_lit]; obtain ⟨h1, eh, M, F1⟩ : ∃ h1, wI h 55 0 (nI 0) = h1 ∧ IM h1 a ∧ FM h h1 := ⟨_, rfl, M0.th _, FM.w55 h _ (by decide)⟩; rw [eh]
      simp (disch := omega) only [ob, nI_lit, nI_add, pk_mul, nI_eq, nI_ltI, nI_leI, if_true, if_false, if_pos, if_neg, ck_of (tS_55 M.sh), gR_of (tS_55 M.sh), gI_of (tS_55 M.sh), pI_of (tS_55 M.sh), rS_55_16 M.sh, rS_55_17 M.sh, rS_55_18 M.sh, rS_55_21 M.sh, rS_55_25 M.sh, rS_55_26 M.sh, rS_55_27 M.sh, rS_55_28 M.sh, rS_55_32 M.sh, rS_55_33 M.sh, rS_55_34 M.sh, m_refused M.sh, m_good M.sh, m_areTunes W M, hx, Bool.toNat_false]
      exact qm_end F1 _ _
  · obtain ⟨c, h1, hc, rfl⟩ := ts_t W.rw.tu hx
    have e0 : 0 < a 0 0 2 := by
      rcases Nat.eq_zero_or_pos (a 0 0 2) with e | e
      · rw [(W.un e).2.2.1 0 1] at hc
        omega
      · exact e
    have hl48 := bs_len (nd := wi (a 0) c) W.rw 6 0 6
    rcases hy : ix (bs (a 0) (wi (a 0) c) 6 0 6).2.length y with _ | _
    · have hy2 : y < nI 0 ∨ nI (bs (a 0) (wi (a 0) c) 6 0 6).2.length ≤ y := by
        unfold ix at hy
        simp only [Bool.and_eq_false_iff, decide_eq_false_iff_not, Classical.not_not] at hy
        exact hy
      refine ⟨-nI 1, 1, by decide, by decide, fun h C => ?_, fun h M0 => ?_⟩
      · obtain ⟨h4, e4, f4, K, V⟩ := c_compose W.rw C.ct W.r2 C.so h1 hc
        have C4 := C.ct.f43 W.r2 f4
        unfold f_X11_songAt f_X11_songAt_41
        simp (disch := omega) only [ob, nI_lit, nI_eq, if_true, if_false, ck_of (tS_1 C.ct.sh), gR_of (tS_1 C.ct.sh), gI_of (tS_1 C.ct.sh), pI_of (tS_1 C.ct.sh), C.ct.rp, rS_1_2 C.ct.sh, rS_1_3 C.ct.sh, rS_1_4 C.ct.sh, rS_1_5 C.ct.sh, rS_1_6 C.ct.sh, rS_1_7 C.ct.sh, rS_1_8 C.ct.sh, rS_1_9 C.ct.sh, ck_of (tR C.ct.rd.rd), gR_of (tR C.ct.rd.rd), gI_of (tR C.ct.rd.rd), rR_9 C.ct.rd.rd, rR_10 C.ct.rd.rd, rR_11 C.ct.rd.rd, rR_12 C.ct.rd.rd, rR_13 C.ct.rd.rd, rR_14 C.ct.rd.rd, rR_15 C.ct.rd.rd, rR_16 C.ct.rd.rd, rR_17 C.ct.rd.rd, rR_18 C.ct.rd.rd, rR_19 C.ct.rd.rd, aI_of (tR_1 C.ct.rd.rd), aI_of (tR_2 C.ct.rd.rd), aI_of (tR_3 C.ct.rd.rd), aI_of (tR_4 C.ct.rd.rd), aI_of (tR_5 C.ct.rd.rd), aI_of (tR_6 C.ct.rd.rd), aI_of (tR_7 C.ct.rd.rd), aI_of (tR_8 C.ct.rd.rd), aI_of (tR_9 C.ct.rd.rd), C.ct.rd.sc, C.ct.rd.len, C.ct.rd.e1, C.ct.rd.e2, C.ct.rd.min, C.ct.rd.kd, C.ct.rd.gt, C.ct.rd.bt, C.ct.rd.ip, C.ct.rd.hd, c_refuse C.ct.sh, c_answer C.ct.sh, c_areTunes W C, hx, Bool.toNat_true, e4, gR_of (tS_1 C4.sh), rS_1_6 C4.sh, c_notes C4.sh V, c_refuse C4.sh]
        rcases Decidable.em (y < nI 0) with w | w
        · simp only [w, if_true]
          exact qc_end2 (f4.sub (by decide)) K _ _
        · have w2 : ¬ y < nI (bs (a 0) (wi (a 0) c) 6 0 6).2.length := by
            have := hy2.resolve_left w
            rw [Int32.le_iff_toInt_le] at this
            rw [Int32.lt_iff_toInt_lt]
            omega
          simp only [w, w2, if_false]
          exact qc_end2 (f4.sub (by decide)) K _ _
      · unfold f_X13_songAt f_X13_songAt_49
        simp only [ck_of (tS_55 M0.sh), pI_of (tS_55 M0.sh), ob, nI_lit]; obtain ⟨h1, eh, M, F1⟩ : ∃ h1, wI h 55 0 (nI 0) = h1 ∧ IM h1 a ∧ FM h h1 := ⟨_, rfl, M0.th _, FM.w55 h _ (by decide)⟩; rw [eh]
        have P := M.told e0
        obtain ⟨h3, e3, f3, i3, k3⟩ := m_songs W.rw P (M.p69 e0) hc
        have S3 := f3.1.sh M.sh
        simp (disch := omega) only [ob, nI_lit, nI_eq, if_true, if_false, ck_of (tS_55 M.sh), gR_of (tS_55 M.sh), gI_of (tS_55 M.sh), pI_of (tS_55 M.sh), rS_55_16 M.sh, rS_55_17 M.sh, rS_55_18 M.sh, rS_55_21 M.sh, rS_55_25 M.sh, rS_55_26 M.sh, rS_55_27 M.sh, rS_55_28 M.sh, rS_55_32 M.sh, rS_55_33 M.sh, rS_55_34 M.sh, m_refused M.sh, m_good M.sh, m_areTunes W M, hx, Bool.toNat_true, e3, gI_of (tS_55 S3), i3, m_refused S3]
        rcases Decidable.em (y < nI 0) with w | w
        · simp only [w, if_true]
          exact qm_end (F1.tr f3) _ _
        · simp only [w, hy2.resolve_left w, if_true, if_false]
          exact qm_end (F1.tr f3) _ _
    · obtain ⟨i, hi, rfl⟩ := ix_t hy (by omega)
      refine ⟨nI ((bs (a 0) (wi (a 0) c) 6 0 6).2.getD i 0), 0, by decide, by decide, fun h C => ?_, fun h M0 => ?_⟩
      · obtain ⟨h4, e4, f4, K, V⟩ := c_compose W.rw C.ct W.r2 C.so h1 hc
        have C4 := C.ct.f43 W.r2 f4
        unfold f_X11_songAt
        simp (disch := omega) only [ob, nI_lit, nI_add, pk_mul, nI_eq, nI_ltI, nI_leI, if_true, if_false, if_pos, if_neg, ck_of (tS_1 C.ct.sh), gR_of (tS_1 C.ct.sh), gI_of (tS_1 C.ct.sh), pI_of (tS_1 C.ct.sh), C.ct.rp, rS_1_2 C.ct.sh, rS_1_3 C.ct.sh, rS_1_4 C.ct.sh, rS_1_5 C.ct.sh, rS_1_6 C.ct.sh, rS_1_7 C.ct.sh, rS_1_8 C.ct.sh, rS_1_9 C.ct.sh, ck_of (tR C.ct.rd.rd), gR_of (tR C.ct.rd.rd), gI_of (tR C.ct.rd.rd), rR_9 C.ct.rd.rd, rR_10 C.ct.rd.rd, rR_11 C.ct.rd.rd, rR_12 C.ct.rd.rd, rR_13 C.ct.rd.rd, rR_14 C.ct.rd.rd, rR_15 C.ct.rd.rd, rR_16 C.ct.rd.rd, rR_17 C.ct.rd.rd, rR_18 C.ct.rd.rd, rR_19 C.ct.rd.rd, aI_of (tR_1 C.ct.rd.rd), aI_of (tR_2 C.ct.rd.rd), aI_of (tR_3 C.ct.rd.rd), aI_of (tR_4 C.ct.rd.rd), aI_of (tR_5 C.ct.rd.rd), aI_of (tR_6 C.ct.rd.rd), aI_of (tR_7 C.ct.rd.rd), aI_of (tR_8 C.ct.rd.rd), aI_of (tR_9 C.ct.rd.rd), C.ct.rd.sc, C.ct.rd.len, C.ct.rd.e1, C.ct.rd.e2, C.ct.rd.min, C.ct.rd.kd, C.ct.rd.gt, C.ct.rd.bt, C.ct.rd.ip, C.ct.rd.hd, c_refuse C.ct.sh, c_answer C.ct.sh, c_areTunes W C, hx, Bool.toNat_true, e4, gR_of (tS_1 C4.sh), rS_1_6 C4.sh, c_notes C4.sh V, C4.rp, c_noteAt W C4 W.r2 K V hi, c_answer C4.sh]
        exact qc_end2 (f4.sub (by decide)) K _ _
      · unfold f_X13_songAt
        simp only [ck_of (tS_55 M0.sh), pI_of (tS_55 M0.sh), ob, nI_lit]; obtain ⟨h1, eh, M, F1⟩ : ∃ h1, wI h 55 0 (nI 0) = h1 ∧ IM h1 a ∧ FM h h1 := ⟨_, rfl, M0.th _, FM.w55 h _ (by decide)⟩; rw [eh]
        have P := M.told e0
        obtain ⟨h3, e3, f3, i3, k3⟩ := m_songs W.rw P (M.p69 e0) hc
        have S3 := f3.1.sh M.sh
        simp (disch := omega) only [ob, nI_lit, nI_add, pk_mul, nI_eq, nI_ltI, nI_leI, if_true, if_false, if_pos, if_neg, ck_of (tS_55 M.sh), gR_of (tS_55 M.sh), gI_of (tS_55 M.sh), pI_of (tS_55 M.sh), rS_55_16 M.sh, rS_55_17 M.sh, rS_55_18 M.sh, rS_55_21 M.sh, rS_55_25 M.sh, rS_55_26 M.sh, rS_55_27 M.sh, rS_55_28 M.sh, rS_55_32 M.sh, rS_55_33 M.sh, rS_55_34 M.sh, m_refused M.sh, m_good M.sh, m_areTunes W M, hx, Bool.toNat_true, e3, gI_of (tS_55 S3), gR_of (tS_55 S3), rS_55_27 S3, aI_of (tS_63 S3), i3, k3 i hi, m_good S3]
        exact qm_end (F1.tr f3) _ _
theorem st_24 : StepOK INV lc_24 := by
  intro sc L i h hL hi hI
  unfold lc_24
  simp only [show (1 : Int32) = nI 1 from rfl, show (2 : Int32) = nI 2 from rfl, show (3 : Int32) = nI 3 from rfl, show (4 : Int32) = nI 4 from rfl, show (5 : Int32) = nI 5 from rfl, nI_add, sc_at hL (show i + 1 < L by omega), sc_at hL (show i + 2 < L by omega), sc_at hL (show i + 3 < L by omega), sc_at hL (show i + 4 < L by omega), sc_at hL (show i + 5 < L by omega), ob]
  exact q2 (f := fun h => f_X11_songAt h 1 (sc (i + 1)) (sc (i + 2))) (g := fun h => f_X13_songAt h 55 (sc (i + 1)) (sc (i + 2))) hI (fun a W => qq_songAt W _ _)
end
