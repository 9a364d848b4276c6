/-! ===== an act: what was, is kept ===== -/
def nu (ν : RO) (w x v : Nat) : RO := fun w' x' => if w' = w ∧ x' = x then v else ν w' x'
theorem nu_at (ν : RO) (w x v : Nat) : nu ν w x v w x = v := if_pos ⟨rfl, rfl⟩
theorem nu_w (ν : RO) {w w' : Nat} (x v x' : Nat) (h : w' ≠ w) : nu ν w x v w' x' = ν w' x' := if_neg (fun q => h q.1)
theorem nu_x (ν : RO) {x x' : Nat} (w v w' : Nat) (h : x' ≠ x) : nu ν w x v w' x' = ν w' x' := if_neg (fun q => h q.2)
theorem rC_set {f : Nat → Int32} {ν : RO} (H : rC f 0 ν) {w x : Nat} (v : Nat) (hx : x < 4) (hw : w < 5) : rC (upd f (x * 5 + w) (nI v)) 0 (nu ν w x v) := by
  refine ⟨fun x' w' hx' hw' => ?_, ?_⟩
  · have h1 := H.1 x' w' hx' hw'
    rw [Nat.zero_add] at h1 ⊢
    unfold upd nu
    rcases Decidable.em (w' = w ∧ x' = x) with e | e
    · rw [if_pos e, if_pos (by rw [e.1, e.2])]
    · rw [if_neg e, if_neg (by omega), h1]
  · have h1 := H.2
    rw [Nat.zero_add] at h1 ⊢
    unfold upd nu
    rw [if_neg (by omega), if_neg (by omega), h1]
theorem rM_set {f : Nat → Int32} {ν : RO} (H : rM f 0 ν) {w x : Nat} (v : Nat) (hx : x < 4) (hw : w < 5) : rM (upd f (4 * w + x) (nI v)) 0 (nu ν w x v) := by
  refine ⟨fun x' w' hx' hw' => ?_, ?_⟩
  · have h1 := H.1 x' w' hx' hw'
    rw [Nat.zero_add] at h1 ⊢
    unfold upd nu
    rcases Decidable.em (w' = w ∧ x' = x) with e | e
    · rw [if_pos e, if_pos (by rw [e.1, e.2])]
    · rw [if_neg e, if_neg (by omega), h1]
  · have h1 := H.2
    rw [Nat.zero_add] at h1 ⊢
    unfold upd nu
    rw [if_neg (by omega), if_neg (by omega), h1]
theorem rC_rain {f : Nat → Int32} {ν : RO} (H : rC f 0 ν) (v : Nat) : rC (upd f 20 (nI v)) 0 (nu ν 5 0 v) := by
  refine ⟨fun x' w' hx' hw' => ?_, ?_⟩
  · have h1 := H.1 x' w' hx' hw'
    rw [Nat.zero_add] at h1 ⊢
    unfold upd nu
    rw [if_neg (by omega), if_neg (by omega), h1]
  · unfold upd nu
    rw [if_pos rfl, if_pos ⟨rfl, rfl⟩]
theorem rM_rain {f : Nat → Int32} {ν : RO} (H : rM f 0 ν) (v : Nat) : rM (upd f 20 (nI v)) 0 (nu ν 5 0 v) := by
  refine ⟨fun x' w' hx' hw' => ?_, ?_⟩
  · have h1 := H.1 x' w' hx' hw'
    rw [Nat.zero_add] at h1 ⊢
    unfold upd nu
    rw [if_neg (by omega), if_neg (by omega), h1]
  · unfold upd nu
    rw [if_pos rfl, if_pos ⟨rfl, rfl⟩]
theorem rC_mv {f g : Nat → Int32} {o o' : Nat} {ν : RO} (H : rC f o ν) (e : ∀ j, j < 21 → g (o' + j) = f (o + j)) : rC g o' ν := by
  refine ⟨fun x w hx hw => ?_, ?_⟩
  · rw [e _ (by omega)]; exact H.1 x w hx hw
  · rw [e _ (by omega)]; exact H.2
theorem rM_mv {f g : Nat → Int32} {o o' : Nat} {ν : RO} (H : rM f o ν) (e : ∀ j, j < 21 → g (o' + j) = f (o + j)) : rM g o' ν := by
  refine ⟨fun x w hx hw => ?_, ?_⟩
  · rw [e _ (by omega)]; exact H.1 x w hx hw
  · rw [e _ (by omega)]; exact H.2
/-- the state behind an act that makes ν' of what is now -/
def actA (a : AB) (ν' : RO) : AB := fun i => if i = 1 then ν' else if i = 2 then (fun _ k => if k = 3 then min (a 2 0 3 + 1) 16 else if k = 4 then (a 2 0 4 + 1) % 16 else a 2 0 k) else if i = 10 then a 1 else if 10 < i ∧ i < 30 then a (i - 1) else a i
theorem actA_1 (a : AB) (ν' : RO) : actA a ν' 1 = ν' := rfl
theorem actA_0 (a : AB) (ν' : RO) : actA a ν' 0 = a 0 := rfl
theorem actA_3 (a : AB) (ν' : RO) : actA a ν' 3 = a 3 := rfl
theorem actA_23 (a : AB) (ν' : RO) : actA a ν' 2 0 3 = min (a 2 0 3 + 1) 16 := rfl
theorem actA_24 (a : AB) (ν' : RO) : actA a ν' 2 0 4 = (a 2 0 4 + 1) % 16 := rfl
theorem actA_25 (a : AB) (ν' : RO) : actA a ν' 2 0 5 = a 2 0 5 := rfl
theorem actA_2 (a : AB) (ν' : RO) : ∀ k, k ≠ 3 → k ≠ 4 → k ≠ 5 → actA a ν' 2 0 k = a 2 0 k := fun k h3 h4 _ => by
  show (if k = 3 then _ else if k = 4 then _ else a 2 0 k) = _
  rw [if_neg h3, if_neg h4]
theorem actA_10 (a : AB) (ν' : RO) : actA a ν' 10 = a 1 := rfl
theorem actA_s (a : AB) (ν' : RO) {j : Nat} (h0 : 0 < j) (hj : j < 20) : actA a ν' (10 + j) = a (10 + (j - 1)) := by
  unfold actA
  rw [if_neg (by omega), if_neg (by omega), if_neg (by omega), if_pos (by omega), show 10 + j - 1 = 10 + (j - 1) by omega]
theorem actA_30 (a : AB) (ν' : RO) (k : Nat) : actA a ν' (30 + k) = a (30 + k) := by
  unfold actA
  rw [if_neg (by omega), if_neg (by omega), if_neg (by omega), if_neg (by omega)]
theorem act_w {a : AB} {ν' : RO} (W : IW a) (ht : 0 < a 0 0 2) (hN : NF (a 0) ν') : IW (actA a ν') := by
  have hac := W.ac
  refine W.ch ht rfl (actA_2 a ν') rfl hN (by rw [actA_23]; omega) (by rw [actA_24]; omega) (by rw [actA_25]; exact W.mk) (fun j hj => ?_) (fun k hk => ?_)
  · rw [actA_23] at hj
    rcases Nat.eq_zero_or_pos j with e | e
    · subst e; exact W.nf
    · rw [actA_s a ν' e (by omega)]
      exact W.al _ (by omega)
  · rw [actA_30]
    exact W.ml k (by rwa [actA_25] at hk)
def kpM (h : Mem) (a : AB) : Mem := wI (wI (rowI h 35 (va_cpy (mI h 34) (mI h 35) 0 (a 2 0 4 * 21) 21)) 33 3 (nI ((a 2 0 4 + 1) % 16))) 33 4 (nI (min (a 2 0 3 + 1) 16))
theorem kpM_f (h : Mem) (a : AB) : FQ [1, 33, 34, 35, 36] h (kpM h a) := ((FQ.row h _ (by decide)).tr (FQ.w _ _ _ (by decide))).tr (FQ.w _ _ _ (by decide))
theorem kpM_34 (h : Mem) (a : AB) : mI (kpM h a) 34 = mI h 34 := by
  unfold kpM
  rw [mI_wI_ne _ _ _ (by decide), mI_wI_ne _ _ _ (by decide), mI_row_ne h _ (by decide)]
theorem kpM_35 (h : Mem) (a : AB) : mI (kpM h a) 35 = va_cpy (mI h 34) (mI h 35) 0 (a 2 0 4 * 21) 21 := by
  unfold kpM
  rw [mI_wI_ne _ _ _ (by decide), mI_wI_ne _ _ _ (by decide), mI_row]
theorem kpM_36 (h : Mem) (a : AB) : mI (kpM h a) 36 = mI h 36 := by
  unfold kpM
  rw [mI_wI_ne _ _ _ (by decide), mI_wI_ne _ _ _ (by decide), mI_row_ne h _ (by decide)]
theorem kpM_33 (h : Mem) (a : AB) : mI (kpM h a) 33 = upd (upd (mI h 33) 3 (nI ((a 2 0 4 + 1) % 16))) 4 (nI (min (a 2 0 3 + 1) 16)) := by
  unfold kpM
  rw [mI_wI_at, mI_wI_at, mI_row_ne h _ (by decide)]
theorem act_c {h h' : Mem} {a : AB} {ν' : RO} (W : IW a) (C : IC h a) (f : FQ [1, 34] (kpM h a) h') (nw : cNw h' ν') : FLo h h' ∧ IC h' (actA a ν') := by
  have f1 : FQ [1, 33, 34, 35, 36] h h' := (kpM_f h a).tr (f.sub (by decide))
  have hac := W.ac
  have hnx := W.nx
  have e33 := f.2.2.2.2 33 (by decide)
  have e35 := f.2.2.2.2 35 (by decide)
  have e36 := f.2.2.2.2 36 (by decide)
  rw [kpM_33] at e33
  rw [kpM_35] at e35
  rw [kpM_36] at e36
  refine ⟨⟨fun x => by rw [f1.1], fun x hx => ⟨f1.2.2.2.2 x ?_, by rw [f1.2.1]⟩, f1.2.2.2.1⟩, ?_⟩
  · intro hq
    simp only [List.mem_cons, List.not_mem_nil, or_false] at hq
    omega
  · refine C.ch W f1 rfl (actA_2 a ν') rfl nw ?_ ?_ ?_ ?_ ?_
    · rw [e33, pk_us, actA_23]
    · rw [e33, pk_un (by decide), pk_us, actA_24]
    · rw [e33, pk_un (by decide), pk_un (by decide), actA_25]
      exact C.mk
    · intro j hj
      rw [actA_23] at hj
      rw [e35, actA_24]
      rcases Nat.eq_zero_or_pos j with e | e
      · subst e
        rw [Nat.add_zero, actA_10]
        refine rC_mv C.nw (fun i hi => ?_)
        rw [pk_cpy_in (by omega) (by omega)]
        congr 1
        omega
      · rw [actA_s a ν' e (by omega)]
        refine rC_mv (C.ah (j - 1) (by omega)) (fun i hi => ?_)
        rw [pk_cpy_out (by omega)]
        congr 1
        omega
    · intro k hk
      rw [actA_25] at hk
      rw [actA_30, e36]
      exact C.bm k hk
def rmM (h : Mem) (a : AB) : Mem := wI (rowI h 58 (rmf (a 2 0 3) (mI h 57) (mI h 58))) 55 19 (nI (min (a 2 0 3 + 1) 16))
theorem rmM_f (h : Mem) (a : AB) : FQ [55, 57, 58, 59] h (rmM h a) := (FQ.row h _ (by decide)).tr (FQ.w _ _ _ (by decide))
theorem rmM_55 (h : Mem) (a : AB) : mI (rmM h a) 55 = upd (mI h 55) 19 (nI (min (a 2 0 3 + 1) 16)) := by
  unfold rmM
  rw [mI_wI_at, mI_row_ne h _ (by decide)]
theorem rmM_57 (h : Mem) (a : AB) : mI (rmM h a) 57 = mI h 57 := by
  unfold rmM
  rw [mI_wI_ne _ _ _ (by decide), mI_row_ne h _ (by decide)]
theorem rmM_58 (h : Mem) (a : AB) : mI (rmM h a) 58 = rmf (a 2 0 3) (mI h 57) (mI h 58) := by
  unfold rmM
  rw [mI_wI_ne _ _ _ (by decide), mI_row]
theorem act_m {h h' : Mem} {a : AB} {ν' : RO} (W : IW a) (M : IM h a) (f : FQ [55, 57] (rmM h a) h') (e : ∀ k, k = 6 ∨ k = 12 ∨ k = 19 ∨ k = 20 → mI h' 55 k = mI (rmM h a) 55 k) (nw : mNw h' ν') : FHi h h' ∧ IM h' (actA a ν') := by
  have f1 : FQ [55, 57, 58, 59] h h' := (rmM_f h a).tr (f.sub (by decide))
  have hac := W.ac
  have e58 := f.2.2.2.2 58 (by decide)
  have e59 : mI h' 59 = mI h 59 := by
    rw [f.2.2.2.2 59 (by decide)]
    unfold rmM
    rw [mI_wI_ne _ _ _ (by decide), mI_row_ne h _ (by decide)]
  rw [rmM_58] at e58
  rw [rmM_55] at e
  refine ⟨⟨fun x _ => by rw [f1.1], fun x hx => ⟨f1.2.2.2.2 x ?_, by rw [f1.2.1], by rw [f1.2.2.1]⟩, by rw [f1.2.2.2.1]; exact Nat.le_refl _⟩, ?_⟩
  · intro hq
    simp only [List.mem_cons, List.not_mem_nil, or_false] at hq
    omega
  · refine M.ch f1 ?_ ?_ rfl (actA_2 a ν') rfl nw ?_ ?_ ?_ ?_
    · rw [e 6 (by decide), pk_un (by decide)]
    · rw [e 12 (by decide), pk_un (by decide)]
    · rw [e 19 (by decide), pk_us, actA_23]
    · rw [e 20 (by decide), pk_un (by decide), actA_25]
      exact M.mk
    · intro j hj
      rw [actA_23] at hj ⊢
      rw [e58]
      rcases Nat.eq_zero_or_pos j with e | e
      · subst e
        rw [Nat.add_zero, actA_10]
        refine rM_mv M.nw (fun i hi => ?_)
        unfold rmf
        rcases Decidable.em (a 2 0 3 = 16) with q | q
        · rw [if_pos q, if_neg (by omega), if_pos (by omega)]
          exact congrArg (mI h 57) (by omega)
        · rw [if_neg q, if_pos (by omega)]
          congr 1
          omega
      · rw [actA_s a ν' e (by omega)]
        refine rM_mv (M.pa (j - 1) (by omega)) (fun i hi => ?_)
        unfold rmf
        rcases Decidable.em (a 2 0 3 = 16) with q | q
        · rw [if_pos q, if_pos (by omega)]
          congr 1
          omega
        · rw [if_neg q, if_neg (by omega)]
          congr 1
          omega
    · intro k hk
      rw [actA_25] at hk
      rw [actA_30, e59]
      exact M.ke k hk
theorem SH.kp {h : Mem} (S : SH h) (a : AB) : SH (kpM h a) := S
theorem SH.rm {h : Mem} (S : SH h) (a : AB) : SH (rmM h a) := S
theorem c_set {h : Mem} (S : SH h) {x w : Nat} (v : Int32) (hx : x < 4) (hw : w < 5) : f_X2_set h 33 (nI x) (nI w) v = some (wI h 34 (x * 5 + w) v) := by
  unfold f_X2_set
  simp (disch := omega) only [ob, nI_lit, nI_add, pk_mul, nI_eq, nI_ltI, nI_leI, if_true, if_false, if_pos, if_neg, ck_of (tS_33 S), gR_of (tS_33 S), rS_33_0 S, sI_of (tS_34 S)]
theorem c_of2 {h : Mem} (S : SH h) {x w : Nat} (hx : x < 4) (hw : w < 5) : f_X2_of h 33 (nI x) (nI w) = some (mI h 34 (x * 5 + w)) := by
  unfold f_X2_of
  simp (disch := omega) only [ob, nI_lit, nI_add, pk_mul, nI_eq, nI_ltI, nI_leI, if_true, if_false, if_pos, if_neg, ck_of (tS_33 S), gR_of (tS_33 S), rS_33_0 S, aI_of (tS_34 S)]
theorem c_keep2 {h : Mem} {a : AB} (W : IW a) (C : IC h a) : f_X2_keep h 33 = some (kpM h a) := c_keep W C
theorem m_rem2 {h : Mem} {a : AB} (W : IW a) (M : IM h a) : f_X13_remembers h 55 = some (rmM h a) := m_rem W M
theorem qq_go {a : AB} (W : IW a) (z : Nat) (x y : Int32) : ∃ a' v z', IW a' ∧ z' ≤ 6 ∧ AC a z a' z' (fun h => f_X11_go h 1 x y) v ∧ AM a z a' z' (fun h => f_X13_go h 55 x y) v := by
  have hpe := W.rw.pe
  have hpl := W.rw.pl
  have hro := W.rw.ro
  have hr := W.nf.rn
  rcases hx : ix (a 0 0 6) x with _ | _
  · refine ⟨a, -nI 1, 1, W, by decide, AC.ofQ W (fun h C => ?_) z, AM.ofQ (fun h M0 => ?_) (by decide) z⟩
    · unfold f_X11_go f_X11_go_16
      simp (disch := omega) only [ob, nI_lit, nI_add, pk_mul, nI_eq, nI_ltI, nI_leI, if_true, if_false, if_pos, if_neg, ck_of (tS_1 C.ct.sh), gR_of (tS_1 C.ct.sh), gI_of (tS_1 C.ct.sh), pI_of (tS_1 C.ct.sh), C.ct.rp, rS_1_2 C.ct.sh, rS_1_3 C.ct.sh, rS_1_4 C.ct.sh, rS_1_5 C.ct.sh, rS_1_6 C.ct.sh, rS_1_7 C.ct.sh, rS_1_8 C.ct.sh, rS_1_9 C.ct.sh, ck_of (tR C.ct.rd.rd), gR_of (tR C.ct.rd.rd), gI_of (tR C.ct.rd.rd), rR_9 C.ct.rd.rd, rR_10 C.ct.rd.rd, rR_11 C.ct.rd.rd, rR_12 C.ct.rd.rd, rR_13 C.ct.rd.rd, rR_14 C.ct.rd.rd, rR_15 C.ct.rd.rd, rR_16 C.ct.rd.rd, rR_17 C.ct.rd.rd, rR_18 C.ct.rd.rd, rR_19 C.ct.rd.rd, aI_of (tR_1 C.ct.rd.rd), aI_of (tR_2 C.ct.rd.rd), aI_of (tR_3 C.ct.rd.rd), aI_of (tR_4 C.ct.rd.rd), aI_of (tR_5 C.ct.rd.rd), aI_of (tR_6 C.ct.rd.rd), aI_of (tR_7 C.ct.rd.rd), aI_of (tR_8 C.ct.rd.rd), aI_of (tR_9 C.ct.rd.rd), C.ct.rd.sc, C.ct.rd.len, C.ct.rd.e1, C.ct.rd.e2, C.ct.rd.min, C.ct.rd.kd, C.ct.rd.gt, C.ct.rd.bt, C.ct.rd.ip, C.ct.rd.hd, c_refuse C.ct.sh, c_answer C.ct.sh, c_isPerson W C, hx, Bool.toNat_false]
      exact qc_end C _ _
    · unfold f_X13_go f_X13_go_21
      simp only [ck_of (tS_55 M0.sh), pI_of (tS_55 M0.sh), ob, nI_lit]; obtain ⟨h1, eh, M, F1⟩ : ∃ h1, wI h 55 0 (nI 0) = h1 ∧ IM h1 a ∧ FM h h1 := ⟨_, rfl, M0.th _, FM.w55 h _ (by decide)⟩; rw [eh]
      simp (disch := omega) only [ob, nI_lit, nI_add, pk_mul, nI_eq, nI_ltI, nI_leI, if_true, if_false, if_pos, if_neg, ck_of (tS_55 M.sh), gR_of (tS_55 M.sh), gI_of (tS_55 M.sh), pI_of (tS_55 M.sh), rS_55_16 M.sh, rS_55_17 M.sh, rS_55_18 M.sh, rS_55_21 M.sh, rS_55_25 M.sh, rS_55_26 M.sh, rS_55_27 M.sh, rS_55_28 M.sh, rS_55_32 M.sh, rS_55_33 M.sh, rS_55_34 M.sh, m_refused M.sh, m_good M.sh, m_isPerson W M, hx, Bool.toNat_false]
      exact qm_end F1 _ _
  · obtain ⟨k, hk, rfl⟩ := ix_t hx (by omega)
    rcases hy : ix (a 0 0 2) y with _ | _
    · refine ⟨a, -nI 1, 1, W, by decide, AC.ofQ W (fun h C => ?_) z, AM.ofQ (fun h M0 => ?_) (by decide) z⟩
      · unfold f_X11_go f_X11_go_16
        simp (disch := omega) only [ob, nI_lit, nI_add, pk_mul, nI_eq, nI_ltI, nI_leI, if_true, if_false, if_pos, if_neg, ck_of (tS_1 C.ct.sh), gR_of (tS_1 C.ct.sh), gI_of (tS_1 C.ct.sh), pI_of (tS_1 C.ct.sh), C.ct.rp, rS_1_2 C.ct.sh, rS_1_3 C.ct.sh, rS_1_4 C.ct.sh, rS_1_5 C.ct.sh, rS_1_6 C.ct.sh, rS_1_7 C.ct.sh, rS_1_8 C.ct.sh, rS_1_9 C.ct.sh, ck_of (tR C.ct.rd.rd), gR_of (tR C.ct.rd.rd), gI_of (tR C.ct.rd.rd), rR_9 C.ct.rd.rd, rR_10 C.ct.rd.rd, rR_11 C.ct.rd.rd, rR_12 C.ct.rd.rd, rR_13 C.ct.rd.rd, rR_14 C.ct.rd.rd, rR_15 C.ct.rd.rd, rR_16 C.ct.rd.rd, rR_17 C.ct.rd.rd, rR_18 C.ct.rd.rd, rR_19 C.ct.rd.rd, aI_of (tR_1 C.ct.rd.rd), aI_of (tR_2 C.ct.rd.rd), aI_of (tR_3 C.ct.rd.rd), aI_of (tR_4 C.ct.rd.rd), aI_of (tR_5 C.ct.rd.rd), aI_of (tR_6 C.ct.rd.rd), aI_of (tR_7 C.ct.rd.rd), aI_of (tR_8 C.ct.rd.rd), aI_of (tR_9 C.ct.rd.rd), C.ct.rd.sc, C.ct.rd.len, C.ct.rd.e1, C.ct.rd.e2, C.ct.rd.min, C.ct.rd.kd, C.ct.rd.gt, C.ct.rd.bt, C.ct.rd.ip, C.ct.rd.hd, c_refuse C.ct.sh, c_answer C.ct.sh, c_isPerson W C, hx, Bool.toNat_true, c_isPlace W C, hy, Bool.toNat_false]
        exact qc_end C _ _
      · unfold f_X13_go f_X13_go_21
        simp only [ck_of (tS_55 M0.sh), pI_of (tS_55 M0.sh), ob, nI_lit]; obtain ⟨h1, eh, M, F1⟩ : ∃ h1, wI h 55 0 (nI 0) = h1 ∧ IM h1 a ∧ FM h h1 := ⟨_, rfl, M0.th _, FM.w55 h _ (by decide)⟩; rw [eh]
        simp (disch := omega) only [ob, nI_lit, nI_add, pk_mul, nI_eq, nI_ltI, nI_leI, if_true, if_false, if_pos, if_neg, ck_of (tS_55 M.sh), gR_of (tS_55 M.sh), gI_of (tS_55 M.sh), pI_of (tS_55 M.sh), rS_55_16 M.sh, rS_55_17 M.sh, rS_55_18 M.sh, rS_55_21 M.sh, rS_55_25 M.sh, rS_55_26 M.sh, rS_55_27 M.sh, rS_55_28 M.sh, rS_55_32 M.sh, rS_55_33 M.sh, rS_55_34 M.sh, m_refused M.sh, m_good M.sh, m_isPerson W M, hx, Bool.toNat_true, m_isPlace W M, hy, Bool.toNat_false]
        exact qm_end F1 _ _
    · obtain ⟨p, hp, rfl⟩ := ix_t hy (by omega)
      have hat := W.nf.pl k hk
      have h2 := W.nf.kn k hk
      have h3 := W.nf.fg k hk
      have hb := b_le W.rw hat hp
      rcases hg : (decide (a 1 0 k ≠ p) && pq (a 0) (a 1 0 k) p (vo (a 1 2 k) (a 1 3 k)) (rb (a 1))) with _ | _
      · refine ⟨a, -nI 1, 5, W, by decide, AC.ofQ W (fun h C => ?_) z, AM.ofQ (fun h M0 => ?_) (by decide) z⟩
        · unfold f_X11_go f_X11_go_67
          simp (disch := omega) only [ob, nI_lit, nI_add, pk_mul, nI_eq, nI_ltI, nI_leI, if_true, if_false, if_pos, if_neg, ck_of (tS_1 C.ct.sh), gR_of (tS_1 C.ct.sh), gI_of (tS_1 C.ct.sh), pI_of (tS_1 C.ct.sh), C.ct.rp, rS_1_2 C.ct.sh, rS_1_3 C.ct.sh, rS_1_4 C.ct.sh, rS_1_5 C.ct.sh, rS_1_6 C.ct.sh, rS_1_7 C.ct.sh, rS_1_8 C.ct.sh, rS_1_9 C.ct.sh, ck_of (tR C.ct.rd.rd), gR_of (tR C.ct.rd.rd), gI_of (tR C.ct.rd.rd), rR_9 C.ct.rd.rd, rR_10 C.ct.rd.rd, rR_11 C.ct.rd.rd, rR_12 C.ct.rd.rd, rR_13 C.ct.rd.rd, rR_14 C.ct.rd.rd, rR_15 C.ct.rd.rd, rR_16 C.ct.rd.rd, rR_17 C.ct.rd.rd, rR_18 C.ct.rd.rd, rR_19 C.ct.rd.rd, aI_of (tR_1 C.ct.rd.rd), aI_of (tR_2 C.ct.rd.rd), aI_of (tR_3 C.ct.rd.rd), aI_of (tR_4 C.ct.rd.rd), aI_of (tR_5 C.ct.rd.rd), aI_of (tR_6 C.ct.rd.rd), aI_of (tR_7 C.ct.rd.rd), aI_of (tR_8 C.ct.rd.rd), aI_of (tR_9 C.ct.rd.rd), C.ct.rd.sc, C.ct.rd.len, C.ct.rd.e1, C.ct.rd.e2, C.ct.rd.min, C.ct.rd.kd, C.ct.rd.gt, C.ct.rd.bt, C.ct.rd.ip, C.ct.rd.hd, c_refuse C.ct.sh, c_answer C.ct.sh, c_isPerson W C, hx, Bool.toNat_true, c_isPlace W C, hy, c_of C.ct.sh C.nw, c_roadOf W C]
          rcases hi : ir (a 0) (nI (a 1 0 k)) (nI p) with _ | _
          · have hn := ir_neg W.rw hi
            simp only [hn, if_true]
            exact qc_end C _ _
          · obtain ⟨p', q', j, hp1, hq, hne, e1, e2, hj, e, hrb⟩ := ir_t W.rw hi
            have e1 := (nI_eq (show a 1 0 k < 2 ^ 31 by omega) (show p' < 2 ^ 31 by omega)).mp e1
            have e2 := (nI_eq (show p < 2 ^ 31 by omega) (show q' < 2 ^ 31 by omega)).mp e2
            subst e2
            subst e1
            unfold pq at hg
            rw [e] at hg
            simp only [hne, ne_eq, not_false_iff, decide_true, Bool.true_and, Nat.add_sub_cancel, Nat.succ_ne_zero] at hg
            simp (disch := omega) only [ob, nI_lit, nI_add, pk_mul, nI_eq, nI_ltI, nI_leI, if_true, if_false, if_pos, if_neg, hrb, c_voices C.ct.sh C.nw (show k < 4 by omega) h2 h3, c_rains C.ct.sh C.nw hr, c_open W.rw C.ct (rb (a 1)) hj (vo_lt h2 h3) (vo_ne _ _), hg, Bool.toNat_false, ck_of (tS_1 C.ct.sh), gR_of (tS_1 C.ct.sh), gI_of (tS_1 C.ct.sh), pI_of (tS_1 C.ct.sh), C.ct.rp, rS_1_2 C.ct.sh, rS_1_3 C.ct.sh, rS_1_4 C.ct.sh, rS_1_5 C.ct.sh, rS_1_6 C.ct.sh, rS_1_7 C.ct.sh, rS_1_8 C.ct.sh, rS_1_9 C.ct.sh, ck_of (tR C.ct.rd.rd), gR_of (tR C.ct.rd.rd), gI_of (tR C.ct.rd.rd), rR_9 C.ct.rd.rd, rR_10 C.ct.rd.rd, rR_11 C.ct.rd.rd, rR_12 C.ct.rd.rd, rR_13 C.ct.rd.rd, rR_14 C.ct.rd.rd, rR_15 C.ct.rd.rd, rR_16 C.ct.rd.rd, rR_17 C.ct.rd.rd, rR_18 C.ct.rd.rd, rR_19 C.ct.rd.rd, aI_of (tR_1 C.ct.rd.rd), aI_of (tR_2 C.ct.rd.rd), aI_of (tR_3 C.ct.rd.rd), aI_of (tR_4 C.ct.rd.rd), aI_of (tR_5 C.ct.rd.rd), aI_of (tR_6 C.ct.rd.rd), aI_of (tR_7 C.ct.rd.rd), aI_of (tR_8 C.ct.rd.rd), aI_of (tR_9 C.ct.rd.rd), C.ct.rd.sc, C.ct.rd.len, C.ct.rd.e1, C.ct.rd.e2, C.ct.rd.min, C.ct.rd.kd, C.ct.rd.gt, C.ct.rd.bt, C.ct.rd.ip, C.ct.rd.hd, c_refuse C.ct.sh, c_answer C.ct.sh]
            exact qc_end C _ _
        · unfold f_X13_go f_X13_go_72
          simp only [ck_of (tS_55 M0.sh), pI_of (tS_55 M0.sh), ob, nI_lit]; obtain ⟨h1, eh, M, F1⟩ : ∃ h1, wI h 55 0 (nI 0) = h1 ∧ IM h1 a ∧ FM h h1 := ⟨_, rfl, M0.th _, FM.w55 h _ (by decide)⟩; rw [eh]
          have P := M.told (by omega)
          have n0 := M.nw.at k 0 (by omega) (by decide)
          have n2 := M.nw.at k 2 (by omega) (by decide)
          have n3 := M.nw.at k 3 (by omega) (by decide)
          simp only [Nat.reduceMul] at n0 n2 n3
          simp (disch := omega) only [ob, nI_lit, nI_add, pk_mul, nI_eq, nI_ltI, nI_leI, if_true, if_false, if_pos, if_neg, ck_of (tS_55 M.sh), gR_of (tS_55 M.sh), gI_of (tS_55 M.sh), pI_of (tS_55 M.sh), rS_55_16 M.sh, rS_55_17 M.sh, rS_55_18 M.sh, rS_55_21 M.sh, rS_55_25 M.sh, rS_55_26 M.sh, rS_55_27 M.sh, rS_55_28 M.sh, rS_55_32 M.sh, rS_55_33 M.sh, rS_55_34 M.sh, m_refused M.sh, m_good M.sh, m_isPerson W M, hx, Bool.toNat_true, m_isPlace W M, hy, aI_of (tS_57 M.sh), n0, n2, n3, m_rains M.sh M.nw hr, m_passes W.rw P (rb (a 1)) hat hp h2 h3]
          rcases Decidable.em (a 1 0 k = p) with e | e
          · simp only [e, if_true]
            exact qm_end F1 _ _
          · simp only [e, ne_eq, not_false_iff, decide_true, Bool.true_and] at hg
            simp only [e, if_false, hg, Bool.toNat_false, if_true]
            exact qm_end F1 _ _
      · simp only [Bool.and_eq_true, decide_eq_true_iff] at hg
        obtain ⟨hne, hg⟩ := hg
        have hb0 : a 0 13 (7 * a 1 0 k + p) ≠ 0 := by
          intro e
          unfold pq at hg
          simp [e] at hg
        obtain ⟨j, hj, hb1⟩ : ∃ j, j < a 0 0 3 ∧ a 0 13 (7 * a 1 0 k + p) = j + 1 := by
          rcases b_or W.rw hat hp with e | e
          · exact absurd e hb0
          · exact e
        have hop : op (a 0) j (vo (a 1 2 k) (a 1 3 k)) (rb (a 1)) = true := by
          unfold pq at hg
          rw [hb1] at hg
          simpa using hg
        have hqm : qm (a 0) (a 1 0 k) p = a 0 5 j := by
          unfold qm
          rw [hb1, if_neg (by omega)]
          rfl
        have hN : NF (a 0) (nu (nu (a 1) 0 k p) 4 k (a 1 4 k + a 0 5 j)) := by
          refine ⟨fun x hx => ?_, fun x hx => ?_, fun x hx => ?_, fun x hx => ?_, ?_⟩
          · rw [nu_w _ _ _ _ (by decide)]
            unfold nu
            split
            · exact hp
            · exact W.nf.pl x hx
          · rw [nu_w _ _ _ _ (by decide), nu_w _ _ _ _ (by decide)]; exact W.nf.co x hx
          · rw [nu_w _ _ _ _ (by decide), nu_w _ _ _ _ (by decide)]; exact W.nf.kn x hx
          · rw [nu_w _ _ _ _ (by decide), nu_w _ _ _ _ (by decide)]; exact W.nf.fg x hx
          · rw [nu_w _ _ _ _ (by decide), nu_w _ _ _ _ (by decide)]; exact W.nf.rn
        refine ⟨actA a (nu (nu (a 1) 0 k p) 4 k (a 1 4 k + a 0 5 j)), nI (a 1 4 k + a 0 5 j), 0, act_w W (by omega) hN, by decide, fun h C _ => ?_, fun h M0 _ _ => ?_⟩
        · have hrb : rb2 (a 0) (nI (a 1 0 k)) (nI p) = nI j := by
            unfold rb2 i2
            rw [ix_n hat (by omega), ix_n hp (by omega), nI_clamp (by omega), nI_clamp (by omega), hb1]
            have : nI (a 1 0 k) ≠ nI p := fun e => hne ((nI_eq (by omega) (by omega)).mp e)
            simp only [this, ne_eq, not_false_iff, decide_true, Bool.and_self, if_true]
            rw [pk_sub (by omega)]
            rfl
          have S := C.ct.sh
          have e4 : mI (wI (kpM h a) 34 (k * 5 + 0) (nI p)) 34 (k * 5 + 4) = nI (a 1 4 k) := by
            rw [mI_wI_at, pk_un (by omega), kpM_34]
            exact C.nw.at k 4 (by omega) (by decide)
          have eR : mR (wI (kpM h a) 34 (k * 5 + 0) (nI p)) = mR h := rfl
          have eT : mT (wI (kpM h a) 34 (k * 5 + 0) (nI p)) = mT h := rfl
          have eI : mI (wI (kpM h a) 34 (k * 5 + 0) (nI p)) (a 2 0 0 + 4) = mI h (a 2 0 0 + 4) := by
            have := W.rr
            rw [mI_wI_ne _ _ _ (by omega)]
            refine (kpM_f h a).2.2.2.2 _ ?_
            intro hq
            simp only [List.mem_cons, List.not_mem_nil, or_false] at hq
            omega
          have R' : RD (wI (kpM h a) 34 (k * 5 + 0) (nI p)) (a 2 0 0) := C.ct.rd.rd
          unfold f_X11_go
          simp (disch := omega) only [ob, nI_lit, nI_add, pk_mul, nI_eq, nI_ltI, nI_leI, if_true, if_false, if_pos, if_neg, ck_of (tS_1 C.ct.sh), gR_of (tS_1 C.ct.sh), gI_of (tS_1 C.ct.sh), pI_of (tS_1 C.ct.sh), C.ct.rp, rS_1_2 C.ct.sh, rS_1_3 C.ct.sh, rS_1_4 C.ct.sh, rS_1_5 C.ct.sh, rS_1_6 C.ct.sh, rS_1_7 C.ct.sh, rS_1_8 C.ct.sh, rS_1_9 C.ct.sh, ck_of (tR C.ct.rd.rd), gR_of (tR C.ct.rd.rd), gI_of (tR C.ct.rd.rd), rR_9 C.ct.rd.rd, rR_10 C.ct.rd.rd, rR_11 C.ct.rd.rd, rR_12 C.ct.rd.rd, rR_13 C.ct.rd.rd, rR_14 C.ct.rd.rd, rR_15 C.ct.rd.rd, rR_16 C.ct.rd.rd, rR_17 C.ct.rd.rd, rR_18 C.ct.rd.rd, rR_19 C.ct.rd.rd, aI_of (tR_1 C.ct.rd.rd), aI_of (tR_2 C.ct.rd.rd), aI_of (tR_3 C.ct.rd.rd), aI_of (tR_4 C.ct.rd.rd), aI_of (tR_5 C.ct.rd.rd), aI_of (tR_6 C.ct.rd.rd), aI_of (tR_7 C.ct.rd.rd), aI_of (tR_8 C.ct.rd.rd), aI_of (tR_9 C.ct.rd.rd), C.ct.rd.sc, C.ct.rd.len, C.ct.rd.e1, C.ct.rd.e2, C.ct.rd.min, C.ct.rd.kd, C.ct.rd.gt, C.ct.rd.bt, C.ct.rd.ip, C.ct.rd.hd, c_refuse C.ct.sh, c_answer C.ct.sh, c_isPerson W C, hx, Bool.toNat_true, c_isPlace W C, hy, c_of S C.nw, c_roadOf W C, hrb, c_voices S C.nw (show k < 4 by omega) h2 h3, c_rains S C.nw hr, c_open W.rw C.ct (rb (a 1)) hj (vo_lt h2 h3) (vo_ne _ _), hop, c_keep2 W C, gR_of (tS_1 (S.kp a)), gR_of (tS_1 ((S.kp a).wI 34 (k * 5 + 0) (nI p))), rS_1_3 (S.kp a), rS_1_3 ((S.kp a).wI 34 (k * 5 + 0) (nI p)), c_set (S.kp a), c_of2 ((S.kp a).wI 34 (k * 5 + 0) (nI p)), e4, eR, gR_of (tR R'), rR_12 R', aI_of (tR_4 R'), eI, c_set ((S.kp a).wI 34 (k * 5 + 0) (nI p)), gR_of (tS_1 (((S.kp a).wI 34 (k * 5 + 0) (nI p)).wI 34 (k * 5 + 4) (nI (a 1 4 k + a 0 5 j)))), rS_1_3 (((S.kp a).wI 34 (k * 5 + 0) (nI p)).wI 34 (k * 5 + 4) (nI (a 1 4 k + a 0 5 j))), c_of2 (((S.kp a).wI 34 (k * 5 + 0) (nI p)).wI 34 (k * 5 + 4) (nI (a 1 4 k + a 0 5 j))), c_answer (((S.kp a).wI 34 (k * 5 + 0) (nI p)).wI 34 (k * 5 + 4) (nI (a 1 4 k + a 0 5 j))), mI_wI_at, pk_us]
          have hc := act_c (h' := wI (wI (wI (kpM h a) 34 (k * 5 + 0) (nI p)) 34 (k * 5 + 4) (nI (a 1 4 k + a 0 5 j))) 1 0 (nI 0)) (ν' := nu (nu (a 1) 0 k p) 4 k (a 1 4 k + a 0 5 j)) W C (((FQ.w _ _ _ (by decide)).tr (FQ.w _ _ _ (by decide))).tr (FQ.w _ _ _ (by decide))) (by
            show rC (mI _ 34) 0 _
            rw [mI_wI_ne _ _ _ (by decide), mI_wI_at, mI_wI_at, kpM_34]
            exact rC_set (rC_set C.nw p (by omega) (by decide)) _ (by omega) (by decide))
          exact ⟨_, rfl, rfl, hc.1, hc.2, by rw [mI_wI_at, pk_us]⟩
        · unfold f_X13_go
          simp only [ck_of (tS_55 M0.sh), pI_of (tS_55 M0.sh), ob, nI_lit]; obtain ⟨h1, eh, M, F1⟩ : ∃ h1, wI h 55 0 (nI 0) = h1 ∧ IM h1 a ∧ FM h h1 := ⟨_, rfl, M0.th _, FM.w55 h _ (by decide)⟩; rw [eh]
          have P := M.told (by omega)
          have S := M.sh
          have n0 := M.nw.at k 0 (by omega) (by decide)
          have n2 := M.nw.at k 2 (by omega) (by decide)
          have n3 := M.nw.at k 3 (by omega) (by decide)
          have n4 := M.nw.at k 4 (by omega) (by decide)
          simp only [Nat.reduceMul] at n0 n2 n3 n4
          have e16 : mI (wI (rmM h1 a) 57 (0 + k) (nI p)) 57 (16 + k) = nI (a 1 4 k) := by
            rw [mI_wI_at, pk_un (by omega), rmM_57]
            exact n4
          have eR : mR (wI (rmM h1 a) 57 (0 + k) (nI p)) = mR h1 := rfl
          have hpp := M.pk
          have eI : mI (wI (rmM h1 a) 57 (0 + k) (nI p)) (a 2 0 2 + 3) = mI h1 (a 2 0 2 + 3) := by
            rw [mI_wI_ne _ _ _ (by omega)]
            refine (rmM_f h1 a).2.2.2.2 _ ?_
            intro hq
            simp only [List.mem_cons, List.not_mem_nil, or_false] at hq
            omega
          have R' : PK (wI (rmM h1 a) 57 (0 + k) (nI p)) (a 2 0 2) := P.rd.pk
          have hmin := P.rd.min (a 1 0 k) p hat hp
          rw [hqm] at hmin
          simp (disch := omega) only [ob, nI_lit, nI_add, pk_mul, nI_eq, nI_ltI, nI_leI, if_true, if_false, if_pos, if_neg, ck_of (tS_55 M.sh), gR_of (tS_55 M.sh), gI_of (tS_55 M.sh), pI_of (tS_55 M.sh), rS_55_16 M.sh, rS_55_17 M.sh, rS_55_18 M.sh, rS_55_21 M.sh, rS_55_25 M.sh, rS_55_26 M.sh, rS_55_27 M.sh, rS_55_28 M.sh, rS_55_32 M.sh, rS_55_33 M.sh, rS_55_34 M.sh, m_refused M.sh, m_good M.sh, m_isPerson W M, hx, Bool.toNat_true, m_isPlace W M, hy, aI_of (tS_57 S), n0, n2, n3, m_rains S M.nw hr, m_passes W.rw P (rb (a 1)) hat hp h2 h3, hg, m_rem2 W M, gR_of (tS_55 (S.rm a)), rS_55_16 (S.rm a), sI_of (tS_57 (S.rm a)), gR_of (tS_55 ((S.rm a).wI 57 (0 + k) (nI p))), eR, aI_of (tS_57 ((S.rm a).wI 57 (0 + k) (nI p))), e16, P.pp, gR_of (tP R'), rP_12 P.rd.pk, f_X13_of, aI_of (tP_3 R'), eI, hmin, sI_of (tS_57 ((S.rm a).wI 57 (0 + k) (nI p))), gR_of (tS_55 (((S.rm a).wI 57 (0 + k) (nI p)).wI 57 (16 + k) (nI (a 1 4 k + a 0 5 j)))), rS_55_16 (((S.rm a).wI 57 (0 + k) (nI p)).wI 57 (16 + k) (nI (a 1 4 k + a 0 5 j))), aI_of (tS_57 (((S.rm a).wI 57 (0 + k) (nI p)).wI 57 (16 + k) (nI (a 1 4 k + a 0 5 j)))), mI_wI_at, pk_us, m_good (((S.rm a).wI 57 (0 + k) (nI p)).wI 57 (16 + k) (nI (a 1 4 k + a 0 5 j)))]
          have hc := act_m (h' := wI (wI (wI (wI (rmM h1 a) 57 (0 + k) (nI p)) 57 (16 + k) (nI (a 1 4 k + a 0 5 j))) 55 1 (nI 0)) 55 2 (-nI 1)) (ν' := nu (nu (a 1) 0 k p) 4 k (a 1 4 k + a 0 5 j)) W M ((((FQ.w _ _ _ (by decide)).tr (FQ.w _ _ _ (by decide))).tr (FQ.w _ _ _ (by decide))).tr (FQ.w _ _ _ (by decide))) (fun i hi => by
              rw [mI_wI_at, pk_un (by omega), mI_wI_at, pk_un (by omega), mI_wI_ne _ _ _ (by decide), mI_wI_ne _ _ _ (by decide)]) (by
            show rM (mI _ 57) 0 _
            rw [mI_wI_ne _ _ _ (by decide), mI_wI_ne _ _ _ (by decide), mI_wI_at, mI_wI_at, rmM_57]
            have r1 := rM_set (w := 0) M.nw p (show k < 4 by omega) (by decide)
            have r2 := rM_set (w := 4) r1 (a 1 4 k + a 0 5 j) (show k < 4 by omega) (by decide)
            simpa using r2)
          refine ⟨_, rfl, rfl, ?_, hc.2, ?_, ?_⟩
          · refine ⟨fun x hx => (hc.1.1 x hx).trans (by rw [F1.1.1]), fun x hx => ?_, Nat.le_trans (by rw [F1.1.2.2.2.1]; exact Nat.le_refl _) hc.1.2.2⟩
            have hx9 : x ∉ LM := by
              intro hq
              simp only [LM, List.mem_cons, List.not_mem_nil, or_false] at hq
              omega
            have q := hc.1.2.1 x hx
            exact ⟨q.1.trans (F1.1.2.2.2.2 x hx9), q.2.1.trans (by rw [F1.1.2.1]), q.2.2.trans (by rw [F1.1.2.2.1])⟩
          · rw [mI_wI_at, pk_un (by decide), mI_wI_at, pk_us]
          · rw [mI_wI_at, pk_us]
theorem st_41 : StepOK INV lc_41 := by
  intro sc L i h hL hi hI
  unfold lc_41
  simp only [show (1 : Int32) = nI 1 from rfl, show (2 : Int32) = nI 2 from rfl, show (3 : Int32) = nI 3 from rfl, show (4 : Int32) = nI 4 from rfl, show (5 : Int32) = nI 5 from rfl, nI_add, sc_at hL (show i + 1 < L by omega), sc_at hL (show i + 2 < L by omega), sc_at hL (show i + 3 < L by omega), sc_at hL (show i + 4 < L by omega), sc_at hL (show i + 5 < L by omega), ob]
  exact a2 (f := fun h => f_X11_go h 1 (sc (i + 1)) (sc (i + 2))) (g := fun h => f_X13_go h 55 (sc (i + 1)) (sc (i + 2))) hI (fun a z W _ => qq_go W z _ _)
