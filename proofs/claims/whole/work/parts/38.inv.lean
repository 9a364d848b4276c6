/-! ===== the invariant ===== -/
/-- 0: the ROAD; 1: now; 2 0: r, r', p, acts, the next act, marks, fed, fault, faultAt and 1; 3 0: the tape; 10 + j: ahead of the acts; 30 + k: by the marks -/
abbrev AB : Type := Nat → RO
def IW (a : AB) : Prop := (RW (a 0)) ∧ (NF (a 0) (a 1)) ∧ ((a 2 0 0 = 2 ∧ a 2 0 1 = 21) ∨ (a 2 0 0 = 21 ∧ a 2 0 1 = 2)) ∧ (a 2 0 3 ≤ 16) ∧ (a 2 0 4 < 16) ∧ (a 2 0 5 ≤ 3) ∧ (a 2 0 6 ≤ 1000) ∧ (∀ j, j < a 2 0 3 → NF (a 0) (a (10 + j))) ∧ (∀ k, k < a 2 0 5 → NF (a 0) (a (30 + k))) ∧ (∀ i, i < a 2 0 6 → a 3 0 i < 256) ∧ (a 2 0 7 ≤ 8) ∧ (a 2 0 8 ≤ 1001) ∧ (a 0 0 2 = 0 → a 2 0 3 = 0 ∧ a 2 0 5 = 0 ∧ (∀ i j, a 0 i j = 0) ∧ a 1 5 0 = 0)
theorem IW.rw {a : AB} (H : IW a) : RW (a 0) := H.1
theorem IW.nf {a : AB} (H : IW a) : NF (a 0) (a 1) := H.2.1
theorem IW.rr {a : AB} (H : IW a) : (a 2 0 0 = 2 ∧ a 2 0 1 = 21) ∨ (a 2 0 0 = 21 ∧ a 2 0 1 = 2) := H.2.2.1
theorem IW.ac {a : AB} (H : IW a) : a 2 0 3 ≤ 16 := H.2.2.2.1
theorem IW.nx {a : AB} (H : IW a) : a 2 0 4 < 16 := H.2.2.2.2.1
theorem IW.mk {a : AB} (H : IW a) : a 2 0 5 ≤ 3 := H.2.2.2.2.2.1
theorem IW.fd {a : AB} (H : IW a) : a 2 0 6 ≤ 1000 := H.2.2.2.2.2.2.1
theorem IW.al {a : AB} (H : IW a) : ∀ j, j < a 2 0 3 → NF (a 0) (a (10 + j)) := H.2.2.2.2.2.2.2.1
theorem IW.ml {a : AB} (H : IW a) : ∀ k, k < a 2 0 5 → NF (a 0) (a (30 + k)) := H.2.2.2.2.2.2.2.2.1
theorem IW.tp {a : AB} (H : IW a) : ∀ i, i < a 2 0 6 → a 3 0 i < 256 := H.2.2.2.2.2.2.2.2.2.1
theorem IW.fl {a : AB} (H : IW a) : a 2 0 7 ≤ 8 := H.2.2.2.2.2.2.2.2.2.2.1
theorem IW.wa {a : AB} (H : IW a) : a 2 0 8 ≤ 1001 := H.2.2.2.2.2.2.2.2.2.2.2.1
theorem IW.un {a : AB} (H : IW a) : a 0 0 2 = 0 → a 2 0 3 = 0 ∧ a 2 0 5 = 0 ∧ (∀ i j, a 0 i j = 0) ∧ a 1 5 0 = 0 := H.2.2.2.2.2.2.2.2.2.2.2.2
/-- the WORDS with a meaning, as numbers -/
def mw : List (List Nat) := [[116, 117, 114, 110, 112, 105, 107, 101], [116, 117, 110, 101], [112, 108, 97, 99, 101], [114, 111, 97, 100], [103, 97, 116, 101], [105, 110, 110], [112, 101, 114, 115, 111, 110], [107, 110, 111, 119, 115], [104, 101, 97, 114, 100], [114, 97, 105, 110], [109, 105, 110, 117, 116, 101, 115], [115, 116, 114, 105, 99, 116], [107, 105, 110, 100], [100, 101, 97, 102], [102, 111, 114, 103, 111, 116], [115, 101, 108, 108, 115], [102, 111, 114, 103, 101, 115], [112, 114, 105, 99, 101], [97, 116], [99, 111, 105, 110, 115]]
def wn (l : List Nat) : Nat := l.foldl (fun a c => 32 * a + (c - 96)) 0
def me (k : Nat) : Nat := wn (mw.getD k [])
def IC (h : Mem) (a : AB) : Prop := (CT h (a 2 0 0) (a 0)) ∧ (cNw h (a 1)) ∧ (mI h 33 4 = nI (a 2 0 3)) ∧ (mI h 33 3 = nI (a 2 0 4)) ∧ (mI h 33 5 = nI (a 2 0 5)) ∧ (∀ j, j < a 2 0 3 → rC (mI h 35) (21 * ((a 2 0 4 + 15 - j) % 16)) (a (10 + j))) ∧ (∀ k, k < a 2 0 5 → rC (mI h 36) (21 * k) (a (30 + k))) ∧ (mI h 14 15 = nI (a 2 0 6)) ∧ (∀ i, i < a 2 0 6 → mI h 15 i = nI (a 3 0 i)) ∧ (mI h 14 16 = nI (a 2 0 7)) ∧ (mI h 14 17 = nI (a 2 0 8) - nI 1) ∧ (mR h 14 6 = a 2 0 1) ∧ (∀ k, k < 20 → mL h 16 k = lN (me k)) ∧ (SK h (a 0)) ∧ (PRK h (a 0)) ∧ (STK h (a 0))
theorem IC.ct {h : Mem} {a : AB} (H : IC h a) : CT h (a 2 0 0) (a 0) := H.1
theorem IC.nw {h : Mem} {a : AB} (H : IC h a) : cNw h (a 1) := H.2.1
theorem IC.ac {h : Mem} {a : AB} (H : IC h a) : mI h 33 4 = nI (a 2 0 3) := H.2.2.1
theorem IC.nx {h : Mem} {a : AB} (H : IC h a) : mI h 33 3 = nI (a 2 0 4) := H.2.2.2.1
theorem IC.mk {h : Mem} {a : AB} (H : IC h a) : mI h 33 5 = nI (a 2 0 5) := H.2.2.2.2.1
theorem IC.ah {h : Mem} {a : AB} (H : IC h a) : ∀ j, j < a 2 0 3 → rC (mI h 35) (21 * ((a 2 0 4 + 15 - j) % 16)) (a (10 + j)) := H.2.2.2.2.2.1
theorem IC.bm {h : Mem} {a : AB} (H : IC h a) : ∀ k, k < a 2 0 5 → rC (mI h 36) (21 * k) (a (30 + k)) := H.2.2.2.2.2.2.1
theorem IC.fd {h : Mem} {a : AB} (H : IC h a) : mI h 14 15 = nI (a 2 0 6) := H.2.2.2.2.2.2.2.1
theorem IC.tp {h : Mem} {a : AB} (H : IC h a) : ∀ i, i < a 2 0 6 → mI h 15 i = nI (a 3 0 i) := H.2.2.2.2.2.2.2.2.1
theorem IC.fl {h : Mem} {a : AB} (H : IC h a) : mI h 14 16 = nI (a 2 0 7) := H.2.2.2.2.2.2.2.2.2.1
theorem IC.wa {h : Mem} {a : AB} (H : IC h a) : mI h 14 17 = nI (a 2 0 8) - nI 1 := H.2.2.2.2.2.2.2.2.2.2.1
theorem IC.r2 {h : Mem} {a : AB} (H : IC h a) : mR h 14 6 = a 2 0 1 := H.2.2.2.2.2.2.2.2.2.2.2.1
theorem IC.me {h : Mem} {a : AB} (H : IC h a) : ∀ k, k < 20 → mL h 16 k = lN (me k) := H.2.2.2.2.2.2.2.2.2.2.2.2.1
theorem IC.so {h : Mem} {a : AB} (H : IC h a) : SK h (a 0) := H.2.2.2.2.2.2.2.2.2.2.2.2.2.1
theorem IC.pr {h : Mem} {a : AB} (H : IC h a) : PRK h (a 0) := H.2.2.2.2.2.2.2.2.2.2.2.2.2.2.1
theorem IC.st {h : Mem} {a : AB} (H : IC h a) : STK h (a 0) := H.2.2.2.2.2.2.2.2.2.2.2.2.2.2.2
def IM (h : Mem) (a : AB) : Prop := (SH h) ∧ ((a 0 0 2 = 0 ∧ mR h 55 3 = 0) ∨ (0 < a 0 0 2 ∧ MT h (a 2 0 2) (a 0) ∧ 69 ≤ a 2 0 2 ∧ a 2 0 2 + 19 ≤ mN h)) ∧ (mNw h (a 1)) ∧ (mI h 55 19 = nI (a 2 0 3)) ∧ (mI h 55 20 = nI (a 2 0 5)) ∧ (∀ j, j < a 2 0 3 → rM (mI h 58) (21 * (a 2 0 3 - 1 - j)) (a (10 + j))) ∧ (∀ k, k < a 2 0 5 → rM (mI h 59) (21 * k) (a (30 + k))) ∧ (mI h 55 6 = nI (a 2 0 6)) ∧ (∀ i, i < a 2 0 6 → mI h 56 i &&& nI 255 = nI (a 3 0 i)) ∧ (mI h 55 12 = nI (a 2 0 7)) ∧ (mI h 65 0 = nI 0)
theorem IM.sh {h : Mem} {a : AB} (H : IM h a) : SH h := H.1
theorem IM.pk {h : Mem} {a : AB} (H : IM h a) : (a 0 0 2 = 0 ∧ mR h 55 3 = 0) ∨ (0 < a 0 0 2 ∧ MT h (a 2 0 2) (a 0) ∧ 69 ≤ a 2 0 2 ∧ a 2 0 2 + 19 ≤ mN h) := H.2.1
theorem IM.nw {h : Mem} {a : AB} (H : IM h a) : mNw h (a 1) := H.2.2.1
theorem IM.ac {h : Mem} {a : AB} (H : IM h a) : mI h 55 19 = nI (a 2 0 3) := H.2.2.2.1
theorem IM.mk {h : Mem} {a : AB} (H : IM h a) : mI h 55 20 = nI (a 2 0 5) := H.2.2.2.2.1
theorem IM.pa {h : Mem} {a : AB} (H : IM h a) : ∀ j, j < a 2 0 3 → rM (mI h 58) (21 * (a 2 0 3 - 1 - j)) (a (10 + j)) := H.2.2.2.2.2.1
theorem IM.ke {h : Mem} {a : AB} (H : IM h a) : ∀ k, k < a 2 0 5 → rM (mI h 59) (21 * k) (a (30 + k)) := H.2.2.2.2.2.2.1
theorem IM.fd {h : Mem} {a : AB} (H : IM h a) : mI h 55 6 = nI (a 2 0 6) := H.2.2.2.2.2.2.2.1
theorem IM.tp {h : Mem} {a : AB} (H : IM h a) : ∀ i, i < a 2 0 6 → mI h 56 i &&& nI 255 = nI (a 3 0 i) := H.2.2.2.2.2.2.2.2.1
theorem IM.fl {h : Mem} {a : AB} (H : IM h a) : mI h 55 12 = nI (a 2 0 7) := H.2.2.2.2.2.2.2.2.2.1
theorem IM.m0 {h : Mem} {a : AB} (H : IM h a) : mI h 65 0 = nI 0 := H.2.2.2.2.2.2.2.2.2.2
def IZ (h : Mem) (a : AB) (z : Nat) : Prop := (z ≤ 6) ∧ (mI h 1 0 = nI z) ∧ (mI h 55 1 = nI z) ∧ (mI h 55 2 = if z = 4 then nI (a 2 0 8) - nI 1 else -nI 1)
theorem IZ.lt {h : Mem} {a : AB} {z : Nat} (H : IZ h a z) : z ≤ 6 := H.1
theorem IZ.c {h : Mem} {a : AB} {z : Nat} (H : IZ h a z) : mI h 1 0 = nI z := H.2.1
theorem IZ.m {h : Mem} {a : AB} {z : Nat} (H : IZ h a z) : mI h 55 1 = nI z := H.2.2.1
theorem IZ.w {h : Mem} {a : AB} {z : Nat} (H : IZ h a z) : mI h 55 2 = if z = 4 then nI (a 2 0 8) - nI 1 else -nI 1 := H.2.2.2
def INV (h : Mem) : Prop := ∃ a z, IW a ∧ IC h a ∧ IM h a ∧ IZ h a z
/-! ===== what is left alone ===== -/
theorem RD.fr {h h' : Mem} {r : Nat} (et : ∀ k, k < 12 → mT h' (r + k) = mT h (r + k)) (er : mR h' r = mR h r) (k : RD h r) : RD h' r := by
  have e0 := et 0 (by decide)
  rw [Nat.add_zero] at e0
  unfold RD at *
  rw [er, e0, et 1 (by decide), et 2 (by decide), et 3 (by decide), et 4 (by decide), et 5 (by decide), et 6 (by decide), et 7 (by decide), et 8 (by decide), et 9 (by decide), et 10 (by decide), et 11 (by decide)]
  exact k
theorem PK.fr {h h' : Mem} {p : Nat} (et : ∀ k, k < 19 → mT h' (p + k) = mT h (p + k)) (er : mR h' p = mR h p) (k : PK h p) : PK h' p := by
  have e0 := et 0 (by decide)
  rw [Nat.add_zero] at e0
  unfold PK at *
  rw [er, e0, et 1 (by decide), et 2 (by decide), et 3 (by decide), et 4 (by decide), et 5 (by decide), et 6 (by decide), et 7 (by decide), et 8 (by decide), et 9 (by decide), et 10 (by decide), et 11 (by decide), et 12 (by decide), et 13 (by decide), et 14 (by decide), et 15 (by decide), et 16 (by decide), et 17 (by decide), et 18 (by decide)]
  exact k
theorem CRd.fr {h h' : Mem} {r : Nat} {ρ : RO} (et : ∀ k, k < 12 → mT h' (r + k) = mT h (r + k)) (er : mR h' r = mR h r) (ei : ∀ k, k < 10 → mI h' (r + k) = mI h (r + k)) (k : CRd h r ρ) : CRd h' r ρ := by
  have e0 := ei 0 (by decide)
  rw [Nat.add_zero] at e0
  obtain ⟨k0, k⟩ := k
  refine ⟨k0.fr et er, ?_⟩
  rw [e0, ei 1 (by decide), ei 2 (by decide), ei 3 (by decide), ei 4 (by decide), ei 5 (by decide), ei 6 (by decide), ei 7 (by decide), ei 8 (by decide), ei 9 (by decide)]
  exact k
theorem MRd.fr {h h' : Mem} {p : Nat} {ρ : RO} (et : ∀ k, k < 19 → mT h' (p + k) = mT h (p + k)) (er : mR h' p = mR h p) (ei : ∀ k, k < 16 → mI h' (p + k) = mI h (p + k)) (k : MRd h p ρ) : MRd h' p ρ := by
  have e0 := ei 0 (by decide)
  rw [Nat.add_zero] at e0
  obtain ⟨k0, k⟩ := k
  refine ⟨k0.fr et er, ?_⟩
  rw [e0, ei 1 (by decide), ei 2 (by decide), ei 3 (by decide), ei 4 (by decide), ei 5 (by decide), ei 6 (by decide), ei 7 (by decide), ei 8 (by decide), ei 9 (by decide), ei 10 (by decide), ei 11 (by decide), ei 15 (by decide)]
  exact k
def LQ : List Nat := [1, 37, 38, 39, 40, 41, 42, 43, 44, 45, 46, 54]
def LM : List Nat := [55, 60, 61, 62, 63, 64, 65, 66, 67]
theorem IC.fr {h h' : Mem} {a : AB} (W : IW a) (sh : SH h') (eI : ∀ x, x < 55 → x ∉ LQ → mI h' x = mI h x) (eL : mL h' 16 = mL h 16) (eR : ∀ x, x < 55 → mR h' x = mR h x) (eT : ∀ x, x < 69 → mT h' x = mT h x) (so : SK h' (a 0)) (k : IC h a) : IC h' a := by
  obtain ⟨⟨-, c1, c2, c3, c4⟩, k1, k2, k3, k4, k5, k6, k7, k8, k9, k10, k11, k12, -, k13, k14⟩ := k
  have hr : a 2 0 0 = 2 ∨ a 2 0 0 = 21 := by
    rcases W.rr with q | q
    · exact Or.inl q.1
    · exact Or.inr q.1
  have eI2 : ∀ k, k < 12 → mI h' (a 2 0 0 + k) = mI h (a 2 0 0 + k) := by
    intro k hk
    refine eI _ (by omega) ?_
    intro hq
    simp only [LQ, List.mem_cons, List.not_mem_nil, or_false] at hq
    omega
  have e33 := eI 33 (by decide) (by decide)
  have e14 := eI 14 (by decide) (by decide)
  refine ⟨⟨sh, by rw [eR 1 (by decide)]; exact c1, c2.fr (fun k hk => eT _ (by omega)) (eR _ (by omega)) (fun k hk => eI2 k (by omega)), ?_, ?_⟩, ?_, ?_, ?_, ?_, ?_, ?_, ?_, ?_, ?_, ?_, ?_, ?_, so, k13.fr (eI 48 (by decide) (by decide)) (eI 50 (by decide) (by decide)), k14.fr (eI 52 (by decide) (by decide)) (eI 53 (by decide) (by decide))⟩
  · rw [eI2 10 (by decide)]; exact c3
  · rw [eI2 10 (by decide)]; exact c4
  · unfold cNw; rw [eI 34 (by decide) (by decide)]; exact k1
  · rw [e33]; exact k2
  · rw [e33]; exact k3
  · rw [e33]; exact k4
  · rw [eI 35 (by decide) (by decide)]; exact k5
  · rw [eI 36 (by decide) (by decide)]; exact k6
  · rw [e14]; exact k7
  · rw [eI 15 (by decide) (by decide)]; exact k8
  · rw [e14]; exact k9
  · rw [e14]; exact k10
  · rw [eR 14 (by decide)]; exact k11
  · rw [eL]; exact k12
theorem IM.fr {h h' : Mem} {a : AB} (sh : SH h') (eI : ∀ x, 55 ≤ x → x ∉ LM → mI h' x = mI h x) (e6 : mI h' 55 6 = mI h 55 6) (e12 : mI h' 55 12 = mI h 55 12) (e19 : mI h' 55 19 = mI h 55 19) (e20 : mI h' 55 20 = mI h 55 20) (e65 : mI h' 65 0 = mI h 65 0) (eR : ∀ x, 55 ≤ x → mR h' x = mR h x) (eT : ∀ x, 55 ≤ x → mT h' x = mT h x) (eN : mN h' = mN h) (k : IM h a) : IM h' a := by
  obtain ⟨-, k1, k2, k3, k4, k5, k6, k7, k8, k9, k10⟩ := k
  refine ⟨sh, ?_, ?_, ?_, ?_, ?_, ?_, ?_, ?_, ?_, ?_⟩
  · rcases k1 with ⟨q1, q2⟩ | ⟨q1, ⟨-, q3, q4, q5⟩, q6, q7⟩
    · exact Or.inl ⟨q1, by rw [eR 55 (by decide)]; exact q2⟩
    · refine Or.inr ⟨q1, ⟨sh, by rw [eR 55 (by decide)]; exact q3, q4, q5.fr (fun k hk => eT _ (by omega)) (eR _ (by omega)) (fun k hk => eI _ (by omega) ?_)⟩, q6, by omega⟩
      intro hq
      simp only [LM, List.mem_cons, List.not_mem_nil, or_false] at hq
      omega
  · unfold mNw; rw [eI 57 (by decide) (by decide)]; exact k2
  · rw [e19]; exact k3
  · rw [e20]; exact k4
  · rw [eI 58 (by decide) (by decide)]; exact k5
  · rw [eI 59 (by decide) (by decide)]; exact k6
  · rw [e6]; exact k7
  · rw [eI 56 (by decide) (by decide)]; exact k8
  · rw [e12]; exact k9
  · rw [e65]; exact k10
/-! ===== a question: it changes nothing but the TROUBLE ===== -/
def FQ (l : List Nat) (h h' : Mem) : Prop := mT h' = mT h ∧ mR h' = mR h ∧ mL h' = mL h ∧ mN h' = mN h ∧ ∀ a, a ∉ l → mI h' a = mI h a
theorem FQ.rf (l : List Nat) (h : Mem) : FQ l h h := ⟨rfl, rfl, rfl, rfl, fun _ _ => rfl⟩
theorem FQ.tr {l : List Nat} {h h1 h2 : Mem} (a : FQ l h h1) (b : FQ l h1 h2) : FQ l h h2 := ⟨b.1.trans a.1, b.2.1.trans a.2.1, b.2.2.1.trans a.2.2.1, b.2.2.2.1.trans a.2.2.2.1, fun x hx => (b.2.2.2.2 x hx).trans (a.2.2.2.2 x hx)⟩
theorem FQ.w {l : List Nat} (h : Mem) {a : Nat} (k : Nat) (v : Int32) (ha : a ∈ l) : FQ l h (wI h a k v) := ⟨rfl, rfl, rfl, rfl, fun x hx => mI_wI_ne h k v (fun e => hx (e ▸ ha))⟩
theorem FQ.sub {l l' : List Nat} {h h' : Mem} (a : FQ l h h') (s : ∀ x, x ∈ l → x ∈ l') : FQ l' h h' := ⟨a.1, a.2.1, a.2.2.1, a.2.2.2.1, fun x hx => a.2.2.2.2 x (fun q => hx (s x q))⟩
theorem FQ.sh {l : List Nat} {h h' : Mem} (a : FQ l h h') (k : SH h) : SH h' := by
  unfold SH at *
  rw [a.1, a.2.1, a.2.2.2.1]
  exact k
def FM (h h' : Mem) : Prop := FQ LM h h' ∧ (mI h' 55 6 = mI h 55 6 ∧ mI h' 55 12 = mI h 55 12 ∧ mI h' 55 19 = mI h 55 19 ∧ mI h' 55 20 = mI h 55 20) ∧ mI h' 65 0 = mI h 65 0
theorem FM.rf (h : Mem) : FM h h := ⟨FQ.rf _ h, ⟨rfl, rfl, rfl, rfl⟩, rfl⟩
theorem FM.tr {h h1 h2 : Mem} (a : FM h h1) (b : FM h1 h2) : FM h h2 := ⟨a.1.tr b.1, ⟨b.2.1.1.trans a.2.1.1, b.2.1.2.1.trans a.2.1.2.1, b.2.1.2.2.1.trans a.2.1.2.2.1, b.2.1.2.2.2.trans a.2.1.2.2.2⟩, b.2.2.trans a.2.2⟩
theorem FM.w55 (h : Mem) {k : Nat} (v : Int32) (hk : k ≠ 6 ∧ k ≠ 12 ∧ k ≠ 19 ∧ k ≠ 20) : FM h (wI h 55 k v) := by
  refine ⟨FQ.w h k v (by decide), ⟨?_, ?_, ?_, ?_⟩, by rw [mI_wI_ne h k v (by decide)]⟩ <;> rw [mI_wI_at, pk_un (by omega)]
def QC (a : AB) (f : Mem → Option (Int32 × Mem)) (v : Int32) (z : Nat) : Prop := ∀ h, IC h a → OK (f h) (fun q => q.1 = v ∧ FQ LQ h q.2 ∧ SK q.2 (a 0) ∧ mI q.2 1 0 = nI z)
def QM (a : AB) (g : Mem → Option (Int32 × Mem)) (v : Int32) (z : Nat) : Prop := ∀ h, IM h a → OK (g h) (fun q => q.1 = v ∧ FM h q.2 ∧ mI q.2 55 1 = nI z ∧ mI q.2 55 2 = -nI 1)
/-- a question, asked of both -/
theorem q2 {f g : Mem → Option (Int32 × Mem)} {h : Mem} (hI : INV h) (hq : ∀ a, IW a → ∃ v z, z ≤ 6 ∧ z ≠ 4 ∧ QC a f v z ∧ QM a g v z) : OK ((f h).bind fun q => (g q.2).bind fun q' => if q.1 = q'.1 then some q'.2 else none) INV := by
  obtain ⟨a, z0, W, C, M, Z⟩ := hI
  obtain ⟨v, z, z6, z4, qc, qm⟩ := hq a W
  obtain ⟨q1, e1, v1, f1, s1, t1⟩ := qc h C
  have sh1 := f1.sh M.sh
  have C1 : IC q1.2 a := C.fr W sh1 (fun x _ hx => f1.2.2.2.2 x hx) (by rw [f1.2.2.1]) (fun x _ => by rw [f1.2.1]) (fun x _ => by rw [f1.1]) s1
  have hne : ∀ x, 55 ≤ x → x ∉ LQ := by
    intro x hx hq
    simp only [LQ, List.mem_cons, List.not_mem_nil, or_false] at hq
    omega
  have e55 := f1.2.2.2.2 55 (by decide)
  have M1 : IM q1.2 a := M.fr sh1 (fun x hx _ => f1.2.2.2.2 x (hne x hx)) (by rw [e55]) (by rw [e55]) (by rw [e55]) (by rw [e55]) (by rw [f1.2.2.2.2 65 (by decide)]) (fun x _ => by rw [f1.2.1]) (fun x _ => by rw [f1.1]) f1.2.2.2.1
  obtain ⟨q3, e3, v3, f3, t3, w3⟩ := qm q1.2 M1
  have sh3 := f3.1.sh sh1
  have hne2 : ∀ x, x < 55 → x ∉ LM := by
    intro x hx hq
    simp only [LM, List.mem_cons, List.not_mem_nil, or_false] at hq
    omega
  have fI : ∀ x, x < 55 → mI q3.2 x = mI q1.2 x := fun x hx => f3.1.2.2.2.2 x (hne2 x hx)
  have C3 : IC q3.2 a := C1.fr W sh3 (fun x hx _ => fI x hx) (by rw [f3.1.2.2.1]) (fun x _ => by rw [f3.1.2.1]) (fun x _ => by rw [f3.1.1]) (C1.so.fr (fI 43 (by decide)) (fI 44 (by decide)) (fI 45 (by decide)) (fI 46 (by decide)))
  have M3 : IM q3.2 a := M1.fr sh3 (fun x _ hx => f3.1.2.2.2.2 x hx) f3.2.1.1 f3.2.1.2.1 f3.2.1.2.2.1 f3.2.1.2.2.2 f3.2.2 (fun x _ => by rw [f3.1.2.1]) (fun x _ => by rw [f3.1.1]) f3.1.2.2.2.1
  refine ⟨q3.2, ?_, a, z, W, C3, M3, z6, ?_, t3, ?_⟩
  · rw [e1]
    show (g q1.2).bind _ = _
    rw [e3]
    show (if q1.1 = q3.1 then some q3.2 else none) = _
    rw [if_pos (by rw [v1, v3])]
  · rw [fI 1 (by decide)]; exact t1
  · rw [if_neg z4]; exact w3
