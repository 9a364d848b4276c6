/-! ===== what tunes, pairs, songs and the stranger are, apart from any memory ===== -/
/-- a sum -/
def su (f : Nat → Nat) (n : Nat) : Nat := fo (fun i a => a + f i) 0 n
/-- how many notes of two tunes are alike; whether they GO TOGETHER -/
def al (ρ : RO) (t u : Nat) : Nat := cn (fun i => decide (ρ 2 (8 * t + i) = ρ 2 (8 * u + i))) (ρ 1 t)
def gt2 (ρ : RO) (t u : Nat) : Bool := decide (ρ 1 t = ρ 1 u) && decide (al ρ t u = 0)
/-- the notes of t from f on are the first ones of u, so many -/
def ak (ρ : RO) (t f u n : Nat) : Bool := !ex (fun i => decide (ρ 2 (8 * t + (f + i)) ≠ ρ 2 (8 * u + i))) n
/-- the greatest of 0 .. n with P, 0 if none -/
def gd (P : Nat → Bool) : Nat → Nat
  | 0 => 0
  | n + 1 => if P (n + 1) then n + 1 else gd P n
def ov (ρ : RO) (t u : Nat) : Nat := gd (fun n => ak ρ t (ρ 1 t - n) u n) (min (ρ 1 t) (ρ 1 u))
/-- t stands in u -/
def sn (ρ : RO) (t u : Nat) : Bool := ex (fun f => ak ρ u f t (ρ 1 t)) (ρ 1 u + 1 - ρ 1 t)
/-- the class's way to leave inner tunes out -/
def wi (ρ : RO) (c : Nat) : Nat := fo (fun t k => fo (fun u k => if t ≠ u ∧ k.testBit t = true ∧ k.testBit u = true ∧ sn ρ t u = true then k ^^^ 2 ^ t else k) k (ρ 0 1)) c (ρ 0 1)
/-- the notes of t behind the first o of them -/
def tl (ρ : RO) (t o : Nat) : List Nat := (List.range (ρ 1 t - o)).map (fun i => ρ 2 (8 * t + (o + i)))
/-- of two rows of one length: which is ahead by notes -/
def lx : List Nat → List Nat → Bool
  | a :: s, b :: t => decide (a < b) || (decide (a = b) && lx s t)
  | _, _ => false
def bt2 (x y : List Nat) : Bool := decide (x.length < y.length) || (decide (x.length = y.length) && lx x y)
/-- notes that t shares with the last one (6: none was sung) -/
def o7 (ρ : RO) (l t : Nat) : Nat := if l = 6 then 0 else if l = t then 0 else ov ρ l t
/-- the best rest of a song of the tunes nd when those of b are begun and l was the last: which tune is next (and 1), its notes -/
def bs (ρ : RO) (nd : Nat) : Nat → Nat → Nat → Nat × List Nat
  | 0, _, _ => (0, [])
  | k + 1, b, l => fo (fun t a => if nd.testBit t && !b.testBit t then (if a.1 = 0 ∨ bt2 (tl ρ t (o7 ρ l t) ++ (bs ρ nd k (b ||| 2 ^ t) t).2) a.2 = true then (t + 1, tl ρ t (o7 ρ l t) ++ (bs ρ nd k (b ||| 2 ^ t) t).2) else a) else a) (0, []) (ρ 0 1)
/-- the least bit of a set -/
def lb (s : Nat) : Nat := ff (fun t => s.testBit t) 31
/-- the most PAIRS of a set of tunes -/
def pm (ρ : RO) : Nat → Nat → Nat
  | 0, _ => 0
  | k + 1, s => if s = 0 then 0 else fo (fun u a => if lb s < u ∧ (s ^^^ 2 ^ lb s).testBit u = true ∧ gt2 ρ (lb s) u = true then max a (1 + pm ρ k (s ^^^ 2 ^ lb s ^^^ 2 ^ u)) else a) (pm ρ k (s ^^^ 2 ^ lb s)) (ρ 0 1)
/-- the least mate of t with which the most PAIRS of s can be; the number of tunes if there is none -/
def fm (ρ : RO) (t s : Nat) : Nat := ff (fun u => decide (t < u) && (s ^^^ 2 ^ t).testBit u && gt2 ρ t u && decide (1 + pm ρ 6 (s ^^^ 2 ^ t ^^^ 2 ^ u) = pm ρ 6 s)) (ρ 0 1)
/-- which tunes are left, and who is whose partner, when all below k have been gone over -/
def gs (ρ : RO) : Nat → Nat
  | 0 => 2 ^ ρ 0 1 - 1
  | k + 1 => if (gs ρ k).testBit k then (if fm ρ k (gs ρ k) < ρ 0 1 then gs ρ k ^^^ 2 ^ k ^^^ 2 ^ fm ρ k (gs ρ k) else gs ρ k ^^^ 2 ^ k) else gs ρ k
def pf (ρ : RO) : Nat → Nat → Int32
  | 0 => fun _ => -nI 2
  | k + 1 => if (gs ρ k).testBit k then (if fm ρ k (gs ρ k) < ρ 0 1 then upd (upd (pf ρ k) k (nI (fm ρ k (gs ρ k)))) (fm ρ k (gs ρ k)) (nI k) else pf ρ k) else pf ρ k
/-- the k-th tune heard may be that of a gate between p and q -/
def hs (ρ : RO) (p q k : Nat) : Bool := decide (qk ρ p q ≠ 0) && decide (qt ρ p q = ρ 12 k)
/-- rows by their beginnings, and by their ends -/
def ub (ρ : RO) : Nat → Nat → Nat
  | 0, _ => 1
  | k + 1, q => su (fun p => if hs ρ p q k then ub ρ k p else 0) (ρ 0 2)
def de (ρ : RO) : Nat → Nat → Nat
  | 0, _ => 1
  | j + 1, p => su (fun q => if hs ρ p q (ρ 0 8 - 1 - j) then de ρ j q else 0) (ρ 0 2)
/-! ===== what the class keeps of them ===== -/
def PRK (h : Mem) (ρ : RO) : Prop := (mI h 48 (2 ^ ρ 0 1 - 1) = nI (pm ρ 6 (2 ^ ρ 0 1 - 1))) ∧ (∀ t, t < ρ 0 1 → mI h 50 t = pf ρ (ρ 0 1) t)
theorem PRK.most {h : Mem} {ρ : RO} (H : PRK h ρ) : mI h 48 (2 ^ ρ 0 1 - 1) = nI (pm ρ 6 (2 ^ ρ 0 1 - 1)) := H.1
theorem PRK.part {h : Mem} {ρ : RO} (H : PRK h ρ) : ∀ t, t < ρ 0 1 → mI h 50 t = pf ρ (ρ 0 1) t := H.2
def STK (h : Mem) (ρ : RO) : Prop := (∀ k p, k ≤ ρ 0 8 → p < ρ 0 2 → mI h 52 (k * 7 + p) = nI (ub ρ k p)) ∧ (∀ k p, k ≤ ρ 0 8 → p < ρ 0 2 → mI h 53 (k * 7 + p) = nI (de ρ (ρ 0 8 - k) p))
theorem STK.up {h : Mem} {ρ : RO} (H : STK h ρ) : ∀ k p, k ≤ ρ 0 8 → p < ρ 0 2 → mI h 52 (k * 7 + p) = nI (ub ρ k p) := H.1
theorem STK.dn {h : Mem} {ρ : RO} (H : STK h ρ) : ∀ k p, k ≤ ρ 0 8 → p < ρ 0 2 → mI h 53 (k * 7 + p) = nI (de ρ (ρ 0 8 - k) p) := H.2
/-- a state of the song's table: begun b, last l -/
def sst (nd b l : Nat) : Prop := (b = 0 ∧ l = 6) ∨ (b ≠ 0 ∧ b &&& nd = b ∧ l < 6 ∧ b.testBit l = true)
def SV (h : Mem) (ρ : RO) (c : Nat) : Prop := (c < 2 ^ ρ 0 1) ∧ (mI h 43 4 = nI (wi ρ c)) ∧ (∀ t u, t < ρ 0 1 → u < ρ 0 1 → mI h 44 (t * 6 + u) = nI (o7 ρ t u)) ∧ (∀ b l, sst (wi ρ c) b l → mI h 45 (b * 7 + l) = nI (bs ρ (wi ρ c) 6 b l).2.length) ∧ (∀ b l, sst (wi ρ c) b l → mI h 46 (b * 7 + l) = nI (bs ρ (wi ρ c) 6 b l).1 - nI 1)
theorem SV.lt {h : Mem} {ρ : RO} {c : Nat} (H : SV h ρ c) : c < 2 ^ ρ 0 1 := H.1
theorem SV.nd {h : Mem} {ρ : RO} {c : Nat} (H : SV h ρ c) : mI h 43 4 = nI (wi ρ c) := H.2.1
theorem SV.ov {h : Mem} {ρ : RO} {c : Nat} (H : SV h ρ c) : ∀ t u, t < ρ 0 1 → u < ρ 0 1 → mI h 44 (t * 6 + u) = nI (o7 ρ t u) := H.2.2.1
theorem SV.le {h : Mem} {ρ : RO} {c : Nat} (H : SV h ρ c) : ∀ b l, sst (wi ρ c) b l → mI h 45 (b * 7 + l) = nI (bs ρ (wi ρ c) 6 b l).2.length := H.2.2.2.1
theorem SV.nx {h : Mem} {ρ : RO} {c : Nat} (H : SV h ρ c) : ∀ b l, sst (wi ρ c) b l → mI h 46 (b * 7 + l) = nI (bs ρ (wi ρ c) 6 b l).1 - nI 1 := H.2.2.2.2
def SK (h : Mem) (ρ : RO) : Prop := (∀ u, u < 6 → mI h 44 (36 + u) = nI 0) ∧ ∃ c, c < 64 ∧ mI h 43 3 = nI c ∧ (c ≠ 0 → SV h ρ c)
theorem SK.fr {h h' : Mem} {ρ : RO} (e3 : mI h' 43 = mI h 43) (e4 : mI h' 44 = mI h 44) (e5 : mI h' 45 = mI h 45) (e6 : mI h' 46 = mI h 46) (k : SK h ρ) : SK h' ρ := by
  unfold SK SV at *
  rw [e3, e4, e5, e6]
  exact k
theorem PRK.fr {h h' : Mem} {ρ : RO} (e8 : mI h' 48 = mI h 48) (e50 : mI h' 50 = mI h 50) (k : PRK h ρ) : PRK h' ρ := by
  unfold PRK at *
  rw [e8, e50]
  exact k
theorem STK.fr {h h' : Mem} {ρ : RO} (e2 : mI h' 52 = mI h 52) (e3 : mI h' 53 = mI h 53) (k : STK h ρ) : STK h' ρ := by
  unfold STK at *
  rw [e2, e3]
  exact k
theorem SH.fr {h h' : Mem} (et : ∀ a, a < 69 → mT h' a = mT h a) (er : ∀ a, a ≠ 1 → a ≠ 14 → a ≠ 55 → a < 69 → mR h' a = mR h a) (r1 : ∀ k, k ≠ 1 → mR h' 1 k = mR h 1 k) (r14 : ∀ k, k ≠ 6 → mR h' 14 k = mR h 14 k) (r55 : ∀ k, k ≠ 3 → k ≠ 4 → mR h' 55 k = mR h 55 k) (en : mN h ≤ mN h') (k : SH h) : SH h' := by
  obtain ⟨k1, k2, k3⟩ := k
  refine ⟨fun a ha => by rw [et a ha, k1 a ha], fun q hq => ?_, by omega⟩
  rw [← k2 q hq]
  have hq2 : q.1 < 69 ∧ (q.1 = 1 → q.2.1 ≠ 1) ∧ (q.1 = 14 → q.2.1 ≠ 6) ∧ (q.1 = 55 → q.2.1 ≠ 3 ∧ q.2.1 ≠ 4) := by
    revert q
    decide
  obtain ⟨b0, b1, b14, b55⟩ := hq2
  rcases Decidable.em (q.1 = 1) with e | e
  · rw [e]; exact r1 _ (b1 e)
  · rcases Decidable.em (q.1 = 14) with e2 | e2
    · rw [e2]; exact r14 _ (b14 e2)
    · rcases Decidable.em (q.1 = 55) with e3 | e3
      · rw [e3]; exact r55 _ (b55 e3).1 (b55 e3).2
      · rw [er _ e e2 e3 b0]
