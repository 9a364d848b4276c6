/-! ===== what a ROAD is, apart from any memory ===== -/
abbrev RO : Type := Nat → Nat → Nat
def RW (ρ : RO) : Prop := (∀ i j, ρ i j < 1024) ∧ (ρ 0 1 ≤ 6) ∧ (ρ 0 2 ≤ 7) ∧ (ρ 0 3 ≤ 10) ∧ (ρ 0 5 ≤ 6) ∧ (ρ 0 6 ≤ 4) ∧ (ρ 0 8 ≤ 5) ∧ (∀ t, t < ρ 0 1 → 2 ≤ ρ 1 t ∧ ρ 1 t ≤ 8) ∧ (∀ t i, t < ρ 0 1 → i < ρ 1 t → ρ 2 (8 * t + i) ≤ 6) ∧ (∀ j, j < ρ 0 3 → ρ 3 j < ρ 0 2) ∧ (∀ j, j < ρ 0 3 → ρ 4 j < ρ 0 2) ∧ (∀ j, j < ρ 0 3 → ρ 3 j ≠ ρ 4 j) ∧ (∀ j, j < ρ 0 3 → 1 ≤ ρ 5 j ∧ ρ 5 j ≤ 99) ∧ (∀ j, j < ρ 0 3 → ρ 6 j ≤ 4) ∧ (∀ j, j < ρ 0 3 → ρ 6 j ≠ 0 → ρ 7 j < ρ 0 1) ∧ (∀ j, j < ρ 0 3 → ρ 13 (7 * ρ 3 j + ρ 4 j) = j + 1) ∧ (∀ j, j < ρ 0 3 → ρ 13 (7 * ρ 4 j + ρ 3 j) = j + 1) ∧ (∀ p q, p < ρ 0 2 → q < ρ 0 2 → ρ 13 (7 * p + q) = 0 ∨ ∃ j, j < ρ 0 3 ∧ ρ 13 (7 * p + q) = j + 1 ∧ ((ρ 3 j = p ∧ ρ 4 j = q) ∨ (ρ 3 j = q ∧ ρ 4 j = p))) ∧ (∀ k, k < ρ 0 5 → ρ 8 k < ρ 0 2 ∧ ρ 9 k < ρ 0 1 ∧ ρ 10 k ≤ 1 ∧ ρ 11 k ≤ 99) ∧ (∀ k, k < ρ 0 8 → ρ 12 k < ρ 0 1)
theorem RW.all {ρ : RO} (H : RW ρ) : ∀ i j, ρ i j < 1024 := H.1
theorem RW.tu {ρ : RO} (H : RW ρ) : ρ 0 1 ≤ 6 := H.2.1
theorem RW.pl {ρ : RO} (H : RW ρ) : ρ 0 2 ≤ 7 := H.2.2.1
theorem RW.ro {ρ : RO} (H : RW ρ) : ρ 0 3 ≤ 10 := H.2.2.2.1
theorem RW.inn {ρ : RO} (H : RW ρ) : ρ 0 5 ≤ 6 := H.2.2.2.2.1
theorem RW.pe {ρ : RO} (H : RW ρ) : ρ 0 6 ≤ 4 := H.2.2.2.2.2.1
theorem RW.he {ρ : RO} (H : RW ρ) : ρ 0 8 ≤ 5 := H.2.2.2.2.2.2.1
theorem RW.len {ρ : RO} (H : RW ρ) : ∀ t, t < ρ 0 1 → 2 ≤ ρ 1 t ∧ ρ 1 t ≤ 8 := H.2.2.2.2.2.2.2.1
theorem RW.note {ρ : RO} (H : RW ρ) : ∀ t i, t < ρ 0 1 → i < ρ 1 t → ρ 2 (8 * t + i) ≤ 6 := H.2.2.2.2.2.2.2.2.1
theorem RW.e1 {ρ : RO} (H : RW ρ) : ∀ j, j < ρ 0 3 → ρ 3 j < ρ 0 2 := H.2.2.2.2.2.2.2.2.2.1
theorem RW.e2 {ρ : RO} (H : RW ρ) : ∀ j, j < ρ 0 3 → ρ 4 j < ρ 0 2 := H.2.2.2.2.2.2.2.2.2.2.1
theorem RW.ne {ρ : RO} (H : RW ρ) : ∀ j, j < ρ 0 3 → ρ 3 j ≠ ρ 4 j := H.2.2.2.2.2.2.2.2.2.2.2.1
theorem RW.min {ρ : RO} (H : RW ρ) : ∀ j, j < ρ 0 3 → 1 ≤ ρ 5 j ∧ ρ 5 j ≤ 99 := H.2.2.2.2.2.2.2.2.2.2.2.2.1
theorem RW.kd {ρ : RO} (H : RW ρ) : ∀ j, j < ρ 0 3 → ρ 6 j ≤ 4 := H.2.2.2.2.2.2.2.2.2.2.2.2.2.1
theorem RW.gt {ρ : RO} (H : RW ρ) : ∀ j, j < ρ 0 3 → ρ 6 j ≠ 0 → ρ 7 j < ρ 0 1 := H.2.2.2.2.2.2.2.2.2.2.2.2.2.2.1
theorem RW.b1 {ρ : RO} (H : RW ρ) : ∀ j, j < ρ 0 3 → ρ 13 (7 * ρ 3 j + ρ 4 j) = j + 1 := H.2.2.2.2.2.2.2.2.2.2.2.2.2.2.2.1
theorem RW.b2 {ρ : RO} (H : RW ρ) : ∀ j, j < ρ 0 3 → ρ 13 (7 * ρ 4 j + ρ 3 j) = j + 1 := H.2.2.2.2.2.2.2.2.2.2.2.2.2.2.2.2.1
theorem RW.bt {ρ : RO} (H : RW ρ) : ∀ p q, p < ρ 0 2 → q < ρ 0 2 → ρ 13 (7 * p + q) = 0 ∨ ∃ j, j < ρ 0 3 ∧ ρ 13 (7 * p + q) = j + 1 ∧ ((ρ 3 j = p ∧ ρ 4 j = q) ∨ (ρ 3 j = q ∧ ρ 4 j = p)) := H.2.2.2.2.2.2.2.2.2.2.2.2.2.2.2.2.2.1
theorem RW.ip {ρ : RO} (H : RW ρ) : ∀ k, k < ρ 0 5 → ρ 8 k < ρ 0 2 ∧ ρ 9 k < ρ 0 1 ∧ ρ 10 k ≤ 1 ∧ ρ 11 k ≤ 99 := H.2.2.2.2.2.2.2.2.2.2.2.2.2.2.2.2.2.2.1
theorem RW.hd {ρ : RO} (H : RW ρ) : ∀ k, k < ρ 0 8 → ρ 12 k < ρ 0 1 := H.2.2.2.2.2.2.2.2.2.2.2.2.2.2.2.2.2.2.2
/-- minutes, kind (1 .. 4, 0 without a gate), tune of the gate between two places -/
def qm (ρ : RO) (p q : Nat) : Nat := if ρ 13 (7 * p + q) = 0 then 0 else ρ 5 (ρ 13 (7 * p + q) - 1)
def qk (ρ : RO) (p q : Nat) : Nat := if ρ 13 (7 * p + q) = 0 then 0 else ρ 6 (ρ 13 (7 * p + q) - 1)
def qt (ρ : RO) (p q : Nat) : Nat := if ρ 13 (7 * p + q) = 0 then 0 else ρ 7 (ρ 13 (7 * p + q) - 1)
/-- the class's Road at r -/
def CRd (h : Mem) (r : Nat) (ρ : RO) : Prop := (RD h r) ∧ (∀ k, k < 9 → mI h r k = nI (ρ 0 k)) ∧ (∀ t, t < ρ 0 1 → mI h (r + 1) t = nI (ρ 1 t)) ∧ (∀ t i, t < ρ 0 1 → i < ρ 1 t → mI h (r + 2) (t * 8 + i) = nI (ρ 2 (8 * t + i))) ∧ (∀ j, j < ρ 0 3 → mI h (r + 3) (j * 2) = nI (ρ 3 j)) ∧ (∀ j, j < ρ 0 3 → mI h (r + 3) (j * 2 + 1) = nI (ρ 4 j)) ∧ (∀ j, j < ρ 0 3 → mI h (r + 4) j = nI (ρ 5 j)) ∧ (∀ j, j < ρ 0 3 → mI h (r + 5) j = nI (ρ 6 j) - nI 1) ∧ (∀ j, j < ρ 0 3 → ρ 6 j ≠ 0 → mI h (r + 6) j = nI (ρ 7 j)) ∧ (∀ p q, p < ρ 0 2 → q < ρ 0 2 → mI h (r + 7) (p * 7 + q) = nI (ρ 13 (7 * p + q)) - nI 1) ∧ (∀ k w, k < ρ 0 5 → w < 4 → mI h (r + 8) (k * 4 + w) = nI (ρ (8 + w) k)) ∧ (∀ k, k < ρ 0 8 → mI h (r + 9) k = nI (ρ 12 k))
theorem CRd.rd {h : Mem} {r : Nat} {ρ : RO} (H : CRd h r ρ) : RD h r := H.1
theorem CRd.sc {h : Mem} {r : Nat} {ρ : RO} (H : CRd h r ρ) : ∀ k, k < 9 → mI h r k = nI (ρ 0 k) := H.2.1
theorem CRd.len {h : Mem} {r : Nat} {ρ : RO} (H : CRd h r ρ) : ∀ t, t < ρ 0 1 → mI h (r + 1) t = nI (ρ 1 t) := H.2.2.1
theorem CRd.note {h : Mem} {r : Nat} {ρ : RO} (H : CRd h r ρ) : ∀ t i, t < ρ 0 1 → i < ρ 1 t → mI h (r + 2) (t * 8 + i) = nI (ρ 2 (8 * t + i)) := H.2.2.2.1
theorem CRd.e1 {h : Mem} {r : Nat} {ρ : RO} (H : CRd h r ρ) : ∀ j, j < ρ 0 3 → mI h (r + 3) (j * 2) = nI (ρ 3 j) := H.2.2.2.2.1
theorem CRd.e2 {h : Mem} {r : Nat} {ρ : RO} (H : CRd h r ρ) : ∀ j, j < ρ 0 3 → mI h (r + 3) (j * 2 + 1) = nI (ρ 4 j) := H.2.2.2.2.2.1
theorem CRd.min {h : Mem} {r : Nat} {ρ : RO} (H : CRd h r ρ) : ∀ j, j < ρ 0 3 → mI h (r + 4) j = nI (ρ 5 j) := H.2.2.2.2.2.2.1
theorem CRd.kd {h : Mem} {r : Nat} {ρ : RO} (H : CRd h r ρ) : ∀ j, j < ρ 0 3 → mI h (r + 5) j = nI (ρ 6 j) - nI 1 := H.2.2.2.2.2.2.2.1
theorem CRd.gt {h : Mem} {r : Nat} {ρ : RO} (H : CRd h r ρ) : ∀ j, j < ρ 0 3 → ρ 6 j ≠ 0 → mI h (r + 6) j = nI (ρ 7 j) := H.2.2.2.2.2.2.2.2.1
theorem CRd.bt {h : Mem} {r : Nat} {ρ : RO} (H : CRd h r ρ) : ∀ p q, p < ρ 0 2 → q < ρ 0 2 → mI h (r + 7) (p * 7 + q) = nI (ρ 13 (7 * p + q)) - nI 1 := H.2.2.2.2.2.2.2.2.2.1
theorem CRd.ip {h : Mem} {r : Nat} {ρ : RO} (H : CRd h r ρ) : ∀ k w, k < ρ 0 5 → w < 4 → mI h (r + 8) (k * 4 + w) = nI (ρ (8 + w) k) := H.2.2.2.2.2.2.2.2.2.2.1
theorem CRd.hd {h : Mem} {r : Nat} {ρ : RO} (H : CRd h r ρ) : ∀ k, k < ρ 0 8 → mI h (r + 9) k = nI (ρ 12 k) := H.2.2.2.2.2.2.2.2.2.2.2
/-- the reference's Pike at p -/
def MRd (h : Mem) (p : Nat) (ρ : RO) : Prop := (PK h p) ∧ (∀ k, k < 9 → mI h p k = nI (ρ 0 k)) ∧ (∀ t, t < ρ 0 1 → mI h (p + 1) t = nI (ρ 1 t)) ∧ (∀ t i, t < ρ 0 1 → i < ρ 1 t → mI h (p + 2) (8 * t + i) = nI (ρ 2 (8 * t + i))) ∧ (∀ a b, a < ρ 0 2 → b < ρ 0 2 → mI h (p + 3) (7 * a + b) = nI (qm ρ a b)) ∧ (∀ a b, a < ρ 0 2 → b < ρ 0 2 → mI h (p + 4) (7 * a + b) = if qk ρ a b = 0 then -nI 2 else nI (qk ρ a b - 1)) ∧ (∀ a b, a < ρ 0 2 → b < ρ 0 2 → qk ρ a b ≠ 0 → mI h (p + 5) (7 * a + b) = nI (qt ρ a b)) ∧ (∀ j, j < ρ 0 3 → mI h (p + 6) j = nI (ρ 3 j)) ∧ (∀ j, j < ρ 0 3 → mI h (p + 7) j = nI (ρ 4 j)) ∧ (∀ k, k < ρ 0 5 → mI h (p + 8) k = nI (ρ 8 k)) ∧ (∀ k, k < ρ 0 5 → mI h (p + 9) k = nI (ρ 9 k)) ∧ (∀ k, k < ρ 0 5 → mI h (p + 10) k = nI (ρ 10 k)) ∧ (∀ k, k < ρ 0 5 → mI h (p + 11) k = nI (ρ 11 k)) ∧ (∀ k, k < ρ 0 8 → mI h (p + 15) k = nI (ρ 12 k))
theorem MRd.pk {h : Mem} {p : Nat} {ρ : RO} (H : MRd h p ρ) : PK h p := H.1
theorem MRd.sc {h : Mem} {p : Nat} {ρ : RO} (H : MRd h p ρ) : ∀ k, k < 9 → mI h p k = nI (ρ 0 k) := H.2.1
theorem MRd.len {h : Mem} {p : Nat} {ρ : RO} (H : MRd h p ρ) : ∀ t, t < ρ 0 1 → mI h (p + 1) t = nI (ρ 1 t) := H.2.2.1
theorem MRd.note {h : Mem} {p : Nat} {ρ : RO} (H : MRd h p ρ) : ∀ t i, t < ρ 0 1 → i < ρ 1 t → mI h (p + 2) (8 * t + i) = nI (ρ 2 (8 * t + i)) := H.2.2.2.1
theorem MRd.min {h : Mem} {p : Nat} {ρ : RO} (H : MRd h p ρ) : ∀ a b, a < ρ 0 2 → b < ρ 0 2 → mI h (p + 3) (7 * a + b) = nI (qm ρ a b) := H.2.2.2.2.1
theorem MRd.kd {h : Mem} {p : Nat} {ρ : RO} (H : MRd h p ρ) : ∀ a b, a < ρ 0 2 → b < ρ 0 2 → mI h (p + 4) (7 * a + b) = if qk ρ a b = 0 then -nI 2 else nI (qk ρ a b - 1) := H.2.2.2.2.2.1
theorem MRd.gt {h : Mem} {p : Nat} {ρ : RO} (H : MRd h p ρ) : ∀ a b, a < ρ 0 2 → b < ρ 0 2 → qk ρ a b ≠ 0 → mI h (p + 5) (7 * a + b) = nI (qt ρ a b) := H.2.2.2.2.2.2.1
theorem MRd.e1 {h : Mem} {p : Nat} {ρ : RO} (H : MRd h p ρ) : ∀ j, j < ρ 0 3 → mI h (p + 6) j = nI (ρ 3 j) := H.2.2.2.2.2.2.2.1
theorem MRd.e2 {h : Mem} {p : Nat} {ρ : RO} (H : MRd h p ρ) : ∀ j, j < ρ 0 3 → mI h (p + 7) j = nI (ρ 4 j) := H.2.2.2.2.2.2.2.2.1
theorem MRd.i8 {h : Mem} {p : Nat} {ρ : RO} (H : MRd h p ρ) : ∀ k, k < ρ 0 5 → mI h (p + 8) k = nI (ρ 8 k) := H.2.2.2.2.2.2.2.2.2.1
theorem MRd.i9 {h : Mem} {p : Nat} {ρ : RO} (H : MRd h p ρ) : ∀ k, k < ρ 0 5 → mI h (p + 9) k = nI (ρ 9 k) := H.2.2.2.2.2.2.2.2.2.2.1
theorem MRd.i10 {h : Mem} {p : Nat} {ρ : RO} (H : MRd h p ρ) : ∀ k, k < ρ 0 5 → mI h (p + 10) k = nI (ρ 10 k) := H.2.2.2.2.2.2.2.2.2.2.2.1
theorem MRd.i11 {h : Mem} {p : Nat} {ρ : RO} (H : MRd h p ρ) : ∀ k, k < ρ 0 5 → mI h (p + 11) k = nI (ρ 11 k) := H.2.2.2.2.2.2.2.2.2.2.2.2.1
theorem MRd.hd {h : Mem} {p : Nat} {ρ : RO} (H : MRd h p ρ) : ∀ k, k < ρ 0 8 → mI h (p + 15) k = nI (ρ 12 k) := H.2.2.2.2.2.2.2.2.2.2.2.2.2
/-- how all people are (part w of person x), the weather at 5 0 -/
def NF (ρ ν : RO) : Prop := (∀ x, x < ρ 0 6 → ν 0 x < ρ 0 2) ∧ (∀ x, x < ρ 0 6 → ν 1 x ≤ 999) ∧ (∀ x, x < ρ 0 6 → ν 2 x < 64) ∧ (∀ x, x < ρ 0 6 → ν 3 x < 64) ∧ (ν 5 0 ≤ 1)
theorem NF.pl {ρ ν : RO} (H : NF ρ ν) : ∀ x, x < ρ 0 6 → ν 0 x < ρ 0 2 := H.1
theorem NF.co {ρ ν : RO} (H : NF ρ ν) : ∀ x, x < ρ 0 6 → ν 1 x ≤ 999 := H.2.1
theorem NF.kn {ρ ν : RO} (H : NF ρ ν) : ∀ x, x < ρ 0 6 → ν 2 x < 64 := H.2.2.1
theorem NF.fg {ρ ν : RO} (H : NF ρ ν) : ∀ x, x < ρ 0 6 → ν 3 x < 64 := H.2.2.2.1
theorem NF.rn {ρ ν : RO} (H : NF ρ ν) : ν 5 0 ≤ 1 := H.2.2.2.2
/-- a row of 21 at o of a row f, in the class's order and in the reference's -/
def rC (f : Nat → Int32) (o : Nat) (ν : RO) : Prop := (∀ x w, x < 4 → w < 5 → f (o + (x * 5 + w)) = nI (ν w x)) ∧ f (o + 20) = nI (ν 5 0)
def rM (f : Nat → Int32) (o : Nat) (ν : RO) : Prop := (∀ x w, x < 4 → w < 5 → f (o + (4 * w + x)) = nI (ν w x)) ∧ f (o + 20) = nI (ν 5 0)
theorem nI_m1 {n : Nat} (h : 1 ≤ n) : nI n + -nI 1 = nI (n - 1) := by
  obtain ⟨m, rfl⟩ : ∃ m, n = m + 1 := ⟨n - 1, by omega⟩
  exact pk_m1 m
/-! ===== a note as it is sung ===== -/
def sg (ρ : RO) (t i : Nat) (fo ra : Bool) : Nat :=
  if i + 1 = ρ 1 t then
    (if ra = true ∧ (if fo = true then (if ρ 2 (8 * t + i) = 6 then 5 else ρ 2 (8 * t + i) + 1) else ρ 2 (8 * t + i)) ≠ 0 then (if fo = true then (if ρ 2 (8 * t + i) = 6 then 5 else ρ 2 (8 * t + i) + 1) else ρ 2 (8 * t + i)) - 1
     else (if fo = true then (if ρ 2 (8 * t + i) = 6 then 5 else ρ 2 (8 * t + i) + 1) else ρ 2 (8 * t + i)))
  else ρ 2 (8 * t + i)
theorem sg_lt {ρ : RO} (W : RW ρ) {t i : Nat} (fo ra : Bool) (ht : t < ρ 0 1) (hi : i < ρ 1 t) : sg ρ t i fo ra < 8 := by
  have h := W.note t i ht hi
  unfold sg
  repeat' split
  all_goals omega
section
variable {h : Mem} {r : Nat} {ρ : RO}
theorem c_note (W : RW ρ) (C : CRd h r ρ) {t i : Nat} (ht : t < ρ 0 1) (hi : i < ρ 1 t) : f_X5_note h r (nI t) (nI i) = some (nI (ρ 2 (8 * t + i))) := by
  have := W.tu
  have := W.len t ht
  unfold f_X5_note
  simp (disch := omega) only [ob, nI_lit, nI_add, pk_mul, nI_eq, nI_ltI, nI_leI, if_true, if_false, if_pos, if_neg, ck_of (tR C.rd), gR_of (tR C.rd), rR_10 C.rd, aI_of (tR_2 C.rd), C.note]
theorem c_len (W : RW ρ) (C : CRd h r ρ) {t : Nat} (ht : t < ρ 0 1) : aI h (r + 1) (nI t) = some (nI (ρ 1 t)) := by
  have := W.tu
  simp (disch := omega) only [aI_of (tR_1 C.rd), C.len]
theorem c_sung (W : RW ρ) (C : CRd h r ρ) {t i : Nat} (fo ra : Bool) (ht : t < ρ 0 1) (hi : i < ρ 1 t) : f_X1_noteSung h r (nI t) (nI i) (nI fo.toNat) (nI ra.toNat) = some (nI (sg ρ t i fo ra)) := by
  have := W.tu
  have := W.len t ht
  have := W.note t i ht hi
  unfold f_X1_noteSung f_X1_noteSung_41 f_X1_noteSung_44 f_X1_noteSung_61 sg
  simp (disch := omega) only [ob, nI_lit, nI_add, pk_mul, nI_eq, nI_ltI, nI_leI, if_true, if_false, if_pos, if_neg, c_note W C ht hi, gR_of (tR C.rd), rR_9 C.rd, c_len W C ht, pk_sub]
  rcases Decidable.em (i + 1 = ρ 1 t) with e | e
  · cases fo <;> cases ra <;> rcases Decidable.em (ρ 2 (8 * t + i) = 0) with e0 | e0 <;> rcases Decidable.em (ρ 2 (8 * t + i) = 6) with e6 | e6 <;> first | (exfalso; omega) | simp (disch := omega) [ob, nI_lit, nI_add, pk_mul, nI_eq, nI_ltI, nI_leI, if_true, if_false, if_pos, if_neg, e, e6, e0, Bool.toNat, pk_sub, nI_m1]
  · simp (disch := omega) only [ob, nI_lit, nI_add, pk_mul, nI_eq, nI_ltI, nI_leI, if_true, if_false, if_pos, if_neg]
end
