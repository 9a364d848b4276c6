/-! ===== the words that every method is given ===== -/
def TT : List Cond := lw_tbl.filter goodWord
theorem TT_of {w : Cond} (h : w ∈ tables_1) (g : goodWord w = true) : w ∈ TT := List.mem_filter.mpr ⟨List.mem_append_right _ h, g⟩
theorem TT_i (i : Nat) {w : Cond} (h : tables_1[i]? = some w) (g : goodWord w = true) : w ∈ TT := TT_of (List.mem_of_getElem? h) g
theorem TT_sel (i : Nat) {q : MethodName × Nat} (h : lw_privs[i]? = some q) : Cond.selects q.1.cls q.1 q.1 ∈ TT :=
  List.mem_filter.mpr ⟨List.mem_append_left _ (List.mem_map.mpr ⟨q, List.mem_of_getElem? h, rfl⟩), rfl⟩
theorem TT_good : GoodIn TT TT := fun w h => ⟨h, good_of_word (List.mem_filter.mp h).2⟩
def isNest : Cond → Bool
  | .fieldLinkNest .. => true
  | .methodLinkNest .. => true
  | _ => false
def NW : List Cond := tables_1.filter isNest
theorem NW_i (i : Nat) {w : Cond} (h : tables_1[i]? = some w) (g : isNest w = true) : w ∈ NW := List.mem_filter.mpr ⟨List.mem_of_getElem? h, g⟩
def NWok (U : State) : Prop := ∀ w ∈ NW, va_Nw w U
theorem NWok.warm {s U : State} (hW : s.WarmedH U.vm) (h : NWok s) : NWok U := by
  intro w hw
  have h1 := h w hw
  have h2 := (List.mem_filter.mp hw).2
  cases w <;> simp only [isNest] at h2 <;> first | exact va_Nw.warmF hW h1 | exact va_Nw.warmM hW h1 | cases h2
theorem NWok.same {s U : State} (hv : s.vm = U.vm) (h : NWok s) : NWok U := by
  intro w hw
  have h1 := h w hw
  have h2 := (List.mem_filter.mp hw).2
  cases w <;> simp only [isNest] at h2 <;> first | exact va_Nw.same rfl hv h1 | cases h2
/-! ===== the class tables ===== -/
def cR : Nat → String
  | 0 => RX0 | 1 => RX2 | 2 => RX3 | 3 => RX4 | 4 => RX5 | 5 => RX6 | 6 => RX7 | 7 => RX8 | 8 => RX10 | 9 => RX11 | 10 => RX12 | _ => RX13
def cT : Nat → u_T
  | 0 => TX0 | 1 => TX2 | 2 => TX3 | 3 => TX4 | 4 => TX5 | 5 => TX6 | 6 => TX7 | 7 => TX8 | 8 => TX10 | 9 => TX11 | 10 => TX12 | _ => TX13
def cN : Nat → Nat
  | 0 => 5 | 1 => 6 | 2 => 3 | 3 => 18 | 4 => 20 | 5 => 5 | 6 => 2 | 7 => 3 | 8 => 3 | 9 => 10 | 10 => 28 | _ => 40
def cY : Nat → Nat → FieldType
  | 0 => tyX0 | 1 => tyX2 | 2 => tyX3 | 3 => tyX4 | 4 => tyX5 | 5 => tyX6 | 6 => tyX7 | 7 => tyX8 | 8 => tyX10 | 9 => tyX11 | 10 => tyX12 | _ => tyX13
theorem c12 {P : Nat → Prop} (h0 : P 0) (h1 : P 1) (h2 : P 2) (h3 : P 3) (h4 : P 4) (h5 : P 5) (h6 : P 6) (h7 : P 7) (h8 : P 8) (h9 : P 9) (h10 : P 10) (h11 : P 11) : ∀ c, c < 12 → P c
  | 0, _ => h0 | 1, _ => h1 | 2, _ => h2 | 3, _ => h3 | 4, _ => h4 | 5, _ => h5 | 6, _ => h6 | 7, _ => h7 | 8, _ => h8 | 9, _ => h9 | 10, _ => h10 | 11, _ => h11
theorem cl_at : ∀ c, c < 12 → vwCl[c]? = some (cR c, cT c, cN c) := c12 rfl rfl rfl rfl rfl rfl rfl rfl rfl rfl rfl rfl
theorem ty_at : ∀ c, c < 12 → ∀ k, k < cN c → parseFieldDescriptor (cT c k).2.2.1 = some (cY c k) := c12 tyX0_ok tyX2_ok tyX3_ok tyX4_ok tyX5_ok tyX6_ok tyX7_ok tyX8_ok tyX10_ok tyX11_ok tyX12_ok tyX13_ok
theorem nm_at : ∀ c, c < 12 → ∀ a, a < cN c → ∀ b, b < cN c → a ≠ b → (cT c a).2.1 ≠ (cT c b).2.1 := c12 nmX0 nmX2 nmX3 nmX4 nmX5 nmX6 nmX7 nmX8 nmX10 nmX11 nmX12 nmX13
theorem uw_of {l : List Cond} (h : l.all (fun w => decide (w ∈ tables_1) && goodWord w) = true) : ∀ w ∈ l, w ∈ TT := by
  intro w hw
  have h1 := List.all_eq_true.mp h w hw
  simp only [Bool.and_eq_true, decide_eq_true_eq] at h1
  exact TT_of h1.1 h1.2
theorem uw_at : ∀ c, c < 12 → ∀ w ∈ u_ws (cR c) (cT c) (cN c), w ∈ TT := c12 (uw_of (by decide +kernel)) (uw_of (by decide +kernel)) (uw_of (by decide +kernel)) (uw_of (by decide +kernel)) (uw_of (by decide +kernel)) (uw_of (by decide +kernel)) (uw_of (by decide +kernel)) (uw_of (by decide +kernel)) (uw_of (by decide +kernel)) (uw_of (by decide +kernel)) (uw_of (by decide +kernel)) (uw_of (by decide +kernel))
/-! ===== values, the memory ===== -/
abbrev AV : Type := Int32 ⊕ Int64 ⊕ Nat ⊕ Nat
abbrev vI (x : Int32) : AV := .inl x
abbrev vL (x : Int64) : AV := .inr (.inl x)
abbrev vR (a : Nat) : AV := .inr (.inr (.inl a))
abbrev vX (k : Nat) : AV := .inr (.inr (.inr k))
/-- B, the classes' numbers and slots, the constants outside, the array classes of int, long, byte -/
abbrev GE : Type := Nat × va_G × (Nat → Nat) × Nat × Nat × Nat
abbrev gB (G : GE) : Nat := G.1
abbrev gD (G : GE) : va_G := G.2.1
abbrev gX (G : GE) : Nat → Nat := G.2.2.1
abbrev gi (G : GE) : Nat := G.2.2.2.1
abbrev gl (G : GE) : Nat := G.2.2.2.2.1
abbrev gb (G : GE) : Nat := G.2.2.2.2.2
def gA (G : GE) : Nat → Prop := fun q => G.1 < q
def rv (G : GE) : Nat → Value
  | 0 => .null
  | a + 1 => .ref (G.1 + (a + 1))
def tv (G : GE) : AV → Value
  | .inl x => .int x
  | .inr (.inl x) => .long x
  | .inr (.inr (.inl a)) => rv G a
  | .inr (.inr (.inr k)) => .ref (G.2.2.1 k)
def ac : AV → Nat
  | .inr (.inl _) => 2
  | _ => 1
theorem rv_cat (G : GE) (a : Nat) : (rv G a).category = 1 := by cases a <;> rfl
theorem tv_cat (G : GE) (v : AV) : (tv G v).category = ac v := by
  rcases v with x | x | a | k
  · rfl
  · rfl
  · exact rv_cat G a
  · rfl
theorem rv_pos (G : GE) {a : Nat} (h : a ≠ 0) : rv G a = .ref (G.1 + a) := by
  cases a with
  | zero => exact absurd rfl h
  | succ a => rfl
abbrev Mem : Type := (Nat → Nat → Int32) × (Nat → Nat → Int64) × (Nat → Nat → Nat) × (Nat → Nat × Nat) × Nat
def mI (h : Mem) : Nat → Nat → Int32 := h.1
def mL (h : Mem) : Nat → Nat → Int64 := h.2.1
def mR (h : Mem) : Nat → Nat → Nat := h.2.2.1
def mT (h : Mem) : Nat → Nat × Nat := h.2.2.2.1
def mN (h : Mem) : Nat := h.2.2.2.2
def rowI (h : Mem) (a : Nat) (f : Nat → Int32) : Mem := (fun x => if x = a then f else mI h x, mL h, mR h, mT h, mN h)
def rowL (h : Mem) (a : Nat) (f : Nat → Int64) : Mem := (mI h, fun x => if x = a then f else mL h x, mR h, mT h, mN h)
def rowR (h : Mem) (a : Nat) (f : Nat → Nat) : Mem := (mI h, mL h, fun x => if x = a then f else mR h x, mT h, mN h)
def updN (f : Nat → Nat) (k : Nat) (x : Nat) : Nat → Nat := fun j => if j = k then x else f j
def wI (h : Mem) (a k : Nat) (v : Int32) : Mem := rowI h a (upd (mI h a) k v)
def wL (h : Mem) (a k : Nat) (v : Int64) : Mem := rowL h a (vp_updL (mL h a) k v)
def wR (h : Mem) (a k : Nat) (v : Nat) : Mem := rowR h a (updN (mR h a) k v)
/-- a new cell of a kind and a length, all of it 0 -/
def mNew (h : Mem) (kd len : Nat) : Mem := (fun x => if x = mN h then (fun _ => 0) else mI h x, fun x => if x = mN h then (fun _ => 0) else mL h x, fun x => if x = mN h then (fun _ => 0) else mR h x, fun x => if x = mN h then (kd, len) else mT h x, mN h + 1)
def gI (h : Mem) (a k c : Nat) : Option Int32 := if (mT h a).1 = c then some (mI h a k) else none
def gL (h : Mem) (a k c : Nat) : Option Int64 := if (mT h a).1 = c then some (mL h a k) else none
def gR (h : Mem) (a k c : Nat) : Option Nat := if (mT h a).1 = c then some (mR h a k) else none
def pI (h : Mem) (a k c : Nat) (v : Int32) : Option Mem := if (mT h a).1 = c then some (wI h a k v) else none
def pZ (h : Mem) (a k c : Nat) (v : Int32) : Option Mem := if (mT h a).1 = c ∧ (v = 0 ∨ v = 1) then some (wI h a k v) else none
def pL (h : Mem) (a k c : Nat) (v : Int64) : Option Mem := if (mT h a).1 = c then some (wL h a k v) else none
def pR (h : Mem) (a k c : Nat) (v : Nat) : Option Mem := if (mT h a).1 = c then some (wR h a k v) else none
def aI (h : Mem) (a : Nat) (i : Int32) : Option Int32 := if (mT h a).1 = 100 ∧ 0 ≤ i.toInt ∧ i.toInt < ((mT h a).2 : Int) then some (mI h a i.toNatClampNeg) else none
def aL (h : Mem) (a : Nat) (i : Int32) : Option Int64 := if (mT h a).1 = 101 ∧ 0 ≤ i.toInt ∧ i.toInt < ((mT h a).2 : Int) then some (mL h a i.toNatClampNeg) else none
def aB (h : Mem) (a : Nat) (i : Int32) : Option Int32 := if (mT h a).1 = 102 ∧ 0 ≤ i.toInt ∧ i.toInt < ((mT h a).2 : Int) then some (mI h a i.toNatClampNeg) else none
def sI (h : Mem) (a : Nat) (i v : Int32) : Option Mem := if (mT h a).1 = 100 ∧ 0 ≤ i.toInt ∧ i.toInt < ((mT h a).2 : Int) then some (wI h a i.toNatClampNeg v) else none
def sL (h : Mem) (a : Nat) (i : Int32) (v : Int64) : Option Mem := if (mT h a).1 = 101 ∧ 0 ≤ i.toInt ∧ i.toInt < ((mT h a).2 : Int) then some (wL h a i.toNatClampNeg v) else none
def sB (h : Mem) (a : Nat) (i v : Int32) : Option Mem := if (mT h a).1 = 102 ∧ 0 ≤ i.toInt ∧ i.toInt < ((mT h a).2 : Int) then some (wI h a i.toNatClampNeg (vp_nar .byte v)) else none
def aLen (h : Mem) (a : Nat) : Option Int32 := if (mT h a).1 = 100 ∨ (mT h a).1 = 101 ∨ (mT h a).1 = 102 then some (Int32.ofNat (mT h a).2) else none
def retZ {α : Type} (v : Int32) (x : α) : Option α := if v = 0 ∨ v = 1 then some x else none
def idv (x y : Int32) : Option Int32 := if y = 0 then none else some (x / y)
def irm (x y : Int32) : Option Int32 := if y = 0 then none else some (x - x / y * y)
/-! ===== the memory and the heap ===== -/
def fval (G : GE) (h : Mem) (a : Nat) (ty : FieldType) (j : Nat) : Value := match ty with
  | .long => .long (mL h a j)
  | .object _ => rv G (mR h a j)
  | .array _ => rv G (mR h a j)
  | _ => .int (mI h a j)
def flds (G : GE) (h : Mem) (a c : Nat) : List Value := (List.range (cN c)).map (fun j => fval G h a (cY c j) j)
def cellOK (G : GE) (h : Mem) (a : Nat) (H : Heap) : Prop :=
  ((mT h a).1 < 12 → va_at (gD G) vwCl (gB G + a, .inr ((mT h a).1, flds G h a (mT h a).1)) H) ∧
  ((mT h a).1 = 100 → H[gB G + a]? = some (vp_cell (gi G) ((mT h a).2, .inl (mI h a)))) ∧
  ((mT h a).1 = 101 → H[gB G + a]? = some (vp_cell (gl G) ((mT h a).2, .inr (.inl (mL h a))))) ∧
  ((mT h a).1 = 102 → H[gB G + a]? = some (vp_cell (gb G) ((mT h a).2, .inl (mI h a))))
def RelM (G : GE) (h : Mem) (H : Heap) : Prop := H.size = gB G + mN h ∧ 1 ≤ mN h ∧ (mT h 0).1 = 99 ∧ ∀ a, cellOK G h a H
theorem flds_at (G : GE) (h : Mem) (a c : Nat) {k : Nat} (hk : k < cN c) : (flds G h a c)[k]? = some (fval G h a (cY c k) k) := by
  simp [flds, hk]
theorem flds_len (G : GE) (h : Mem) (a c : Nat) : (flds G h a c).length = cN c := by simp [flds]
theorem mT_rowI (h : Mem) (a : Nat) (f : Nat → Int32) : mT (rowI h a f) = mT h := rfl
theorem mL_rowI (h : Mem) (a : Nat) (f : Nat → Int32) : mL (rowI h a f) = mL h := rfl
theorem mR_rowI (h : Mem) (a : Nat) (f : Nat → Int32) : mR (rowI h a f) = mR h := rfl
theorem mN_rowI (h : Mem) (a : Nat) (f : Nat → Int32) : mN (rowI h a f) = mN h := rfl
theorem mT_rowL (h : Mem) (a : Nat) (f : Nat → Int64) : mT (rowL h a f) = mT h := rfl
theorem mI_rowL (h : Mem) (a : Nat) (f : Nat → Int64) : mI (rowL h a f) = mI h := rfl
theorem mR_rowL (h : Mem) (a : Nat) (f : Nat → Int64) : mR (rowL h a f) = mR h := rfl
theorem mN_rowL (h : Mem) (a : Nat) (f : Nat → Int64) : mN (rowL h a f) = mN h := rfl
theorem mT_rowR (h : Mem) (a : Nat) (f : Nat → Nat) : mT (rowR h a f) = mT h := rfl
theorem mI_rowR (h : Mem) (a : Nat) (f : Nat → Nat) : mI (rowR h a f) = mI h := rfl
theorem mL_rowR (h : Mem) (a : Nat) (f : Nat → Nat) : mL (rowR h a f) = mL h := rfl
theorem mN_rowR (h : Mem) (a : Nat) (f : Nat → Nat) : mN (rowR h a f) = mN h := rfl
theorem mI_row (h : Mem) (a : Nat) (f : Nat → Int32) : mI (rowI h a f) a = f := if_pos rfl
theorem mI_row_ne (h : Mem) {a b : Nat} (f : Nat → Int32) (e : b ≠ a) : mI (rowI h a f) b = mI h b := if_neg e
theorem mL_row (h : Mem) (a : Nat) (f : Nat → Int64) : mL (rowL h a f) a = f := if_pos rfl
theorem mL_row_ne (h : Mem) {a b : Nat} (f : Nat → Int64) (e : b ≠ a) : mL (rowL h a f) b = mL h b := if_neg e
theorem mR_row (h : Mem) (a : Nat) (f : Nat → Nat) : mR (rowR h a f) a = f := if_pos rfl
theorem mR_row_ne (h : Mem) {a b : Nat} (f : Nat → Nat) (e : b ≠ a) : mR (rowR h a f) b = mR h b := if_neg e
theorem flds_ne (G : GE) {h h' : Mem} {a : Nat} (c : Nat) (e1 : mI h' a = mI h a) (e2 : mL h' a = mL h a) (e3 : mR h' a = mR h a) : flds G h' a c = flds G h a c := by
  unfold flds
  congr 1
  funext j
  unfold fval
  rw [e1, e2, e3]
theorem cellOK.kept {G : GE} {h h' : Mem} {a : Nat} {H H' : Heap} (k : cellOK G h a H) (e0 : mT h' a = mT h a) (e1 : mI h' a = mI h a) (e2 : mL h' a = mL h a) (e3 : mR h' a = mR h a) (hq : a ≠ 0 → H'[gB G + a]? = H[gB G + a]?) (hz : (mT h 0).1 = 99) : cellOK G h' a H' := by
  by_cases ha : a = 0
  · subst ha
    refine ⟨fun q => ?_, fun q => ?_, fun q => ?_, fun q => ?_⟩ <;> · rw [e0, hz] at q; omega
  · have hq := hq ha
    obtain ⟨k1, k2, k3, k4⟩ := k
    unfold cellOK
    rw [e0, e1, e2]
    refine ⟨fun q => ?_, fun q => hq.trans (k2 q), fun q => hq.trans (k3 q), fun q => hq.trans (k4 q)⟩
    rw [flds_ne G _ e1 e2 e3]
    exact (k1 q).kept hq
