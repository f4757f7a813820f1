/-! loops with fuel, calls in sequence, facts on the cells' numbers -/
def itr {β : Type} (S : β → β) (z : β) : Nat → β
  | 0 => z
  | n + 1 => S (itr S z n)
theorem itr_succ {β : Type} (S : β → β) (z : β) (n : Nat) : itr S z (n + 1) = S (itr S z n) := rfl
def fuel : Nat := 1000
def bI {α : Type} (o : Option (Mem × Int32)) (k : Mem → Int32 → Option α) : Option α := match o with
  | none => none
  | some q => k q.1 q.2
def bL {α : Type} (o : Option (Mem × Int64)) (k : Mem → Int64 → Option α) : Option α := match o with
  | none => none
  | some q => k q.1 q.2
def bV {α : Type} (o : Option Mem) (k : Mem → Option α) : Option α := match o with
  | none => none
  | some q => k q
theorem bI_some {α : Type} (M : Mem) (r : Int32) (k : Mem → Int32 → Option α) : bI (some (M, r)) k = k M r := rfl
theorem bL_some {α : Type} (M : Mem) (r : Int64) (k : Mem → Int64 → Option α) : bL (some (M, r)) k = k M r := rfl
theorem bV_some {α : Type} (M : Mem) (k : Mem → Option α) : bV (some M) k = k M := rfl
abbrev inB (x : Int32) (n : Nat) : Prop := 0 ≤ x.toInt ∧ x.toInt < (n : Int)
theorem inB_lt {x : Int32} {n : Nat} (h : inB x n) : x.toNatClampNeg < n := by
  have h2 : x.toNatClampNeg = x.toInt.toNat := rfl
  omega
def isR (r : Nat) : Prop := r = 117 ∨ r = 118
def isA6 (q : Nat) : Prop := shK q = 0 ∧ shN q = 6
def isKi (t : Nat) : Prop := t = 103 ∨ t = 104 ∨ t = 105 ∨ t = 106 ∨ t = 107 ∨ t = 108
theorem isMo_all {P : Nat → Prop} (h : ∀ b ∈ isMoL, P b) {b : Nat} (hb : isMo b) : P b := h b hb
theorem mo_k {b : Nat} (hb : isMo b) : shK b = 14 := isMo_all (P := fun b => shK b = 14) (by decide) hb
theorem mo_lt {b : Nat} (hb : isMo b) : b < 126 := isMo_all (P := fun b => b < 126) (by decide) hb
theorem mo_1 {b : Nat} (hb : isMo b) : isA6 (b + 1) := isMo_all (P := fun b => isA6 (b + 1)) (by unfold isA6; decide) hb
theorem mo_2 {b : Nat} (hb : isMo b) : isA6 (b + 2) := isMo_all (P := fun b => isA6 (b + 2)) (by unfold isA6; decide) hb
theorem mo_P {x : Int32} (h : inB x 10) : isMo (24 + 3 * x.toNatClampNeg) := by
  have h2 := inB_lt h
  generalize x.toNatClampNeg = n at h2
  exact (show ∀ n, n < 10 → isMo (24 + 3 * n) by unfold isMo; decide) n h2
theorem mo_I {x : Int32} (h : inB x 2) : isMo (76 + 3 * x.toNatClampNeg) := by
  have h2 := inB_lt h
  generalize x.toNatClampNeg = n at h2
  exact (show ∀ n, n < 2 → isMo (76 + 3 * n) by unfold isMo; decide) n h2
theorem mo_L {x : Int32} (h : inB x 7) : isMo (82 + 3 * x.toNatClampNeg) := by
  have h2 := inB_lt h
  generalize x.toNatClampNeg = n at h2
  exact (show ∀ n, n < 7 → isMo (82 + 3 * n) by unfold isMo; decide) n h2
theorem mo_Q {x : Int32} (h : inB x 4) : isMo (62 + 3 * x.toNatClampNeg) := by
  have h2 := inB_lt h
  generalize x.toNatClampNeg = n at h2
  exact (show ∀ n, n < 4 → isMo (62 + 3 * n) by unfold isMo; decide) n h2
theorem mo_19 : isMo 19 := by unfold isMo; decide
theorem mo_82 : isMo 82 := by unfold isMo; decide
theorem mo_62 : isMo 62 := by unfold isMo; decide
theorem fe_lt {f : Nat} (hf : isFe f) : f < 126 := by rcases hf with rfl | rfl <;> decide
theorem fe_k {f : Nat} (hf : isFe f) : shK f = 12 := by rcases hf with rfl | rfl <;> decide
theorem fe_a {f : Nat} (hf : isFe f) (k : Nat) (hk : k < 8) (h0 : 0 < k) : shK (f + k) = 0 := by
  rcases hf with rfl | rfl
  · exact (show ∀ k, k < 8 → 0 < k → shK (3 + k) = 0 by decide) k hk h0
  · exact (show ∀ k, k < 8 → 0 < k → shK (11 + k) = 0 by decide) k hk h0
theorem fe_n {f : Nat} (hf : isFe f) (k : Nat) (hk : k < 8) (h0 : 0 < k) : shN (f + k) = [0, 6, 6, 6, 4, 4, 64, 200].getD k 0 := by
  rcases hf with rfl | rfl
  · exact (show ∀ k, k < 8 → 0 < k → shN (3 + k) = [0, 6, 6, 6, 4, 4, 64, 200].getD k 0 by decide) k hk h0
  · exact (show ∀ k, k < 8 → 0 < k → shN (11 + k) = [0, 6, 6, 6, 4, 4, 64, 200].getD k 0 by decide) k hk h0
theorem r_k {r : Nat} (hr : isR r) : shK r = 0 := by rcases hr with rfl | rfl <;> decide
theorem r_n {r : Nat} (hr : isR r) : shN r = 15 := by rcases hr with rfl | rfl <;> decide
theorem r_117 : isR 117 := Or.inl rfl
theorem r_118 : isR 118 := Or.inr rfl
