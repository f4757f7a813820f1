/-! the memory behind the two constructors -/
def m0F : Nat → Int32 := fun k => if k = 7 then 60 else 0
def m0M : Nat → Int32 := fun k => if k = 5 then 1000000000 else 0
def m0L : Nat → Int32 := fun k => if k = 1 then 3 else if k = 2 then 11 else 0
def M0 : Mem := (fun i => if shK i = 21 then m0L else if shK i = 12 then m0F else if shK i = 14 then m0M else if i = 111 then upd (fun _ => 0) (1 : Int32).toNatClampNeg 60 else (fun _ => 0), fun _ => 0)
def sh0 : Nat → va_E := fun _ => .inr (0, [])
def shE (z0 : Nat) (cid : Nat → ClassId) : Nat → va_E := uX12 z0 cid (up (uX11 z0 cid (up sh0 0 (.inr (11, [.null, .null, .null, .null, .null, .null, .int 0, .null, .null, .int 0, .null, .null, .null, .null])))) 109 (.inr (12, [.int 0, .long 0, .null, .int 0, .int 0, .int 0, .int 0, .int 0, .int 0, .null, .null, .null, .null, .null, .null, .int 0, .null, .null, .null, .null, .null, .int 0, .null, .null, .int 0, .null, .null])))
theorem ltS_ {P : Nat → Prop} {n : Nat} (h : ∀ j, j < n → P j) (hn : P n) : ∀ j, j < n + 1 → P j := fun j hj => by
  rcases Nat.lt_or_ge j n with h1 | h1
  · exact h j h1
  · rw [show j = n by omega]; exact hn
theorem shA_23 (z0 : Nat) : (va_up (va_up (va_up (va_up (va_up (va_up (va_up (va_up (va_up (va_up (fun _ => none) (0 : Int32).toNatClampNeg (some (z0 + 24))) (1 : Int32).toNatClampNeg (some (z0 + 27))) (2 : Int32).toNatClampNeg (some (z0 + 30))) (3 : Int32).toNatClampNeg (some (z0 + 33))) (4 : Int32).toNatClampNeg (some (z0 + 36))) (5 : Int32).toNatClampNeg (some (z0 + 39))) (6 : Int32).toNatClampNeg (some (z0 + 42))) (7 : Int32).toNatClampNeg (some (z0 + 45))) (8 : Int32).toNatClampNeg (some (z0 + 48))) (9 : Int32).toNatClampNeg (some (z0 + 51))) = (fun j => if j < 10 then some (z0 + (24 + 3 * j)) else none) := by
  funext j
  by_cases h : j < 10
  · rw [if_pos h]
    rcases (show j = 0 ∨ j = 1 ∨ j = 2 ∨ j = 3 ∨ j = 4 ∨ j = 5 ∨ j = 6 ∨ j = 7 ∨ j = 8 ∨ j = 9 by omega) with rfl | rfl | rfl | rfl | rfl | rfl | rfl | rfl | rfl | rfl <;> rfl
  · rw [if_neg h]
    have e0 : ¬ j = 0 := by omega
    have e1 : ¬ j = 1 := by omega
    have e2 : ¬ j = 2 := by omega
    have e3 : ¬ j = 3 := by omega
    have e4 : ¬ j = 4 := by omega
    have e5 : ¬ j = 5 := by omega
    have e6 : ¬ j = 6 := by omega
    have e7 : ¬ j = 7 := by omega
    have e8 : ¬ j = 8 := by omega
    have e9 : ¬ j = 9 := by omega
    simp [va_up, e0, e1, e2, e3, e4, e5, e6, e7, e8, e9]
theorem shA_54 (z0 : Nat) : (va_up (va_up (fun _ => none) (0 : Int32).toNatClampNeg (some (z0 + 76))) (1 : Int32).toNatClampNeg (some (z0 + 79))) = (fun j => if j < 2 then some (z0 + (76 + 3 * j)) else none) := by
  funext j
  by_cases h : j < 2
  · rw [if_pos h]
    rcases (show j = 0 ∨ j = 1 by omega) with rfl | rfl <;> rfl
  · rw [if_neg h]
    have e0 : ¬ j = 0 := by omega
    have e1 : ¬ j = 1 := by omega
    simp [va_up, e0, e1]
theorem shA_57 (z0 : Nat) : (va_up (va_up (va_up (va_up (va_up (va_up (va_up (fun _ => none) (0 : Int32).toNatClampNeg (some (z0 + 82))) (1 : Int32).toNatClampNeg (some (z0 + 85))) (2 : Int32).toNatClampNeg (some (z0 + 88))) (3 : Int32).toNatClampNeg (some (z0 + 91))) (4 : Int32).toNatClampNeg (some (z0 + 94))) (5 : Int32).toNatClampNeg (some (z0 + 97))) (6 : Int32).toNatClampNeg (some (z0 + 100))) = (fun j => if j < 7 then some (z0 + (82 + 3 * j)) else none) := by
  funext j
  by_cases h : j < 7
  · rw [if_pos h]
    rcases (show j = 0 ∨ j = 1 ∨ j = 2 ∨ j = 3 ∨ j = 4 ∨ j = 5 ∨ j = 6 by omega) with rfl | rfl | rfl | rfl | rfl | rfl | rfl <;> rfl
  · rw [if_neg h]
    have e0 : ¬ j = 0 := by omega
    have e1 : ¬ j = 1 := by omega
    have e2 : ¬ j = 2 := by omega
    have e3 : ¬ j = 3 := by omega
    have e4 : ¬ j = 4 := by omega
    have e5 : ¬ j = 5 := by omega
    have e6 : ¬ j = 6 := by omega
    simp [va_up, e0, e1, e2, e3, e4, e5, e6]
theorem shA_59 (z0 : Nat) : (va_up (va_up (va_up (va_up (fun _ => none) (0 : Int32).toNatClampNeg (some (z0 + 62))) (1 : Int32).toNatClampNeg (some (z0 + 65))) (2 : Int32).toNatClampNeg (some (z0 + 68))) (3 : Int32).toNatClampNeg (some (z0 + 71))) = (fun j => if j < 4 then some (z0 + (62 + 3 * j)) else none) := by
  funext j
  by_cases h : j < 4
  · rw [if_pos h]
    rcases (show j = 0 ∨ j = 1 ∨ j = 2 ∨ j = 3 by omega) with rfl | rfl | rfl | rfl <;> rfl
  · rw [if_neg h]
    have e0 : ¬ j = 0 := by omega
    have e1 : ¬ j = 1 := by omega
    have e2 : ¬ j = 2 := by omega
    have e3 : ¬ j = 3 := by omega
    simp [va_up, e0, e1, e2, e3]
theorem shA_74 (z0 : Nat) : (va_up (va_up (va_up (va_up (va_up (va_up (fun _ => none) (0 : Int32).toNatClampNeg (some (z0 + 103))) (1 : Int32).toNatClampNeg (some (z0 + 104))) (2 : Int32).toNatClampNeg (some (z0 + 105))) (3 : Int32).toNatClampNeg (some (z0 + 106))) (4 : Int32).toNatClampNeg (some (z0 + 107))) (5 : Int32).toNatClampNeg (some (z0 + 108))) = (fun j => if j < 6 then some (z0 + (103 + j)) else none) := by
  funext j
  by_cases h : j < 6
  · rw [if_pos h]
    rcases (show j = 0 ∨ j = 1 ∨ j = 2 ∨ j = 3 ∨ j = 4 ∨ j = 5 by omega) with rfl | rfl | rfl | rfl | rfl | rfl <;> rfl
  · rw [if_neg h]
    have e0 : ¬ j = 0 := by omega
    have e1 : ¬ j = 1 := by omega
    have e2 : ¬ j = 2 := by omega
    have e3 : ¬ j = 3 := by omega
    have e4 : ¬ j = 4 := by omega
    have e5 : ¬ j = 5 := by omega
    simp [va_up, e0, e1, e2, e3, e4, e5]
set_option maxRecDepth 100000 in
set_option maxHeartbeats 8000000 in
theorem shE_ok (z0 : Nat) (cid : Nat → ClassId) : ∀ j, j < 126 → shE z0 cid j = shp (fun i => z0 + i) cid M0 j := by
  have c0 : ∀ j, j < 0 → shE z0 cid j = shp (fun i => z0 + i) cid M0 j := fun j h => absurd h (Nat.not_lt_zero j)
  have c1 : ∀ j, j < 1 → shE z0 cid j = shp (fun i => z0 + i) cid M0 j := ltS_ c0 rfl
  have c2 : ∀ j, j < 2 → shE z0 cid j = shp (fun i => z0 + i) cid M0 j := ltS_ c1 rfl
  have c3 : ∀ j, j < 3 → shE z0 cid j = shp (fun i => z0 + i) cid M0 j := ltS_ c2 rfl
  have c4 : ∀ j, j < 4 → shE z0 cid j = shp (fun i => z0 + i) cid M0 j := ltS_ c3 rfl
  have c5 : ∀ j, j < 5 → shE z0 cid j = shp (fun i => z0 + i) cid M0 j := ltS_ c4 rfl
  have c6 : ∀ j, j < 6 → shE z0 cid j = shp (fun i => z0 + i) cid M0 j := ltS_ c5 rfl
  have c7 : ∀ j, j < 7 → shE z0 cid j = shp (fun i => z0 + i) cid M0 j := ltS_ c6 rfl
  have c8 : ∀ j, j < 8 → shE z0 cid j = shp (fun i => z0 + i) cid M0 j := ltS_ c7 rfl
  have c9 : ∀ j, j < 9 → shE z0 cid j = shp (fun i => z0 + i) cid M0 j := ltS_ c8 rfl
  have c10 : ∀ j, j < 10 → shE z0 cid j = shp (fun i => z0 + i) cid M0 j := ltS_ c9 rfl
  have c11 : ∀ j, j < 11 → shE z0 cid j = shp (fun i => z0 + i) cid M0 j := ltS_ c10 rfl
  have c12 : ∀ j, j < 12 → shE z0 cid j = shp (fun i => z0 + i) cid M0 j := ltS_ c11 rfl
  have c13 : ∀ j, j < 13 → shE z0 cid j = shp (fun i => z0 + i) cid M0 j := ltS_ c12 rfl
  have c14 : ∀ j, j < 14 → shE z0 cid j = shp (fun i => z0 + i) cid M0 j := ltS_ c13 rfl
  have c15 : ∀ j, j < 15 → shE z0 cid j = shp (fun i => z0 + i) cid M0 j := ltS_ c14 rfl
  have c16 : ∀ j, j < 16 → shE z0 cid j = shp (fun i => z0 + i) cid M0 j := ltS_ c15 rfl
  have c17 : ∀ j, j < 17 → shE z0 cid j = shp (fun i => z0 + i) cid M0 j := ltS_ c16 rfl
  have c18 : ∀ j, j < 18 → shE z0 cid j = shp (fun i => z0 + i) cid M0 j := ltS_ c17 rfl
  have c19 : ∀ j, j < 19 → shE z0 cid j = shp (fun i => z0 + i) cid M0 j := ltS_ c18 rfl
  have c20 : ∀ j, j < 20 → shE z0 cid j = shp (fun i => z0 + i) cid M0 j := ltS_ c19 rfl
  have c21 : ∀ j, j < 21 → shE z0 cid j = shp (fun i => z0 + i) cid M0 j := ltS_ c20 rfl
  have c22 : ∀ j, j < 22 → shE z0 cid j = shp (fun i => z0 + i) cid M0 j := ltS_ c21 rfl
  have c23 : ∀ j, j < 23 → shE z0 cid j = shp (fun i => z0 + i) cid M0 j := ltS_ c22 rfl
  have c24 : ∀ j, j < 24 → shE z0 cid j = shp (fun i => z0 + i) cid M0 j := ltS_ c23 (congrArg (fun f => (Sum.inl (cid 3, 10, .inr (.inr (.inr (.inr f)))) : va_E)) (shA_23 z0))
  have c25 : ∀ j, j < 25 → shE z0 cid j = shp (fun i => z0 + i) cid M0 j := ltS_ c24 rfl
  have c26 : ∀ j, j < 26 → shE z0 cid j = shp (fun i => z0 + i) cid M0 j := ltS_ c25 rfl
  have c27 : ∀ j, j < 27 → shE z0 cid j = shp (fun i => z0 + i) cid M0 j := ltS_ c26 rfl
  have c28 : ∀ j, j < 28 → shE z0 cid j = shp (fun i => z0 + i) cid M0 j := ltS_ c27 rfl
  have c29 : ∀ j, j < 29 → shE z0 cid j = shp (fun i => z0 + i) cid M0 j := ltS_ c28 rfl
  have c30 : ∀ j, j < 30 → shE z0 cid j = shp (fun i => z0 + i) cid M0 j := ltS_ c29 rfl
  have c31 : ∀ j, j < 31 → shE z0 cid j = shp (fun i => z0 + i) cid M0 j := ltS_ c30 rfl
  have c32 : ∀ j, j < 32 → shE z0 cid j = shp (fun i => z0 + i) cid M0 j := ltS_ c31 rfl
  have c33 : ∀ j, j < 33 → shE z0 cid j = shp (fun i => z0 + i) cid M0 j := ltS_ c32 rfl
  have c34 : ∀ j, j < 34 → shE z0 cid j = shp (fun i => z0 + i) cid M0 j := ltS_ c33 rfl
  have c35 : ∀ j, j < 35 → shE z0 cid j = shp (fun i => z0 + i) cid M0 j := ltS_ c34 rfl
  have c36 : ∀ j, j < 36 → shE z0 cid j = shp (fun i => z0 + i) cid M0 j := ltS_ c35 rfl
  have c37 : ∀ j, j < 37 → shE z0 cid j = shp (fun i => z0 + i) cid M0 j := ltS_ c36 rfl
  have c38 : ∀ j, j < 38 → shE z0 cid j = shp (fun i => z0 + i) cid M0 j := ltS_ c37 rfl
  have c39 : ∀ j, j < 39 → shE z0 cid j = shp (fun i => z0 + i) cid M0 j := ltS_ c38 rfl
  have c40 : ∀ j, j < 40 → shE z0 cid j = shp (fun i => z0 + i) cid M0 j := ltS_ c39 rfl
  have c41 : ∀ j, j < 41 → shE z0 cid j = shp (fun i => z0 + i) cid M0 j := ltS_ c40 rfl
  have c42 : ∀ j, j < 42 → shE z0 cid j = shp (fun i => z0 + i) cid M0 j := ltS_ c41 rfl
  have c43 : ∀ j, j < 43 → shE z0 cid j = shp (fun i => z0 + i) cid M0 j := ltS_ c42 rfl
  have c44 : ∀ j, j < 44 → shE z0 cid j = shp (fun i => z0 + i) cid M0 j := ltS_ c43 rfl
  have c45 : ∀ j, j < 45 → shE z0 cid j = shp (fun i => z0 + i) cid M0 j := ltS_ c44 rfl
  have c46 : ∀ j, j < 46 → shE z0 cid j = shp (fun i => z0 + i) cid M0 j := ltS_ c45 rfl
  have c47 : ∀ j, j < 47 → shE z0 cid j = shp (fun i => z0 + i) cid M0 j := ltS_ c46 rfl
  have c48 : ∀ j, j < 48 → shE z0 cid j = shp (fun i => z0 + i) cid M0 j := ltS_ c47 rfl
  have c49 : ∀ j, j < 49 → shE z0 cid j = shp (fun i => z0 + i) cid M0 j := ltS_ c48 rfl
  have c50 : ∀ j, j < 50 → shE z0 cid j = shp (fun i => z0 + i) cid M0 j := ltS_ c49 rfl
  have c51 : ∀ j, j < 51 → shE z0 cid j = shp (fun i => z0 + i) cid M0 j := ltS_ c50 rfl
  have c52 : ∀ j, j < 52 → shE z0 cid j = shp (fun i => z0 + i) cid M0 j := ltS_ c51 rfl
  have c53 : ∀ j, j < 53 → shE z0 cid j = shp (fun i => z0 + i) cid M0 j := ltS_ c52 rfl
  have c54 : ∀ j, j < 54 → shE z0 cid j = shp (fun i => z0 + i) cid M0 j := ltS_ c53 rfl
  have c55 : ∀ j, j < 55 → shE z0 cid j = shp (fun i => z0 + i) cid M0 j := ltS_ c54 (congrArg (fun f => (Sum.inl (cid 3, 2, .inr (.inr (.inr (.inr f)))) : va_E)) (shA_54 z0))
  have c56 : ∀ j, j < 56 → shE z0 cid j = shp (fun i => z0 + i) cid M0 j := ltS_ c55 rfl
  have c57 : ∀ j, j < 57 → shE z0 cid j = shp (fun i => z0 + i) cid M0 j := ltS_ c56 rfl
  have c58 : ∀ j, j < 58 → shE z0 cid j = shp (fun i => z0 + i) cid M0 j := ltS_ c57 (congrArg (fun f => (Sum.inl (cid 3, 7, .inr (.inr (.inr (.inr f)))) : va_E)) (shA_57 z0))
  have c59 : ∀ j, j < 59 → shE z0 cid j = shp (fun i => z0 + i) cid M0 j := ltS_ c58 rfl
  have c60 : ∀ j, j < 60 → shE z0 cid j = shp (fun i => z0 + i) cid M0 j := ltS_ c59 (congrArg (fun f => (Sum.inl (cid 3, 4, .inr (.inr (.inr (.inr f)))) : va_E)) (shA_59 z0))
  have c61 : ∀ j, j < 61 → shE z0 cid j = shp (fun i => z0 + i) cid M0 j := ltS_ c60 rfl
  have c62 : ∀ j, j < 62 → shE z0 cid j = shp (fun i => z0 + i) cid M0 j := ltS_ c61 rfl
  have c63 : ∀ j, j < 63 → shE z0 cid j = shp (fun i => z0 + i) cid M0 j := ltS_ c62 rfl
  have c64 : ∀ j, j < 64 → shE z0 cid j = shp (fun i => z0 + i) cid M0 j := ltS_ c63 rfl
  have c65 : ∀ j, j < 65 → shE z0 cid j = shp (fun i => z0 + i) cid M0 j := ltS_ c64 rfl
  have c66 : ∀ j, j < 66 → shE z0 cid j = shp (fun i => z0 + i) cid M0 j := ltS_ c65 rfl
  have c67 : ∀ j, j < 67 → shE z0 cid j = shp (fun i => z0 + i) cid M0 j := ltS_ c66 rfl
  have c68 : ∀ j, j < 68 → shE z0 cid j = shp (fun i => z0 + i) cid M0 j := ltS_ c67 rfl
  have c69 : ∀ j, j < 69 → shE z0 cid j = shp (fun i => z0 + i) cid M0 j := ltS_ c68 rfl
  have c70 : ∀ j, j < 70 → shE z0 cid j = shp (fun i => z0 + i) cid M0 j := ltS_ c69 rfl
  have c71 : ∀ j, j < 71 → shE z0 cid j = shp (fun i => z0 + i) cid M0 j := ltS_ c70 rfl
  have c72 : ∀ j, j < 72 → shE z0 cid j = shp (fun i => z0 + i) cid M0 j := ltS_ c71 rfl
  have c73 : ∀ j, j < 73 → shE z0 cid j = shp (fun i => z0 + i) cid M0 j := ltS_ c72 rfl
  have c74 : ∀ j, j < 74 → shE z0 cid j = shp (fun i => z0 + i) cid M0 j := ltS_ c73 rfl
  have c75 : ∀ j, j < 75 → shE z0 cid j = shp (fun i => z0 + i) cid M0 j := ltS_ c74 (congrArg (fun f => (Sum.inl (cid 4, 6, .inr (.inr (.inr (.inr f)))) : va_E)) (shA_74 z0))
  have c76 : ∀ j, j < 76 → shE z0 cid j = shp (fun i => z0 + i) cid M0 j := ltS_ c75 (congrArg (fun f => (Sum.inl (cid 2, 1, .inr (.inl f)) : va_E)) (funext fun j => by show (0 : Int64) = if j = 0 then 0 else 0; split <;> rfl))
  have c77 : ∀ j, j < 77 → shE z0 cid j = shp (fun i => z0 + i) cid M0 j := ltS_ c76 rfl
  have c78 : ∀ j, j < 78 → shE z0 cid j = shp (fun i => z0 + i) cid M0 j := ltS_ c77 rfl
  have c79 : ∀ j, j < 79 → shE z0 cid j = shp (fun i => z0 + i) cid M0 j := ltS_ c78 rfl
  have c80 : ∀ j, j < 80 → shE z0 cid j = shp (fun i => z0 + i) cid M0 j := ltS_ c79 rfl
  have c81 : ∀ j, j < 81 → shE z0 cid j = shp (fun i => z0 + i) cid M0 j := ltS_ c80 rfl
  have c82 : ∀ j, j < 82 → shE z0 cid j = shp (fun i => z0 + i) cid M0 j := ltS_ c81 rfl
  have c83 : ∀ j, j < 83 → shE z0 cid j = shp (fun i => z0 + i) cid M0 j := ltS_ c82 rfl
  have c84 : ∀ j, j < 84 → shE z0 cid j = shp (fun i => z0 + i) cid M0 j := ltS_ c83 rfl
  have c85 : ∀ j, j < 85 → shE z0 cid j = shp (fun i => z0 + i) cid M0 j := ltS_ c84 rfl
  have c86 : ∀ j, j < 86 → shE z0 cid j = shp (fun i => z0 + i) cid M0 j := ltS_ c85 rfl
  have c87 : ∀ j, j < 87 → shE z0 cid j = shp (fun i => z0 + i) cid M0 j := ltS_ c86 rfl
  have c88 : ∀ j, j < 88 → shE z0 cid j = shp (fun i => z0 + i) cid M0 j := ltS_ c87 rfl
  have c89 : ∀ j, j < 89 → shE z0 cid j = shp (fun i => z0 + i) cid M0 j := ltS_ c88 rfl
  have c90 : ∀ j, j < 90 → shE z0 cid j = shp (fun i => z0 + i) cid M0 j := ltS_ c89 rfl
  have c91 : ∀ j, j < 91 → shE z0 cid j = shp (fun i => z0 + i) cid M0 j := ltS_ c90 rfl
  have c92 : ∀ j, j < 92 → shE z0 cid j = shp (fun i => z0 + i) cid M0 j := ltS_ c91 rfl
  have c93 : ∀ j, j < 93 → shE z0 cid j = shp (fun i => z0 + i) cid M0 j := ltS_ c92 rfl
  have c94 : ∀ j, j < 94 → shE z0 cid j = shp (fun i => z0 + i) cid M0 j := ltS_ c93 rfl
  have c95 : ∀ j, j < 95 → shE z0 cid j = shp (fun i => z0 + i) cid M0 j := ltS_ c94 rfl
  have c96 : ∀ j, j < 96 → shE z0 cid j = shp (fun i => z0 + i) cid M0 j := ltS_ c95 rfl
  have c97 : ∀ j, j < 97 → shE z0 cid j = shp (fun i => z0 + i) cid M0 j := ltS_ c96 rfl
  have c98 : ∀ j, j < 98 → shE z0 cid j = shp (fun i => z0 + i) cid M0 j := ltS_ c97 rfl
  have c99 : ∀ j, j < 99 → shE z0 cid j = shp (fun i => z0 + i) cid M0 j := ltS_ c98 rfl
  have c100 : ∀ j, j < 100 → shE z0 cid j = shp (fun i => z0 + i) cid M0 j := ltS_ c99 rfl
  have c101 : ∀ j, j < 101 → shE z0 cid j = shp (fun i => z0 + i) cid M0 j := ltS_ c100 rfl
  have c102 : ∀ j, j < 102 → shE z0 cid j = shp (fun i => z0 + i) cid M0 j := ltS_ c101 rfl
  have c103 : ∀ j, j < 103 → shE z0 cid j = shp (fun i => z0 + i) cid M0 j := ltS_ c102 rfl
  have c104 : ∀ j, j < 104 → shE z0 cid j = shp (fun i => z0 + i) cid M0 j := ltS_ c103 rfl
  have c105 : ∀ j, j < 105 → shE z0 cid j = shp (fun i => z0 + i) cid M0 j := ltS_ c104 rfl
  have c106 : ∀ j, j < 106 → shE z0 cid j = shp (fun i => z0 + i) cid M0 j := ltS_ c105 rfl
  have c107 : ∀ j, j < 107 → shE z0 cid j = shp (fun i => z0 + i) cid M0 j := ltS_ c106 rfl
  have c108 : ∀ j, j < 108 → shE z0 cid j = shp (fun i => z0 + i) cid M0 j := ltS_ c107 rfl
  have c109 : ∀ j, j < 109 → shE z0 cid j = shp (fun i => z0 + i) cid M0 j := ltS_ c108 rfl
  have c110 : ∀ j, j < 110 → shE z0 cid j = shp (fun i => z0 + i) cid M0 j := ltS_ c109 rfl
  have c111 : ∀ j, j < 111 → shE z0 cid j = shp (fun i => z0 + i) cid M0 j := ltS_ c110 rfl
  have c112 : ∀ j, j < 112 → shE z0 cid j = shp (fun i => z0 + i) cid M0 j := ltS_ c111 rfl
  have c113 : ∀ j, j < 113 → shE z0 cid j = shp (fun i => z0 + i) cid M0 j := ltS_ c112 rfl
  have c114 : ∀ j, j < 114 → shE z0 cid j = shp (fun i => z0 + i) cid M0 j := ltS_ c113 rfl
  have c115 : ∀ j, j < 115 → shE z0 cid j = shp (fun i => z0 + i) cid M0 j := ltS_ c114 rfl
  have c116 : ∀ j, j < 116 → shE z0 cid j = shp (fun i => z0 + i) cid M0 j := ltS_ c115 rfl
  have c117 : ∀ j, j < 117 → shE z0 cid j = shp (fun i => z0 + i) cid M0 j := ltS_ c116 rfl
  have c118 : ∀ j, j < 118 → shE z0 cid j = shp (fun i => z0 + i) cid M0 j := ltS_ c117 rfl
  have c119 : ∀ j, j < 119 → shE z0 cid j = shp (fun i => z0 + i) cid M0 j := ltS_ c118 rfl
  have c120 : ∀ j, j < 120 → shE z0 cid j = shp (fun i => z0 + i) cid M0 j := ltS_ c119 rfl
  have c121 : ∀ j, j < 121 → shE z0 cid j = shp (fun i => z0 + i) cid M0 j := ltS_ c120 rfl
  have c122 : ∀ j, j < 122 → shE z0 cid j = shp (fun i => z0 + i) cid M0 j := ltS_ c121 rfl
  have c123 : ∀ j, j < 123 → shE z0 cid j = shp (fun i => z0 + i) cid M0 j := ltS_ c122 rfl
  have c124 : ∀ j, j < 124 → shE z0 cid j = shp (fun i => z0 + i) cid M0 j := ltS_ c123 rfl
  have c125 : ∀ j, j < 125 → shE z0 cid j = shp (fun i => z0 + i) cid M0 j := ltS_ c124 rfl
  have c126 : ∀ j, j < 126 → shE z0 cid j = shp (fun i => z0 + i) cid M0 j := ltS_ c125 rfl
  exact c126
