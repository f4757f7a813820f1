/-! the memory: all ints of the two objects' worlds, by the cell's number and the slot; the two longs by the cell's number -/
abbrev Mem : Type := (Nat → Nat → Int32) × (Nat → Int64)
def gM (M : Mem) (i k : Nat) : Int32 := M.1 i k
def sM (M : Mem) (i k : Nat) (v : Int32) : Mem := (fun j l => if j = i ∧ l = k then v else M.1 j l, M.2)
def gL (M : Mem) (i : Nat) : Int64 := M.2 i
def sL (M : Mem) (i : Nat) (v : Int64) : Mem := (M.1, fun j => if j = i then v else M.2 j)
theorem g_s (M : Mem) (i k : Nat) (v : Int32) (j l : Nat) : gM (sM M i k v) j l = if j = i ∧ l = k then v else gM M j l := rfl
theorem g_ss (M : Mem) (i k : Nat) (v : Int32) : gM (sM M i k v) i k = v := by simp [g_s]
theorem g_si {M : Mem} {i k : Nat} {v : Int32} {j l : Nat} (h : j ≠ i) : gM (sM M i k v) j l = gM M j l := by simp [g_s, h]
theorem g_sk {M : Mem} {i k : Nat} {v : Int32} {j l : Nat} (h : l ≠ k) : gM (sM M i k v) j l = gM M j l := by simp [g_s, h]
theorem g_sL (M : Mem) (i : Nat) (v : Int64) (j l : Nat) : gM (sL M i v) j l = gM M j l := rfl
theorem l_sM (M : Mem) (i k : Nat) (v : Int32) (j : Nat) : gL (sM M i k v) j = gL M j := rfl
theorem l_sL (M : Mem) (i : Nat) (v : Int64) (j : Nat) : gL (sL M i v) j = if j = i then v else gL M j := rfl
theorem mem_ext {M N : Mem} (h : ∀ i k, gM M i k = gM N i k) (h2 : ∀ i, gL M i = gL N i) : M = N := Prod.ext (funext fun i => funext fun k => h i k) (funext fun i => h2 i)
/-- the ferry that is told: its cell's number -/
def feB (x : Int32) : Nat := if x = 11 then 11 else 3
/-- the cells' kinds by their numbers: 0 int[], 1 boolean[], 2 long[], 3 Moment[], 4 Passenger[], 10 + n an object of the n-th class -/
def shKL : List Nat := [21, 20, 0, 12, 0, 0, 0, 0, 0, 0, 0, 12, 0, 0, 0, 0, 0, 0, 0, 14, 0, 0, 18, 3,
  14, 0, 0, 14, 0, 0, 14, 0, 0, 14, 0, 0, 14, 0, 0, 14, 0, 0, 14, 0, 0, 14, 0, 0, 14, 0, 0, 14, 0, 0,
  3, 0, 0, 3, 19, 3, 0, 0, 14, 0, 0, 14, 0, 0, 14, 0, 0, 14, 0, 0, 4, 2,
  14, 0, 0, 14, 0, 0, 14, 0, 0, 14, 0, 0, 14, 0, 0, 14, 0, 0, 14, 0, 0, 14, 0, 0, 14, 0, 0,
  17, 15, 11, 13, 16, 10, 22, 0, 0, 0, 0, 0, 0, 0, 0, 0, 0, 1, 0, 0, 0, 0, 0]
def shNL : List Nat := [0, 0, 200, 0, 6, 6, 6, 4, 4, 64, 200, 0, 6, 6, 6, 4, 4, 64, 200, 0, 6, 6, 0, 10,
  0, 6, 6, 0, 6, 6, 0, 6, 6, 0, 6, 6, 0, 6, 6, 0, 6, 6, 0, 6, 6, 0, 6, 6, 0, 6, 6, 0, 6, 6,
  2, 5, 5, 7, 0, 4, 3, 3, 0, 6, 6, 0, 6, 6, 0, 6, 6, 0, 6, 6, 6, 1,
  0, 6, 6, 0, 6, 6, 0, 6, 6, 0, 6, 6, 0, 6, 6, 0, 6, 6, 0, 6, 6, 0, 6, 6, 0, 6, 6,
  0, 0, 0, 0, 0, 0, 0, 200, 6, 12, 12, 12, 8, 8, 15, 15, 30, 2, 150, 5, 5, 3, 3]
def shK (i : Nat) : Nat := shKL.getD i 99
def shN (i : Nat) : Nat := shNL.getD i 0
/-- where the Moments of a row of Moments begin -/
def shB (i : Nat) : Nat := if i = 23 then 24 else if i = 54 then 76 else if i = 57 then 82 else 62
def isMoL : List Nat := [19, 24, 27, 30, 33, 36, 39, 42, 45, 48, 51, 62, 65, 68, 71, 76, 79, 82, 85, 88, 91, 94, 97, 100]
def isMo (b : Nat) : Prop := b ∈ isMoL
def isFe (b : Nat) : Prop := b = 3 ∨ b = 11
theorem isFe_feB (x : Int32) : isFe (feB x) := by unfold feB isFe; split <;> simp
