/-! ints: bridges between Int32 and Nat, bits -/
abbrev nN (k : Nat) : Int32 := Int32.ofNat k
theorem nN_toInt {k : Nat} (h : k < 2147483648) : (nN k).toInt = (k : Int) := Int32.toInt_ofNat_of_lt h
theorem nN_cl {k : Nat} (h : k < 2147483648) : (nN k).toNatClampNeg = k := by
  show (nN k).toInt.toNat = k
  rw [nN_toInt h]; rfl
theorem nN_le {a b : Nat} (ha : a < 2147483648) (hb : b < 2147483648) : nN a ≤ nN b ↔ a ≤ b := by
  rw [Int32.le_iff_toInt_le, nN_toInt ha, nN_toInt hb]; omega
theorem nN_lt {a b : Nat} (ha : a < 2147483648) (hb : b < 2147483648) : nN a < nN b ↔ a < b := by
  rw [Int32.lt_iff_toInt_lt, nN_toInt ha, nN_toInt hb]; omega
theorem nN_eq {a b : Nat} (ha : a < 2147483648) (hb : b < 2147483648) : nN a = nN b ↔ a = b := by
  rw [← Int32.toInt_inj, nN_toInt ha, nN_toInt hb]; omega
theorem nN_add (a b : Nat) : nN a + nN b = nN (a + b) := (Int32.ofNat_add a b).symm
theorem nN_mul (a b : Nat) : nN a * nN b = nN (a * b) := (Int32.ofNat_mul a b).symm
theorem nN_succ (a : Nat) : nN a + 1 = nN (a + 1) := nN_add a 1
theorem nN_sub {a b : Nat} (h : b ≤ a) : nN a - nN b = nN (a - b) := by
  have : nN (a - b) + nN b = nN a := by rw [nN_add]; congr 1; omega
  rw [← this]; grind
theorem nN_inB {a n : Nat} (ha : a < 2147483648) : inB (nN a) n ↔ a < n := by
  unfold inB; rw [nN_toInt ha]; omega
theorem to_nN {x : Int32} (h : 0 ≤ x) : ∃ k : Nat, k < 2147483648 ∧ x = nN k := by
  refine ⟨x.toInt.toNat, ?_, ?_⟩
  · have := Int32.toInt_lt x; omega
  · have h0 : (0 : Int) ≤ x.toInt := by have := Int32.le_iff_toInt_le.mp h; simpa using this
    rw [← Int32.toInt_inj, nN_toInt (by have := Int32.toInt_lt x; omega)]
    omega
theorem to_nN_lt {x : Int32} {m : Nat} (hm : m < 2147483648) (h : 0 ≤ x) (h2 : x < nN m) : ∃ k : Nat, k < m ∧ x = nN k := by
  obtain ⟨k, hk, rfl⟩ := to_nN h
  exact ⟨k, (nN_lt hk hm).mp h2, rfl⟩
theorem to_nN_le {x : Int32} {m : Nat} (hm : m < 2147483648) (h : 0 ≤ x) (h2 : x ≤ nN m) : ∃ k : Nat, k ≤ m ∧ x = nN k := by
  obtain ⟨k, hk, rfl⟩ := to_nN h
  exact ⟨k, (nN_le hk hm).mp h2, rfl⟩
theorem nN_nn {a : Nat} (ha : a < 2147483648) : 0 ≤ nN a := (nN_le (a := 0) (by decide) ha).mpr (Nat.zero_le _)
/-- the bit p of x, as both write it -/
def bt (x : Int32) (p : Nat) : Int32 := (x >>> (nN p &&& 31)) &&& 1
theorem and1 (x : Int32) : x &&& 1 = 0 ∨ x &&& 1 = 1 := by
  have h : ∀ b : BitVec 32, b &&& 1#32 = 0#32 ∨ b &&& 1#32 = 1#32 := by
    intro b
    have h1 : (b &&& 1#32).toNat = b.toNat % 2 := by
      rw [BitVec.toNat_and]; exact Nat.and_one_is_mod _
    rcases Nat.mod_two_eq_zero_or_one b.toNat with h | h
    · left; apply BitVec.eq_of_toNat_eq; rw [h1, h]; rfl
    · right; apply BitVec.eq_of_toNat_eq; rw [h1, h]; rfl
  rcases h x.toBitVec with h | h
  · left; exact Int32.toBitVec_inj.mp h
  · right; exact Int32.toBitVec_inj.mp h
theorem bt_01 (x : Int32) (p : Nat) : bt x p = 0 ∨ bt x p = 1 := and1 _
theorem bt_ne {x : Int32} {p : Nat} : ¬ bt x p = 0 ↔ bt x p = 1 := by
  rcases bt_01 x p with h | h <;> rw [h] <;> decide
theorem or0 (x : Int32) : x ||| 0 = x := by
  apply Int32.toBitVec_inj.mp
  show x.toBitVec ||| 0#32 = x.toBitVec
  simp
theorem nN_or (a b : Nat) : nN a ||| nN b = nN (a ||| b) := by
  apply Int32.toBitVec_inj.mp
  exact BitVec.ofNat_or.symm
theorem or_lt {a b n : Nat} (ha : a < 2 ^ n) (hb : b < 2 ^ n) : a ||| b < 2 ^ n := Nat.or_lt_two_pow ha hb
theorem sh1 {p : Nat} (h : p < 6) : (1 : Int32) <<< (nN p &&& 31) = nN (2 ^ p) := (show ∀ p, p < 6 → (1 : Int32) <<< (nN p &&& 31) = nN (2 ^ p) by decide +kernel) p h
theorem or_ne {a b : Nat} (hb : b ≠ 0) : a ||| b ≠ 0 := by
  intro h
  have : b ≤ a ||| b := Nat.right_le_or
  omega
theorem bt_nN {m p : Nat} (hm : m < 64) (hp : p < 6) : bt (nN m) p = nN ((m >>> p) % 2) := (show ∀ m, m < 64 → ∀ p, p < 6 → bt (nN m) p = nN ((m >>> p) % 2) by decide +kernel) m hm p hp
theorem bt_hi {m p n : Nat} (hn : n ≤ 6) (hm : m < 2 ^ n) (hp : p < 6) (hnp : n ≤ p) : bt (nN m) p = 0 := by
  have h64 : m < 64 := Nat.lt_of_lt_of_le hm (show 2 ^ n ≤ 2 ^ 6 from Nat.pow_le_pow_right (by decide) hn)
  rw [bt_nN h64 hp, Nat.shiftRight_eq_div_pow, Nat.div_eq_of_lt (Nat.lt_of_lt_of_le hm (Nat.pow_le_pow_right (by decide) hnp))]
  rfl
theorem bt_pw {p q : Nat} (hp : p < 6) (hq : q < 6) : bt (nN (2 ^ p)) q = if q = p then 1 else 0 := (show ∀ p, p < 6 → ∀ q, q < 6 → bt (nN (2 ^ p)) q = if q = p then 1 else 0 by decide +kernel) p hp q hq
/-- a step through c numbers from k on -/
def fol {β : Type} (g : Nat → β → β) : Nat → Nat → β → β
  | 0, _, b => b
  | c + 1, k, b => fol g c (k + 1) (g k b)
theorem fol_0 {β : Type} (g : Nat → β → β) (k : Nat) (b : β) : fol g 0 k b = b := rfl
theorem fol_s {β : Type} (g : Nat → β → β) (c k : Nat) (b : β) : fol g (c + 1) k b = fol g c (k + 1) (g k b) := rfl
theorem fol_congr {β : Type} {g g' : Nat → β → β} : ∀ (c k : Nat) (b : β), (∀ p, k ≤ p → p < k + c → ∀ b, g p b = g' p b) → fol g c k b = fol g' c k b
  | 0, _, _, _ => rfl
  | c + 1, k, b, h => by
    rw [fol_s, fol_s, h k (Nat.le_refl _) (by omega)]
    exact fol_congr c (k + 1) _ (fun p h1 h2 b => h p (by omega) (by omega) b)
theorem fol_inv {β : Type} {g : Nat → β → β} {P : Nat → β → Prop} : ∀ (c k : Nat) (b : β), P k b → (∀ p b, k ≤ p → p < k + c → P p b → P (p + 1) (g p b)) → P (k + c) (fol g c k b)
  | 0, _, _, h, _ => h
  | c + 1, k, b, h, hs => by
    rw [fol_s, show k + (c + 1) = (k + 1) + c by omega]
    exact fol_inv c (k + 1) _ (hs k b (Nat.le_refl _) (by omega) h) (fun p b h1 h2 => hs p b (by omega) (by omega))
theorem fuel_ge {c : Nat} (h : c < 1000) : c < fuel := h
