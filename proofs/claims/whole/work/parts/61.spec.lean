/-! what class and reference both do, over Nat: a ferry V, a moment A -/
abbrev FV : Type := Nat × Nat × Nat × (Nat → Nat) × (Nat → Nat) × (Nat → Nat) × (Nat → Nat) × (Nat → Nat)
def vN (V : FV) : Nat := V.1
def vW (V : FV) : Nat := V.2.1
def vC (V : FV) : Nat := V.2.2.1
def vS (V : FV) : Nat → Nat := V.2.2.2.1
def vK (V : FV) : Nat → Nat := V.2.2.2.2.1
def vH (V : FV) : Nat → Nat := V.2.2.2.2.2.1
def vY (V : FV) : Nat → Nat := V.2.2.2.2.2.2.1
def vF (V : FV) : Nat → Nat := V.2.2.2.2.2.2.2
def VOk (V : FV) : Prop := vN V ≤ 6 ∧ vC V ≤ 4 ∧ (10 ≤ vW V ∧ vW V ≤ 200) ∧ (∀ p, p < vN V → (1 ≤ vS V p ∧ vS V p ≤ 9) ∧ (1 ≤ vK V p ∧ vK V p ≤ 30) ∧ vH V p ≤ 3) ∧ (∀ k, k < vC V → vY V k ≤ 199 ∧ vF V k ≤ 8)
abbrev AM : Type := Nat × Nat × Nat × (Nat → Nat) × (Nat → Nat)
def aT (A : AM) : Nat := A.1
def aW (A : AM) : Nat := A.2.1
def aO (A : AM) : Nat := A.2.2.1
def aS (A : AM) : Nat → Nat := A.2.2.2.1
def aD (A : AM) : Nat → Nat := A.2.2.2.2
def flowG (V : FV) (y k : Nat) (q : Nat × Nat) : Nat × Nat := if vY V k ≤ y ∧ q.1 ≤ vY V k then (vY V k + 1, vF V k) else q
def flowS (V : FV) (y : Nat) : Nat := (fol (flowG V y) (vC V) 0 (0, 0)).2
abbrev PQ : Type := Nat × Nat × Nat × Bool
def pullG (V : FV) (o p : Nat) (q : PQ) : PQ := if o.testBit p = true then (q.1 + 1, q.2.1 + vS V p, vH V p + 1, q.2.2.2 && decide (0 < vH V p) && (decide (q.2.2.1 = 0) || decide (vH V p + 1 = q.2.2.1))) else q
def pullE (q : PQ) : Option Nat := if q.1 < 2 ∨ q.2.2.2 = true then some q.2.1 else none
def pullS (V : FV) (o : Nat) : Option Nat := pullE (fol (pullG V o) (vN V) 0 (0, 0, 0, true))
def pI : Option Nat → Int32
  | none => -9
  | some s => nN s
def speakS (V : FV) (A : AM) (m : Nat) : AM := (aT A, aW A, m, fun p => if p < vN V ∧ m.testBit p = true then 0 else aS A p, fun p => if p < vN V ∧ m.testBit p = true then aD A p + 1 else aD A p)
def dueSet (V : FV) (A : AM) : Nat := fol (fun p m => if aS A p + 1 = vK V p then m ||| 2 ^ p else m) (vN V) 0 0
def incS (V : FV) (A : AM) : AM := (aT A, aW A, aO A, fun p => if p < vN V then aS A p + 1 else aS A p, aD A)
def hushS (V : FV) (A : AM) : AM := if dueSet V A = 0 then incS V A else speakS V (incS V A) (dueSet V A)
def toS (V : FV) (A : AM) : Nat := match pullS V (aO A) with
  | none => aW A
  | some s => aW A + s - flowS V (aW A)
def beatS (V : FV) (A : AM) : AM := hushS V (aT A + 1, toS V A, aO A, aS A, aD A)
def overS (V : FV) (A : AM) : Prop := vW V ≤ aW A
theorem overS_dec (V : FV) (A : AM) : overS V A ∨ ¬ overS V A := Classical.em _
def goesS (V : FV) (A : AM) : AM := if vW V ≤ aW A then A else beatS V A
/-- what is always true of a moment -/
def AOk (V : FV) (B : Nat) (A : AM) : Prop := aT A ≤ B ∧ aW A ≤ 300 ∧ aO A < 2 ^ vN V ∧ (∀ p, p < vN V → aS A p < vK V p ∧ aS A p ≤ aT A) ∧ (∀ p, vN V ≤ p → aS A p = 0 ∧ aD A p = 0)
theorem tb_nN {m p : Nat} (hm : m < 64) (hp : p < 6) : bt (nN m) p = if m.testBit p = true then 1 else 0 := (show ∀ m, m < 64 → ∀ p, p < 6 → bt (nN m) p = if m.testBit p = true then 1 else 0 by decide +kernel) m hm p hp
theorem lt64 {V : FV} {m : Nat} (hV : VOk V) (h : m < 2 ^ vN V) : m < 64 := Nat.lt_of_lt_of_le h (show 2 ^ vN V ≤ 2 ^ 6 from Nat.pow_le_pow_right (by decide) hV.1)
theorem dueSet_lt (V : FV) (A : AM) : dueSet V A < 2 ^ vN V := by
  have := fol_inv (g := fun p m => if aS A p + 1 = vK V p then m ||| 2 ^ p else m) (P := fun _ m => m < 2 ^ vN V) (vN V) 0 0 (Nat.two_pow_pos _) (fun p m _ h2 hm => by
    show (if aS A p + 1 = vK V p then m ||| 2 ^ p else m) < 2 ^ vN V
    split
    · exact Nat.or_lt_two_pow hm (Nat.pow_lt_pow_right (by decide) (by omega))
    · exact hm)
  exact this
theorem due_fol (c : Nat → Prop) [DecidablePred c] (q : Nat) : ∀ (n k m : Nat), (fol (fun p m => if c p then m ||| 2 ^ p else m) n k m).testBit q = (m.testBit q || decide (k ≤ q ∧ q < k + n ∧ c q))
  | 0, k, m => by
    rw [fol_0]
    have : ¬ (k ≤ q ∧ q < k + 0 ∧ c q) := by omega
    rw [decide_eq_false this, Bool.or_false]
  | n + 1, k, m => by
    rw [fol_s, due_fol c q n (k + 1)]
    by_cases hk : c k
    · rw [if_pos hk, Nat.testBit_or, Nat.testBit_two_pow]
      by_cases hq : k = q
      · subst hq
        have h1 : k ≤ k ∧ k < k + (n + 1) ∧ c k := ⟨Nat.le_refl _, by omega, hk⟩
        simp [h1]
      · have : (k + 1 ≤ q ∧ q < k + 1 + n ∧ c q) ↔ (k ≤ q ∧ q < k + (n + 1) ∧ c q) := ⟨fun ⟨h1, h2, h3⟩ => ⟨by omega, by omega, h3⟩, fun ⟨h1, h2, h3⟩ => ⟨by omega, by omega, h3⟩⟩
        simp [hq, this]
    · rw [if_neg hk]
      have : (k + 1 ≤ q ∧ q < k + 1 + n ∧ c q) ↔ (k ≤ q ∧ q < k + (n + 1) ∧ c q) := by
        constructor
        · rintro ⟨h1, h2, h3⟩; exact ⟨by omega, by omega, h3⟩
        · rintro ⟨h1, h2, h3⟩
          refine ⟨?_, by omega, h3⟩
          rcases Nat.lt_or_ge k q with h | h
          · exact h
          · exact absurd (by rw [show k = q by omega]; exact h3) hk
      simp [this]
theorem dueSet_bit (V : FV) (A : AM) (p : Nat) : (dueSet V A).testBit p = decide (p < vN V ∧ aS A p + 1 = vK V p) := by
  unfold dueSet
  rw [due_fol (fun p => aS A p + 1 = vK V p)]
  simp
theorem dueSet_z (V : FV) (A : AM) : dueSet V A = 0 ↔ ∀ p, p < vN V → aS A p + 1 ≠ vK V p := by
  constructor
  · intro h p hp he
    have := dueSet_bit V A p
    rw [h] at this
    simp [hp, he] at this
  · intro h
    apply Nat.eq_of_testBit_eq
    intro p
    rw [dueSet_bit]
    simp only [Nat.zero_testBit, decide_eq_false_iff_not]
    rintro ⟨h1, h2⟩
    exact h p h1 h2
theorem pull_le (V : FV) (hV : VOk V) (o : Nat) {s : Nat} (h : pullS V o = some s) : s ≤ 54 := by
  have h1 := fol_inv (g := pullG V o) (P := fun p (q : PQ) => q.2.1 ≤ 9 * p) (vN V) 0 (0, 0, 0, true) (Nat.le_refl _) (fun p q _ h2 hq => by
    unfold pullG
    have := (hV.2.2.2.1 p (by omega)).1.2
    split
    · show q.2.1 + vS V p ≤ 9 * (p + 1); omega
    · omega)
  have hn := hV.1
  unfold pullS pullE at h
  split at h
  · cases h; omega
  · cases h
theorem flow_le (V : FV) (hV : VOk V) (y : Nat) : flowS V y ≤ 8 := by
  have h1 := fol_inv (g := flowG V y) (P := fun _ (q : Nat × Nat) => q.2 ≤ 8) (vC V) 0 (0, 0) (by decide) (fun p q _ h2 hq => by
    unfold flowG
    split
    · exact (hV.2.2.2.2 p (by omega)).2
    · exact hq)
  exact h1
theorem speak_ok {V : FV} {B : Nat} {A : AM} {m : Nat} (hV : VOk V) (hA : AOk V B A) (hm : m < 2 ^ vN V) : AOk V B (speakS V A m) := by
  refine ⟨hA.1, hA.2.1, hm, fun p hp => ?_, fun p hp => ?_⟩
  · show (if p < vN V ∧ m.testBit p = true then 0 else aS A p) < vK V p ∧ (if p < vN V ∧ m.testBit p = true then 0 else aS A p) ≤ aT A
    have h1 := hA.2.2.2.1 p hp
    have h2 := (hV.2.2.2.1 p hp).2.1.1
    split <;> omega
  · show (if p < vN V ∧ m.testBit p = true then 0 else aS A p) = 0 ∧ (if p < vN V ∧ m.testBit p = true then aD A p + 1 else aD A p) = 0
    have h1 := hA.2.2.2.2 p hp
    have h2 : ¬ (p < vN V ∧ m.testBit p = true) := by omega
    rw [if_neg h2, if_neg h2]
    exact h1
/-- before the hush of a beat: silences a beat behind -/
theorem hush_ok {V : FV} {B : Nat} {A : AM} (hV : VOk V) (h1 : aT A ≤ B) (h2 : aW A ≤ 300) (h3 : aO A < 2 ^ vN V) (h4 : ∀ p, p < vN V → aS A p < vK V p ∧ aS A p + 1 ≤ aT A) (h5 : ∀ p, vN V ≤ p → aS A p = 0 ∧ aD A p = 0) : AOk V B (hushS V A) := by
  unfold hushS
  by_cases hd : dueSet V A = 0
  · rw [if_pos hd]
    refine ⟨h1, h2, h3, fun p hp => ?_, fun p hp => ?_⟩
    · have := (dueSet_z V A).mp hd p hp
      have h := h4 p hp
      show (if p < vN V then aS A p + 1 else aS A p) < vK V p ∧ (if p < vN V then aS A p + 1 else aS A p) ≤ aT A
      rw [if_pos hp]; omega
    · show (if p < vN V then aS A p + 1 else aS A p) = 0 ∧ aD A p = 0
      rw [if_neg (by omega)]; exact h5 p hp
  · rw [if_neg hd]
    refine ⟨h1, h2, dueSet_lt V A, fun p hp => ?_, fun p hp => ?_⟩
    · show (if p < vN V ∧ (dueSet V A).testBit p = true then 0 else (if p < vN V then aS A p + 1 else aS A p)) < vK V p ∧ (if p < vN V ∧ (dueSet V A).testBit p = true then 0 else (if p < vN V then aS A p + 1 else aS A p)) ≤ aT A
      have h := h4 p hp
      rw [dueSet_bit, if_pos hp]
      by_cases hq : aS A p + 1 = vK V p
      · simp [hp, hq]; omega
      · simp [hp, hq]; omega
    · show (if p < vN V ∧ (dueSet V A).testBit p = true then 0 else (if p < vN V then aS A p + 1 else aS A p)) = 0 ∧ (if p < vN V ∧ (dueSet V A).testBit p = true then aD A p + 1 else aD A p) = 0
      have h := h5 p hp
      have hn : ¬ p < vN V := by omega
      simp [hn, h]
theorem to_le {V : FV} {A : AM} (hV : VOk V) (h : aW A < vW V) : toS V A ≤ 300 := by
  unfold toS
  have h1 := hV.2.2.1.2
  cases hp : pullS V (aO A) with
  | none => show aW A ≤ 300; omega
  | some s => have := pull_le V hV _ hp; show aW A + s - flowS V (aW A) ≤ 300; omega
theorem beat_ok {V : FV} {B : Nat} {A : AM} (hV : VOk V) (hA : AOk V B A) (h : aW A < vW V) : AOk V (B + 1) (beatS V A) := by
  refine hush_ok hV (Nat.succ_le_succ hA.1) (to_le hV h) hA.2.2.1 (fun p hp => ?_) hA.2.2.2.2
  have := hA.2.2.2.1 p hp
  show aS A p < vK V p ∧ aS A p + 1 ≤ aT A + 1
  omega
theorem AOk.mono {V : FV} {B B' : Nat} {A : AM} (h : AOk V B A) (hb : B ≤ B') : AOk V B' A := ⟨Nat.le_trans h.1 hb, h.2⟩
theorem goes_ok {V : FV} {B : Nat} {A : AM} (hV : VOk V) (hA : AOk V B A) : AOk V (B + 1) (goesS V A) := by
  unfold goesS
  split
  · exact hA.mono (Nat.le_succ _)
  · exact beat_ok hV hA (by omega)
