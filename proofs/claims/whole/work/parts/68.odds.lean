/-! odds -/
theorem nN_rem {a b : Nat} (ha : a < 2147483648) (hb : b < 2147483648) : nN a - nN a / nN b * nN b = nN (a % b) := by
  have hlt : a % b < 2147483648 := Nat.lt_of_le_of_lt (Nat.mod_le a b) ha
  rw [← Int32.toInt_inj, rem_toInt, nN_toInt ha, nN_toInt hb, nN_toInt hlt]
  rfl
theorem nN_div {a b : Nat} (ha : a < 2147483648) (hb : b < 2147483648) : nN a / nN b = nN (a / b) := by
  have hlt : a / b < 2147483648 := Nat.lt_of_le_of_lt (Nat.div_le_self a b) ha
  rw [← Int32.toInt_inj, Int32.toInt_div, nN_toInt ha, nN_toInt hb, nN_toInt hlt]
  rw [show (a : Int).tdiv (b : Int) = ((a / b : Nat) : Int) from rfl]
  generalize a / b = q at hlt
  exact Int.bmod_eq_of_le (by omega) (by omega)
def wS (V : FV) (p x : Nat) : Nat → AM → Nat
  | 0, A => if vW V ≤ aW A then 1 else 0
  | l + 1, A => if vW V ≤ aW A then 10 ^ (l + 1) else x * wS V p x l (goesS V (speakS V A (2 ^ p))) + (10 - x) * wS V p x l (goesS V A)
theorem wS_over {V : FV} {p x : Nat} {A : AM} (h : vW V ≤ aW A) (l : Nat) : wS V p x l A = 10 ^ l := by
  cases l with
  | zero => unfold wS; rw [if_pos h, Nat.pow_zero]
  | succ l => unfold wS; rw [if_pos h]
theorem powX_loop {M : Mem} {n : Nat} (hn : n ≤ 6) : ∀ (c k fu o : Nat), k + c = n → c < fu → lX11_powerOfTen_4 fu M (nN n) (nN o) (nN k) = some (M, nN (o * 10 ^ c)) := by
  intro c
  induction c with
  | zero =>
    intro k fu o hk hf
    obtain ⟨fu, rfl⟩ := fu1 hf
    show sX11_powerOfTen_4 (lX11_powerOfTen_4 fu) M (nN n) (nN o) (nN k) = _
    unfold sX11_powerOfTen_4
    rw [if_pos ((nN_le (by omega) (by omega)).mpr (by omega)), Nat.pow_zero, Nat.mul_one]
  | succ c ih =>
    intro k fu o hk hf
    obtain ⟨fu, rfl⟩ := fu1 hf
    show sX11_powerOfTen_4 (lX11_powerOfTen_4 fu) M (nN n) (nN o) (nN k) = _
    unfold sX11_powerOfTen_4
    rw [if_neg (by rw [nN_le (by omega) (by omega)]; omega), show nN o * 10 = nN (o * 10) from nN_mul o 10, nN_succ, ih (k + 1) fu (o * 10) (by omega) (by omega), Nat.pow_succ, Nat.mul_assoc, Nat.mul_comm 10]
theorem powX {M : Mem} {n : Nat} (hn : n ≤ 6) : fX11_powerOfTen M (nN n) = some (M, nN (10 ^ n)) := by
  have := powX_loop (M := M) hn n 0 fuel 1 (by omega) (fuel_ge (by omega))
  rw [Nat.one_mul] at this
  exact this
theorem powR_loop {M : Mem} {n : Nat} (hn : n ≤ 6) : ∀ (c k fu o : Nat), k + c = n → c < fu → lX12_power_4 fu M 10 (nN n) (nN o) (nN k) = some (M, nN (o * 10 ^ c)) := by
  intro c
  induction c with
  | zero =>
    intro k fu o hk hf
    obtain ⟨fu, rfl⟩ := fu1 hf
    show sX12_power_4 (lX12_power_4 fu) M 10 (nN n) (nN o) (nN k) = _
    unfold sX12_power_4
    rw [if_pos ((nN_le (by omega) (by omega)).mpr (by omega)), Nat.pow_zero, Nat.mul_one]
  | succ c ih =>
    intro k fu o hk hf
    obtain ⟨fu, rfl⟩ := fu1 hf
    show sX12_power_4 (lX12_power_4 fu) M 10 (nN n) (nN o) (nN k) = _
    unfold sX12_power_4
    rw [if_neg (by rw [nN_le (by omega) (by omega)]; omega), show nN o * 10 = nN (o * 10) from nN_mul o 10, nN_succ, ih (k + 1) fu (o * 10) (by omega) (by omega), Nat.pow_succ, Nat.mul_assoc, Nat.mul_comm 10]
theorem powR {M : Mem} {n : Nat} (hn : n ≤ 6) : fX12_power M 10 (nN n) = some (M, nN (10 ^ n)) := by
  have := powR_loop (M := M) hn n 0 fuel 1 (by omega) (fuel_ge (by omega))
  rw [Nat.one_mul] at this
  exact this
def gS : Nat → Nat → Nat → Nat
  | 0, x, _ => x
  | f + 1, x, y => if y = 0 then x else gS f y (x % y)
theorem gS_gcd : ∀ (m f x y : Nat), y < 2 ^ m → 2 * m ≤ f → gS f x y = Nat.gcd x y := by
  have h0 : ∀ f x, gS f x 0 = x := fun f x => by
    cases f with
    | zero => rfl
    | succ f => unfold gS; rw [if_pos rfl]
  intro m
  induction m with
  | zero =>
    intro f x y hy _
    rw [show y = 0 by omega, h0, Nat.gcd_zero_right]
  | succ m ih =>
    intro f x y hy hf
    by_cases hy0 : y = 0
    · rw [hy0, h0, Nat.gcd_zero_right]
    obtain ⟨f, rfl⟩ : ∃ g, f = g + 1 := ⟨f - 1, by omega⟩
    unfold gS
    rw [if_neg hy0, Nat.gcd_comm x y, Nat.gcd_rec y x, Nat.gcd_comm (x % y) y]
    have hr : x % y < y := Nat.mod_lt _ (by omega)
    generalize x % y = r at hr
    by_cases hr0 : r = 0
    · rw [hr0, h0, Nat.gcd_zero_right]
    obtain ⟨f, rfl⟩ : ∃ g, f = g + 1 := ⟨f - 1, by omega⟩
    unfold gS
    rw [if_neg hr0, Nat.gcd_comm y r, Nat.gcd_rec r y, Nat.gcd_comm (y % r) r]
    refine ih f r (y % r) ?_ (by omega)
    have h2 : 2 ^ (m + 1) = 2 * 2 ^ m := by rw [Nat.pow_succ, Nat.mul_comm]
    have h3 : y % r < r := Nat.mod_lt _ (by omega)
    by_cases h4 : 2 * r ≤ y
    · omega
    · have : y % r = y - r := by
        rw [Nat.mod_eq_sub_mod (by omega), Nat.mod_eq_of_lt (by omega)]
      omega
theorem gcdX_loop {M : Mem} : ∀ (c k fu x y : Nat), k + c = 64 → c < fu → x < 2147483648 → y < 2147483648 → lX11_greatestShared_7 fu M (nN x) (nN y) (nN k) = some (M, nN (gS c x y)) := by
  intro c
  induction c with
  | zero =>
    intro k fu x y hk hf hx hy
    obtain ⟨fu, rfl⟩ := fu1 hf
    have hk : k = 64 := by omega
    subst hk
    show sX11_greatestShared_7 (lX11_greatestShared_7 fu) M (nN x) (nN y) 64 = _
    unfold sX11_greatestShared_7
    rw [if_pos (by decide)]
    rfl
  | succ c ih =>
    intro k fu x y hk hf hx hy
    obtain ⟨fu, rfl⟩ := fu1 hf
    show sX11_greatestShared_7 (lX11_greatestShared_7 fu) M (nN x) (nN y) (nN k) = _
    unfold sX11_greatestShared_7 gS
    rw [if_neg (show ¬ (64 : Int32) ≤ nN k from fun h => by have := (nN_le (a := 64) (by decide) (by omega)).mp h; omega)]
    by_cases h0 : y = 0
    · rw [h0, if_pos (show nN 0 = 0 from rfl), if_pos rfl]
    · have hz : ¬ nN y = 0 := fun e => h0 ((nN_eq (b := 0) hy (by decide)).mp e)
      rw [if_neg hz, if_pos hz, if_neg h0, nN_rem hx hy, nN_succ]
      exact ih (k + 1) fu y (x % y) (by omega) (by omega) hy (Nat.lt_of_le_of_lt (Nat.mod_le x y) hx)
theorem gcdX {M : Mem} {x y : Nat} (hx : x ≤ 1000000) (hy : y ≤ 1000000) : fX11_greatestShared M (nN x) (nN y) = some (M, nN (Nat.gcd x y)) := by
  have := gcdX_loop (M := M) 64 0 fuel x y rfl (fuel_ge (by decide)) (by omega) (by omega)
  rw [gS_gcd 20 64 x y (by have : (2 : Nat) ^ 20 = 1048576 := by decide
                           omega) (by decide)] at this
  exact this
theorem gcdR_loop {M : Mem} : ∀ (m fu x y : Nat), y < 2 ^ m → 2 * m < fu → x < 2147483648 → y < 2147483648 → lX12_gcd_4 fu M (nN x) (nN y) = some (M, nN (Nat.gcd x y)) := by
  have h0 : ∀ fu x, 0 < fu → lX12_gcd_4 fu M (nN x) (nN 0) = some (M, nN x) := fun fu x hf => by
    obtain ⟨fu, rfl⟩ := fu1 hf
    show sX12_gcd_4 (lX12_gcd_4 fu) M (nN x) (nN 0) = _
    unfold sX12_gcd_4
    rw [if_pos (show nN 0 = 0 from rfl)]
  have hs : ∀ fu x y, x < 2147483648 → y < 2147483648 → y ≠ 0 → lX12_gcd_4 (fu + 1) M (nN x) (nN y) = lX12_gcd_4 fu M (nN y) (nN (x % y)) := fun fu x y hx hy hne => by
    show sX12_gcd_4 (lX12_gcd_4 fu) M (nN x) (nN y) = _
    unfold sX12_gcd_4
    have hz : ¬ nN y = 0 := fun e => hne ((nN_eq (b := 0) hy (by decide)).mp e)
    rw [if_neg hz, if_pos hz, nN_rem hx hy]
  intro m
  induction m with
  | zero =>
    intro fu x y hy hf hx _
    rw [show y = 0 by omega, h0 fu x (by omega), Nat.gcd_zero_right]
  | succ m ih =>
    intro fu x y hy hf hx hy2
    by_cases hy0 : y = 0
    · rw [hy0, h0 fu x (by omega), Nat.gcd_zero_right]
    obtain ⟨fu, rfl⟩ : ∃ g, fu = g + 1 := ⟨fu - 1, by omega⟩
    rw [hs fu x y hx hy2 hy0, Nat.gcd_comm x y, Nat.gcd_rec y x, Nat.gcd_comm (x % y) y]
    have hr : x % y < y := Nat.mod_lt _ (by omega)
    generalize x % y = r at hr
    by_cases hr0 : r = 0
    · rw [hr0, h0 fu y (by omega), Nat.gcd_zero_right]
    obtain ⟨fu, rfl⟩ : ∃ g, fu = g + 1 := ⟨fu - 1, by omega⟩
    rw [hs fu y r hy2 (by omega) hr0, Nat.gcd_comm y r, Nat.gcd_rec r y, Nat.gcd_comm (y % r) r]
    have h2 : 2 ^ (m + 1) = 2 * 2 ^ m := by rw [Nat.pow_succ, Nat.mul_comm]
    have h3 : y % r < r := Nat.mod_lt _ (by omega)
    refine ih fu r (y % r) ?_ (by omega) (by omega) (by omega)
    by_cases h4 : 2 * r ≤ y
    · omega
    · have : y % r = y - r := by
        rw [Nat.mod_eq_sub_mod (by omega), Nat.mod_eq_of_lt (by omega)]
      omega
theorem gcdR {M : Mem} {x y : Nat} (hx : x ≤ 1000000) (hy : y ≤ 1000000) : fX12_gcd M (nN x) (nN y) = some (M, nN (Nat.gcd x y)) :=
  gcdR_loop 20 fuel x y (by have : (2 : Nat) ^ 20 = 1048576 := by decide
                            omega) (by decide) (by omega) (by omega)
theorem wS_le {V : FV} {p x : Nat} (hx : x ≤ 10) : ∀ (l : Nat) (A : AM), wS V p x l A ≤ 10 ^ l := by
  intro l
  induction l with
  | zero => intro A; unfold wS; split <;> decide
  | succ l ih =>
    intro A
    unfold wS
    split
    · exact Nat.le_refl _
    · have h1 := Nat.mul_le_mul_left x (ih (goesS V (speakS V A (2 ^ p))))
      have h2 := Nat.mul_le_mul_left (10 - x) (ih (goesS V A))
      have h3 : x * 10 ^ l + (10 - x) * 10 ^ l = 10 ^ (l + 1) := by
        rw [← Nat.add_mul, Nat.pow_succ, Nat.mul_comm, show x + (10 - x) = 10 by omega]
      omega
/-- nothing below the cell j has changed, nor the reference's -/
def FrL (j : Nat) (M M' : Mem) : Prop := (∀ i, i < j ∨ 103 ≤ i → gM M' i = gM M i) ∧ (∀ i, gL M' i = gL M i)
theorem FrL.tr {j : Nat} {M M1 M2 : Mem} (h : FrL j M M1) (h2 : FrL j M1 M2) : FrL j M M2 := ⟨fun i hi => (h2.1 i hi).trans (h.1 i hi), fun i => (h2.2 i).trans (h.2 i)⟩
theorem FrL.f {j b : Nat} {M M' : Mem} (h : Fr3 b M M') (hb : j ≤ b ∧ b + 2 < 103) : FrL j M M' := ⟨fun i hi => h.1 i (by omega) (by omega) (by omega), h.2⟩
theorem FrL.mono {j j' : Nat} {M M' : Mem} (h : FrL j M M') (hj : j' ≤ j) : FrL j' M M' := ⟨fun i hi => h.1 i (by omega), h.2⟩
theorem FrL.q {j : Nat} {M M' : Mem} (h : FrL j M M') (hj : 82 ≤ j) : QX M M' := ⟨fun i hi => h.1 i (by omega), h.2⟩
theorem mo_Ln {d : Nat} (h : d < 7) : isMo (82 + 3 * d) := (show ∀ n, n < 7 → isMo (82 + 3 * n) by unfold isMo; decide) d h
theorem RX.l {V : FV} {A : AM} {M M' : Mem} {b j : Nat} (h : RX V A M b) (f : FrL j M M') (hb : b + 2 < j) : RX V A M' b := h.mv (f.1 b (by omega)) (f.1 _ (by omega)) (f.1 _ (by omega))
theorem waysX {V : FV} {A : AM} {p x : Nat} (hV : VOk V) (hA : AOk V 9999 A) (hp : p < vN V) (hx : x ≤ 10) : ∀ (l d fu : Nat) (M : Mem) (A1 : AM) (B : Nat), d + l ≤ 6 → l < fu → B + l < 20000 → NX M V A → AOk V B A1 → RX V A1 M (82 + 3 * d) → ∃ M1, rX11_waysOver fu M (nN p) (nN x) (nN d) (nN l) = some (M1, nN (wS V p x l A1)) ∧ FrL (85 + 3 * d) M M1 := by
  have hn := hV.1
  intro l
  induction l with
  | zero =>
    intro d fu M A1 B hd hf hB h hA1 h1
    obtain ⟨fu, rfl⟩ := fu1 hf
    refine ⟨M, ?_, fun _ _ => rfl, fun _ => rfl⟩
    show eX11_waysOver (rX11_waysOver fu) M (nN p) (nN x) (nN d) (nN 0) = _
    unfold eX11_waysOver wS
    rw [if_neg (Int32.not_lt.mpr (nN_nn (by omega))), if_pos (show nN d < 7 from (nN_lt (b := 7) (by omega) (by decide)).mpr (by omega)), if_pos ((nN_inB (by omega)).mpr (by omega)), nN_cl (by omega), h1.1.2.1, overX h.1 hV (by have := hA1.2.1; omega), bI_some]
    by_cases ho : vW V ≤ aW A1
    · rw [if_pos ho, if_pos ho, if_neg (by decide), powX (by decide), bI_some]
    · rw [if_neg ho, if_neg ho, if_pos rfl, if_pos (by decide)]
      rfl
  | succ l ih =>
    intro d fu M A1 B hd hf hB h hA1 h1
    obtain ⟨fu, rfl⟩ := fu1 hf
    show ∃ M1, eX11_waysOver (rX11_waysOver fu) M (nN p) (nN x) (nN d) (nN (l + 1)) = some (M1, _) ∧ _
    unfold eX11_waysOver wS
    rw [if_neg (Int32.not_lt.mpr (nN_nn (by omega))), if_pos (show nN d < 7 from (nN_lt (b := 7) (by omega) (by decide)).mpr (by omega)), if_pos ((nN_inB (by omega)).mpr (by omega)), nN_cl (by omega), h1.1.2.1, overX h.1 hV (by have := hA1.2.1; omega), bI_some]
    by_cases ho : vW V ≤ aW A1
    · rw [if_pos ho, if_pos ho, if_neg (by decide), powX (by omega), bI_some]
      exact ⟨M, rfl, fun _ _ => rfl, fun _ => rfl⟩
    · rw [if_neg ho, if_neg ho, if_pos rfl, if_neg (show ¬ nN (l + 1) ≤ 0 from fun e => by have := (nN_le (b := 0) (by omega) (by decide)).mp e; omega), show nN d + 1 = nN (d + 1) from nN_succ d, if_pos (show nN (d + 1) < 7 from (nN_lt (b := 7) (by omega) (by decide)).mpr (by omega)), if_pos ((nN_inB (by omega)).mpr (by omega)), nN_cl (by omega), show nN (l + 1) - 1 = nN l from nN_sub (a := l + 1) (b := 1) (by omega), sh1 (by omega)]
      have hb := mo_Ln (d := d) (by omega)
      have hc := mo_Ln (d := d + 1) (by omega)
      have hne : 82 + 3 * (d + 1) ≠ 82 + 3 * d := by omega
      have frL : ∀ {M M' : Mem}, Fr3 (82 + 3 * (d + 1)) M M' → FrL (85 + 3 * d) M M' := fun f => FrL.f f ⟨by omega, by omega⟩
      have hT := hA1.1
      -- with a sneeze
      obtain ⟨M1, a1, a2, a3⟩ := copyX (M := M) hc hb hne
      have r1 := a3 V A1 h1 hn
      have l1 := frL a2
      have n1 := h.q (l1.q (by omega))
      obtain ⟨M2, b1, b2, b3⟩ := speakX n1.1 hV (isFe_feB _) hc (pw_lt hp) (by omega) r1.1
      have ok2 := speak_ok hV hA1 (pw_lt hp)
      have l2 := l1.tr (frL b2)
      have n2 := h.q (l2.q (by omega))
      obtain ⟨M3, c1, c2, c3⟩ := rowX n2.1 hV (isFe_feB _) hc ok2 (by omega) b3
      have l3 := l2.tr (frL c2)
      obtain ⟨M4, d1, d2⟩ := ih (d + 1) fu M3 _ (B + 1) (by omega) (by omega) (by omega) (h.q (l3.q (by omega))) (goes_ok hV ok2) c3
      have l4 := l3.tr (d2.mono (j' := 85 + 3 * d) (by omega))
      -- without
      have h4 : RX V A1 M4 (82 + 3 * d) := h1.l l4 (by omega)
      obtain ⟨M5, e1, e2, e3⟩ := copyX (M := M4) hc hb hne
      have r5 := e3 V A1 h4 hn
      have l5 := l4.tr (frL e2)
      have n5 := h.q (l5.q (by omega))
      obtain ⟨M6, f1, f2, f3⟩ := rowX n5.1 hV (isFe_feB _) hc hA1 (by omega) r5
      have l6 := l5.tr (frL f2)
      obtain ⟨M7, g1, g2⟩ := ih (d + 1) fu M6 _ (B + 1) (by omega) (by omega) (by omega) (h.q (l6.q (by omega))) (goes_ok hV hA1) f3
      rw [a1, bV_some, b1, bV_some, c1, bV_some, d1, bI_some, e1, bV_some, f1, bV_some, g1, bI_some]
      refine ⟨M7, ?_, l6.tr (g2.mono (j' := 85 + 3 * d) (by omega))⟩
      rw [nN_mul, show (10 : Int32) - nN x = nN (10 - x) from nN_sub (a := 10) hx, nN_mul, nN_add]
def oddsE (up all : Nat) (x4 : Int32) : Int32 := if x4 = 0 then nN (up / Nat.gcd up all) else nN (all / Nat.gcd up all)
def oddsS (V : FV) (A : AM) (x1 x2 x3 x4 : Int32) : Int32 := if (0 ≤ x1 ∧ x1 < nN (vN V)) ∧ (0 ≤ x2 ∧ x2 ≤ 10) ∧ (0 ≤ x3 ∧ x3 ≤ 6) ∧ (0 ≤ x4 ∧ x4 ≤ 1) then oddsE (wS V x1.toNatClampNeg x2.toNatClampNeg x3.toNatClampNeg A) (10 ^ x3.toNatClampNeg) x4 else -1
theorem hasX {M : Mem} {V : FV} {f : Nat} (hV : VOk V) (hF : FX M f V) (x : Int32) : fX2_has M f x = some (M, if 0 ≤ x ∧ x < nN (vN V) then 1 else 0) := by
  unfold fX2_has
  have hn := hV.1
  rw [hF.1]
  by_cases h1 : x < 0
  · rw [if_pos h1, if_neg (fun e => Int32.not_lt.mpr e.1 h1)]
  rw [if_neg h1]
  by_cases h2 : nN (vN V) ≤ x
  · rw [if_pos h2, if_neg (fun e => Int32.not_lt.mpr h2 e.2)]
  rw [if_neg h2]
  have h2' := Int32.not_le.mp h2
  obtain ⟨k, hk, rfl⟩ := to_nN_lt (by omega) (Int32.not_lt.mp h1) h2'
  rw [if_neg (show ¬ (6 : Int32) ≤ nN k from fun e => by have := (nN_le (a := 6) (by decide) (by omega)).mp e; omega), if_pos ⟨Int32.not_lt.mp h1, h2'⟩]
theorem hasR {M : Mem} {V : FV} (hV : VOk V) (hF : FR M V) (x : Int32) : fX12_isPassenger M x = some (M, if 0 ≤ x ∧ x < nN (vN V) then 1 else 0) := by
  unfold fX12_isPassenger
  have hn := hV.1
  rw [hF.1]
  have e : (0 ≤ x ∧ x ≤ nN (vN V) - 1) ↔ (0 ≤ x ∧ x < nN (vN V)) := by
    have h6 : nN (vN V) ≤ 6 := (nN_le (b := 6) (by omega) (by decide)).mpr hn
    have h0 := nN_nn (a := vN V) (by omega)
    generalize nN (vN V) = z at h6 h0
    constructor
    · rintro ⟨a, b⟩; exact ⟨a, by grind⟩
    · rintro ⟨a, b⟩; exact ⟨a, by grind⟩
  by_cases h : 0 ≤ x ∧ x < nN (vN V)
  · obtain ⟨a, b⟩ := e.mpr h
    rw [in_y a b, bI_some, if_pos (Or.inr rfl), if_pos h]
  · rw [in_n (fun hh => h (e.mp hh)), bI_some, if_pos (Or.inl rfl), if_neg h]
theorem ten_le {n : Nat} (h : n ≤ 6) : 10 ^ n ≤ 1000000 := Nat.pow_le_pow_right (n := 10) (by decide) h
theorem X_odds {M : Mem} {V : FV} {A : AM} (hV : VOk V) (hA : AOk V 9999 A) (h : NX M V A) (x1 x2 x3 x4 : Int32) : ∃ M1, fX11_odds M x1 x2 x3 x4 = some (M1, oddsS V A x1 x2 x3 x4) ∧ QX M M1 := by
  unfold fX11_odds oddsS
  have hn := hV.1
  rw [hasX hV h.1, bI_some]
  by_cases h1 : ¬ (0 ≤ x1 ∧ x1 < nN (vN V))
  · rw [if_neg h1, if_pos rfl, if_neg (fun e => h1 e.1)]; exact ⟨M, rfl, QX.rfl⟩
  have h1 := Classical.not_not.mp h1
  rw [if_pos h1, if_neg (by decide)]
  by_cases h2 : x2 < 0
  · rw [if_pos h2, if_neg (fun e => Int32.not_lt.mpr e.2.1.1 h2)]; exact ⟨M, rfl, QX.rfl⟩
  rw [if_neg h2]
  by_cases h3 : (10 : Int32) < x2
  · rw [if_pos h3, if_neg (fun e => Int32.not_lt.mpr e.2.1.2 h3)]; exact ⟨M, rfl, QX.rfl⟩
  rw [if_neg h3]
  by_cases h4 : x3 < 0
  · rw [if_pos h4, if_neg (fun e => Int32.not_lt.mpr e.2.2.1.1 h4)]; exact ⟨M, rfl, QX.rfl⟩
  rw [if_neg h4]
  by_cases h5 : (6 : Int32) < x3
  · rw [if_pos h5, if_neg (fun e => Int32.not_lt.mpr e.2.2.1.2 h5)]; exact ⟨M, rfl, QX.rfl⟩
  rw [if_neg h5]
  by_cases h6 : x4 < 0
  · rw [if_pos h6, if_neg (fun e => Int32.not_lt.mpr e.2.2.2.1 h6)]; exact ⟨M, rfl, QX.rfl⟩
  rw [if_neg h6]
  by_cases h7 : ¬ x4 ≤ 1
  · rw [if_neg h7, if_neg (fun e => h7 e.2.2.2.2)]; exact ⟨M, rfl, QX.rfl⟩
  have h7 := Classical.not_not.mp h7
  rw [if_pos h7, if_pos (show (0 ≤ x1 ∧ x1 < nN (vN V)) ∧ (0 ≤ x2 ∧ x2 ≤ 10) ∧ (0 ≤ x3 ∧ x3 ≤ 6) ∧ (0 ≤ x4 ∧ x4 ≤ 1) from ⟨h1, ⟨Int32.not_lt.mp h2, Int32.not_lt.mp h3⟩, ⟨Int32.not_lt.mp h4, Int32.not_lt.mp h5⟩, Int32.not_lt.mp h6, h7⟩)]
  obtain ⟨p, hp, rfl⟩ := to_nN_lt (by omega) h1.1 h1.2
  obtain ⟨x, hx, rfl⟩ := to_nN_le (m := 10) (by decide) (Int32.not_lt.mp h2) (Int32.not_lt.mp h3)
  obtain ⟨n, hn6, rfl⟩ := to_nN_le (m := 6) (by decide) (Int32.not_lt.mp h4) (Int32.not_lt.mp h5)
  obtain ⟨M', g1, g2, g3⟩ := copyNow hV h
  obtain ⟨M1, k1, k2⟩ := waysX hV hA hp hx n 0 8 M' A 9999 (by omega) (by omega) (by omega) (h.q g2) hA g3
  have hle := wS_le (V := V) (p := p) hx n A
  have h10 := ten_le hn6
  rw [nN_cl (by omega), nN_cl (by omega), nN_cl (by omega), g1, bV_some, show fX11_waysOver M' (nN p) (nN x) 0 (nN n) = _ from k1, bI_some, powX hn6, bI_some, gcdX (by omega) h10, bI_some]
  refine ⟨M1, ?_, g2.tr (k2.q (by omega))⟩
  have hpos : 0 < 10 ^ n := Nat.pow_pos (by decide)
  have hg : 0 < Nat.gcd (wS V p x n A) (10 ^ n) := Nat.gcd_pos_of_pos_right _ hpos
  have hgl : Nat.gcd (wS V p x n A) (10 ^ n) ≤ 1000000 := Nat.le_trans (Nat.gcd_le_right _ hpos) h10
  unfold sX11_odds_86 oddsE
  rw [if_neg (show ¬ nN (Nat.gcd (wS V p x n A) (10 ^ n)) < 1 from fun e => by have := (nN_lt (b := 1) (by omega) (by decide)).mp e; omega), if_pos (show ¬ nN (Nat.gcd (wS V p x n A) (10 ^ n)) = 0 from fun e => by have := (nN_eq (b := 0) (by omega) (by decide)).mp e; omega), if_pos (show ¬ nN (Nat.gcd (wS V p x n A) (10 ^ n)) = 0 from fun e => by have := (nN_eq (b := 0) (by omega) (by decide)).mp e; omega), nN_div (by omega) (by omega), nN_div (by omega) (by omega)]
  split <;> rfl
