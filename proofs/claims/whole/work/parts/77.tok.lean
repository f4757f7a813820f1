/-! the text of the told ferry: its tokens -/
def skp (x : Nat → Nat) : Nat → Nat → Nat
  | 0, p => p
  | c + 1, p => if x p = 32 then skp x c (p + 1) else p
abbrev isD (v : Nat) : Prop := 48 ≤ v ∧ v ≤ 57
def dgs (x : Nat → Nat) : Nat → Nat → Nat → Nat × Nat
  | 0, p, v => (p, v)
  | c + 1, p, v => if isD (x p) then dgs x c (p + 1) (if v ≤ 200 then 10 * v + x p - 48 else v) else (p, v)
def klS (v : Nat) : Nat := if v = 59 then 3 else if v = 112 ∨ v = 99 ∨ v = 119 then 1 else 4
abbrev TK : Type := Nat × Nat × Nat × Nat
/-- kind (0 end, 1 letter, 2 number, 3 semicolon, 4 wrong), where it begins, where the next begins, its value -/
def tk (l : Nat) (x : Nat → Nat) (p : Nat) : TK :=
  if l ≤ skp x (l - p) p then (0, skp x (l - p) p, skp x (l - p) p, 0)
  else if isD (x (skp x (l - p) p)) then (if 200 < (dgs x (l - skp x (l - p) p) (skp x (l - p) p) 0).2 ∨ (x (skp x (l - p) p) = 48 ∧ 1 < (dgs x (l - skp x (l - p) p) (skp x (l - p) p) 0).1 - skp x (l - p) p) then 4 else 2, skp x (l - p) p, dgs x (l - skp x (l - p) p) (skp x (l - p) p) 0)
  else (klS (x (skp x (l - p) p)), skp x (l - p) p, skp x (l - p) p + 1, x (skp x (l - p) p))
theorem skp_b (x : Nat → Nat) : ∀ c p, p ≤ skp x c p ∧ skp x c p ≤ p + c
  | 0, p => ⟨Nat.le_refl _, Nat.le_refl _⟩
  | c + 1, p => by
    unfold skp
    split
    · have := skp_b x c (p + 1); omega
    · omega
theorem dgs_b (x : Nat → Nat) : ∀ c p v, v ≤ 2009 → p ≤ (dgs x c p v).1 ∧ (dgs x c p v).1 ≤ p + c ∧ (dgs x c p v).2 ≤ 2009
  | 0, p, v, h => ⟨Nat.le_refl _, Nat.le_refl _, h⟩
  | c + 1, p, v, h => by
    unfold dgs
    split
    · rename_i hd
      have hd : 48 ≤ x p ∧ x p ≤ 57 := hd
      have := dgs_b x c (p + 1) (if v ≤ 200 then 10 * v + x p - 48 else v) (by split <;> omega)
      omega
    · exact ⟨Nat.le_refl _, by omega, h⟩
theorem dgs_p (x : Nat → Nat) {c p v : Nat} (h : isD (x p)) (hv : v ≤ 200) (hc : 0 < c) : p < (dgs x c p v).1 := by
  obtain ⟨c, rfl⟩ : ∃ d, c = d + 1 := ⟨c - 1, by omega⟩
  have h' : 48 ≤ x p ∧ x p ≤ 57 := h
  unfold dgs
  rw [if_pos h]
  have := dgs_b x c (p + 1) (if v ≤ 200 then 10 * v + x p - 48 else v) (by split <;> omega)
  omega
def tK (t : TK) : Nat := t.1
def tS (t : TK) : Nat := t.2.1
def tN (t : TK) : Nat := t.2.2.1
def tV (t : TK) : Nat := t.2.2.2
theorem kl_ne (v : Nat) : klS v ≠ 0 ∧ klS v ≠ 2 ∧ klS v ≤ 4 ∧ (klS v = 1 → v = 112 ∨ v = 99 ∨ v = 119) := by
  unfold klS
  split
  · omega
  · split <;> omega
/-- where it begins and ends -/
theorem tk_b (l : Nat) (x : Nat → Nat) (p : Nat) (hp : p ≤ l) : p ≤ tS (tk l x p) ∧ tS (tk l x p) ≤ tN (tk l x p) ∧ tN (tk l x p) ≤ l ∧ (tK (tk l x p) ≠ 0 → tS (tk l x p) < tN (tk l x p)) ∧ tK (tk l x p) ≤ 4 ∧ (tK (tk l x p) = 1 → tV (tk l x p) = 112 ∨ tV (tk l x p) = 99 ∨ tV (tk l x p) = 119) := by
  have hs := skp_b x (l - p) p
  unfold tk
  split
  · rename_i h1; exact ⟨hs.1, Nat.le_refl _, by show skp x (l - p) p ≤ l; omega, fun e => absurd rfl e, Nat.zero_le _, fun e => absurd e (by show ¬ (0 : Nat) = 1; decide)⟩
  · rename_i h1
    split
    · rename_i h2
      have hd := dgs_b x (l - skp x (l - p) p) (skp x (l - p) p) 0 (by decide)
      have hq := dgs_p x (c := l - skp x (l - p) p) (v := 0) h2 (by decide) (by omega)
      refine ⟨hs.1, hd.1, ?_, fun _ => hq, ?_, fun e => ?_⟩
      · show (dgs x (l - skp x (l - p) p) (skp x (l - p) p) 0).1 ≤ l
        omega
      · show (if _ then 4 else 2) ≤ 4
        split <;> decide
      · exfalso
        have e : (if 200 < (dgs x (l - skp x (l - p) p) (skp x (l - p) p) 0).2 ∨ (x (skp x (l - p) p) = 48 ∧ 1 < (dgs x (l - skp x (l - p) p) (skp x (l - p) p) 0).1 - skp x (l - p) p) then 4 else 2) = 1 := e
        split at e <;> omega
    · have hk := kl_ne (x (skp x (l - p) p))
      exact ⟨hs.1, Nat.le_succ _, by show skp x (l - p) p + 1 ≤ l; omega, fun _ => Nat.lt_succ_self _, hk.2.2.1, hk.2.2.2⟩
def FrT (M M' : Mem) : Prop := (∀ i, i ≠ 1 → gM M' i = gM M i) ∧ gM M' 1 1 = gM M 1 1 ∧ ∀ i, gL M' i = gL M i
theorem FrT.rfl {M : Mem} : FrT M M := ⟨fun _ _ => Eq.refl _, Eq.refl _, fun _ => Eq.refl _⟩
theorem FrT.tr {M M1 M2 : Mem} (h : FrT M M1) (h2 : FrT M1 M2) : FrT M M2 := ⟨fun i hi => (h2.1 i hi).trans (h.1 i hi), h2.2.1.trans h.2.1, fun i => (h2.2.2 i).trans (h.2.2 i)⟩
theorem FrT.s {M : Mem} {k : Nat} {v : Int32} (hk : 1 ≠ k) : FrT M (sM M 1 k v) := ⟨fun i hi => (sM_other _ 1 k v i hi).1, row_o hk, fun _ => Eq.refl _⟩
theorem TX.t {M M' : Mem} {l : Nat} {x : Nat → Nat} (h : TX M l x) (f : FrT M M') : TX M' l x := h.mv f.2.1 (f.1 2 (by decide))
def CT (c : Int32) (k v : Nat) : Prop := (c = -1 ↔ k = 0) ∧ (c = -2 ↔ k = 2) ∧ (c = 59 ↔ k = 3) ∧ (c = 112 ↔ (k = 1 ∧ v = 112)) ∧ (c = 99 ↔ (k = 1 ∧ v = 99)) ∧ (c = 119 ↔ (k = 1 ∧ v = 119))
theorem ct_let {v : Nat} (h : v ≤ 255) : CT (nN v) (klS v) v := (show ∀ v, v < 256 → CT (nN v) (klS v) v by unfold CT klS; decide +kernel) v (by omega)
def TKX (M : Mem) (t : TK) : Prop := gM M 1 4 = nN (tS t) ∧ gM M 1 2 = nN (tN t) ∧ CT (gM M 1 3) (tK t) (tV t) ∧ (tK t = 2 → gM M 1 5 = nN (tV t) ∧ tV t ≤ 200)
theorem skipX {l : Nat} {x : Nat → Nat} (hl : l ≤ 200) (hx : ∀ i, i < l → x i ≤ 255) : ∀ (c p fu : Nat) (M : Mem), TX M l x → p + c = l → c < fu → gM M 1 2 = nN p → ∃ M1, lX10_readToken_0 fu M = sX10_readToken_38 M1 ∧ FrT M M1 ∧ gM M1 1 2 = nN (skp x c p) := by
  intro c
  induction c with
  | zero =>
    intro p fu M hT hp hf h2
    obtain ⟨fu, rfl⟩ := fu1 hf
    refine ⟨M, ?_, FrT.rfl, h2⟩
    show sX10_readToken_0 (lX10_readToken_0 fu) M = _
    unfold sX10_readToken_0
    rw [if_pos (by rw [h2, hT.1]; exact (nN_le (by omega) (by omega)).mpr (by omega))]
  | succ c ih =>
    intro p fu M hT hp hf h2
    obtain ⟨fu, rfl⟩ := fu1 hf
    show ∃ M1, sX10_readToken_0 (lX10_readToken_0 fu) M = _ ∧ _
    unfold sX10_readToken_0 skp
    have hxp := hx p (by omega)
    rw [h2, hT.1, if_neg (show ¬ nN l ≤ nN p from fun e => by have := (nN_le (by omega) (by omega)).mp e; omega), if_pos ((nN_inB (by omega)).mpr (by omega)), nN_cl (by omega), hT.2 p (by omega)]
    by_cases h : x p = 32
    · rw [if_pos (by rw [h]; rfl), if_pos h, nN_succ]
      obtain ⟨M1, a1, a2, a3⟩ := ih (p + 1) fu (sM M 1 2 (nN (p + 1))) (hT.t (FrT.s (by decide))) (by omega) (by omega) row_h
      exact ⟨M1, a1, (FrT.s (by decide)).tr a2, a3⟩
    · rw [if_neg (show ¬ nN (x p) = 32 from fun e => h ((nN_eq (b := 32) (by omega) (by decide)).mp e)), if_neg h]
      exact ⟨M, rfl, FrT.rfl, h2⟩
theorem digX {M : Mem} {v : Nat} (h : v ≤ 255) : fX10_isDigit M (nN v) = some (M, if isD v then 1 else 0) := by
  unfold fX10_isDigit
  by_cases h1 : v < 48
  · rw [if_pos (show nN v < 48 from (nN_lt (b := 48) (by omega) (by decide)).mpr h1), if_neg (fun e => by have := e.1; omega)]
  rw [if_neg (show ¬ nN v < 48 from fun e => h1 ((nN_lt (b := 48) (by omega) (by decide)).mp e))]
  by_cases h2 : 57 < v
  · rw [if_pos (show (57 : Int32) < nN v from (nN_lt (a := 57) (by decide) (by omega)).mpr h2), if_neg (fun e => by have := e.2; omega)]
  rw [if_neg (show ¬ (57 : Int32) < nN v from fun e => h2 ((nN_lt (a := 57) (by decide) (by omega)).mp e)), if_pos ⟨by omega, by omega⟩]
theorem digsX {l : Nat} {x : Nat → Nat} (hl : l ≤ 200) (hx : ∀ i, i < l → x i ≤ 255) : ∀ (c p fu v : Nat) (M : Mem), TX M l x → p + c = l → c < fu → gM M 1 2 = nN p → gM M 1 5 = nN (min 201 v) → ∃ M1, lX10_readDigits_5 fu M = sX10_readDigits_74 M1 ∧ FrT M M1 ∧ gM M1 1 4 = gM M 1 4 ∧ gM M1 1 2 = nN (dgs x c p v).1 ∧ gM M1 1 5 = nN (min 201 (dgs x c p v).2) := by
  intro c
  induction c with
  | zero =>
    intro p fu v M hT hp hf h2 h5
    obtain ⟨fu, rfl⟩ := fu1 hf
    refine ⟨M, ?_, FrT.rfl, rfl, h2, h5⟩
    show sX10_readDigits_5 (lX10_readDigits_5 fu) M = _
    unfold sX10_readDigits_5
    rw [if_pos (by rw [h2, hT.1]; exact (nN_le (by omega) (by omega)).mpr (by omega))]
  | succ c ih =>
    intro p fu v M hT hp hf h2 h5
    obtain ⟨fu, rfl⟩ := fu1 hf
    show ∃ M1, sX10_readDigits_5 (lX10_readDigits_5 fu) M = _ ∧ _
    unfold sX10_readDigits_5 dgs
    have hxp := hx p (by omega)
    rw [h2, hT.1, if_neg (show ¬ nN l ≤ nN p from fun e => by have := (nN_le (by omega) (by omega)).mp e; omega), if_pos ((nN_inB (by omega)).mpr (by omega)), nN_cl (by omega), hT.2 p (by omega), digX hxp, bI_some]
    by_cases hd : isD (x p)
    · have hd' : 48 ≤ x p ∧ x p ≤ 57 := hd
      rw [if_pos hd, if_neg (by decide), if_pos hd, h2, if_pos ((nN_inB (by omega)).mpr (by omega)), nN_cl (by omega), hT.2 p (by omega), h5]
      have ev : (if (201 : Int32) < nN (min 201 v) * 10 + nN (x p) - 48 then 201 else nN (min 201 v) * 10 + nN (x p) - 48) = nN (min 201 (if v ≤ 200 then 10 * v + x p - 48 else v)) := by
        rw [show nN (min 201 v) * 10 = nN (min 201 v * 10) from nN_mul _ 10, nN_add, show nN (min 201 v * 10 + x p) - 48 = nN (min 201 v * 10 + x p - 48) from nN_sub (b := 48) (by omega)]
        by_cases hb : 201 < min 201 v * 10 + x p - 48
        · rw [if_pos (show (201 : Int32) < nN _ from (nN_lt (a := 201) (by decide) (by omega)).mpr hb)]
          show nN 201 = _
          congr 1
          split <;> omega
        · rw [if_neg (show ¬ (201 : Int32) < nN _ from fun e => hb ((nN_lt (a := 201) (by decide) (by omega)).mp e))]
          congr 1
          split <;> omega
      rw [ev, row_o (by decide), h2, nN_succ]
      obtain ⟨M1, a1, a2, a3, a4, a5⟩ := ih (p + 1) fu (if v ≤ 200 then 10 * v + x p - 48 else v) (sM (sM M 1 5 (nN (min 201 (if v ≤ 200 then 10 * v + x p - 48 else v)))) 1 2 (nN (p + 1))) ((hT.t (FrT.s (by decide))).t (FrT.s (by decide))) (by omega) (by omega) row_h (by rw [row_o (by decide), row_h])
      exact ⟨M1, a1, ((FrT.s (by decide)).tr (FrT.s (by decide))).tr a2, by rw [a3, row_o (by decide), row_o (by decide)], a4, a5⟩
    · rw [if_neg hd, if_pos rfl, if_neg hd]
      exact ⟨M, rfl, FrT.rfl, rfl, h2, h5⟩
theorem tokX {l p : Nat} {x : Nat → Nat} {M : Mem} (hl : l ≤ 200) (hx : ∀ i, i < l → x i ≤ 255) (hT : TX M l x) (hp : p ≤ l) (h2 : gM M 1 2 = nN p) : ∃ M1, fX10_readToken M = some M1 ∧ FrT M M1 ∧ TKX M1 (tk l x p) := by
  obtain ⟨M1, a1, a2, a3⟩ := skipX hl hx (l - p) p fuel M hT (by omega) (by show l - p < 1000; omega) h2
  unfold fX10_readToken
  rw [a1]
  have hs := skp_b x (l - p) p
  unfold tk
  generalize skp x (l - p) p = s at a3 hs ⊢
  have hT1 := hT.t a2
  unfold sX10_readToken_38
  rw [a3]
  have f4 : FrT M1 (sM M1 1 4 (nN s)) := FrT.s (by decide)
  have hT2 := hT1.t f4
  have h22 : gM (sM M1 1 4 (nN s)) 1 2 = nN s := by rw [row_o (by decide)]; exact a3
  have h24 : gM (sM M1 1 4 (nN s)) 1 4 = nN s := row_h
  have f24 := a2.tr f4
  generalize sM M1 1 4 (nN s) = N at f24 hT2 h22 h24 ⊢
  rw [h22, hT2.1]
  by_cases h1 : l ≤ s
  · rw [if_neg (show ¬ nN s < nN l from fun e => by have := (nN_lt (by omega) (by omega)).mp e; omega), if_pos h1]
    refine ⟨_, rfl, f24.tr (FrT.s (by decide)), ?_, ?_, ?_, fun e => absurd e (by show ¬ (0 : Nat) = 2; decide)⟩
    · rw [row_o (by decide)]; exact h24
    · rw [row_o (by decide)]; exact h22
    · rw [row_h]; show CT (-1) 0 0; unfold CT; decide
  rw [if_pos (show nN s < nN l from (nN_lt (by omega) (by omega)).mpr (by omega)), if_neg h1, if_pos ((nN_inB (by omega)).mpr (by omega)), nN_cl (by omega), hT2.2 s (by omega), digX (hx s (by omega)), bI_some]
  by_cases hd : isD (x s)
  · rw [if_pos hd, if_neg (by decide), if_pos hd]
    unfold fX10_readDigits
    obtain ⟨M3, b1, b2, b3, b4, b5⟩ := digsX hl hx (l - s) s fuel 0 (sM N 1 5 0) (hT2.t (FrT.s (by decide))) (by omega) (by show l - s < 1000; omega) (by rw [row_o (by decide)]; exact h22) row_h
    have hb := dgs_b x (l - s) s 0 (by decide)
    have hT3 := (hT2.t (FrT.s (M := N) (k := 5) (v := 0) (by decide))).t b2
    rw [b1]
    unfold sX10_readDigits_74 sX10_readDigits_105 sX10_readDigits_106 sX10_readDigits_129
    rw [b3, row_o (show (4 : Nat) ≠ 5 by decide), h24, if_pos ((nN_inB (by omega)).mpr (by omega)), nN_cl (by omega), hT3.2 s (by omega), b4, b5]
    generalize dgs x (l - s) s 0 = g at b4 b5 hb ⊢
    have f3 : FrT M M3 := (f24.tr (FrT.s (by decide))).tr b2
    have h34 : gM M3 1 4 = nN s := by rw [b3, row_o (by decide)]; exact h24
    have out : ∀ (c : Int32) (k : Nat), CT c k g.2 → (k = 2 → g.2 ≤ 200) → ∃ M1, bV (some (sM M3 1 3 c)) (fun M10 => some M10) = some M1 ∧ FrT M M1 ∧ TKX M1 (k, s, g) := fun c k hc hk =>
      ⟨_, bV_some .., f3.tr (FrT.s (by decide)), by rw [row_o (by decide)]; exact h34, by rw [row_o (by decide)]; exact b4, by rw [row_h]; exact hc, fun e => ⟨by rw [row_o (by decide), b5, Nat.min_eq_right (by have := hk e; omega)]; rfl, hk e⟩⟩
    have e48 : nN (x s) = 48 ↔ x s = 48 := nN_eq (b := 48) (by have := hx s (by omega); omega) (by decide)
    have e1 : nN g.1 - nN s ≤ 1 ↔ g.1 - s ≤ 1 := by rw [nN_sub hb.1]; exact nN_le (b := 1) (by omega) (by decide)
    have e200 : nN (min 201 g.2) ≤ 200 ↔ g.2 ≤ 200 := (nN_le (b := 200) (by omega) (by decide)).trans (by omega)
    have w4 : ∃ M1, bV (some (sM M3 1 3 (-3))) (fun M10 => some M10) = some M1 ∧ FrT M M1 ∧ TKX M1 (4, s, g) := out (-3) 4 (by unfold CT; simp) (fun e => absurd e (by decide))
    have w2 : g.2 ≤ 200 → ∃ M1, bV (some (sM M3 1 3 (-2))) (fun M10 => some M10) = some M1 ∧ FrT M M1 ∧ TKX M1 (2, s, g) := fun h => out (-2) 2 (by unfold CT; simp) (fun _ => h)
    by_cases c1 : x s = 48
    · rw [if_pos (e48.mpr c1)]
      by_cases c2 : g.1 - s ≤ 1
      · rw [if_pos (e1.mpr c2), if_pos rfl]
        by_cases c3 : g.2 ≤ 200
        · rw [if_pos (e200.mpr c3), if_neg (by omega)]; exact w2 c3
        · rw [if_neg (mt e200.mp c3), if_pos (by omega)]; exact w4
      · rw [if_neg (mt e1.mp c2), if_neg (by decide), if_pos (by omega)]; exact w4
    · rw [if_neg (mt e48.mp c1), if_pos rfl]
      by_cases c3 : g.2 ≤ 200
      · rw [if_pos (e200.mpr c3), if_neg (by omega)]; exact w2 c3
      · rw [if_neg (mt e200.mp c3), if_pos (by omega)]; exact w4
  · rw [if_neg hd, if_pos rfl, if_neg hd, h22, if_pos ((nN_inB (by omega)).mpr (by omega)), nN_cl (by omega), hT2.2 s (by omega), row_o (show (2 : Nat) ≠ 3 by decide), h22, nN_succ]
    have hk := kl_ne (x s)
    refine ⟨_, rfl, f24.tr ((FrT.s (by decide)).tr (FrT.s (by decide))), ?_, row_h, ?_, fun e => absurd e hk.2.1⟩
    · rw [row_o (by decide), row_o (by decide)]; exact h24
    · rw [row_o (by decide), row_h]; exact ct_let (hx s (by omega))
