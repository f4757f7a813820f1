/-! the same tokens, as the reference reads them -/
def FrU (M M' : Mem) : Prop := (∀ i, i ≠ 109 → gM M' i = gM M i) ∧ (∀ k, k ≠ 4 → k ≠ 5 → k ≠ 6 → k ≠ 7 → gM M' 109 k = gM M 109 k) ∧ ∀ i, gL M' i = gL M i
theorem FrU.rfl {M : Mem} : FrU M M := ⟨fun _ _ => Eq.refl _, fun _ _ _ _ _ => Eq.refl _, fun _ => Eq.refl _⟩
theorem FrU.tr {M M1 M2 : Mem} (h : FrU M M1) (h2 : FrU M1 M2) : FrU M M2 := ⟨fun i hi => (h2.1 i hi).trans (h.1 i hi), fun k a b c d => (h2.2.1 k a b c d).trans (h.2.1 k a b c d), fun i => (h2.2.2 i).trans (h.2.2 i)⟩
theorem FrU.s {M : Mem} {k : Nat} {v : Int32} (hk : k = 4 ∨ k = 5 ∨ k = 6 ∨ k = 7) : FrU M (sM M 109 k v) := ⟨fun i hi => (sM_other _ 109 k v i hi).1, fun j a b c d => row_o (by omega), fun _ => Eq.refl _⟩
theorem TR.t {M M' : Mem} {l : Nat} {x : Nat → Nat} (h : TR M l x) (f : FrU M M') : TR M' l x := h.mv (f.2.1 3 (by decide) (by decide) (by decide) (by decide)) (f.1 110 (by decide))
def TKR (M : Mem) (t : TK) : Prop := gM M 109 6 = nN (tS t) ∧ gM M 109 4 = nN (tN t) ∧ gM M 109 5 = nN (tK t) ∧ (tK t ≠ 0 → gM M 109 7 = nN (tV t)) ∧ (tK t = 2 → tV t ≤ 200)
theorem letR {M : Mem} {l p : Nat} {x : Nat → Nat} (hT : TR M l x) (hl : l ≤ 200) (hp : p ≤ l) : fX12_letterAt M (nN p) = some (M, if p < l then nN (x p) else -1) := by
  unfold fX12_letterAt
  rw [hT.1]
  by_cases h : p < l
  · rw [if_neg (show ¬ nN l ≤ nN p from fun e => by have := (nN_le (by omega) (by omega)).mp e; omega), if_pos ((nN_inB (by omega)).mpr (by omega)), nN_cl (by omega), hT.2 p h, if_pos h]
  · rw [if_pos ((nN_le (by omega) (by omega)).mpr (by omega)), if_neg h]
theorem skipR {l : Nat} {x : Nat → Nat} (hl : l ≤ 200) (hx : ∀ i, i < l → x i ≤ 255) : ∀ (c p fu : Nat) (M : Mem), TR M l x → p + c = l → c < fu → gM M 109 4 = nN p → ∃ M1, lX12_advances_0 fu M = sX12_advances_26 M1 ∧ FrU M M1 ∧ gM M1 109 4 = nN (skp x c p) := by
  intro c
  induction c with
  | zero =>
    intro p fu M hT hp hf h2
    obtain ⟨fu, rfl⟩ := fu1 hf
    refine ⟨M, ?_, FrU.rfl, h2⟩
    show sX12_advances_0 (lX12_advances_0 fu) M = _
    unfold sX12_advances_0
    rw [h2, letR hT hl (by omega), bI_some, if_neg (show ¬ p < l by omega), if_neg (by decide)]
  | succ c ih =>
    intro p fu M hT hp hf h2
    obtain ⟨fu, rfl⟩ := fu1 hf
    show ∃ M1, sX12_advances_0 (lX12_advances_0 fu) M = _ ∧ _
    unfold sX12_advances_0 skp
    have hxp := hx p (by omega)
    rw [h2, letR hT hl (by omega), bI_some, if_pos (show p < l by omega)]
    by_cases h : x p = 32
    · rw [if_pos (by rw [h]; rfl), if_pos h, h2, nN_succ]
      obtain ⟨M1, a1, a2, a3⟩ := ih (p + 1) fu (sM M 109 4 (nN (p + 1))) (hT.t (FrU.s (by decide))) (by omega) (by omega) row_h
      exact ⟨M1, a1, (FrU.s (by decide)).tr a2, a3⟩
    · rw [if_neg (show ¬ nN (x p) = 32 from fun e => h ((nN_eq (b := 32) (by omega) (by decide)).mp e)), if_neg h]
      exact ⟨M, rfl, FrU.rfl, h2⟩
theorem inR {M : Mem} {a b v : Nat} (hv : v < 2147483648) (ha : a < 2147483648) (hb : b < 2147483648) : fX12_in M (nN v) (nN a) (nN b) = some (M, if a ≤ v ∧ v ≤ b then 1 else 0) := by
  by_cases h : a ≤ v ∧ v ≤ b
  · rw [in_y ((nN_le ha hv).mpr h.1) ((nN_le hv hb).mpr h.2), if_pos h]
  · rw [in_n (fun e => h ⟨(nN_le ha hv).mp e.1, (nN_le hv hb).mp e.2⟩), if_neg h]
theorem digsR {l : Nat} {x : Nat → Nat} {x1 : Int32} (hl : l ≤ 200) (hx : ∀ i, i < l → x i ≤ 255) : ∀ (c p fu v : Nat) (M : Mem), TR M l x → p + c = l → c < fu → v ≤ 2009 → gM M 109 4 = nN p → gM M 109 7 = nN v → ∃ M1, lX12_advances_71 fu M x1 = sX12_advances_142 M1 x1 ∧ FrU M M1 ∧ gM M1 109 6 = gM M 109 6 ∧ gM M1 109 4 = nN (dgs x c p v).1 ∧ gM M1 109 7 = nN (dgs x c p v).2 := by
  intro c
  induction c with
  | zero =>
    intro p fu v M hT hp hf hv h2 h5
    obtain ⟨fu, rfl⟩ := fu1 hf
    refine ⟨M, ?_, FrU.rfl, rfl, h2, h5⟩
    show sX12_advances_71 (lX12_advances_71 fu) M x1 = _
    unfold sX12_advances_71
    rw [h2, letR hT hl (by omega), bI_some, if_neg (show ¬ p < l by omega), in_n (by decide), bI_some, if_pos rfl]
  | succ c ih =>
    intro p fu v M hT hp hf hv h2 h5
    obtain ⟨fu, rfl⟩ := fu1 hf
    show ∃ M1, sX12_advances_71 (lX12_advances_71 fu) M x1 = _ ∧ _
    unfold sX12_advances_71 sX12_advances_126 dgs
    have hxp := hx p (by omega)
    rw [h2, letR hT hl (by omega), bI_some, if_pos (show p < l by omega), show fX12_in M (nN (x p)) 48 57 = _ from inR (a := 48) (b := 57) (by omega) (by decide) (by decide), bI_some]
    by_cases hd : isD (x p)
    · have hd' : 48 ≤ x p ∧ x p ≤ 57 := hd
      rw [if_pos hd, if_neg (by decide), if_pos hd, h5, h2, letR hT hl (by omega), bI_some, if_pos (show p < l by omega)]
      have key : ∀ v', v' ≤ 2009 → ∃ M1, lX12_advances_71 fu (sM (sM M 109 7 (nN v')) 109 4 (gM (sM M 109 7 (nN v')) 109 4 + 1)) x1 = sX12_advances_142 M1 x1 ∧ FrU M M1 ∧ gM M1 109 6 = gM M 109 6 ∧ gM M1 109 4 = nN (dgs x c (p + 1) v').1 ∧ gM M1 109 7 = nN (dgs x c (p + 1) v').2 := fun v' hv' => by
        rw [row_o (show (4 : Nat) ≠ 7 by decide), h2, nN_succ]
        obtain ⟨M1, a1, a2, a3, a4, a5⟩ := ih (p + 1) fu v' (sM (sM M 109 7 (nN v')) 109 4 (nN (p + 1))) ((hT.t (FrU.s (by decide))).t (FrU.s (by decide))) (by omega) (by omega) hv' row_h (by rw [row_o (by decide), row_h])
        exact ⟨M1, a1, ((FrU.s (by decide)).tr (FrU.s (by decide))).tr a2, by rw [a3, row_o (by decide), row_o (by decide)], a4, a5⟩
      by_cases h200 : v ≤ 200
      · rw [if_pos (show nN v ≤ 200 from (nN_le (b := 200) (by omega) (by decide)).mpr h200), if_pos h200, show (10 : Int32) * nN v = nN (10 * v) from nN_mul 10 v, nN_add, show nN (10 * v + x p) - 48 = nN (10 * v + x p - 48) from nN_sub (b := 48) (by omega)]
        exact key _ (by omega)
      · rw [if_neg (show ¬ nN v ≤ 200 from fun e => h200 ((nN_le (b := 200) (by omega) (by decide)).mp e)), if_neg h200]
        exact key _ hv
    · rw [if_neg hd, if_pos rfl, if_neg hd]
      exact ⟨M, rfl, FrU.rfl, rfl, h2, h5⟩
theorem tokR {l p : Nat} {x : Nat → Nat} {M : Mem} (hl : l ≤ 200) (hx : ∀ i, i < l → x i ≤ 255) (hT : TR M l x) (hp : p ≤ l) (h2 : gM M 109 4 = nN p) : ∃ M1, fX12_advances M = some M1 ∧ FrU M M1 ∧ TKR M1 (tk l x p) := by
  obtain ⟨M1, a1, a2, a3⟩ := skipR hl hx (l - p) p fuel M hT (by omega) (by show l - p < 1000; omega) h2
  unfold fX12_advances
  rw [a1]
  have hs := skp_b x (l - p) p
  unfold tk
  generalize skp x (l - p) p = s at a3 hs ⊢
  have hT1 := hT.t a2
  unfold sX12_advances_26
  rw [a3]
  have f4 : FrU M1 (sM M1 109 6 (nN s)) := FrU.s (by decide)
  have hT2 := hT1.t f4
  have h22 : gM (sM M1 109 6 (nN s)) 109 4 = nN s := by rw [row_o (by decide)]; exact a3
  have h24 : gM (sM M1 109 6 (nN s)) 109 6 = nN s := row_h
  have f24 := a2.tr f4
  generalize sM M1 109 6 (nN s) = N at f24 hT2 h22 h24 ⊢
  rw [h22, letR hT2 hl (by omega), bI_some]
  by_cases h1 : l ≤ s
  · rw [if_neg (show ¬ s < l by omega), if_neg (by decide), if_pos h1]
    refine ⟨_, rfl, f24.tr (FrU.s (by decide)), ?_, ?_, row_h, fun e => absurd rfl e, fun e => absurd e (by show ¬ (0 : Nat) = 2; decide)⟩
    · rw [row_o (by decide)]; exact h24
    · rw [row_o (by decide)]; exact h22
  have hxs := hx s (by omega)
  rw [if_pos (show s < l by omega), if_neg h1, if_pos (nN_nn (by omega)), show fX12_in N (nN (x s)) 48 57 = _ from inR (a := 48) (b := 57) (by omega) (by decide) (by decide), bI_some]
  by_cases hd : isD (x s)
  · rw [if_pos hd, if_neg (by decide), if_pos hd]
    obtain ⟨M3, b1, b2, b3, b4, b5⟩ := digsR (x1 := nN (x s)) hl hx (l - s) s fuel 0 (sM N 109 7 0) (hT2.t (FrU.s (by decide))) (by omega) (by show l - s < 1000; omega) (by decide) (by rw [row_o (by decide)]; exact h22) row_h
    have hb := dgs_b x (l - s) s 0 (by decide)
    rw [b1]
    unfold sX12_advances_142 sX12_advances_176 sX12_advances_177
    have h34 : gM M3 109 6 = nN s := by rw [b3, row_o (by decide)]; exact h24
    rw [h34, b4, b5]
    generalize dgs x (l - s) s 0 = g at b4 b5 hb ⊢
    have f3 : FrU M M3 := (f24.tr (FrU.s (by decide))).tr b2
    have out : ∀ (k : Nat), (k = 2 → g.2 ≤ 200) → ∃ M1, some (sM M3 109 5 (nN k)) = some M1 ∧ FrU M M1 ∧ TKR M1 (k, s, g) := fun k hk =>
      ⟨_, rfl, f3.tr (FrU.s (by decide)), by rw [row_o (by decide)]; exact h34, by rw [row_o (by decide)]; exact b4, row_h, fun _ => by rw [row_o (by decide)]; exact b5, hk⟩
    have e48 : nN (x s) = 48 ↔ x s = 48 := nN_eq (b := 48) (by omega) (by decide)
    have e1 : nN g.1 - nN s ≤ 1 ↔ g.1 - s ≤ 1 := by rw [nN_sub hb.1]; exact nN_le (b := 1) (by omega) (by decide)
    have e200 : (200 : Int32) < nN g.2 ↔ 200 < g.2 := nN_lt (a := 200) (by decide) (by omega)
    by_cases c3 : 200 < g.2
    · rw [if_pos (e200.mpr c3), if_pos (Or.inl c3)]; exact out 4 (fun e => absurd e (by decide))
    rw [if_neg (mt e200.mp c3)]
    by_cases c1 : x s = 48
    · rw [if_pos (e48.mpr c1)]
      by_cases c2 : g.1 - s ≤ 1
      · rw [if_pos (e1.mpr c2), if_neg (by omega)]; exact out 2 (fun _ => by omega)
      · rw [if_neg (mt e1.mp c2), if_pos (by omega)]; exact out 4 (fun e => absurd e (by decide))
    · rw [if_neg (mt e48.mp c1), if_neg (by omega)]; exact out 2 (fun _ => by omega)
  · rw [if_neg hd, if_pos rfl, if_neg hd, h22, nN_succ]
    unfold sX12_advances_232
    have out : ∀ (k : Nat), k ≠ 2 → ∃ M1, some (sM (sM (sM N 109 4 (nN (s + 1))) 109 7 (nN (x s))) 109 5 (nN k)) = some M1 ∧ FrU M M1 ∧ TKR M1 (k, s, s + 1, x s) := fun k hk =>
      ⟨_, rfl, ((f24.tr (FrU.s (by decide))).tr (FrU.s (by decide))).tr (FrU.s (by decide)), by rw [row_o (by decide), row_o (by decide), row_o (by decide)]; exact h24, by rw [row_o (by decide), row_o (by decide), row_h]; rfl, row_h, fun _ => by rw [row_o (by decide), row_h]; rfl, fun e => absurd e hk⟩
    have eq : ∀ v, v ≤ 255 → (nN (x s) = nN v ↔ x s = v) := fun v hv => nN_eq (by omega) (by omega)
    unfold klS
    by_cases c1 : x s = 59
    · rw [if_pos (show nN (x s) = 59 from (eq 59 (by decide)).mpr c1), if_pos c1]; exact out 3 (by decide)
    rw [if_neg (show ¬ nN (x s) = 59 from mt (eq 59 (by decide)).mp c1), if_neg c1]
    by_cases c2 : x s = 112
    · rw [if_pos (show nN (x s) = 112 from (eq 112 (by decide)).mpr c2), if_pos (Or.inl c2)]; exact out 1 (by decide)
    rw [if_neg (show ¬ nN (x s) = 112 from mt (eq 112 (by decide)).mp c2)]
    by_cases c3 : x s = 99
    · rw [if_pos (show nN (x s) = 99 from (eq 99 (by decide)).mpr c3), if_pos (Or.inr (Or.inl c3))]; exact out 1 (by decide)
    rw [if_neg (show ¬ nN (x s) = 99 from mt (eq 99 (by decide)).mp c3)]
    by_cases c4 : x s = 119
    · rw [if_pos (show nN (x s) = 119 from (eq 119 (by decide)).mpr c4), if_pos (Or.inr (Or.inr c4))]; exact out 1 (by decide)
    rw [if_neg (show ¬ nN (x s) = 119 from mt (eq 119 (by decide)).mp c4), if_neg (by omega)]; exact out 4 (by decide)
