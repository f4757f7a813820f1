/-! the reference settles; ferry -/
theorem st1R : ∀ (c k fu : Nat) (M : Mem), k + c = 3 → c < fu → ∃ M1, lX12_settles_2 fu M (nN k) = lX12_settles_29 fuel M1 0 ∧ Fr1 111 M M1 ∧ ∀ e, e < 3 → gM M1 111 e = if k ≤ e then gM M 111 (3 + e) else gM M 111 e := by
  intro c
  induction c with
  | zero =>
    intro k fu M hk hf
    obtain ⟨fu, rfl⟩ := fu1 hf
    have hk : k = 3 := by omega
    refine ⟨M, ?_, Fr1.rfl, fun e he => by rw [if_neg (by omega)]⟩
    show sX12_settles_2 (lX12_settles_2 fu) M (nN k) = _
    unfold sX12_settles_2
    rw [if_pos (show (3 : Int32) ≤ nN k from (nN_le (a := 3) (by decide) (by omega)).mpr (by omega))]
  | succ c ih =>
    intro k fu M hk hf
    obtain ⟨fu, rfl⟩ := fu1 hf
    show ∃ M1, sX12_settles_2 (lX12_settles_2 fu) M (nN k) = _ ∧ _
    unfold sX12_settles_2
    rw [if_neg (show ¬ (3 : Int32) ≤ nN k from fun h => by have := (nN_le (a := 3) (by decide) (by omega)).mp h; omega), show (3 : Int32) + nN k = nN (3 + k) from nN_add 3 k, if_pos ((nN_inB (by omega)).mpr (by omega)), if_pos ((nN_inB (by omega)).mpr (by omega)), nN_cl (by omega), nN_cl (by omega), nN_succ]
    obtain ⟨M1, a1, a2, a3⟩ := ih (k + 1) fu (sM M 111 k (gM M 111 (3 + k))) (by omega) (by omega)
    refine ⟨M1, a1, (Fr1.s 111 k _ M).tr a2, fun e he => ?_⟩
    rw [a3 e he]
    by_cases h1 : e = k
    · subst h1; rw [if_neg (by omega), row_h, if_pos (by omega)]
    · by_cases h2 : k + 1 ≤ e
      · rw [if_pos h2, if_pos (by omega), row_o (by omega)]
      · rw [if_neg h2, row_o h1, if_neg (by omega)]
theorem st2R : ∀ (c k fu : Nat) (M : Mem), k + c = 6 → c < fu → ∃ M1, lX12_settles_29 fu M (nN k) = lX12_settles_88 fuel M1 0 ∧ (∀ i, i ≠ 112 → i ≠ 113 → i ≠ 114 → gM M1 i = gM M i) ∧ (∀ i, gL M1 i = gL M i) ∧ ∀ e, e < 6 → (gM M1 112 e = if k ≤ e then gM M 112 (6 + e) else gM M 112 e) ∧ (gM M1 113 e = if k ≤ e then gM M 113 (6 + e) else gM M 113 e) ∧ (gM M1 114 e = if k ≤ e then gM M 114 (6 + e) else gM M 114 e) := by
  intro c
  induction c with
  | zero =>
    intro k fu M hk hf
    obtain ⟨fu, rfl⟩ := fu1 hf
    have hk : k = 6 := by omega
    refine ⟨M, ?_, fun _ _ _ _ => rfl, fun _ => rfl, fun e he => by rw [if_neg (by omega), if_neg (by omega), if_neg (by omega)]; exact ⟨rfl, rfl, rfl⟩⟩
    show sX12_settles_29 (lX12_settles_29 fu) M (nN k) = _
    unfold sX12_settles_29
    rw [if_pos (show (6 : Int32) ≤ nN k from (nN_le (a := 6) (by decide) (by omega)).mpr (by omega))]
  | succ c ih =>
    intro k fu M hk hf
    obtain ⟨fu, rfl⟩ := fu1 hf
    show ∃ M1, sX12_settles_29 (lX12_settles_29 fu) M (nN k) = _ ∧ _
    unfold sX12_settles_29
    rw [if_neg (show ¬ (6 : Int32) ≤ nN k from fun h => by have := (nN_le (a := 6) (by decide) (by omega)).mp h; omega), show (6 : Int32) + nN k = nN (6 + k) from nN_add 6 k, if_pos ((nN_inB (by omega)).mpr (by omega)), if_pos ((nN_inB (by omega)).mpr (by omega)), nN_cl (show k < 2147483648 by omega), nN_cl (show 6 + k < 2147483648 by omega), nN_succ, g_si (show (113 : Nat) ≠ 112 by decide), g_si (show (114 : Nat) ≠ 113 by decide), g_si (show (114 : Nat) ≠ 112 by decide)]
    obtain ⟨M1, a1, a2, a3, a4⟩ := ih (k + 1) fu (sM (sM (sM M 112 k (gM M 112 (6 + k))) 113 k (gM M 113 (6 + k))) 114 k (gM M 114 (6 + k))) (by omega) (by omega)
    refine ⟨M1, a1, fun i h1 h2 h3 => by rw [a2 i h1 h2 h3, (sM_other _ 114 _ _ i h3).1, (sM_other _ 113 _ _ i h2).1, (sM_other _ 112 _ _ i h1).1], fun i => a3 i, fun e he => ?_⟩
    obtain ⟨b1, b2, b3⟩ := a4 e he
    rw [g_si (show (112 : Nat) ≠ 114 by decide), g_si (show (112 : Nat) ≠ 113 by decide), g_si (show (112 : Nat) ≠ 114 by decide), g_si (show (112 : Nat) ≠ 113 by decide), row_o (show 6 + e ≠ k by omega)] at b1
    rw [g_si (show (113 : Nat) ≠ 114 by decide), g_si (show (113 : Nat) ≠ 114 by decide), row_o (show 6 + e ≠ k by omega), g_si (show (113 : Nat) ≠ 112 by decide)] at b2
    rw [row_o (show 6 + e ≠ k by omega), g_si (show (114 : Nat) ≠ 113 by decide), g_si (show (114 : Nat) ≠ 112 by decide)] at b3
    rw [b1, b2, b3]
    by_cases h1 : e = k
    · subst h1; rw [if_neg (show ¬ e + 1 ≤ e by omega), if_neg (show ¬ e + 1 ≤ e by omega), if_neg (show ¬ e + 1 ≤ e by omega), if_pos (Nat.le_refl e), if_pos (Nat.le_refl e), if_pos (Nat.le_refl e), row_h, row_h, row_h]; exact ⟨rfl, rfl, rfl⟩
    · by_cases h2 : k + 1 ≤ e
      · rw [if_pos h2, if_pos h2, if_pos h2, if_pos (show k ≤ e by omega), if_pos (show k ≤ e by omega), if_pos (show k ≤ e by omega)]; exact ⟨rfl, rfl, rfl⟩
      · rw [if_neg h2, if_neg h2, if_neg h2, row_o h1, row_o h1, row_o h1, g_si (show (113 : Nat) ≠ 112 by decide), g_si (show (114 : Nat) ≠ 113 by decide), g_si (show (114 : Nat) ≠ 112 by decide), if_neg (show ¬ k ≤ e by omega), if_neg (show ¬ k ≤ e by omega), if_neg (show ¬ k ≤ e by omega)]; exact ⟨rfl, rfl, rfl⟩
theorem st3R : ∀ (c k fu : Nat) (M : Mem), k + c = 4 → c < fu → ∃ M1, lX12_settles_88 fu M (nN k) = lX12_settles_129 fuel M1 0 ∧ (∀ i, i ≠ 115 → i ≠ 116 → gM M1 i = gM M i) ∧ (∀ i, gL M1 i = gL M i) ∧ ∀ e, e < 4 → (gM M1 115 e = if k ≤ e then gM M 115 (4 + e) else gM M 115 e) ∧ (gM M1 116 e = if k ≤ e then gM M 116 (4 + e) else gM M 116 e) := by
  intro c
  induction c with
  | zero =>
    intro k fu M hk hf
    obtain ⟨fu, rfl⟩ := fu1 hf
    have hk : k = 4 := by omega
    refine ⟨M, ?_, fun _ _ _ => rfl, fun _ => rfl, fun e he => by rw [if_neg (by omega), if_neg (by omega)]; exact ⟨rfl, rfl⟩⟩
    show sX12_settles_88 (lX12_settles_88 fu) M (nN k) = _
    unfold sX12_settles_88
    rw [if_pos (show (4 : Int32) ≤ nN k from (nN_le (a := 4) (by decide) (by omega)).mpr (by omega))]
  | succ c ih =>
    intro k fu M hk hf
    obtain ⟨fu, rfl⟩ := fu1 hf
    show ∃ M1, sX12_settles_88 (lX12_settles_88 fu) M (nN k) = _ ∧ _
    unfold sX12_settles_88
    rw [if_neg (show ¬ (4 : Int32) ≤ nN k from fun h => by have := (nN_le (a := 4) (by decide) (by omega)).mp h; omega), show (4 : Int32) + nN k = nN (4 + k) from nN_add 4 k, if_pos ((nN_inB (by omega)).mpr (by omega)), if_pos ((nN_inB (by omega)).mpr (by omega)), nN_cl (show k < 2147483648 by omega), nN_cl (show 4 + k < 2147483648 by omega), nN_succ, g_si (show (116 : Nat) ≠ 115 by decide)]
    obtain ⟨M1, a1, a2, a3, a4⟩ := ih (k + 1) fu (sM (sM M 115 k (gM M 115 (4 + k))) 116 k (gM M 116 (4 + k))) (by omega) (by omega)
    refine ⟨M1, a1, fun i h1 h2 => by rw [a2 i h1 h2, (sM_other _ 116 _ _ i h2).1, (sM_other _ 115 _ _ i h1).1], fun i => a3 i, fun e he => ?_⟩
    obtain ⟨b1, b2⟩ := a4 e he
    rw [g_si (show (115 : Nat) ≠ 116 by decide), g_si (show (115 : Nat) ≠ 116 by decide), row_o (show 4 + e ≠ k by omega)] at b1
    rw [row_o (show 4 + e ≠ k by omega), g_si (show (116 : Nat) ≠ 115 by decide)] at b2
    rw [b1, b2]
    by_cases h1 : e = k
    · subst h1; rw [if_neg (show ¬ e + 1 ≤ e by omega), if_neg (show ¬ e + 1 ≤ e by omega), if_pos (Nat.le_refl e), if_pos (Nat.le_refl e), row_h, row_h]; exact ⟨rfl, rfl⟩
    · by_cases h2 : k + 1 ≤ e
      · rw [if_pos h2, if_pos h2, if_pos (show k ≤ e by omega), if_pos (show k ≤ e by omega)]; exact ⟨rfl, rfl⟩
      · rw [if_neg h2, if_neg h2, row_o h1, row_o h1, g_si (show (116 : Nat) ≠ 115 by decide), if_neg (show ¬ k ≤ e by omega), if_neg (show ¬ k ≤ e by omega)]; exact ⟨rfl, rfl⟩
theorem st4R : ∀ (c k fu : Nat) (M : Mem), k + c = 15 → c < fu → ∃ M1, lX12_settles_129 fu M (nN k) = sX12_settles_148 M1 ∧ Fr1 117 M M1 ∧ ∀ e, e < 15 → gM M1 117 e = if k ≤ e then 0 else gM M 117 e := by
  intro c
  induction c with
  | zero =>
    intro k fu M hk hf
    obtain ⟨fu, rfl⟩ := fu1 hf
    have hk : k = 15 := by omega
    refine ⟨M, ?_, Fr1.rfl, fun e he => by rw [if_neg (by omega)]⟩
    show sX12_settles_129 (lX12_settles_129 fu) M (nN k) = _
    unfold sX12_settles_129
    rw [if_pos (show (15 : Int32) ≤ nN k from (nN_le (a := 15) (by decide) (by omega)).mpr (by omega))]
  | succ c ih =>
    intro k fu M hk hf
    obtain ⟨fu, rfl⟩ := fu1 hf
    show ∃ M1, sX12_settles_129 (lX12_settles_129 fu) M (nN k) = _ ∧ _
    unfold sX12_settles_129
    rw [if_neg (show ¬ (15 : Int32) ≤ nN k from fun h => by have := (nN_le (a := 15) (by decide) (by omega)).mp h; omega), if_pos ((nN_inB (by omega)).mpr (by omega)), nN_cl (by omega), nN_succ]
    obtain ⟨M1, a1, a2, a3⟩ := ih (k + 1) fu (sM M 117 k 0) (by omega) (by omega)
    refine ⟨M1, a1, (Fr1.s 117 k _ M).tr a2, fun e he => ?_⟩
    rw [a3 e he]
    by_cases h1 : e = k
    · subst h1; rw [if_neg (by omega), row_h, if_pos (by omega)]
    · by_cases h2 : k + 1 ≤ e
      · rw [if_pos h2, if_pos (by omega)]
      · rw [if_neg h2, row_o h1, if_neg (by omega)]
def SetR (M M1 : Mem) (V : FV) : Prop := FD M M1 ∧ gL M1 109 = gL M 109 ∧ FR M1 V ∧ RR A0 (gM M1 117) ∧ gM M1 109 3 = nN 0 ∧ gM M1 109 24 = nN 0 ∧ gM M1 109 21 = nN 0 ∧ gM M1 120 0 = 0 ∧ gM M1 120 1 = 0
theorem settleR {M : Mem} {V : FV} {wt : Nat} (hV : VOk V) (h : BR M V wt) : ∃ M1, fX12_settles M = some M1 ∧ SetR M M1 V := by
  obtain ⟨M1, a1, a2, a3⟩ := st1R 3 0 fuel M rfl (fuel_ge (by decide))
  obtain ⟨M2, b1, b2, b3, b4⟩ := st2R 6 0 fuel M1 rfl (fuel_ge (by decide))
  obtain ⟨M3, c1, c2, c3, c4⟩ := st3R 4 0 fuel M2 rfl (fuel_ge (by decide))
  obtain ⟨M4, d1, d2, d3⟩ := st4R 15 0 fuel M3 rfl (fuel_ge (by decide))
  have hn := hV.1
  have hc := hV.2.1
  unfold sX12_settles_148 at d1
  have fr : ∀ i, (i < 111 ∨ 118 ≤ i) → gM M4 i = gM M i := fun i hi => by rw [d2.1 i (by omega), c2 i (by omega) (by omega), b2 i (by omega) (by omega) (by omega), a2.1 i (by omega)]
  have fL : ∀ i, gL M4 i = gL M i := fun i => by rw [d2.2 i, c3 i, b3 i, a2.2 i]
  have e111 : ∀ e, e < 3 → gM M4 111 e = gM M 111 (3 + e) := fun e he => by rw [d2.1 111 (by decide), c2 111 (by decide) (by decide), b2 111 (by decide) (by decide) (by decide), a3 e he, if_pos (Nat.zero_le _)]
  have e112 : ∀ e, e < 6 → gM M4 112 e = gM M 112 (6 + e) ∧ gM M4 113 e = gM M 113 (6 + e) ∧ gM M4 114 e = gM M 114 (6 + e) := fun e he => by
    obtain ⟨x1, x2, x3⟩ := b4 e he
    rw [if_pos (Nat.zero_le _)] at x1 x2 x3
    rw [d2.1 112 (by decide), d2.1 113 (by decide), d2.1 114 (by decide), c2 112 (by decide) (by decide), c2 113 (by decide) (by decide), c2 114 (by decide) (by decide), x1, x2, x3, a2.1 112 (by decide), a2.1 113 (by decide), a2.1 114 (by decide)]
    exact ⟨rfl, rfl, rfl⟩
  have e115 : ∀ e, e < 4 → gM M4 115 e = gM M 115 (4 + e) ∧ gM M4 116 e = gM M 116 (4 + e) := fun e he => by
    obtain ⟨x1, x2⟩ := c4 e he
    rw [if_pos (Nat.zero_le _)] at x1 x2
    rw [d2.1 115 (by decide), d2.1 116 (by decide), x1, x2, b2 115 (by decide) (by decide) (by decide), b2 116 (by decide) (by decide) (by decide), a2.1 115 (by decide), a2.1 116 (by decide)]
    exact ⟨rfl, rfl⟩
  have e117 : ∀ e, e < 15 → gM M4 117 e = 0 := fun e he => by rw [d3 e he, if_pos (Nat.zero_le _)]
  refine ⟨_, a1.trans (b1.trans (c1.trans d1)), ?_⟩
  have gO : ∀ i, i ≠ 109 → i ≠ 120 → gM (sM (sM (sM (sM (sM M4 109 3 0) 109 24 0) 109 21 0) 120 0 0) 120 1 0) i = gM M4 i := fun i h1 h2 => by rw [(sM_other _ 120 _ _ i h2).1, (sM_other _ 120 _ _ i h2).1, (sM_other _ 109 _ _ i h1).1, (sM_other _ 109 _ _ i h1).1, (sM_other _ 109 _ _ i h1).1]
  refine ⟨fun i hi => ⟨by rw [gO i (by omega) (by omega), fr i (by omega)], fL i⟩, fL 109, ?_, ?_, ?_, ?_, ?_, ?_, row_h⟩
  · unfold FR
    rw [gO 111 (by decide) (by decide), gO 112 (by decide) (by decide), gO 113 (by decide) (by decide), gO 114 (by decide) (by decide), gO 115 (by decide) (by decide), gO 116 (by decide) (by decide)]
    refine ⟨(e111 0 (by decide)).trans h.1, (e111 1 (by decide)).trans h.2.1, (e111 2 (by decide)).trans h.2.2.1, fun p hp => ?_, fun k hk => ?_⟩
    · have := e112 p (by omega); rw [this.1, this.2.1, this.2.2]; exact h.2.2.2.2.1 p hp
    · have := e115 k (by omega); rw [this.1, this.2]; exact h.2.2.2.2.2 k hk
  · rw [gO 117 (by decide) (by decide)]
    exact ⟨e117 0 (by decide), e117 1 (by decide), e117 2 (by decide), fun p hp => ⟨e117 _ (by omega), e117 _ (by omega)⟩⟩
  · rw [g_si (by decide), g_si (by decide), row_o (by decide), row_o (by decide), row_h]; rfl
  · rw [g_si (by decide), g_si (by decide), row_o (by decide), row_h]; rfl
  · rw [g_si (by decide), g_si (by decide), row_h]; rfl
  · rw [row_o (by decide), row_h]
theorem FrV.d {M M' : Mem} (h : FrV M M') : FD M M' := fun i hi => ⟨h.1 i (by omega) (by omega), h.2.2.1 i⟩
def OutQ (M M1 : Mem) (r : Int32) : Sum Nat (FV × Nat) → Prop
  | .inl s => r = -10 - nN s ∧ FrV M M1
  | .inr q => r = nN q.2 ∧ SetR M M1 q.1
theorem OutQ.v {M M' M1 : Mem} {r : Int32} {o : Sum Nat (FV × Nat)} (f : FrV M M') (h : OutQ M' M1 r o) : OutQ M M1 r o := by
  cases o with
  | inl s => exact ⟨h.1, f.tr h.2⟩
  | inr q => exact ⟨h.1, f.d.tr h.2.1, h.2.2.1.trans (f.2.2.1 109), h.2.2.2⟩
section FERRY
variable {l : Nat} {x : Nat → Nat}
theorem badL {M : Mem} {s fu : Nat} {y : Int32} (h : StR l M (.inl s)) (hf : 0 < fu) : lX12_ferry_48 fu M y = some (M, -10 - nN s) := by
  obtain ⟨fu, rfl⟩ := fu1 hf
  show sX12_ferry_48 (lX12_ferry_48 fu) M y = _
  unfold sX12_ferry_48 sX12_ferry_168
  rw [wellN h.1 h.2, bI_some, if_pos rfl, wellN h.1 h.2, bI_some, if_pos rfl, h.1]
theorem bad144 {M : Mem} {s fu : Nat} {y : Int32} (h : StR l M (.inl s)) (hf : 0 < fu) : sX12_ferry_144 (lX12_ferry_48 fu) M y = some (M, -10 - nN s) := by
  unfold sX12_ferry_144 sX12_ferry_158
  rw [takB h, takB h, bI_some, badL h hf]
  split <;> rfl
theorem bad127 {M : Mem} {t : TK} {fu : Nat} {y : Int32} (hl : l ≤ 200) (h : StR l M (.inr t)) (hf : 0 < fu) : ∃ M1 r, sX12_ferry_127 (lX12_ferry_48 fu) M y = some (M1, r) ∧ OutQ M M1 r (.inl (tS t)) := by
  unfold sX12_ferry_127 sX12_ferry_128
  have a := takN hl h
  rw [a.1, bI_some, wellN a.2.1 a.2.2, bI_some, if_pos rfl, bad144 a.2 hf]
  exact ⟨_, _, rfl, rfl, FrW.s.v⟩
theorem parR (hl : l ≤ 200) (hx : ∀ i, i < l → x i ≤ 255) : ∀ (c n fu : Nat) (V : FV) (wt : Nat) (t : TK) (M : Mem), c + n = 200 → c + 1 < fu → TR M l x → StR l M (.inr t) → (tK t ≠ 0 → 2 * n + 1 ≤ tN t) → 2 * n ≤ tN t → BR M V wt → VOk V → wt ≤ 1 → ∃ M1 r, lX12_ferry_48 fu M (nN n) = some (M1, r) ∧ OutQ M M1 r (parS l x c V wt t n) := by
  intro c
  induction c with
  | zero =>
    intro n fu V wt t M hn hf hT hS hb hb2
    have := hS.2.2.2.1
    omega
  | succ c ih =>
    intro n fu V wt t M hn hf hT hS hb hb2 hF hV hw
    obtain ⟨fu, rfl⟩ := fu1 hf
    have hn6 := hV.1
    have hc4 := hV.2.1
    show ∃ M1 r, sX12_ferry_48 (lX12_ferry_48 fu) M (nN n) = some (M1, r) ∧ _
    unfold sX12_ferry_48 sX12_ferry_168 parS
    rw [wellY hS.1, bI_some, if_neg (by decide), hS.2.1.2.2.1]
    by_cases k0 : tK t = 0
    · rw [if_pos (show nN (tK t) = 0 by rw [k0]; rfl), if_pos k0, wellY hS.1, bI_some, if_neg (by decide)]
      obtain ⟨M1, a1, a2⟩ := settleR hV hF
      rw [a1, bV_some]
      exact ⟨M1, _, rfl, rfl, a2⟩
    rw [if_neg (show ¬ nN (tK t) = 0 from fun e => k0 ((nN_eq (b := 0) (by have := hS.2.2.2.2.1; omega) (by decide)).mp e)), if_neg k0]
    have ht : TB l t := ⟨hS.2.2.1, hS.2.2.2.1⟩
    have hI := item_ok (x := x) hV hw ht
    by_cases k1 : tK t = 1
    · have hv := hS.2.2.2.2.2 k1
      have vv : tV t < 2147483648 := by omega
      have eqv : ∀ v, v < 2147483648 → (nN (tV t) = nN v ↔ tV t = v) := fun v hv => nN_eq vv hv
      rw [if_pos (show nN (tK t) = 1 by rw [k1]; rfl), hS.2.1.2.2.2.1 k0]
      have go : (∃ M12, fX12_takes M 1 = some (M12, nN (tV t)) ∧ ∃ M1, FrV M M12 ∧ fX12_readsItem M12 (nN (tV t)) = some M1 ∧ gM M12 109 8 = -1 ∧ FrV M12 M1 ∧ OutR l x M1 (itemS l x V wt t)) → ∃ M1 r, sX12_ferry_128 (lX12_ferry_48 fu) M (nN n) 1 = some (M1, r) ∧ OutQ M M1 r (match itemS l x V wt t with
          | .inl s => .inl s
          | .inr q => if tK (tk l x q.2.2) = 3 then parS l x c q.1 q.2.1 (nx l x (tk l x q.2.2)) (n + 1) else .inl (tS (tk l x q.2.2))) := by
        rintro ⟨M12, a1, M1, a2, a3, a4, a5, a6⟩
        unfold sX12_ferry_128
        rw [a1, bI_some, wellY a4, bI_some, if_neg (by decide), a3, bV_some]
        have f1 := a2.tr a5
        cases hi : itemS l x V wt t with
        | inl s =>
          rw [hi] at a6
          rw [bad144 (l := l) a6 (by omega)]
          exact ⟨M1, _, rfl, rfl, f1⟩
        | inr q =>
          rw [hi] at a6 hI
          show ∃ M1 r, _ ∧ OutQ M M1 r (if tK (tk l x q.2.2) = 3 then parS l x c q.1 q.2.1 (nx l x (tk l x q.2.2)) (n + 1) else .inl (tS (tk l x q.2.2)))
          obtain ⟨s1, hB⟩ := a6
          have bb := tk_b l x q.2.2 hI.2.2.2
          generalize tk l x q.2.2 = t2 at s1 bb ⊢
          unfold sX12_ferry_144 sX12_ferry_158
          rw [s1.2.1.2.2.1]
          by_cases k3 : tK t2 = 3
          · rw [if_pos (show nN (tK t2) = 3 by rw [k3]; rfl), if_pos k3]
            obtain ⟨M3, d1, d2, d3⟩ := takY hl hx (hT.v f1) s1 (by omega)
            have bd := tk_b l x (tN t2) bb.2.2.1
            rw [d1, bI_some, nN_succ]
            have hlt := bb.2.2.2.1 (by omega)
            have hb' := hb k0
            have hq := hI.2.2.1
            obtain ⟨M4, r4, e1, e2⟩ := ih (n + 1) fu q.1 q.2.1 (nx l x t2) M3 (by omega) (by omega) ((hT.v f1).w d2) d3 (fun e => by have := bd.2.2.2.1 e; show 2 * (n + 1) + 1 ≤ tN (tk l x (tN t2)); omega) (by show 2 * (n + 1) ≤ tN (tk l x (tN t2)); omega) (hB.w d2) hI.1 hI.2.1
            exact ⟨M4, r4, e1, e2.v (f1.tr d2.v)⟩
          · rw [if_neg (show ¬ nN (tK t2) = 3 from fun e => k3 ((nN_eq (b := 3) (by have := bb.2.2.2.2.1; omega) (by decide)).mp e)), if_neg k3]
            have a := takN hl s1
            rw [a.1, bI_some, badL a.2 (by omega)]
            exact ⟨_, _, rfl, rfl, f1.tr FrW.s.v⟩
      obtain ⟨M12, a1, a2, a3⟩ := takY hl hx hT hS k0
      have hT2 := hT.w a2
      have hB2 := hF.w a2
      by_cases v1 : tV t = 112
      · rw [if_pos (show nN (tV t) = 112 by rw [v1]; rfl), hF.1]
        by_cases n6 : 6 ≤ vN V
        · rw [if_pos (show (6 : Int32) ≤ nN (vN V) from (nN_le (a := 6) (by decide) (by omega)).mpr n6)]
          have : itemS l x V wt t = .inl (tS t) := by unfold itemS; rw [if_pos k1, if_pos v1, if_pos n6]
          rw [this]
          exact bad127 hl hS (by omega)
        · rw [if_neg (show ¬ (6 : Int32) ≤ nN (vN V) from fun e => n6 ((nN_le (a := 6) (by decide) (by omega)).mp e))]
          obtain ⟨M1, b1, b2, b3⟩ := pasR hl hx hT2 a3 hB2 (by omega)
          refine go ⟨M12, a1, M1, a2.v, by rw [v1]; exact b1, a3.1, b2, ?_⟩
          unfold itemS; rw [if_pos k1, if_pos v1, if_neg n6]; exact b3
      · rw [if_neg (show ¬ nN (tV t) = 112 from fun e => v1 ((eqv 112 (by decide)).mp e))]
        by_cases v2 : tV t = 99
        · rw [if_pos (show nN (tV t) = 99 by rw [v2]; rfl), hF.2.2.1]
          by_cases n4 : 4 ≤ vC V
          · rw [if_pos (show (4 : Int32) ≤ nN (vC V) from (nN_le (a := 4) (by decide) (by omega)).mpr n4)]
            have : itemS l x V wt t = .inl (tS t) := by unfold itemS; rw [if_pos k1, if_neg v1, if_pos v2, if_pos n4]
            rw [this]
            exact bad127 hl hS (by omega)
          · rw [if_neg (show ¬ (4 : Int32) ≤ nN (vC V) from fun e => n4 ((nN_le (a := 4) (by decide) (by omega)).mp e))]
            obtain ⟨M1, b1, b2, b3⟩ := curR hl hx hT2 a3 hB2 hV (by omega)
            refine go ⟨M12, a1, M1, a2.v, by rw [v2]; exact b1, a3.1, b2, ?_⟩
            unfold itemS; rw [if_pos k1, if_neg v1, if_pos v2, if_neg n4]; exact b3
        · rw [if_neg (show ¬ nN (tV t) = 99 from fun e => v2 ((eqv 99 (by decide)).mp e)), hF.2.2.2.1]
          have v3 : tV t = 119 := by omega
          by_cases w0 : wt = 0
          · rw [if_pos (show nN wt = 0 by rw [w0]; rfl)]
            obtain ⟨M1, b1, b2, b3⟩ := widR hl hx hT2 a3 hB2
            refine go ⟨M12, a1, M1, a2.v, by rw [v3]; exact b1, a3.1, b2, ?_⟩
            unfold itemS; rw [if_pos k1, if_neg v1, if_neg v2, if_pos w0]; exact b3
          · rw [if_neg (show ¬ nN wt = 0 from fun e => w0 ((nN_eq (b := 0) (by omega) (by decide)).mp e))]
            have : itemS l x V wt t = .inl (tS t) := by unfold itemS; rw [if_pos k1, if_neg v1, if_neg v2, if_neg w0]
            rw [this]
            exact bad127 hl hS (by omega)
    · rw [if_neg (show ¬ nN (tK t) = 1 from fun e => k1 ((nN_eq (b := 1) (by have := hS.2.2.2.2.1; omega) (by decide)).mp e))]
      have : itemS l x V wt t = .inl (tS t) := by unfold itemS; rw [if_neg k1]
      rw [this]
      exact bad127 hl hS (by omega)
theorem readR {M : Mem} (hl : l ≤ 200) (hx : ∀ i, i < l → x i ≤ 255) (hT : TR (sM M 109 0 0) l x) : ∃ M1 r, fX12_ferry M = some (M1, r) ∧ OutQ (sM M 109 0 0) M1 r (ferS l x) := by
  unfold fX12_ferry
  generalize sM M 109 0 0 = M at hT ⊢
  have f1 : FrV M (sM (sM (sM (sM (sM (sM M 109 8 (-1)) 109 4 0) 111 3 0) 111 4 60) 111 5 0) 109 15 0) := ((((FrW.s.v.tr (FrU.s (by decide)).w.v).tr (FrV.s (by decide))).tr (FrV.s (by decide))).tr (FrV.s (by decide))).tr (FrV.s (by decide))
  have h8 : gM (sM (sM (sM (sM (sM (sM M 109 8 (-1)) 109 4 0) 111 3 0) 111 4 60) 111 5 0) 109 15 0) 109 8 = -1 := by rw [row_o (by decide), g_si (by decide), g_si (by decide), g_si (by decide), row_o (by decide), row_h]
  have h4 : gM (sM (sM (sM (sM (sM (sM M 109 8 (-1)) 109 4 0) 111 3 0) 111 4 60) 111 5 0) 109 15 0) 109 4 = nN 0 := by rw [row_o (by decide), g_si (by decide), g_si (by decide), g_si (by decide), row_h]; rfl
  have hB : BR (sM (sM (sM (sM (sM (sM M 109 8 (-1)) 109 4 0) 111 3 0) 111 4 60) 111 5 0) 109 15 0) V0 0 := by
    refine ⟨?_, ?_, ?_, row_h, fun p hp => absurd hp (Nat.not_lt_zero _), fun p hp => absurd hp (Nat.not_lt_zero _)⟩
    · rw [g_si (by decide), row_o (by decide), row_o (by decide), row_h]; rfl
    · rw [g_si (by decide), row_o (by decide), row_h]; rfl
    · rw [g_si (by decide), row_h]; rfl
  generalize sM (sM (sM (sM (sM (sM M 109 8 (-1)) 109 4 0) 111 3 0) 111 4 60) 111 5 0) 109 15 0 = N at f1 h8 h4 hB ⊢
  obtain ⟨M1, a1, a2, a3⟩ := tokR hl hx (hT.v f1) (Nat.zero_le _) h4
  rw [a1, bV_some]
  have b := tk_b l x 0 (Nat.zero_le _)
  obtain ⟨M2, r, c1, c2⟩ := parR hl hx 200 0 fuel V0 0 (tk l x 0) M1 rfl (fuel_ge (by decide)) ((hT.v f1).w a2.w) ⟨(a2.2.1 8 (by decide) (by decide) (by decide) (by decide)).trans h8, a3, b.2.1, b.2.2.1, b.2.2.2.2.1, b.2.2.2.2.2⟩ (fun e => by have := b.2.2.2.1 e; omega) (Nat.zero_le _) (hB.w a2.w) V0_ok (Nat.zero_le _)
  exact ⟨M2, r, c1, c2.v (f1.tr a2.w.v)⟩
def PaOk : Sum Nat (FV × Nat) → Prop
  | .inl s => s ≤ 200
  | .inr q => VOk q.1 ∧ q.2 ≤ 200
theorem par_ok (hl : l ≤ 200) : ∀ (c n : Nat) (V : FV) (wt : Nat) (t : TK), c + n = 200 → VOk V → wt ≤ 1 → TB l t → PaOk (parS l x c V wt t n)
  | 0, n, V, wt, t, _, _, _, _ => Nat.zero_le _
  | c + 1, n, V, wt, t, hn, hV, hw, ht => by
    unfold parS
    split
    · exact ⟨hV, by omega⟩
    · have hI := item_ok (x := x) hV hw ht
      cases hi : itemS l x V wt t with
      | inl s => rw [hi] at hI; exact Nat.le_trans hI hl
      | inr q =>
        rw [hi] at hI
        have bb := tk_b l x q.2.2 hI.2.2.2
        show PaOk (if tK (tk l x q.2.2) = 3 then parS l x c q.1 q.2.1 (nx l x (tk l x q.2.2)) (n + 1) else .inl (tS (tk l x q.2.2)))
        split
        · exact par_ok hl c (n + 1) q.1 q.2.1 _ (by omega) hI.1 hI.2.1 (nx_b bb.2.2.1).1
        · show tS (tk l x q.2.2) ≤ 200
          omega
theorem fer_ok (hl : l ≤ 200) : PaOk (ferS l x) := by
  have b := tk_b l x 0 (Nat.zero_le _)
  exact par_ok hl 200 0 V0 0 _ rfl V0_ok (Nat.zero_le _) ⟨b.2.1, b.2.2.1⟩
end FERRY
