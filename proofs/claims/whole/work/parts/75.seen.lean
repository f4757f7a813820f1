/-! seen, forget, keep, back, rate -/
theorem sh1m {n : Nat} (h : n ≤ 6) : (1 : Int32) <<< (nN n &&& 31) - 1 = nN (2 ^ n - 1) := (show ∀ n, n < 7 → (1 : Int32) <<< (nN n &&& 31) - 1 = nN (2 ^ n - 1) by decide +kernel) n (by omega)
theorem p64 {n : Nat} (h : n ≤ 6) : 2 ^ n ≤ 64 := Nat.pow_le_pow_right (show 0 < 2 by decide) h
theorem IX.setS {M M' : Mem} {S : ST} {n : Nat} {k o : Nat → Nat} (h : IX M S) (e : ∀ i, i ≠ 0 → i ≠ 55 → i ≠ 56 → gM M' i = gM M i) (e1 : ∀ j, j ≠ 9 → gM M' 0 j = gM M 0 j) (eL : gL M' 75 = gL M 75) (hS : SX M' n k o) : IX M' (setS S n k o) :=
  ⟨told_mv h.1 (e1 1 (by decide)) (e1 2 (by decide)), h.2.1.mv (e1 1 (by decide)) (fun i h1 h2 => e i (by omega) (by omega) (by omega)), h.2.2.1.mv (fun i hi => e i (by omega) (by omega) (by omega)), h.2.2.2.1.mv (e1 6 (by decide)) (fun i h1 h2 => e i (by omega) (by omega) (by omega)), hS, h.2.2.2.2.2.1.mv (by rw [e 1 (by decide) (by decide) (by decide)]) (e 2 (by decide) (by decide) (by decide)), eL.trans h.2.2.2.2.2.2⟩
theorem IR.setS {M M' : Mem} {S : ST} {n : Nat} {k o : Nat → Nat} (h : IR M S) (e : ∀ i, i ≠ 109 → i ≠ 122 → i ≠ 123 → gM M' i = gM M i) (e1 : ∀ j, j ≠ 24 → gM M' 109 j = gM M 109 j) (eL : gL M' 109 = gL M 109) (hS : SR M' n k o) : IR M' (setS S n k o) :=
  ⟨h.1.mv (fun i h1 h2 => e i (by omega) (by omega) (by omega)), h.2.1.mv (e1 21 (by decide)) (e 121 (by decide) (by decide) (by decide)), h.2.2.1.mv (e 119 (by decide) (by decide) (by decide)) (e 120 (by decide) (by decide) (by decide)), hS, h.2.2.2.2.1.mv (e1 3 (by decide)) (e 110 (by decide) (by decide) (by decide)), eL.trans h.2.2.2.2.2⟩
theorem SOkS.setS {S : ST} {n : Nat} {k o : Nat → Nat} (h : SOkS S) (hS : SOk n k o) : SOkS (setS S n k o) := ⟨h.1, h.2.1, h.2.2.1, h.2.2.2.1, h.2.2.2.2.1, h.2.2.2.2.2.1, hS, h.2.2.2.2.2.2.2⟩
def updN (f : Nat → Nat) (i v : Nat) : Nat → Nat := fun j => if j = i then v else f j
theorem st_forget : Step fX11_forget fX12_forget := by
  refine step_c (fun S => nN (sN S)) (fun S => setS S 0 (sK S) (sO S)) (fun M S h0 h => ?_) (fun M S h0 h => ?_) (fun S h0 => h0.setS ⟨by decide, fun i hi => absurd hi (Nat.not_lt_zero _)⟩)
  · unfold fX11_forget
    rw [h.2.2.2.2.1.1]
    exact ⟨_, rfl, fun i hi => ⟨(sM_other _ 0 9 _ i (by omega)).1, rfl⟩, h.setS (fun i h1 h2 h3 => (sM_other _ 0 9 _ i h1).1) (fun j hj => row_o hj) rfl ⟨row_h, fun i hi => absurd hi (Nat.not_lt_zero _)⟩⟩
  · unfold fX12_forget
    have q0 := QR.t M 0
    have h' := h.q q0
    rw [h'.2.2.2.1.1]
    exact ⟨_, rfl, q0.d.tr (fun i hi => ⟨(sM_other _ 109 24 _ i (by omega)).1, rfl⟩), h'.setS (fun i h1 h2 h3 => (sM_other _ 109 24 _ i h1).1) (fun j hj => row_o hj) rfl ⟨row_h, fun i hi => absurd hi (Nat.not_lt_zero _)⟩⟩
abbrev seenC (x1 x2 : Int32) (S : ST) : Prop := (0 ≤ x1 ∧ x1 ≤ 60) ∧ (0 ≤ x2 ∧ x2 ≤ nN (2 ^ vN (sV S) - 1))
def seenRes (x1 x2 : Int32) (S : ST) : Int32 := if seenC x1 x2 S then (if sN S = 5 then -3 else nN (sN S + 1)) else -1
def seenNx (x1 x2 : Int32) (S : ST) : ST := if seenC x1 x2 S then (if sN S = 5 then S else setS S (sN S + 1) (updN (sK S) (sN S) x1.toNatClampNeg) (updN (sO S) (sN S) x2.toNatClampNeg)) else S
theorem seen_res {x1 x2 : Int32} {S : ST} (h : ¬ seenC x1 x2 S) : seenRes x1 x2 S = -1 ∧ seenNx x1 x2 S = S := by unfold seenRes seenNx; rw [if_neg h, if_neg h]; exact ⟨rfl, rfl⟩
theorem upd_s {k n : Nat} {f : Nat → Nat} {g g' : Nat → Int32} {v : Nat} (h : ∀ i, i < n → g i = nN (f i)) (h1 : g' n = nN v) (h2 : ∀ i, i ≠ n → g' i = g i) (hk : k < n + 1) : g' k = nN (updN f n v k) := by
  unfold updN
  by_cases e : k = n
  · subst e; rw [if_pos rfl]; exact h1
  · rw [if_neg e, h2 k e]; exact h k (by omega)
theorem st_seen (x1 x2 : Int32) : Step (fun M => fX11_seen M x1 x2) (fun M => fX12_seen M x1 x2) := by
  refine step_c (seenRes x1 x2) (seenNx x1 x2) (fun M S h0 h => ?_) (fun M S h0 h => ?_) (fun S h0 => ?_)
  · show ∃ M1, fX11_seen M x1 x2 = _ ∧ _
    have hs := h0.2.2.2.2.2.2.1.1
    have h64 := p64 h0.1.1
    by_cases hc : seenC x1 x2 S
    · obtain ⟨⟨c1, c2⟩, c3, c4⟩ := hc
      have hc : seenC x1 x2 S := ⟨⟨c1, c2⟩, c3, c4⟩
      unfold fX11_seen fX2_everybody seenRes seenNx
      rw [if_pos hc, if_pos hc, if_neg (Int32.not_lt.mpr c1), if_neg (show ¬ (60 : Int32) < x1 from Int32.not_lt.mpr c2), if_neg (Int32.not_lt.mpr c3), h.2.1.1.1, sh1m h0.1.1, bI_some, if_pos c4, h.2.2.2.2.1.1]
      obtain ⟨v, hv, rfl⟩ := to_nN_le (m := 60) (by decide) c1 c2
      obtain ⟨w, hw, rfl⟩ := to_nN_le (m := 2 ^ vN (sV S) - 1) (by omega) c3 c4
      by_cases h5 : sN S = 5
      · rw [h5, if_neg (show ¬ nN 5 < 5 by decide), if_pos rfl, if_pos rfl]; exact ⟨M, rfl, FC.rfl, h⟩
      · rw [if_neg h5, if_neg h5, if_pos (show nN (sN S) < 5 from (nN_lt (b := 5) (by omega) (by decide)).mpr (by omega)), if_pos ((nN_inB (by omega)).mpr (by omega)), nN_cl (show sN S < 2147483648 by omega), g_si (show (0 : Nat) ≠ 55 by decide), h.2.2.2.2.1.1, if_pos ((nN_inB (by omega)).mpr (by omega)), nN_cl (show sN S < 2147483648 by omega), g_si (show (0 : Nat) ≠ 56 by decide), g_si (show (0 : Nat) ≠ 55 by decide), h.2.2.2.2.1.1, nN_succ, nN_cl (show v < 2147483648 by omega), nN_cl (show w < 2147483648 by omega)]
        refine ⟨sM (sM (sM M 55 (sN S) (nN v)) 56 (sN S) (nN w)) 0 9 (nN (sN S + 1)), by rw [row_h], fun i hi => ⟨?_, rfl⟩, h.setS (fun i h1 h2 h3 => ?_) (fun j hj => ?_) rfl ⟨row_h, fun i hi => ⟨?_, ?_⟩⟩⟩
        · rw [(sM_other _ 0 9 _ i (by omega)).1, (sM_other _ 56 _ _ i (by omega)).1, (sM_other _ 55 _ _ i (by omega)).1]
        · rw [(sM_other _ 0 9 _ i (by omega)).1, (sM_other _ 56 _ _ i (by omega)).1, (sM_other _ 55 _ _ i (by omega)).1]
        · rw [row_o hj, g_si (by decide), g_si (by decide)]
        · exact upd_s (g := gM M 55) (g' := gM (sM (sM (sM M 55 (sN S) (nN v)) 56 (sN S) (nN w)) 0 9 (nN (sN S + 1))) 55) (fun j hj => (h.2.2.2.2.1.2 j hj).1) (by rw [g_si (by decide), g_si (by decide), row_h]) (fun j hj => by rw [g_si (by decide), g_si (by decide), row_o hj]) hi
        · exact upd_s (g := gM M 56) (g' := gM (sM (sM (sM M 55 (sN S) (nN v)) 56 (sN S) (nN w)) 0 9 (nN (sN S + 1))) 56) (fun j hj => (h.2.2.2.2.1.2 j hj).2) (by rw [g_si (by decide), row_h]) (fun j hj => by rw [g_si (by decide), row_o hj, g_si (by decide)]) hi
    · rw [(seen_res hc).1, (seen_res hc).2]
      unfold fX11_seen fX2_everybody
      by_cases c1 : x1 < 0
      · rw [if_pos c1]; exact ⟨M, rfl, FC.rfl, h⟩
      rw [if_neg c1]
      by_cases c2 : (60 : Int32) < x1
      · rw [if_pos c2]; exact ⟨M, rfl, FC.rfl, h⟩
      rw [if_neg c2]
      by_cases c3 : x2 < 0
      · rw [if_pos c3]; exact ⟨M, rfl, FC.rfl, h⟩
      rw [if_neg c3, h.2.1.1.1, sh1m h0.1.1, bI_some, if_neg (fun e => hc ⟨⟨Int32.not_lt.mp c1, Int32.not_lt.mp c2⟩, Int32.not_lt.mp c3, e⟩)]
      exact ⟨M, rfl, FC.rfl, h⟩
  · show ∃ M1, fX12_seen M x1 x2 = _ ∧ _
    have hs := h0.2.2.2.2.2.2.1.1
    have h64 := p64 h0.1.1
    have q0 := QR.t M 0
    have h' := h.q q0
    by_cases hc : seenC x1 x2 S
    · obtain ⟨⟨c1, c2⟩, c3, c4⟩ := hc
      have hc : seenC x1 x2 S := ⟨⟨c1, c2⟩, c3, c4⟩
      unfold fX12_seen seenRes seenNx
      rw [if_pos hc, if_pos hc, in_y c1 c2, bI_some, if_neg (by decide), h'.1.1.1, sh1m h0.1.1, in_y c3 c4, bI_some, if_neg (by decide), h'.2.2.2.1.1]
      obtain ⟨v, hv, rfl⟩ := to_nN_le (m := 60) (by decide) c1 c2
      obtain ⟨w, hw, rfl⟩ := to_nN_le (m := 2 ^ vN (sV S) - 1) (by omega) c3 c4
      by_cases h5 : sN S = 5
      · rw [h5, if_pos (show nN 5 = 5 from rfl), if_pos rfl, if_pos rfl]; exact ⟨_, rfl, q0.d, h'⟩
      · rw [if_neg h5, if_neg h5, if_neg (show ¬ nN (sN S) = 5 from fun e => h5 ((nN_eq (b := 5) (by omega) (by decide)).mp e)), if_pos ((nN_inB (by omega)).mpr (by omega)), nN_cl (show sN S < 2147483648 by omega), g_si (show (109 : Nat) ≠ 122 by decide), h'.2.2.2.1.1, if_pos ((nN_inB (by omega)).mpr (by omega)), nN_cl (show sN S < 2147483648 by omega), g_si (show (109 : Nat) ≠ 123 by decide), g_si (show (109 : Nat) ≠ 122 by decide), h'.2.2.2.1.1, nN_succ, nN_cl (show v < 2147483648 by omega), nN_cl (show w < 2147483648 by omega)]
        generalize sM M 109 0 0 = M at q0 h' ⊢
        refine ⟨sM (sM (sM M 122 (sN S) (nN v)) 123 (sN S) (nN w)) 109 24 (nN (sN S + 1)), by rw [row_h], q0.d.tr (fun i hi => ⟨?_, rfl⟩), h'.setS (fun i h1 h2 h3 => ?_) (fun j hj => ?_) rfl ⟨row_h, fun i hi => ⟨?_, ?_⟩⟩⟩
        · rw [(sM_other _ 109 _ _ i (by omega)).1, (sM_other _ 123 _ _ i (by omega)).1, (sM_other _ 122 _ _ i (by omega)).1]
        · rw [(sM_other _ 109 _ _ i (by omega)).1, (sM_other _ 123 _ _ i (by omega)).1, (sM_other _ 122 _ _ i (by omega)).1]
        · rw [row_o hj, g_si (by decide), g_si (by decide)]
        · exact upd_s (g := gM M 122) (g' := gM (sM (sM (sM M 122 (sN S) (nN v)) 123 (sN S) (nN w)) 109 24 (nN (sN S + 1))) 122) (fun j hj => (h'.2.2.2.1.2 j hj).1) (by rw [g_si (by decide), g_si (by decide), row_h]) (fun j hj => by rw [g_si (by decide), g_si (by decide), row_o hj]) hi
        · exact upd_s (g := gM M 123) (g' := gM (sM (sM (sM M 122 (sN S) (nN v)) 123 (sN S) (nN w)) 109 24 (nN (sN S + 1))) 123) (fun j hj => (h'.2.2.2.1.2 j hj).2) (by rw [g_si (by decide), row_h]) (fun j hj => by rw [g_si (by decide), row_o hj, g_si (by decide)]) hi
    · rw [(seen_res hc).1, (seen_res hc).2]
      unfold fX12_seen
      by_cases c1 : 0 ≤ x1 ∧ x1 ≤ 60
      · rw [in_y c1.1 c1.2, bI_some, if_neg (by decide), h'.1.1.1, sh1m h0.1.1, in_n (fun e => hc ⟨c1, e⟩), bI_some, if_pos rfl]
        exact ⟨_, rfl, q0.d, h'⟩
      · rw [in_n c1, bI_some, if_pos rfl]; exact ⟨_, rfl, q0.d, h'⟩
  · unfold seenNx
    split
    · rename_i hc
      split
      · exact h0
      · rename_i h5
        have hs := h0.2.2.2.2.2.2.1
        have h64 := p64 h0.1.1
        obtain ⟨⟨c1, c2⟩, c3, c4⟩ := hc
        obtain ⟨v, hv, rfl⟩ := to_nN_le (m := 60) (by decide) c1 c2
        obtain ⟨w, hw, rfl⟩ := to_nN_le (m := 2 ^ vN (sV S) - 1) (by omega) c3 c4
        rw [nN_cl (show v < 2147483648 by omega), nN_cl (show w < 2147483648 by omega)]
        refine h0.setS ⟨by have := hs.1; omega, fun i hi => ?_⟩
        unfold updN
        split
        · exact ⟨hv, by omega⟩
        · exact hs.2 i (by omega)
    · exact h0
/-! keep, back -/
theorem IX.setK {M M' : Mem} {S : ST} {b : Nat} {I : Nat → AM} (h : IX M S) (e : ∀ i, i ≠ 0 → (i < 76 ∨ 82 ≤ i) → gM M' i = gM M i) (e1 : ∀ j, j ≠ 6 → gM M' 0 j = gM M 0 j) (eL : gL M' 75 = gL M 75) (hK : KX M' (sV S) b I) : IX M' (setK S b I) :=
  ⟨told_mv h.1 (e1 1 (by decide)) (e1 2 (by decide)), h.2.1.mv (e1 1 (by decide)) (fun i h1 h2 => e i (by omega) (by omega)), h.2.2.1.mv (fun i hi => e i (by omega) (by omega)), hK, h.2.2.2.2.1.mv (e1 9 (by decide)) (e 55 (by decide) (by decide)) (e 56 (by decide) (by decide)), h.2.2.2.2.2.1.mv (by rw [e 1 (by decide) (by decide)]) (e 2 (by decide) (by decide)), eL.trans h.2.2.2.2.2.2⟩
theorem IR.setK {M M' : Mem} {S : ST} {b : Nat} {I : Nat → AM} (h : IR M S) (e : ∀ i, i ≠ 119 → i ≠ 120 → gM M' i = gM M i) (eL : gL M' 109 = gL M 109) (hK : KR M' b I) : IR M' (setK S b I) := by
  have e9 := e 109 (by decide) (by decide)
  exact ⟨h.1.mv (fun i h1 h2 => e i (by omega) (by omega)), h.2.1.mv (by rw [e9]) (e 121 (by decide) (by decide)), hK, h.2.2.2.1.mv (by rw [e9]) (e 122 (by decide) (by decide)) (e 123 (by decide) (by decide)), h.2.2.2.2.1.mv (by rw [e9]) (e 110 (by decide) (by decide)), eL.trans h.2.2.2.2.2⟩
def updA (f : Nat → AM) (i : Nat) (v : AM) : Nat → AM := fun j => if j = i then v else f j
def keepRes (x1 : Int32) (S : ST) : Int32 := if 0 ≤ x1 ∧ x1 ≤ 1 then nN (aT (sA S)) else -1
def keepNx (x1 : Int32) (S : ST) : ST := if 0 ≤ x1 ∧ x1 ≤ 1 then setK S (sB S ||| 2 ^ x1.toNatClampNeg) (updA (sI S) x1.toNatClampNeg (sA S)) else S
theorem tb_or : ∀ b, b < 4 → ∀ i, i < 2 → ∀ j, j < 2 → (b ||| 2 ^ i).testBit j = (if j = i then true else b.testBit j) := by decide
theorem bt2 : ∀ b, b < 4 → ∀ i, i < 2 → (nN b >>> (nN i &&& 31)) &&& 1 = if b.testBit i = true then (1 : Int32) else 0 := by decide +kernel
theorem keepR_loop {i : Nat} (hi : i < 2) : ∀ (c k fu : Nat) (M : Mem), k + c = 15 → c < fu → ∃ M1, lX12_keep_18 fu M (nN i) (nN k) = sX12_keep_47 M1 (nN i) ∧ Fr1 119 M M1 ∧ (∀ e, e < 15 → gM M1 119 (15 * i + e) = if k ≤ e then gM M 117 e else gM M 119 (15 * i + e)) ∧ (∀ e, (e < 15 * i ∨ 15 * i + 15 ≤ e) → gM M1 119 e = gM M 119 e) := by
  intro c
  induction c with
  | zero =>
    intro k fu M hk hf
    obtain ⟨fu, rfl⟩ := fu1 hf
    have hk : k = 15 := by omega
    subst hk
    refine ⟨M, ?_, Fr1.rfl, fun e he => by rw [if_neg (by omega)], fun _ _ => rfl⟩
    show sX12_keep_18 (lX12_keep_18 fu) M (nN i) 15 = _
    unfold sX12_keep_18
    rw [if_pos (by decide)]
  | succ c ih =>
    intro k fu M hk hf
    obtain ⟨fu, rfl⟩ := fu1 hf
    show ∃ M1, sX12_keep_18 (lX12_keep_18 fu) M (nN i) (nN k) = _ ∧ _
    unfold sX12_keep_18
    rw [if_neg (show ¬ (15 : Int32) ≤ nN k from fun h => by have := (nN_le (a := 15) (by decide) (by omega)).mp h; omega), show (15 : Int32) * nN i = nN (15 * i) from nN_mul 15 i, nN_add, if_pos ((nN_inB (by omega)).mpr (by omega)), if_pos ((nN_inB (by omega)).mpr (by omega)), nN_cl (by omega), nN_cl (by omega), nN_succ]
    obtain ⟨M1, a1, a2, a3, a4⟩ := ih (k + 1) fu (sM M 119 (15 * i + k) (gM M 117 k)) (by omega) (by omega)
    refine ⟨M1, a1, (Fr1.s 119 _ _ M).tr a2, fun e he => ?_, fun e he => ?_⟩
    · rw [a3 e he, g_si (show (117 : Nat) ≠ 119 by decide)]
      by_cases h1 : e = k
      · subst h1; rw [if_neg (by omega), row_h, if_pos (by omega)]
      · by_cases h2 : k + 1 ≤ e
        · rw [if_pos h2, if_pos (by omega)]
        · rw [if_neg h2, row_o (by omega), if_neg (by omega)]
    · rw [a4 e he, row_o (by omega)]
theorem backR_loop {i : Nat} (hi : i < 2) : ∀ (c k fu : Nat) (M : Mem), k + c = 15 → c < fu → ∃ M1, lX12_back_30 fu M (nN i) (nN k) = sX12_back_59 M1 ∧ Fr1 117 M M1 ∧ (∀ e, e < 15 → gM M1 117 e = if k ≤ e then gM M 119 (15 * i + e) else gM M 117 e) := by
  intro c
  induction c with
  | zero =>
    intro k fu M hk hf
    obtain ⟨fu, rfl⟩ := fu1 hf
    have hk : k = 15 := by omega
    subst hk
    refine ⟨M, ?_, Fr1.rfl, fun e he => by rw [if_neg (by omega)]⟩
    show sX12_back_30 (lX12_back_30 fu) M (nN i) 15 = _
    unfold sX12_back_30
    rw [if_pos (by decide)]
  | succ c ih =>
    intro k fu M hk hf
    obtain ⟨fu, rfl⟩ := fu1 hf
    show ∃ M1, sX12_back_30 (lX12_back_30 fu) M (nN i) (nN k) = _ ∧ _
    unfold sX12_back_30
    rw [if_neg (show ¬ (15 : Int32) ≤ nN k from fun h => by have := (nN_le (a := 15) (by decide) (by omega)).mp h; omega), show (15 : Int32) * nN i = nN (15 * i) from nN_mul 15 i, nN_add, if_pos ((nN_inB (by omega)).mpr (by omega)), if_pos ((nN_inB (by omega)).mpr (by omega)), nN_cl (by omega), nN_cl (by omega), nN_succ]
    obtain ⟨M1, a1, a2, a3⟩ := ih (k + 1) fu (sM M 117 k (gM M 119 (15 * i + k))) (by omega) (by omega)
    refine ⟨M1, a1, (Fr1.s 117 _ _ M).tr a2, fun e he => ?_⟩
    rw [a3 e he, g_si (show (119 : Nat) ≠ 117 by decide)]
    by_cases h1 : e = k
    · subst h1; rw [if_neg (by omega), row_h, if_pos (by omega)]
    · by_cases h2 : k + 1 ≤ e
      · rw [if_pos h2, if_pos (by omega)]
      · rw [if_neg h2, row_o (by omega), if_neg (by omega)]
theorem lt2_le1 {x : Int32} : x < 2 ↔ x ≤ 1 := by
  rw [Int32.lt_iff_toInt_lt, Int32.le_iff_toInt_le, show (2 : Int32).toInt = 2 from rfl, show (1 : Int32).toInt = 1 from rfl]; omega
theorem st_keep (x1 : Int32) : Step (fun M => fX11_keep M x1) (fun M => fX12_keep M x1) := by
  refine step_c (keepRes x1) (keepNx x1) (fun M S h0 h => ?_) (fun M S h0 h => ?_) (fun S h0 => ?_)
  · show ∃ M1, fX11_keep M x1 = _ ∧ _
    unfold fX11_keep keepRes keepNx
    by_cases c1 : x1 < 0
    · rw [if_pos c1, if_neg (fun e => Int32.not_lt.mpr e.1 c1), if_neg (fun e => Int32.not_lt.mpr e.1 c1)]; exact ⟨M, rfl, FC.rfl, h⟩
    rw [if_neg c1]
    by_cases c2 : ¬ x1 < 2
    · rw [if_neg c2, if_neg (fun e => c2 (lt2_le1.mpr e.2)), if_neg (fun e => c2 (lt2_le1.mpr e.2))]; exact ⟨M, rfl, FC.rfl, h⟩
    have c2 := Classical.not_not.mp c2
    have hc : 0 ≤ x1 ∧ x1 ≤ 1 := ⟨Int32.not_lt.mp c1, lt2_le1.mp c2⟩
    rw [if_pos c2, if_pos hc, if_pos hc]
    obtain ⟨i, hi, rfl⟩ := to_nN_le (m := 1) (by decide) hc.1 hc.2
    rw [if_pos ((nN_inB (by omega)).mpr (by omega)), nN_cl (by omega), sh1 (by omega)]
    have hb := mo_In (n := i) (by omega)
    obtain ⟨M1, a1, a2, a3⟩ := copyX (M := M) hb mo_19 (by omega)
    have r1 := a3 (sV S) (sA S) h.2.1.2 h0.1.1
    have e0 : gM M1 0 = gM M 0 := a2.1 0 (by omega) (by omega) (by omega)
    have e19 : gM M1 19 = gM M 19 := a2.1 19 (by omega) (by omega) (by omega)
    rw [a1, bV_some, e0, h.2.2.2.1.1, nN_or, g_si (show (19 : Nat) ≠ 0 by decide), e19, h.2.1.2.1.1]
    refine ⟨_, rfl, fun j hj => ⟨?_, a2.2 j⟩, h.setK (fun j h1 h2 => ?_) (fun j hj => ?_) (a2.2 75) ⟨row_h, fun j hj hb => ?_⟩⟩
    · rw [(sM_other _ 0 _ _ j (by omega)).1, a2.1 j (by omega) (by omega) (by omega)]
    · rw [(sM_other _ 0 _ _ j (by omega)).1, a2.1 j (by omega) (by omega) (by omega)]
    · rw [row_o hj, e0]
    · have hm : RX (sV S) (updA (sI S) i (sA S) j) M1 (76 + 3 * j) := by
        unfold updA
        by_cases e : j = i
        · subst e; rw [if_pos rfl]; exact r1
        · rw [if_neg e]
          rw [tb_or _ h0.2.2.2.2.1 i (by omega) j hj, if_neg e] at hb
          exact (h.2.2.2.1.2 j hj hb).fr (mo_In hj) (mo_In (by omega)) (by omega) a2
      exact hm.mv (sM_other _ 0 _ _ _ (by omega)).1 (sM_other _ 0 _ _ _ (by omega)).1 (sM_other _ 0 _ _ _ (by omega)).1
  · show ∃ M1, fX12_keep M x1 = _ ∧ _
    unfold fX12_keep keepRes keepNx
    have q0 := QR.t M 0
    have h' := h.q q0
    generalize sM M 109 0 0 = N at q0 h' ⊢
    by_cases hc : ¬ (0 ≤ x1 ∧ x1 ≤ 1)
    · rw [in_n hc, bI_some, if_pos rfl, if_neg hc, if_neg hc]; exact ⟨_, rfl, q0.d, h'⟩
    have hc := Classical.not_not.mp hc
    rw [in_y hc.1 hc.2, bI_some, if_neg (by decide), if_pos hc, if_pos hc]
    obtain ⟨i, hi, rfl⟩ := to_nN_le (m := 1) (by decide) hc.1 hc.2
    rw [nN_cl (by omega)]
    obtain ⟨M1, a1, a2, a3, a4⟩ := keepR_loop (i := i) (by omega) 15 0 fuel N rfl (fuel_ge (by decide))
    rw [show (0 : Int32) = nN 0 from rfl, a1]
    unfold sX12_keep_47
    rw [if_pos ((nN_inB (by omega)).mpr (by omega)), nN_cl (by omega), g_si (show (117 : Nat) ≠ 120 by decide), a2.1 117 (by decide), h'.1.2.1]
    refine ⟨_, rfl, q0.d.tr (fun j hj => ⟨?_, a2.2 j⟩), h'.setK (fun j h1 h2 => ?_) (a2.2 109) ⟨fun j hj => ?_, fun j hj hb => ?_⟩⟩
    · rw [(sM_other _ 120 _ _ j (by omega)).1, a2.1 j (by omega)]
    · rw [(sM_other _ 120 _ _ j (by omega)).1, a2.1 j (by omega)]
    · rw [tb_or _ h0.2.2.2.2.1 i (by omega) j hj]
      by_cases e : j = i
      · subst e; rw [row_h, if_pos rfl, if_pos rfl]
      · rw [row_o e, a2.1 120 (by decide), if_neg e]; exact h'.2.2.1.1 j hj
    · rw [tb_or _ h0.2.2.2.2.1 i (by omega) j hj] at hb
      unfold updA
      by_cases e : j = i
      · subst e; rw [if_pos rfl]
        exact RR.of h'.1.2 (fun e he => by rw [g_si (by decide), a3 e he, if_pos (Nat.zero_le _)])
      · rw [if_neg e] at hb ⊢
        exact RR.of (h'.2.2.1.2 j hj hb) (fun e he => by rw [g_si (by decide), a4 _ (by omega)])
  · unfold keepNx
    split
    · rename_i hc
      obtain ⟨i, hi, rfl⟩ := to_nN_le (m := 1) (by decide) hc.1 hc.2
      rw [nN_cl (by omega)]
      refine ⟨h0.1, h0.2.1, h0.2.2.1, h0.2.2.2.1, ?_, fun j hj hb => ?_, h0.2.2.2.2.2.2⟩
      · exact or_lt (n := 2) h0.2.2.2.2.1 (Nat.pow_lt_pow_right (by decide) (by omega))
      · show AOk (sV S) 9999 (updA (sI S) i (sA S) j)
        have hb : (sB S ||| 2 ^ i).testBit j = true := hb
        rw [tb_or _ h0.2.2.2.2.1 i (by omega) j hj] at hb
        unfold updA
        split
        · exact h0.2.1
        · rename_i e
          rw [if_neg e] at hb
          exact h0.2.2.2.2.2.1 j hj hb
    · exact h0
def backRes (x1 : Int32) (S : ST) : Int32 := if 0 ≤ x1 ∧ x1 ≤ 1 then (if (sB S).testBit x1.toNatClampNeg = true then nN (aT (sI S x1.toNatClampNeg)) else -2) else -1
def backNx (x1 : Int32) (S : ST) : ST := if 0 ≤ x1 ∧ x1 ≤ 1 then (if (sB S).testBit x1.toNatClampNeg = true then setA S (sI S x1.toNatClampNeg) 0 (sH S) else S) else S
theorem st_back (x1 : Int32) : Step (fun M => fX11_back M x1) (fun M => fX12_back M x1) := by
  refine step_c (backRes x1) (backNx x1) (fun M S h0 h => ?_) (fun M S h0 h => ?_) (fun S h0 => ?_)
  · show ∃ M1, fX11_back M x1 = _ ∧ _
    unfold fX11_back backRes backNx fX8_lose
    by_cases c1 : x1 < 0
    · rw [if_pos c1, if_neg (fun e => Int32.not_lt.mpr e.1 c1), if_neg (fun e => Int32.not_lt.mpr e.1 c1)]; exact ⟨M, rfl, FC.rfl, h⟩
    rw [if_neg c1]
    by_cases c2 : ¬ x1 < 2
    · rw [if_neg c2, if_neg (fun e => c2 (lt2_le1.mpr e.2)), if_neg (fun e => c2 (lt2_le1.mpr e.2))]; exact ⟨M, rfl, FC.rfl, h⟩
    have c2 := Classical.not_not.mp c2
    have hc : 0 ≤ x1 ∧ x1 ≤ 1 := ⟨Int32.not_lt.mp c1, lt2_le1.mp c2⟩
    rw [if_pos c2, if_pos hc, if_pos hc]
    obtain ⟨i, hi, rfl⟩ := to_nN_le (m := 1) (by decide) hc.1 hc.2
    rw [nN_cl (by omega), h.2.2.2.1.1, bt2 _ h0.2.2.2.2.1 i (by omega)]
    by_cases hb : ¬ (sB S).testBit i = true
    · rw [if_neg hb, if_pos rfl, if_neg hb, if_neg hb]; exact ⟨M, rfl, FC.rfl, h⟩
    have hb := Classical.not_not.mp hb
    rw [if_pos hb, if_neg (by decide), if_pos hb, if_pos hb, if_pos ((nN_inB (by omega)).mpr (by omega))]
    have hmo := mo_In (n := i) (by omega)
    obtain ⟨M1, a1, a2, a3⟩ := copyX (M := M) mo_19 hmo (by omega)
    have r1 := a3 (sV S) (sI S i) (h.2.2.2.1.2 i (by omega) hb) h0.1.1
    rw [a1, bV_some, bV_some, g_si (show (19 : Nat) ≠ 22 by decide), r1.1.1]
    obtain ⟨w, w1, w2, w3, w4⟩ := h.2.2.1
    refine ⟨_, rfl, fun j hj => ⟨?_, a2.2 j⟩, h.setA (fun j hj => ?_) (a2.2 75) (r1.mv (sM_other _ 22 _ _ _ (by decide)).1 (sM_other _ 22 _ _ _ (by decide)).1 (sM_other _ 22 _ _ _ (by decide)).1) ⟨w, w1, ?_, row_h, fun j hj => absurd hj (Nat.not_lt_zero _)⟩⟩
    · rw [(sM_other _ 22 _ _ j (by omega)).1, a2.1 j (by omega) (by omega) (by omega)]
    · rw [(sM_other _ 22 _ _ j (by omega)).1, a2.1 j (by omega) (by omega) (by omega)]
    · rw [row_o (by decide), a2.1 22 (by decide) (by decide) (by decide)]; exact w2
  · show ∃ M1, fX12_back M x1 = _ ∧ _
    unfold fX12_back backRes backNx
    have q0 := QR.t M 0
    have h' := h.q q0
    generalize sM M 109 0 0 = N at q0 h' ⊢
    by_cases hc : ¬ (0 ≤ x1 ∧ x1 ≤ 1)
    · rw [in_n hc, bI_some, if_pos rfl, if_neg hc, if_neg hc]; exact ⟨_, rfl, q0.d, h'⟩
    have hc := Classical.not_not.mp hc
    rw [in_y hc.1 hc.2, bI_some, if_neg (by decide), if_pos hc, if_pos hc]
    obtain ⟨i, hi, rfl⟩ := to_nN_le (m := 1) (by decide) hc.1 hc.2
    rw [nN_cl (by omega), if_pos ((nN_inB (by omega)).mpr (by omega)), h'.2.2.1.1 i (by omega)]
    by_cases hb : ¬ (sB S).testBit i = true
    · rw [if_neg hb, if_pos rfl, if_neg hb, if_neg hb]; exact ⟨_, rfl, q0.d, h'⟩
    have hb := Classical.not_not.mp hb
    rw [if_pos hb, if_neg (by decide), if_pos hb, if_pos hb]
    obtain ⟨M1, a1, a2, a3⟩ := backR_loop (i := i) (by omega) 15 0 fuel N rfl (fuel_ge (by decide))
    have hr : RR (sI S i) (gM M1 117) := RR.of (h'.2.2.1.2 i (by omega) hb) (fun e he => by rw [a3 e he, if_pos (Nat.zero_le _)])
    rw [show (0 : Int32) = nN 0 from rfl, a1]
    unfold sX12_back_59
    rw [g_si (show (117 : Nat) ≠ 109 by decide), hr.1]
    refine ⟨_, rfl, q0.d.tr (fun j hj => ⟨?_, a2.2 j⟩), h'.setA (fun j h1 h2 h3 h4 => ?_) ?_ ?_ (a2.2 109) (RR.of hr (fun e he => g_si (by decide))) ⟨row_h, fun j hj => absurd hj (Nat.not_lt_zero _)⟩⟩
    · rw [(sM_other _ 109 _ _ j (by omega)).1, a2.1 j (by omega)]
    · rw [(sM_other _ 109 _ _ j (by omega)).1, a2.1 j (by omega)]
    · rw [row_o (by decide), a2.1 109 (by decide)]
    · rw [row_o (by decide), a2.1 109 (by decide)]
  · unfold backNx
    split
    · rename_i hc
      obtain ⟨i, hi, rfl⟩ := to_nN_le (m := 1) (by decide) hc.1 hc.2
      rw [nN_cl (by omega)]
      split
      · rename_i hb
        exact ⟨h0.1, h0.2.2.2.2.2.1 i (by omega) hb, Nat.zero_le _, fun j hj => absurd hj (Nat.not_lt_zero _), h0.2.2.2.2⟩
      · exact h0
    · exact h0
