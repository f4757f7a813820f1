/-! beat, sings, undo -/
theorem AOk.lower {V : FV} {A : AM} {B B' : Nat} (h : AOk V B A) (hb : aT A ≤ B') : AOk V B' A := ⟨hb, h.2⟩
abbrev stopS (S : ST) : Prop := ovS S ∨ 9999 ≤ aT (sA S)
def beatRes (S : ST) : Int32 := if stopS S then -2 else nN (aW (goesS (sV S) (sA S)))
def beatNx (S : ST) : ST := if stopS S then S else noted S (goesS (sV S) (sA S))
theorem st_beat : Step fX11_beat fX12_beat := by
  refine step_c beatRes beatNx (fun M S h0 h => ?_) (fun M S h0 h => ?_) (fun S h0 => ?_)
  · unfold fX11_beat beatRes beatNx
    have hT := h0.2.1.1
    rw [overNow h0.1 h0.2.1 h.2.1, bI_some, h.2.1.2.1.1]
    by_cases ho : ovS S
    · rw [if_pos ho, if_neg (by decide), if_pos (Or.inl ho), if_pos (Or.inl ho)]; exact ⟨M, rfl, FC.rfl, h⟩
    rw [if_neg ho, if_pos rfl]
    by_cases h9 : 9999 ≤ aT (sA S)
    · rw [if_neg (show ¬ nN (aT (sA S)) < 9999 from fun e => by have := (nN_lt (b := 9999) (by omega) (by decide)).mp e; omega), if_pos (Or.inr h9), if_pos (Or.inr h9)]; exact ⟨M, rfl, FC.rfl, h⟩
    have hns : ¬ stopS S := by rintro (e | e); exact ho e; exact h9 e
    rw [if_pos (show nN (aT (sA S)) < 9999 from (nN_lt (b := 9999) (by omega) (by decide)).mpr (by omega)), if_neg hns, if_neg hns]
    obtain ⟨M1, a1, a2, a3, a4⟩ := addX h0.1.1 h0.2.2.1 h.2.2.1 h.2.1.2
    have n1 : NX M1 (sV S) (sA S) := h.2.1.mv (by rw [a3 0 (by decide) (by decide)]) (fun i h1 h2 => a3 i (by omega) (by omega))
    obtain ⟨M2, b1, b2, b3⟩ := rowX n1.1 h0.1 (isFe_feB _) mo_19 h0.2.1 (by decide) n1.2
    rw [a1, bV_some, b1, bV_some, b3.1.2.1]
    refine ⟨M2, rfl, fun i hi => ⟨?_, ?_⟩, h.setA (fun i hi => ?_) ?_ b3 (a2.mv (fun i hi => ?_))⟩
    · rw [b2.1 i (by omega) (by omega) (by omega), a3 i (by omega) (by omega)]
    · rw [b2.2, a4]
    · rw [b2.1 i (by omega) (by omega) (by omega), a3 i (by omega) (by omega)]
    · rw [b2.2, a4]
    · exact b2.1 i (by omega) (by omega) (by omega)
  · unfold fX12_beat beatRes beatNx
    have hT := h0.2.1.1
    have q0 := QR.t M 0
    have h' := h.q q0
    rw [overR h'.1.1 h0.1 h'.1.2.2.1 h0.2.1.2.1, bI_some, h'.1.2.1]
    by_cases ho : ovS S
    · rw [if_pos ho, if_neg (by decide), if_pos (Or.inl ho), if_pos (Or.inl ho)]; exact ⟨_, rfl, q0.d, h'⟩
    rw [if_neg ho, if_pos rfl]
    by_cases h9 : 9999 ≤ aT (sA S)
    · rw [if_pos (show nN (aT (sA S)) = 9999 by rw [show aT (sA S) = 9999 by omega]; rfl), if_pos (Or.inr h9), if_pos (Or.inr h9)]; exact ⟨_, rfl, q0.d, h'⟩
    have hns : ¬ stopS S := by rintro (e | e); exact ho e; exact h9 e
    rw [if_neg (show ¬ nN (aT (sA S)) = 9999 from fun e => by have := (nN_eq (b := 9999) (by omega) (by decide)).mp e; omega), if_neg hns, if_neg hns]
    obtain ⟨M1, a1, a2, a3, a4, a5⟩ := notesR h0.2.2.1 h'.2.1 h'.1.2
    have n1 : NR M1 (sV S) (sA S) := h'.1.mv (fun i h1 h2 => a3 i (by omega) (by omega))
    obtain ⟨M2, b1, b2, b3⟩ := goesR n1.1 h0.1 r_117 h0.2.1 n1.2
    rw [a1, bV_some, b1, bV_some, b3.2.1]
    refine ⟨M2, rfl, q0.d.tr (fun i hi => ⟨?_, ?_⟩), h'.setA (fun i h1 h2 h3 h4 => ?_) ?_ ?_ ?_ b3 (a2.mv ?_ ?_)⟩
    · rw [b2.1 i (by omega), a3 i (by omega) (by omega)]
    · rw [b2.2, a5]
    · rw [b2.1 i h2, a3 i h4 (by omega)]
    · rw [b2.1 109 (by decide), a4 3 (by decide)]
    · rw [b2.1 109 (by decide), a4 24 (by decide)]
    · rw [b2.2, a5]
    · rw [b2.1 109 (by decide)]
    · exact b2.1 121 (by decide)
  · unfold beatNx
    split
    · exact h0
    · rename_i hns
      exact h0.setA (goes_ok (B := 9998) h0.1 (h0.2.1.lower (by have : ¬ 9999 ≤ aT (sA S) := fun e => hns (Or.inr e); omega)))
theorem set_lt (c : Nat → Prop) [DecidablePred c] (n : Nat) : fol (fun p m => if c p then m ||| 2 ^ p else m) n 0 0 < 2 ^ n := by
  have := fol_inv (g := fun p m => if c p then m ||| 2 ^ p else m) (P := fun _ m => m < 2 ^ n) n 0 0 (Nat.two_pow_pos _) (fun p m _ h2 hm => by
    show (if c p then m ||| 2 ^ p else m) < 2 ^ n
    split
    · exact Nat.or_lt_two_pow hm (Nat.pow_lt_pow_right (by decide) (by omega))
    · exact hm)
  exact this
def sgS (V : FV) (c : Nat) : Nat := fol (fun p m => if vH V p = c then m ||| 2 ^ p else m) (vN V) 0 0
theorem singX_loop {M : Mem} {V : FV} {f ch : Nat} (hF : FX M f V) (hV : VOk V) (hch : ch ≤ 3) : ∀ (c k fu m : Nat), k + c = vN V → c < fu → lX2_singersOf_4 fu M f (nN ch) (nN m) (nN k) = some (M, nN (fol (fun p m => if vH V p = ch then m ||| 2 ^ p else m) c k m)) := by
  intro c
  have hn := hV.1
  induction c with
  | zero =>
    intro k fu m hk hf
    obtain ⟨fu, rfl⟩ := fu1 hf
    show sX2_singersOf_4 (lX2_singersOf_4 fu) M f (nN ch) (nN m) (nN k) = _
    unfold sX2_singersOf_4
    rw [hF.1, if_pos ((nN_le (by omega) (by omega)).mpr (by omega))]
    rfl
  | succ c ih =>
    intro k fu m hk hf
    obtain ⟨fu, rfl⟩ := fu1 hf
    show sX2_singersOf_4 (lX2_singersOf_4 fu) M f (nN ch) (nN m) (nN k) = _
    unfold sX2_singersOf_4
    have hh := (hV.2.2.2.1 k (by omega)).2.2
    rw [hF.1, if_neg (by rw [nN_le (by omega) (by omega)]; omega), if_neg (show ¬ (6 : Int32) ≤ nN k from fun h => by have := (nN_le (a := 6) (by decide) (by omega)).mp h; omega), if_pos ((nN_inB (by omega)).mpr (by omega)), nN_cl (by omega), (hF.2.2.2.1 k (by omega)).2.2, nN_succ, fol_s, sh1 (by omega), nN_or]
    by_cases h : vH V k = ch
    · rw [if_pos (by rw [h]), if_pos h]
      exact ih (k + 1) fu _ (by omega) (by omega)
    · rw [if_neg (fun e => h ((nN_eq (by omega) (by omega)).mp e)), if_neg h]
      exact ih (k + 1) fu _ (by omega) (by omega)
theorem singR_loop {M : Mem} {V : FV} {ch : Nat} (hF : FR M V) (hV : VOk V) (hch : ch ≤ 3) : ∀ (c k fu m : Nat), k + c = vN V → c < fu → lX12_sings_20 fu M (nN ch) (nN m) (nN k) = sX12_sings_56 M (nN (fol (fun p m => if vH V p = ch then m ||| 2 ^ p else m) c k m)) := by
  intro c
  have hn := hV.1
  induction c with
  | zero =>
    intro k fu m hk hf
    obtain ⟨fu, rfl⟩ := fu1 hf
    show sX12_sings_20 (lX12_sings_20 fu) M (nN ch) (nN m) (nN k) = _
    unfold sX12_sings_20
    rw [hF.1, if_pos ((nN_le (by omega) (by omega)).mpr (by omega))]
    rfl
  | succ c ih =>
    intro k fu m hk hf
    obtain ⟨fu, rfl⟩ := fu1 hf
    show sX12_sings_20 (lX12_sings_20 fu) M (nN ch) (nN m) (nN k) = _
    unfold sX12_sings_20 sX12_sings_48
    have hh := (hV.2.2.2.1 k (by omega)).2.2
    rw [hF.1, if_neg (by rw [nN_le (by omega) (by omega)]; omega), if_pos ((nN_inB (by omega)).mpr (by omega)), nN_cl (by omega), (hF.2.2.2.1 k (by omega)).2.2, nN_succ, fol_s, sh1 (by omega), nN_or, or0]
    by_cases h : vH V k = ch
    · rw [if_pos (by rw [h]), if_pos h]
      exact ih (k + 1) fu _ (by omega) (by omega)
    · rw [if_neg (fun e => h ((nN_eq (by omega) (by omega)).mp e)), if_neg h]
      exact ih (k + 1) fu _ (by omega) (by omega)
def singRes (x1 : Int32) (S : ST) : Int32 := if 1 ≤ x1 ∧ x1 ≤ 3 then (if ovS S ∨ sgS (sV S) x1.toNatClampNeg = 0 then -2 else pI (pullS (sV S) (sgS (sV S) x1.toNatClampNeg))) else -1
def singNx (x1 : Int32) (S : ST) : ST := if 1 ≤ x1 ∧ x1 ≤ 3 then (if ovS S ∨ sgS (sV S) x1.toNatClampNeg = 0 then S else noted S (speakS (sV S) (sA S) (sgS (sV S) x1.toNatClampNeg))) else S
theorem st_sings (x1 : Int32) : Step (fun M => fX11_sings M x1) (fun M => fX12_sings M x1) := by
  refine step_c (singRes x1) (singNx x1) (fun M S h0 h => ?_) (fun M S h0 h => ?_) (fun S h0 => ?_)
  · show ∃ M1, fX11_sings M x1 = _ ∧ _
    unfold fX11_sings singRes singNx
    have hn := h0.1.1
    by_cases h1 : x1 < 1
    · rw [if_pos h1, if_neg (fun e => Int32.not_lt.mpr e.1 h1), if_neg (fun e => Int32.not_lt.mpr e.1 h1)]; exact ⟨M, rfl, FC.rfl, h⟩
    rw [if_neg h1]
    by_cases h2 : ¬ x1 ≤ 3
    · rw [if_neg h2, if_neg (fun e => h2 e.2), if_neg (fun e => h2 e.2)]; exact ⟨M, rfl, FC.rfl, h⟩
    have h2 := Classical.not_not.mp h2
    have hc : 1 ≤ x1 ∧ x1 ≤ 3 := ⟨Int32.not_lt.mp h1, h2⟩
    rw [if_pos h2, if_pos hc, if_pos hc]
    obtain ⟨ch, hch, rfl⟩ := to_nN_le (m := 3) (by decide) (Int32.le_trans (by decide) hc.1) hc.2
    have hm : sgS (sV S) ch < 2 ^ vN (sV S) := set_lt (fun p => vH (sV S) p = ch) _
    have h64 := lt64 h0.1 hm
    rw [nN_cl (by omega), show fX2_singersOf M (feB (gM M 0 1)) (nN ch) = some (M, nN (sgS (sV S) ch)) from singX_loop h.2.1.1 h0.1 hch (vN (sV S)) 0 fuel 0 (by omega) (fuel_ge (by omega)), bI_some, overNow h0.1 h0.2.1 h.2.1, bI_some]
    by_cases ho : ovS S
    · rw [if_pos ho, if_neg (by decide), if_pos (Or.inl ho), if_pos (Or.inl ho)]; exact ⟨M, rfl, FC.rfl, h⟩
    rw [if_neg ho, if_pos rfl]
    by_cases hz : sgS (sV S) ch = 0
    · rw [hz, if_pos (show nN 0 = 0 from rfl), if_pos (Or.inr rfl), if_pos (Or.inr rfl)]; exact ⟨M, rfl, FC.rfl, h⟩
    have hns : ¬ (ovS S ∨ sgS (sV S) ch = 0) := by rintro (e | e); exact ho e; exact hz e
    rw [if_neg (show ¬ nN (sgS (sV S) ch) = 0 from fun e => hz ((nN_eq (b := 0) (by omega) (by decide)).mp e)), if_neg hns, if_neg hns]
    obtain ⟨M1, a1, a2, a3⟩ := utterX h0 h hm
    rw [a1, bV_some, a3.2.1.2.1.2.2.1]
    rw [show fX2_pullOf M1 (feB (gM M1 0 1)) (nN (aO (sA (setA S (speakS (sV S) (sA S) (sgS (sV S) ch)) (up10 (sU S)) (cons (sA S) (sH S)))))) = some (M1, pI (pullS (sV S) (sgS (sV S) ch))) from pullX a3.2.1.1 h64, bI_some]
    exact ⟨M1, rfl, a2, a3⟩
  · show ∃ M1, fX12_sings M x1 = _ ∧ _
    unfold fX12_sings singRes singNx
    have hn := h0.1.1
    have q0 := QR.t M 0
    have h' := h.q q0
    by_cases hc : ¬ (1 ≤ x1 ∧ x1 ≤ 3)
    · rw [in_n hc, bI_some, if_pos rfl, if_neg hc, if_neg hc]; exact ⟨_, rfl, q0.d, h'⟩
    have hc := Classical.not_not.mp hc
    rw [in_y hc.1 hc.2, bI_some, if_neg (by decide), if_pos hc, if_pos hc]
    obtain ⟨ch, hch, rfl⟩ := to_nN_le (m := 3) (by decide) (Int32.le_trans (by decide) hc.1) hc.2
    have hm : sgS (sV S) ch < 2 ^ vN (sV S) := set_lt (fun p => vH (sV S) p = ch) _
    have h64 := lt64 h0.1 hm
    rw [nN_cl (by omega), show lX12_sings_20 fuel (sM M 109 0 0) (nN ch) 0 0 = sX12_sings_56 (sM M 109 0 0) (nN (sgS (sV S) ch)) from singR_loop h'.1.1 h0.1 hch (vN (sV S)) 0 fuel 0 (by omega) (fuel_ge (by omega))]
    unfold sX12_sings_56
    rw [overR h'.1.1 h0.1 h'.1.2.2.1 h0.2.1.2.1, bI_some]
    by_cases ho : ovS S
    · rw [if_pos ho, if_neg (by decide), if_pos (Or.inl ho), if_pos (Or.inl ho)]; exact ⟨_, rfl, q0.d, h'⟩
    rw [if_neg ho, if_pos rfl]
    by_cases hz : sgS (sV S) ch = 0
    · rw [hz, if_pos (show nN 0 = 0 from rfl), if_pos (Or.inr rfl), if_pos (Or.inr rfl)]; exact ⟨_, rfl, q0.d, h'⟩
    have hns : ¬ (ovS S ∨ sgS (sV S) ch = 0) := by rintro (e | e); exact ho e; exact hz e
    rw [if_neg (show ¬ nN (sgS (sV S) ch) = 0 from fun e => hz ((nN_eq (b := 0) (by omega) (by decide)).mp e)), if_neg hns, if_neg hns]
    obtain ⟨M1, a1, a2, a3⟩ := utterR h0 h' hm (fun M12 => bI (fX12_pullOf M12 (nN (sgS (sV S) ch))) fun M13 r14 => some (M13, r14))
    rw [a1]
    rw [show fX12_pullOf M1 (nN (sgS (sV S) ch)) = some (M1, pI (pullS (sV S) (sgS (sV S) ch))) from pullR a3.1.1 h0.1 h64, bI_some]
    exact ⟨M1, rfl, q0.d.tr a2, a3⟩
  · unfold singNx
    split
    · split
      · exact h0
      · exact h0.setA (speak_ok h0.1 h0.2.1 (set_lt (fun p => vH (sV S) p = x1.toNatClampNeg) _))
    · exact h0
/-! undo -/
def undoRes (S : ST) : Int32 := if sU S = 0 then -2 else nN (sU S - 1)
def undoNx (S : ST) : ST := if sU S = 0 then S else setA S (sH S 0) (sU S - 1) (fun j => sH S (j + 1))
theorem undoR_loop {u : Nat} (hu : u ≤ 9) : ∀ (c k fu : Nat) (M : Mem), k + c = 15 → c < fu → gM M 109 21 = nN u → ∃ M1, lX12_undo_27 fu M (nN k) = some (M1, nN u) ∧ Fr1 117 M M1 ∧ ∀ e, e < 15 → gM M1 117 e = if k ≤ e then gM M 121 (15 * u + e) else gM M 117 e := by
  intro c
  induction c with
  | zero =>
    intro k fu M hk hf h
    obtain ⟨fu, rfl⟩ := fu1 hf
    have hk : k = 15 := by omega
    subst hk
    refine ⟨M, ?_, Fr1.rfl, fun e he => by rw [if_neg (by omega)]⟩
    show sX12_undo_27 (lX12_undo_27 fu) M 15 = _
    unfold sX12_undo_27
    rw [if_pos (by decide), h]
  | succ c ih =>
    intro k fu M hk hf h
    obtain ⟨fu, rfl⟩ := fu1 hf
    show ∃ M1, sX12_undo_27 (lX12_undo_27 fu) M (nN k) = _ ∧ _
    unfold sX12_undo_27
    rw [if_neg (show ¬ (15 : Int32) ≤ nN k from fun h => by have := (nN_le (a := 15) (by decide) (by omega)).mp h; omega), h, show (15 : Int32) * nN u = nN (15 * u) from nN_mul 15 u, nN_add, if_pos ((nN_inB (by omega)).mpr (by omega)), if_pos ((nN_inB (by omega)).mpr (by omega)), nN_cl (by omega), nN_cl (by omega), nN_succ]
    obtain ⟨M1, a1, a2, a3⟩ := ih (k + 1) fu (sM M 117 k (gM M 121 (15 * u + k))) (by omega) (by omega) (by rw [g_si (by decide)]; exact h)
    refine ⟨M1, a1, (Fr1.s 117 k _ M).tr a2, fun e he => ?_⟩
    rw [a3 e he, g_si (show (121 : Nat) ≠ 117 by decide)]
    by_cases h1 : e = k
    · subst h1; rw [if_neg (by omega), row_h, if_pos (by omega)]
    · by_cases h2 : k + 1 ≤ e
      · rw [if_pos h2, if_pos (by omega)]
      · rw [if_neg h2, row_o h1, if_neg (by omega)]
theorem st_undo : Step fX11_undo fX12_undo := by
  refine step_c undoRes undoNx (fun M S h0 h => ?_) (fun M S h0 h => ?_) (fun S h0 => ?_)
  · unfold fX11_undo fX8_restore undoRes undoNx
    have hu := h0.2.2.1
    obtain ⟨w, h1, h2, h3, h4⟩ := h.2.2.1
    rw [h3]
    by_cases hz : sU S = 0
    · rw [hz, if_neg (show ¬ (0 : Int32) < nN 0 by decide), bI_some, if_pos rfl, if_pos rfl, if_pos rfl]
      exact ⟨M, rfl, FC.rfl, h⟩
    · rw [if_pos (show (0 : Int32) < nN (sU S) from (nN_lt (a := 0) (by decide) (by omega)).mpr (by omega)), h2, if_pos ((nN_inB (by omega)).mpr h1), nN_cl (by omega), if_neg hz, if_neg hz]
      have hb := mo_Pn h1
      obtain ⟨M1, a1, a2, a3⟩ := copyX (M := M) mo_19 hb (by omega)
      have e22 : gM M1 22 = gM M 22 := a2.1 22 (by decide) (by decide) (by decide)
      have hx := h4 0 (by omega)
      rw [show (w + 10 - 0) % 10 = w by omega] at hx
      have r1 := a3 (sV S) (sH S 0) hx h0.1.1
      rw [a1, bV_some, bI_some, if_neg (by decide), e22, h2]
      have ew : (nN w + 10 - 1 - (nN w + 10 - 1) / 10 * 10) = nN ((w + 9) % 10) := by
        rw [show nN w + 10 = nN (w + 10) from nN_add w 10, show nN (w + 10) - 1 = nN (w + 9) from nN_sub (a := w + 10) (b := 1) (by omega)]
        exact nN_rem (b := 10) (by omega) (by decide)
      rw [ew, row_o (show (2 : Nat) ≠ 1 by decide), e22, h3, show nN (sU S) - 1 = nN (sU S - 1) from nN_sub (b := 1) (by omega)]
      have fr : ∀ i, i ≠ 22 → gM (sM (sM M1 22 1 (nN ((w + 9) % 10))) 22 2 (nN (sU S - 1))) i = gM M1 i := fun i hi => ((sM_other _ 22 2 _ i hi).1).trans (sM_other _ 22 1 _ i hi).1
      refine ⟨_, by rw [row_h], fun i hi => ⟨?_, ?_⟩, h.setA (fun i hi => ?_) ?_ (r1.mv (fr 19 (by decide)) (fr 20 (by decide)) (fr 21 (by decide))) ⟨(w + 9) % 10, Nat.mod_lt _ (by decide), ?_, row_h, fun j hj => ?_⟩⟩
      · rw [fr i (by omega)]; exact a2.1 i (by omega) (by omega) (by omega)
      · exact a2.2 i
      · rw [fr i (by omega)]; exact a2.1 i (by omega) (by omega) (by omega)
      · exact a2.2 75
      · rw [row_o (by decide), row_h]
      · have hj : j < sU S - 1 := hj
        have hx := h4 (j + 1) (by omega)
        have hlt : (w + 10 - (j + 1)) % 10 < 10 := Nat.mod_lt _ (by decide)
        rw [show ((w + 9) % 10 + 10 - j) % 10 = (w + 10 - (j + 1)) % 10 by omega]
        exact (hx.fr (mo_Pn hlt) mo_19 (by omega) a2).mv (fr _ (by omega)) (fr _ (by omega)) (fr _ (by omega))
  · unfold fX12_undo undoRes undoNx
    have hu := h0.2.2.1
    have q0 := QR.t M 0
    have h' := h.q q0
    rw [h'.2.1.1]
    by_cases hz : sU S = 0
    · rw [hz, if_pos (show nN 0 = 0 from rfl), if_pos rfl, if_pos rfl]; exact ⟨_, rfl, q0.d, h'⟩
    · rw [if_neg (show ¬ nN (sU S) = 0 from fun e => hz ((nN_eq (b := 0) (by omega) (by decide)).mp e)), if_neg hz, if_neg hz, show nN (sU S) - 1 = nN (sU S - 1) from nN_sub (b := 1) (by omega)]
      obtain ⟨M1, a1, a2, a3⟩ := undoR_loop (u := sU S - 1) (by omega) 15 0 fuel (sM (sM M 109 0 0) 109 21 (nN (sU S - 1))) rfl (fuel_ge (by decide)) row_h
      have fr : ∀ i, i ≠ 117 → i ≠ 109 → gM M1 i = gM (sM M 109 0 0) i := fun i h1 h2 => (a2.1 i h1).trans (sM_other _ 109 21 _ i h2).1
      have fk : ∀ k, k ≠ 21 → gM M1 109 k = gM (sM M 109 0 0) 109 k := fun k hk => by rw [a2.1 109 (by decide), row_o hk]
      have e121 : gM (sM (sM M 109 0 0) 109 21 (nN (sU S - 1))) 121 = gM (sM M 109 0 0) 121 := (sM_other _ 109 21 _ 121 (by decide)).1
      refine ⟨M1, a1, q0.d.tr (fun i hi => ⟨fr i (by omega) (by omega), a2.2 i⟩), h'.setA (fun i h1 h2 h3 h4 => fr i h2 (by omega)) (fk 3 (by decide)) (fk 24 (by decide)) (a2.2 109) ?_ ⟨by rw [a2.1 109 (by decide), row_h], fun j hj => ?_⟩⟩
      · refine RR.of (h'.2.1.2 0 (by omega)) (fun i hi => ?_)
        rw [a3 i hi, if_pos (Nat.zero_le _), e121]
        rfl
      · have hj : j < sU S - 1 := hj
        refine RR.of (h'.2.1.2 (j + 1) (by omega)) (fun i hi => ?_)
        show gM M1 121 (15 * (sU S - 1 - 1 - j) + i) = gM (sM M 109 0 0) 121 (15 * (sU S - 1 - (j + 1)) + i)
        rw [fr 121 (by decide) (by decide), show sU S - 1 - 1 - j = sU S - 1 - (j + 1) by omega]
  · unfold undoNx
    split
    · exact h0
    · rename_i hz
      refine ⟨h0.1, h0.2.2.2.1 0 (by omega), ?_, fun j hj => ?_, h0.2.2.2.2⟩
      · show sU S - 1 ≤ 10
        have := h0.2.2.1
        omega
      · have hj : j < sU S - 1 := hj
        exact h0.2.2.2.1 (j + 1) (by omega)
/-! type, clear, seen, forget -/
def setY (S : ST) (l : Nat) (x : Nat → Nat) : ST := (sV S, sA S, sU S, sH S, sB S, sI S, (sN S, sK S, sO S), (l, x), sT S)
def setS (S : ST) (n : Nat) (k o : Nat → Nat) : ST := (sV S, sA S, sU S, sH S, sB S, sI S, (n, k, o), (sY S, sX S), sT S)
def setK (S : ST) (b : Nat) (I : Nat → AM) : ST := (sV S, sA S, sU S, sH S, b, I, (sN S, sK S, sO S), (sY S, sX S), sT S)
def setR (S : ST) (t : Int64) : ST := (sV S, sA S, sU S, sH S, sB S, sI S, (sN S, sK S, sO S), (sY S, sX S), t)
theorem IX.setY {M M' : Mem} {S : ST} {l : Nat} {x : Nat → Nat} (h : IX M S) (e : ∀ i, i ≠ 1 → i ≠ 2 → i < 82 → gM M' i = gM M i) (eL : gL M' 75 = gL M 75) (hT : TX M' l x) : IX M' (setY S l x) := by
  have e0 := e 0 (by decide) (by decide) (by decide)
  exact ⟨told_mv h.1 (by rw [e0]) (by rw [e0]), h.2.1.mv (by rw [e0]) (fun i h1 h2 => e i (by omega) (by omega) (by omega)), h.2.2.1.mv (fun i hi => e i (by omega) (by omega) (by omega)), h.2.2.2.1.mv (by rw [e0]) (fun i h1 h2 => e i (by omega) (by omega) (by omega)), h.2.2.2.2.1.mv (by rw [e0]) (e 55 (by decide) (by decide) (by decide)) (e 56 (by decide) (by decide) (by decide)), hT, eL.trans h.2.2.2.2.2.2⟩
theorem IR.setY {M M' : Mem} {S : ST} {l : Nat} {x : Nat → Nat} (h : IR M S) (e : ∀ i, 111 ≤ i → i ≠ 118 → gM M' i = gM M i) (e21 : gM M' 109 21 = gM M 109 21) (e24 : gM M' 109 24 = gM M 109 24) (eL : gL M' 109 = gL M 109) (hT : TR M' l x) : IR M' (setY S l x) :=
  ⟨h.1.mv (fun i h1 h2 => e i h1 (by omega)), h.2.1.mv e21 (e 121 (by decide) (by decide)), h.2.2.1.mv (e 119 (by decide) (by decide)) (e 120 (by decide) (by decide)), h.2.2.2.1.mv e24 (e 122 (by decide) (by decide)) (e 123 (by decide) (by decide)), hT, eL.trans h.2.2.2.2.2⟩
def typeRes (x1 : Int32) (S : ST) : Int32 := if 0 ≤ x1 ∧ x1 ≤ 255 then (if sY S = 200 then -3 else nN (sY S + 1)) else -1
def typeNx (x1 : Int32) (S : ST) : ST := if 0 ≤ x1 ∧ x1 ≤ 255 then (if sY S = 200 then S else setY S (sY S + 1) (fun i => if i = sY S then x1.toNatClampNeg else sX S i)) else S
theorem st_type (x1 : Int32) : Step (fun M => fX11_type M x1) (fun M => fX12_type M x1) := by
  refine step_c (typeRes x1) (typeNx x1) (fun M S h0 h => ?_) (fun M S h0 h => ?_) (fun S h0 => ?_)
  · show ∃ M1, fX11_type M x1 = _ ∧ _
    unfold fX11_type typeRes typeNx
    have hl := h0.2.2.2.2.2.2.2.1
    by_cases h1 : x1 < 0
    · rw [if_pos h1, if_neg (fun e => Int32.not_lt.mpr e.1 h1), if_neg (fun e => Int32.not_lt.mpr e.1 h1)]; exact ⟨M, rfl, FC.rfl, h⟩
    rw [if_neg h1]
    by_cases h2 : ¬ x1 ≤ 255
    · rw [if_neg h2, if_neg (fun e => h2 e.2), if_neg (fun e => h2 e.2)]; exact ⟨M, rfl, FC.rfl, h⟩
    have h2 := Classical.not_not.mp h2
    have hc : 0 ≤ x1 ∧ x1 ≤ 255 := ⟨Int32.not_lt.mp h1, h2⟩
    rw [if_pos h2, if_pos hc, if_pos hc]
    obtain ⟨v, hv, rfl⟩ := to_nN_le (m := 255) (by decide) hc.1 hc.2
    have hT := h.2.2.2.2.2.1
    unfold fX10_append
    rw [hT.1, nN_cl (by omega)]
    by_cases hf : sY S = 200
    · rw [hf, if_neg (show ¬ nN 200 < 200 by decide), bI_some, if_pos rfl, if_pos rfl, if_pos rfl]; exact ⟨M, rfl, FC.rfl, h⟩
    · rw [if_neg hf, if_neg hf, if_pos (show nN (sY S) < 200 from (nN_lt (b := 200) (by omega) (by decide)).mpr (by omega)), if_pos ((nN_inB (by omega)).mpr (by omega)), nN_cl (by omega), g_si (show (1 : Nat) ≠ 2 by decide), hT.1, nN_succ, bI_some, if_neg (by decide)]
      refine ⟨sM (sM M 2 (sY S) (nN v)) 1 1 (nN (sY S + 1)), by rw [row_h], fun i hi => ⟨?_, rfl⟩, h.setY (fun i h1 h2 _ => ?_) rfl ⟨row_h, fun i hi => ?_⟩⟩
      · rw [(sM_other _ 1 1 _ i (by omega)).1, (sM_other _ 2 _ _ i (by omega)).1]
      · rw [(sM_other _ 1 1 _ i h1).1, (sM_other _ 2 _ _ i h2).1]
      · rw [g_si (by decide)]
        by_cases hi2 : i = sY S
        · subst hi2; rw [row_h]; show _ = nN (if sY S = sY S then v else sX S (sY S)); rw [if_pos rfl]
        · rw [row_o hi2]; show _ = nN (if i = sY S then v else sX S i); rw [if_neg hi2]; exact hT.2 i (by omega)
  · show ∃ M1, fX12_type M x1 = _ ∧ _
    unfold fX12_type typeRes typeNx
    have hl := h0.2.2.2.2.2.2.2.1
    have q0 := QR.t M 0
    have h' := h.q q0
    by_cases hc : ¬ (0 ≤ x1 ∧ x1 ≤ 255)
    · rw [in_n hc, bI_some, if_pos rfl, if_neg hc, if_neg hc]; exact ⟨_, rfl, q0.d, h'⟩
    have hc := Classical.not_not.mp hc
    rw [in_y hc.1 hc.2, bI_some, if_neg (by decide), if_pos hc, if_pos hc]
    obtain ⟨v, hv, rfl⟩ := to_nN_le (m := 255) (by decide) hc.1 hc.2
    have hT := h'.2.2.2.2.1
    rw [hT.1, nN_cl (by omega)]
    by_cases hf : sY S = 200
    · rw [hf, if_pos (show nN 200 = 200 from rfl), if_pos rfl, if_pos rfl]; exact ⟨_, rfl, q0.d, h'⟩
    · rw [if_neg (show ¬ nN (sY S) = 200 from fun e => hf ((nN_eq (b := 200) (by omega) (by decide)).mp e)), if_neg hf, if_neg hf, if_pos ((nN_inB (by omega)).mpr (by omega)), nN_cl (by omega), g_si (show (109 : Nat) ≠ 110 by decide), hT.1, nN_succ]
      refine ⟨sM (sM (sM M 109 0 0) 110 (sY S) (nN v)) 109 3 (nN (sY S + 1)), by rw [row_h], q0.d.tr (fun i hi => ⟨?_, rfl⟩), h'.setY (fun i h1 h2 => ?_) ?_ ?_ rfl ⟨row_h, fun i hi => ?_⟩⟩
      · rw [(sM_other _ 109 3 _ i (by omega)).1, (sM_other _ 110 _ _ i (by omega)).1]
      · rw [(sM_other _ 109 3 _ i (by omega)).1, (sM_other _ 110 _ _ i (by omega)).1]
      · rw [row_o (by decide), g_si (by decide)]
      · rw [row_o (by decide), g_si (by decide)]
      · rw [g_si (by decide)]
        by_cases hi2 : i = sY S
        · subst hi2; rw [row_h]; show _ = nN (if sY S = sY S then v else sX S (sY S)); rw [if_pos rfl]
        · rw [row_o hi2]; show _ = nN (if i = sY S then v else sX S i); rw [if_neg hi2]; exact hT.2 i (by omega)
  · unfold typeNx
    split
    · rename_i hc
      split
      · exact h0
      · rename_i hf
        obtain ⟨v, hv, rfl⟩ := to_nN_le (m := 255) (by decide) hc.1 hc.2
        rw [nN_cl (by omega)]
        refine ⟨h0.1, h0.2.1, h0.2.2.1, h0.2.2.2.1, h0.2.2.2.2.1, h0.2.2.2.2.2.1, h0.2.2.2.2.2.2.1, ?_, fun i hi => ?_⟩
        · show sY S + 1 ≤ 200
          have := h0.2.2.2.2.2.2.2.1
          omega
        · show (if i = sY S then v else sX S i) ≤ 255
          split
          · exact hv
          · have hi : i < sY S + 1 := hi
            exact h0.2.2.2.2.2.2.2.2 i (by omega)
    · exact h0
theorem st_clear : Step fX11_clear fX12_clear := by
  refine step_c (fun S => nN (sY S)) (fun S => setY S 0 (sX S)) (fun M S h0 h => ?_) (fun M S h0 h => ?_) (fun S h0 => ?_)
  · unfold fX11_clear
    rw [h.2.2.2.2.2.1.1]
    refine ⟨_, rfl, fun i hi => ⟨(sM_other _ 1 1 _ i (by omega)).1, rfl⟩, h.setY (fun i h1 h2 _ => (sM_other _ 1 1 _ i h1).1) rfl ⟨row_h, fun i hi => absurd hi (Nat.not_lt_zero _)⟩⟩
  · unfold fX12_clear
    have q0 := QR.t M 0
    have h' := h.q q0
    rw [h'.2.2.2.2.1.1]
    refine ⟨_, rfl, q0.d.tr (fun i hi => ⟨(sM_other _ 109 3 _ i (by omega)).1, rfl⟩), h'.setY (fun i h1 h2 => (sM_other _ 109 3 _ i (by omega)).1) (row_o (by decide)) (row_o (by decide)) rfl ⟨row_h, fun i hi => absurd hi (Nat.not_lt_zero _)⟩⟩
  · exact ⟨h0.1, h0.2.1, h0.2.2.1, h0.2.2.2.1, h0.2.2.2.2.1, h0.2.2.2.2.2.1, h0.2.2.2.2.2.2.1, Nat.zero_le _, fun i hi => absurd hi (Nat.not_lt_zero _)⟩
