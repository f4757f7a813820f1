/-! a ferry under way: its tables, and a moment's start -/
def BX (M : Mem) (f : Nat) (V : FV) (wt : Nat) : Prop := gM M f 0 = nN (vN V) ∧ gM M f 7 = nN (vW V) ∧ gM M f 4 = nN (vC V) ∧ gM M f 8 = nN wt ∧ (∀ p, p < vN V → gM M (f + 1) p = nN (vS V p) ∧ gM M (f + 2) p = nN (vK V p) ∧ gM M (f + 3) p = nN (vH V p)) ∧ (∀ k, k < vC V → gM M (f + 4) k = nN (vY V k) ∧ gM M (f + 5) k = nN (vF V k))
def FrF (f : Nat) (M M' : Mem) : Prop := (∀ i, i ≠ 1 → (i < f ∨ f + 8 ≤ i) → gM M' i = gM M i) ∧ gM M' 1 1 = gM M 1 1 ∧ ∀ i, gL M' i = gL M i
theorem FrF.rfl {M : Mem} {f : Nat} : FrF f M M := ⟨fun _ _ _ => Eq.refl _, Eq.refl _, fun _ => Eq.refl _⟩
theorem FrF.tr {f : Nat} {M M1 M2 : Mem} (h : FrF f M M1) (h2 : FrF f M1 M2) : FrF f M M2 := ⟨fun i hi h => (h2.1 i hi h).trans (by exact (‹FrF f M M1›).1 i hi h), h2.2.1.trans h.2.1, fun i => (h2.2.2 i).trans (h.2.2 i)⟩
theorem FrT.f {f : Nat} {M M' : Mem} (h : FrT M M') : FrF f M M' := ⟨fun i hi _ => h.1 i hi, h.2.1, h.2.2⟩
theorem FrF.s {f : Nat} {M : Mem} {i k : Nat} {v : Int32} (hf : 3 ≤ f) (h1 : f ≤ i) (h2 : i < f + 8) : FrF f M (sM M i k v) := ⟨fun j _ hj => (sM_other _ i k v j (by omega)).1, g_si (by omega), fun _ => Eq.refl _⟩
theorem BX.mv {M M' : Mem} {f wt : Nat} {V : FV} (h : BX M f V wt) (e : ∀ i, f ≤ i → i < f + 6 → gM M' i = gM M i) : BX M' f V wt := by
  unfold BX
  rw [e f (by omega) (by omega), e (f + 1) (by omega) (by omega), e (f + 2) (by omega) (by omega), e (f + 3) (by omega) (by omega), e (f + 4) (by omega) (by omega), e (f + 5) (by omega) (by omega)]
  exact h
def gIx (x : Nat) : Int32 := if x = 0 then -1 else nN (x - 1)
theorem ffX_loop {M : Mem} {V : FV} {f wt : Nat} (hF : BX M f V wt) (hV : VOk V) {y : Nat} (hy : y < 1000) : ∀ (c k fu : Nat) (q : Nat × Nat), k + c = vC V → c < fu → q.1 ≤ 200 → lX2_findFlow_7 fu M f (nN y) (nN q.2) (gIx q.1) (nN k) = some (M, nN (fol (flowG V y) c k q).2) := by
  intro c
  have hc := hV.2.1
  induction c with
  | zero =>
    intro k fu q hk hf hq
    obtain ⟨fu, rfl⟩ := fu1 hf
    show sX2_findFlow_7 _ M f (nN y) (nN q.2) (gIx q.1) (nN k) = _
    unfold sX2_findFlow_7
    rw [hF.2.2.1, if_pos ((nN_le (by omega) (by omega)).mpr (by omega))]
    rfl
  | succ c ih =>
    intro k fu q hk hf hq
    obtain ⟨fu, rfl⟩ := fu1 hf
    show sX2_findFlow_7 (lX2_findFlow_7 fu) M f (nN y) (nN q.2) (gIx q.1) (nN k) = _
    unfold sX2_findFlow_7
    have hy2 := (hV.2.2.2.2 k (by omega)).1
    have eF := hF.2.2.2.2.2 k (by omega)
    rw [hF.2.2.1, if_neg (by rw [nN_le (by omega) (by omega)]; omega), if_neg (show ¬ (4 : Int32) ≤ nN k from fun e => by have := (nN_le (a := 4) (by decide) (by omega)).mp e; omega), if_pos ((nN_inB (by omega)).mpr (by omega)), nN_cl (by omega), eF.1, eF.2, nN_succ, fol_s]
    by_cases h1 : y < vY V k
    · rw [if_pos ((nN_lt (by omega) (by omega)).mpr h1), ih (k + 1) fu q (by omega) (by omega) hq]
      unfold flowG
      rw [if_neg (by omega)]
    · rw [if_neg (by rw [nN_lt (by omega) (by omega)]; exact h1)]
      by_cases h2 : q.1 ≤ vY V k
      · rw [if_neg ?_]
        · have : nN (vY V k) = gIx (vY V k + 1) := by unfold gIx; rw [if_neg (by omega)]; rfl
          rw [this]
          have hi := ih (k + 1) fu (vY V k + 1, vF V k) (by omega) (by omega) (by show vY V k + 1 ≤ 200; omega)
          rw [hi]
          unfold flowG
          rw [if_pos ⟨by omega, h2⟩]
        · unfold gIx
          split
          · rw [Int32.le_iff_toInt_le, nN_toInt (by omega)]
            have : (-1 : Int32).toInt = -1 := by decide
            omega
          · rw [nN_le (by omega) (by omega)]; omega
      · rw [if_pos ?_, ih (k + 1) fu q (by omega) (by omega) hq]
        · unfold flowG
          rw [if_neg (by omega)]
        · unfold gIx
          rw [if_neg (by omega), nN_le (by omega) (by omega)]; omega
theorem ffX {M : Mem} {V : FV} {f wt : Nat} (hF : BX M f V wt) (hV : VOk V) {y : Nat} (hy : y < 1000) : fX2_findFlow M f (nN y) = some (M, nN (flowS V y)) :=
  ffX_loop hF hV hy (vC V) 0 fuel (0, 0) (by omega) (fuel_ge (by have := hV.2.1; omega)) (by decide)
theorem pull_bad {V : FV} {o : Nat} : ∀ (c k : Nat) (q : PQ), 2 ≤ q.1 → q.2.2.2 = false → pullE (fol (pullG V o) c k q) = none
  | 0, k, q, h1, h2 => by
    rw [fol_0]; unfold pullE
    rw [if_neg (by rintro (e | e); · omega
                   · rw [h2] at e; exact absurd e (by decide))]
  | c + 1, k, q, h1, h2 => by
    rw [fol_s]
    refine pull_bad c (k + 1) _ ?_ ?_
    · unfold pullG; split
      · show 2 ≤ q.1 + 1; omega
      · exact h1
    · unfold pullG; split
      · show (q.2.2.2 && _ && _) = false
        rw [h2]; rfl
      · exact h2
def pInv (q : PQ) : Prop := (q.1 = 0 ∧ q.2.2.1 = 0 ∧ q.2.2.2 = true) ∨ (1 ≤ q.1 ∧ ∃ h, h ≤ 3 ∧ q.2.2.1 = h + 1 ∧ q.2.2.2 = decide (0 < h) ∧ (2 ≤ q.1 → q.2.2.2 = true))
theorem fpX_loop {M : Mem} {V : FV} {f wt : Nat} (hF : BX M f V wt) (hV : VOk V) {o : Nat} (ho : o < 64) : ∀ (c k fu : Nat) (q : PQ), k + c = vN V → c < fu → pInv q → lX2_findPull_7 fu M f (nN o) (gIx q.2.2.1) (nN q.2.1) (nN k) = some (M, pI (pullE (fol (pullG V o) c k q))) := by
  intro c
  have hn := hV.1
  induction c with
  | zero =>
    intro k fu q hk hf hq
    obtain ⟨fu, rfl⟩ := fu1 hf
    show sX2_findPull_7 _ M f (nN o) _ _ (nN k) = _
    unfold sX2_findPull_7
    rw [hF.1, if_pos ((nN_le (by omega) (by omega)).mpr (by omega)), fol_0]
    unfold pullE
    rw [if_pos ?_]
    · rfl
    · rcases hq with ⟨h1, -, -⟩ | ⟨h1, h, -, -, -, h5⟩
      · exact Or.inl (by omega)
      · rcases Nat.lt_or_ge q.1 2 with h2 | h2
        · exact Or.inl h2
        · exact Or.inr (h5 h2)
  | succ c ih =>
    intro k fu q hk hf hq
    obtain ⟨fu, rfl⟩ := fu1 hf
    show sX2_findPull_7 (lX2_findPull_7 fu) M f (nN o) (gIx q.2.2.1) (nN q.2.1) (nN k) = _
    unfold sX2_findPull_7 sX2_findPull_58 sX2_findPull_59
    have e := hF.2.2.2.2.1 k (by omega)
    have hv := hV.2.2.2.1 k (by omega)
    have hin : inB (nN k) 6 := (nN_inB (by omega)).mpr (by omega)
    rw [hF.1, if_neg (by rw [nN_le (by omega) (by omega)]; omega), if_neg (show ¬ (6 : Int32) ≤ nN k from fun e => by have := (nN_le (a := 6) (by decide) (by omega)).mp e; omega), show (nN o >>> (nN k &&& 31)) &&& 1 = bt (nN o) k from rfl, tb_nN ho (by omega), nN_cl (by omega), e.1, e.2.2, nN_succ, nN_add, fol_s]
    simp only [if_pos hin]
    by_cases hb : o.testBit k = true
    · rw [if_pos hb, if_neg (by decide)]
      have hg : pullG V o k q = (q.1 + 1, q.2.1 + vS V k, vH V k + 1, q.2.2.2 && decide (0 < vH V k) && (decide (q.2.2.1 = 0) || decide (vH V k + 1 = q.2.2.1))) := by
        unfold pullG; rw [if_pos hb]
      have e2 : nN (vH V k) = gIx (vH V k + 1) := by unfold gIx; rw [if_neg (by omega)]; rfl
      rcases hq with ⟨h1, h2, h3⟩ | ⟨h1, h, h2, h3, h4, h5⟩
      · rw [h2, if_pos (show gIx 0 < 0 by decide), if_neg (by decide), hg, h2, h3]
        have hi := ih (k + 1) fu (q.1 + 1, q.2.1 + vS V k, vH V k + 1, decide (0 < vH V k)) (by omega) (by omega) (Or.inr ⟨by show 1 ≤ q.1 + 1; omega, vH V k, hv.2.2, rfl, rfl, fun e => absurd (show 2 ≤ q.1 + 1 from e) (by omega)⟩)
        rw [show (true && decide (0 < vH V k) && (decide ((0 : Nat) = 0) || decide (vH V k + 1 = 0))) = decide (0 < vH V k) by simp]
        rw [e2]; exact hi
      · have eh : gIx q.2.2.1 = nN h := by rw [h3]; unfold gIx; rw [if_neg (by omega)]; rfl
        rw [eh, if_neg (Int32.not_lt.mpr (nN_nn (by omega)))]
        by_cases he : h = vH V k
        · rw [if_pos (by rw [he])]
          by_cases hz : h = 0
          · rw [if_pos (by rw [hz]; rfl), if_pos trivial, hg, pull_bad c (k + 1) _ (by show 2 ≤ q.1 + 1; omega) (by show (q.2.2.2 && _ && _) = false; rw [h4, hz]; rfl)]
            rfl
          · rw [if_neg (show ¬ nN h = 0 from fun e => hz ((nN_eq (b := 0) (by omega) (by decide)).mp e)), if_neg (by decide), hg, h3, h4]
            have hi := ih (k + 1) fu (q.1 + 1, q.2.1 + vS V k, vH V k + 1, true) (by omega) (by omega) (Or.inr ⟨by show 1 ≤ q.1 + 1; omega, vH V k, hv.2.2, rfl, by rw [← he]; exact (decide_eq_true (by omega)).symm, fun _ => rfl⟩)
            rw [show (decide (0 < h) && decide (0 < vH V k) && (decide (h + 1 = 0) || decide (vH V k + 1 = h + 1))) = true by rw [← he]; simp; omega, e2]
            exact hi
        · rw [if_neg (show ¬ nN h = nN (vH V k) from fun e => he ((nN_eq (by omega) (by omega)).mp e)), if_pos trivial, hg, pull_bad c (k + 1) _ (by show 2 ≤ q.1 + 1; omega) (by show (q.2.2.2 && _ && (decide (q.2.2.1 = 0) || decide (vH V k + 1 = q.2.2.1))) = false; rw [h3, decide_eq_false (show ¬ h + 1 = 0 by omega), decide_eq_false (show ¬ vH V k + 1 = h + 1 by omega)]; simp)]
          rfl
    · rw [if_neg hb, if_pos rfl, ih (k + 1) fu q (by omega) (by omega) hq]
      unfold pullG
      rw [if_neg hb]
theorem fpX {M : Mem} {V : FV} {f wt : Nat} (hF : BX M f V wt) (hV : VOk V) {o : Nat} (ho : o < 64) : fX2_findPull M f (nN o) = some (M, pI (pullS V o)) :=
  fpX_loop hF hV ho (vN V) 0 fuel (0, 0, 0, true) (by omega) (fuel_ge (by have := hV.1; omega)) (Or.inl ⟨rfl, rfl, rfl⟩)
theorem set2X {V : FV} {f wt : Nat} (hf3 : 3 ≤ f) (hV : VOk V) : ∀ (c k fu : Nat) (M : Mem), k + c = 200 → c < fu → BX M f V wt → ∃ M1, lX2_settle_30 fu M f (nN k) = some M1 ∧ Fr1 (f + 7) M M1 ∧ ∀ e, e < 200 → gM M1 (f + 7) e = if k ≤ e then nN (flowS V e) else gM M (f + 7) e := by
  intro c
  induction c with
  | zero =>
    intro k fu M hk hf h
    obtain ⟨fu, rfl⟩ := fu1 hf
    have hk : k = 200 := by omega
    subst hk
    refine ⟨M, ?_, Fr1.rfl, fun e he => by rw [if_neg (by omega)]⟩
    show sX2_settle_30 (lX2_settle_30 fu) M f (nN 200) = _
    unfold sX2_settle_30
    rw [if_pos (by decide)]
  | succ c ih =>
    intro k fu M hk hf h
    obtain ⟨fu, rfl⟩ := fu1 hf
    show ∃ M1, sX2_settle_30 (lX2_settle_30 fu) M f (nN k) = _ ∧ _
    unfold sX2_settle_30
    rw [if_neg (show ¬ (200 : Int32) ≤ nN k from fun h => by have := (nN_le (a := 200) (by decide) (by omega)).mp h; omega), ffX h hV (by omega), bI_some, if_pos ((nN_inB (by omega)).mpr (by omega)), nN_cl (by omega), nN_succ]
    obtain ⟨M1, a1, a2, a3⟩ := ih (k + 1) fu (sM M (f + 7) k (nN (flowS V k))) (by omega) (by omega) (h.mv (fun i h1 h2 => (sM_other _ (f + 7) _ _ i (by omega)).1))
    refine ⟨M1, a1, (Fr1.s (f + 7) k _ M).tr a2, fun e he => ?_⟩
    rw [a3 e he]
    by_cases h1 : e = k
    · subst h1; rw [if_neg (by omega), row_h, if_pos (by omega)]
    · by_cases h2 : k + 1 ≤ e
      · rw [if_pos h2, if_pos (by omega)]
      · rw [if_neg h2, row_o h1, if_neg (by omega)]
theorem set1X {V : FV} {f wt : Nat} (hf3 : 3 ≤ f) (hV : VOk V) : ∀ (c k fu : Nat) (M : Mem), k + c = 64 → c < fu → BX M f V wt → ∃ M1, lX2_settle_2 fu M f (nN k) = lX2_settle_30 fuel M1 f 0 ∧ Fr1 (f + 6) M M1 ∧ ∀ e, e < 64 → gM M1 (f + 6) e = if k ≤ e then pI (pullS V e) else gM M (f + 6) e := by
  intro c
  induction c with
  | zero =>
    intro k fu M hk hf h
    obtain ⟨fu, rfl⟩ := fu1 hf
    have hk : k = 64 := by omega
    subst hk
    refine ⟨M, ?_, Fr1.rfl, fun e he => by rw [if_neg (by omega)]⟩
    show sX2_settle_2 (lX2_settle_2 fu) M f (nN 64) = _
    unfold sX2_settle_2
    rw [if_pos (by decide)]
  | succ c ih =>
    intro k fu M hk hf h
    obtain ⟨fu, rfl⟩ := fu1 hf
    show ∃ M1, sX2_settle_2 (lX2_settle_2 fu) M f (nN k) = _ ∧ _
    unfold sX2_settle_2
    rw [if_neg (show ¬ (64 : Int32) ≤ nN k from fun h => by have := (nN_le (a := 64) (by decide) (by omega)).mp h; omega), fpX h hV (by omega), bI_some, if_pos ((nN_inB (by omega)).mpr (by omega)), nN_cl (by omega), nN_succ]
    obtain ⟨M1, a1, a2, a3⟩ := ih (k + 1) fu (sM M (f + 6) k (pI (pullS V k))) (by omega) (by omega) (h.mv (fun i h1 h2 => (sM_other _ (f + 6) _ _ i (by omega)).1))
    refine ⟨M1, a1, (Fr1.s (f + 6) k _ M).tr a2, fun e he => ?_⟩
    rw [a3 e he]
    by_cases h1 : e = k
    · subst h1; rw [if_neg (by omega), row_h, if_pos (by omega)]
    · by_cases h2 : k + 1 ≤ e
      · rw [if_pos h2, if_pos (by omega)]
      · rw [if_neg h2, row_o h1, if_neg (by omega)]
theorem settleX {V : FV} {M : Mem} {f wt : Nat} (hf3 : 3 ≤ f) (hV : VOk V) (h : BX M f V wt) : ∃ M1, fX2_settle M f = some M1 ∧ FrF f M M1 ∧ FX M1 f V := by
  obtain ⟨M1, a1, a2, a3⟩ := set1X hf3 hV 64 0 fuel M rfl (fuel_ge (by decide)) h
  have h1 : BX M1 f V wt := h.mv (fun i h1 h2 => a2.1 i (by omega))
  obtain ⟨M2, b1, b2, b3⟩ := set2X hf3 hV 200 0 fuel M1 rfl (fuel_ge (by decide)) h1
  have h2 : BX M2 f V wt := h1.mv (fun i h1 h2 => b2.1 i (by omega))
  refine ⟨M2, a1.trans b1, ⟨fun i hi hj => (b2.1 i (by omega)).trans (a2.1 i (by omega)), by rw [b2.1 1 (by omega), a2.1 1 (by omega)], fun i => (b2.2 i).trans (a2.2 i)⟩, h2.1, h2.2.1, h2.2.2.1, h2.2.2.2.2.1, fun o ho => ?_, fun y hy => ?_⟩
  · rw [b2.1 (f + 6) (by omega), a3 o ho, if_pos (Nat.zero_le _)]
  · rw [b3 y hy, if_pos (Nat.zero_le _)]
/-- a moment's start -/
def A0 : AM := (0, 0, 0, fun _ => 0, fun _ => 0)
theorem A0_ok {V : FV} {B : Nat} (hV : VOk V) : AOk V B A0 := ⟨Nat.zero_le _, Nat.zero_le _, Nat.two_pow_pos _, fun p hp => ⟨by have := (hV.2.2.2.1 p hp).2.1.1; show 0 < vK V p; omega, Nat.le_refl _⟩, fun _ _ => ⟨rfl, rfl⟩⟩
theorem fill6 {b : Nat} : ∀ (c k fu : Nat) (M : Mem), k + c = 6 → c < fu → ∃ M1, lJ7_fill_53178_5 fu M b 0 (nN k) 6 = some M1 ∧ Fr1 b M M1 ∧ ∀ e, e < 6 → gM M1 b e = if k ≤ e then 0 else gM M b e := by
  intro c
  induction c with
  | zero =>
    intro k fu M hk hf
    obtain ⟨fu, rfl⟩ := fu1 hf
    have hk : k = 6 := by omega
    subst hk
    refine ⟨M, ?_, Fr1.rfl, fun e he => by rw [if_neg (by omega)]⟩
    show sJ7_fill_53178_5 (lJ7_fill_53178_5 fu) M b 0 (nN 6) 6 = _
    unfold sJ7_fill_53178_5
    rw [if_pos (by decide)]
  | succ c ih =>
    intro k fu M hk hf
    obtain ⟨fu, rfl⟩ := fu1 hf
    show ∃ M1, sJ7_fill_53178_5 (lJ7_fill_53178_5 fu) M b 0 (nN k) 6 = _ ∧ _
    unfold sJ7_fill_53178_5
    rw [if_neg (show ¬ (6 : Int32) ≤ nN k from fun h => by have := (nN_le (a := 6) (by decide) (by omega)).mp h; omega), if_pos ((nN_inB (by omega)).mpr (by omega)), nN_cl (by omega), nN_succ]
    obtain ⟨M1, a1, a2, a3⟩ := ih (k + 1) fu (sM M b k 0) (by omega) (by omega)
    refine ⟨M1, a1, (Fr1.s b k _ M).tr a2, fun e he => ?_⟩
    rw [a3 e he]
    by_cases h1 : e = k
    · subst h1; rw [if_neg (by omega), row_h, if_pos (by omega)]
    · by_cases h2 : k + 1 ≤ e
      · rw [if_pos h2, if_pos (by omega)]
      · rw [if_neg h2, row_o h1, if_neg (by omega)]
theorem startX {M : Mem} {V : FV} {f : Nat} (hf : isFe f) (hV : VOk V) (hF : FX M f V) : ∃ M1, fX4_start M 19 f = some M1 ∧ Fr3 19 M M1 ∧ RX V A0 M1 19 := by
  have hfb := fe_b hf
  have hn := hV.1
  unfold fX4_start fJ7_fill_53178
  obtain ⟨M1, a1, a2, a3⟩ := fill6 (b := 19 + 1) 6 0 fuel (sM (sM M 19 0 0) 19 1 0) rfl (fuel_ge (by decide))
  rw [show (0 : Int32) = nN 0 from rfl] at a1 ⊢
  rw [a1, bV_some]
  obtain ⟨M2, b1, b2, b3⟩ := fill6 (b := 19 + 2) 6 0 fuel M1 rfl (fuel_ge (by decide))
  rw [show (0 : Int32) = nN 0 from rfl] at b1
  rw [b1, bV_some]
  have e0 : gM M2 19 = gM (sM (sM M 19 0 0) 19 1 0) 19 := (b2.1 19 (by decide)).trans (a2.1 19 (by decide))
  have e1 : ∀ e, e < 6 → gM M2 20 e = 0 := fun e he => by rw [b2.1 20 (by decide), a3 e he, if_pos (Nat.zero_le _)]
  have fr : Fr3 19 M M2 := ⟨fun i h1 h2 h3 => by rw [b2.1 i (by omega), a2.1 i (by omega), (sM_other _ 19 _ _ i h1).1, (sM_other _ 19 _ _ i h1).1], fun i => (b2.2 i).trans (a2.2 i)⟩
  have hF2 : FX M2 f V := hF.mv (fun i h1 h2 => fr.1 i (by omega) (by omega) (by omega))
  obtain ⟨M3, c1, c2, c3⟩ := speakX' (b := 19) (A := A0) (m := 0) hF2 hV hf mo_19 (Nat.two_pow_pos _) (by decide) (by rw [e0, row_o (by decide), row_h]; rfl) (by rw [e0, row_h]; rfl) (fun p hp => e1 p (by omega)) (fun p hp => (b3 p hp).trans (by rw [if_pos (Nat.zero_le _)]; rfl))
  rw [c1, bV_some]
  have hA : speakS V A0 0 = A0 := by
    unfold speakS
    simp only [Nat.zero_testBit, Bool.false_eq_true, and_false, if_false]
    rfl
  rw [hA] at c3
  exact ⟨M3, rfl, fr.tr c2, c3⟩
