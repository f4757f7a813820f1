/-! the reference's inner methods -/
def FR (M : Mem) (V : FV) : Prop := gM M 111 0 = nN (vN V) ∧ gM M 111 1 = nN (vW V) ∧ gM M 111 2 = nN (vC V) ∧ (∀ p, p < vN V → gM M 112 p = nN (vS V p) ∧ gM M 113 p = nN (vK V p) ∧ gM M 114 p = nN (vH V p)) ∧ (∀ k, k < vC V → gM M 115 k = nN (vY V k) ∧ gM M 116 k = nN (vF V k))
def Fr1 (r : Nat) (M M' : Mem) : Prop := (∀ i, i ≠ r → gM M' i = gM M i) ∧ (∀ i, gL M' i = gL M i)
theorem Fr1.rfl {r : Nat} {M : Mem} : Fr1 r M M := ⟨fun _ _ => Eq.refl _, fun _ => Eq.refl _⟩
theorem Fr1.tr {r : Nat} {M M1 M2 : Mem} (h : Fr1 r M M1) (h2 : Fr1 r M1 M2) : Fr1 r M M2 := ⟨fun i hi => (h2.1 i hi).trans (h.1 i hi), fun i => (h2.2 i).trans (h.2 i)⟩
theorem Fr1.s (r k : Nat) (v : Int32) (M : Mem) : Fr1 r M (sM M r k v) := ⟨fun i hi => (sM_other M r k v i hi).1, fun _ => Eq.refl _⟩
theorem FR.mv {M M' : Mem} {V : FV} (h : FR M V) (e : ∀ i, 111 ≤ i → i ≤ 116 → gM M' i = gM M i) : FR M' V := by
  unfold FR
  rw [e 111 (by decide) (by decide), e 112 (by decide) (by decide), e 113 (by decide) (by decide), e 114 (by decide) (by decide), e 115 (by decide) (by decide), e 116 (by decide) (by decide)]
  exact h
theorem FR.fr {r : Nat} {M M' : Mem} {V : FV} (h : FR M V) (f : Fr1 r M M') (hr : r < 111 ∨ 116 < r) : FR M' V := h.mv (fun i h1 h2 => f.1 i (by omega))
theorem in_y {M : Mem} {x a b : Int32} (h1 : a ≤ x) (h2 : x ≤ b) : fX12_in M x a b = some (M, 1) := by
  unfold fX12_in
  rw [if_neg (Int32.not_lt.mpr h1), if_neg (Int32.not_lt.mpr h2)]
theorem in_n {M : Mem} {x a b : Int32} (h : ¬ (a ≤ x ∧ x ≤ b)) : fX12_in M x a b = some (M, 0) := by
  unfold fX12_in
  by_cases h1 : x < a
  · rw [if_pos h1]
  · rw [if_neg h1, if_pos (Int32.not_le.mp fun h2 => h ⟨Int32.not_lt.mp h1, h2⟩)]
theorem row_s (M : Mem) (i k : Nat) (v : Int32) (j : Nat) : gM (sM M i k v) i j = if j = k then v else gM M i j := by
  rw [g_s]; simp
theorem row_o {M : Mem} {i k : Nat} {v : Int32} {j : Nat} (h : j ≠ k) : gM (sM M i k v) i j = gM M i j := g_sk h
theorem row_h {M : Mem} {i k : Nat} {v : Int32} : gM (sM M i k v) i k = v := g_ss M i k v
def RR0 (A : AM) (r : Nat → Int32) : Prop := r 1 = nN (aW A) ∧ r 2 = nN (aO A) ∧ ∀ p, p < 6 → r (3 + p) = nN (aS A p) ∧ r (9 + p) = nN (aD A p)
def RR (A : AM) (r : Nat → Int32) : Prop := r 0 = nN (aT A) ∧ RR0 A r
def fI (x : Nat) : Int32 := if x = 0 then -9 else nN (x - 1)
section REF
variable {M : Mem} {V : FV}
theorem flowR_loop (hF : FR M V) (hV : VOk V) {y : Nat} (hy : y < 1000) : ∀ (c k fu : Nat) (q : Nat × Nat), k + c = vC V → c < fu → q.1 ≤ 200 → lX12_flowAt_8 fu M (nN y) (fI q.1) (nN q.2) (nN k) = some (M, nN (fol (flowG V y) c k q).2) := by
  intro c
  have hc := hV.2.1
  induction c with
  | zero =>
    intro k fu q hk hf hq
    obtain ⟨fu, rfl⟩ : ∃ f, fu = f + 1 := ⟨fu - 1, by omega⟩
    show sX12_flowAt_8 _ M (nN y) (fI q.1) (nN q.2) (nN k) = _
    unfold sX12_flowAt_8
    rw [hF.2.2.1, if_pos ((nN_le (by omega) (by omega)).mpr (by omega))]
    rfl
  | succ c ih =>
    intro k fu q hk hf hq
    obtain ⟨fu, rfl⟩ : ∃ f, fu = f + 1 := ⟨fu - 1, by omega⟩
    show sX12_flowAt_8 (lX12_flowAt_8 fu) M (nN y) (fI q.1) (nN q.2) (nN k) = _
    unfold sX12_flowAt_8
    have hy2 := (hV.2.2.2.2 k (by omega)).1
    rw [hF.2.2.1, if_neg (by rw [nN_le (by omega) (by omega)]; omega), if_pos ((nN_inB (by omega)).mpr (by omega)), nN_cl (by omega), (hF.2.2.2.2 k (by omega)).1, (hF.2.2.2.2 k (by omega)).2, nN_succ, fol_s]
    by_cases h1 : y < vY V k
    · rw [if_pos ((nN_lt (by omega) (by omega)).mpr h1), ih (k + 1) fu q (by omega) (by omega) hq]
      unfold flowG
      rw [if_neg (by omega)]
    · rw [if_neg (by rw [nN_lt (by omega) (by omega)]; exact h1)]
      by_cases h2 : q.1 ≤ vY V k
      · rw [if_neg ?_]
        · have : nN (vY V k) = fI (vY V k + 1) := by unfold fI; rw [if_neg (by omega)]; rfl
          rw [this]
          have hi := ih (k + 1) fu (vY V k + 1, vF V k) (by omega) (by omega) (by show vY V k + 1 ≤ 200; omega)
          rw [hi]
          unfold flowG
          rw [if_pos ⟨by omega, h2⟩]
        · unfold fI
          split
          · rw [Int32.le_iff_toInt_le, nN_toInt (by omega)]
            have : (-9 : Int32).toInt = -9 := by decide
            omega
          · rw [nN_le (by omega) (by omega)]; omega
      · rw [if_pos ?_, ih (k + 1) fu q (by omega) (by omega) hq]
        · unfold flowG
          rw [if_neg (by omega)]
        · unfold fI
          rw [if_neg (by omega), nN_le (by omega) (by omega)]; omega
theorem flowR (hF : FR M V) (hV : VOk V) {y : Nat} (hy : y < 1000) : fX12_flowAt M (nN y) = some (M, nN (flowS V y)) :=
  flowR_loop hF hV hy (vC V) 0 fuel (0, 0) (by omega) (fuel_ge (by have := hV.2.1; omega)) (by decide)
def oI (b : Bool) : Int32 := if b = true then 1 else 0
theorem pullR_loop (hF : FR M V) (hV : VOk V) {o : Nat} (ho : o < 64) : ∀ (c k fu : Nat) (q : PQ), k + c = vN V → c < fu → q.1 ≤ k → q.2.2.1 ≤ 4 → lX12_pullOf_14 fu M (nN o) (nN q.1) (nN q.2.1) (fI q.2.2.1) (oI q.2.2.2) (nN k) = some (M, pI (pullE (fol (pullG V o) c k q))) := by
  intro c
  have hn := hV.1
  induction c with
  | zero =>
    intro k fu q hk hf hq h4
    obtain ⟨fu, rfl⟩ : ∃ f, fu = f + 1 := ⟨fu - 1, by omega⟩
    show sX12_pullOf_14 _ M (nN o) (nN q.1) (nN q.2.1) (fI q.2.2.1) (oI q.2.2.2) (nN k) = _
    unfold sX12_pullOf_14 sX12_pullOf_104
    rw [hF.1, if_pos ((nN_le (by omega) (by omega)).mpr (by omega)), fol_0]
    unfold pullE
    by_cases h1 : q.1 < 2
    · rw [if_pos (show nN q.1 < 2 from (nN_lt (b := 2) (by omega) (by decide)).mpr h1), if_pos (Or.inl h1)]
      rfl
    · rw [if_neg (show ¬ nN q.1 < 2 from fun h => h1 ((nN_lt (b := 2) (by omega) (by decide)).mp h))]
      cases hb : q.2.2.2 with
      | false =>
        rw [if_pos (show oI false = 0 from rfl), if_neg (by simp [h1])]
        rfl
      | true =>
        rw [if_neg (show ¬ oI true = 0 by decide), if_pos (Or.inr rfl)]
        rfl
  | succ c ih =>
    intro k fu q hk hf hq h4
    obtain ⟨fu, rfl⟩ : ∃ f, fu = f + 1 := ⟨fu - 1, by omega⟩
    show sX12_pullOf_14 (lX12_pullOf_14 fu) M (nN o) (nN q.1) (nN q.2.1) (fI q.2.2.1) (oI q.2.2.2) (nN k) = _
    unfold sX12_pullOf_14
    obtain ⟨e1, e2, e3⟩ := hF.2.2.2.1 k (by omega)
    have hh := (hV.2.2.2.1 k (by omega)).2.2
    rw [hF.1, if_neg (by rw [nN_le (by omega) (by omega)]; omega), if_pos ((nN_inB (n := 12) (by omega)).mpr (by omega)), nN_cl (by omega), e1, e3, nN_succ k, nN_succ q.1, nN_add, fol_s]
    rw [show ((nN o >>> (nN k &&& 31)) &&& 1) = bt (nN o) k from rfl, tb_nN ho (by omega)]
    by_cases hb : o.testBit k = true
    · rw [if_pos hb, if_pos rfl]
      have hd : ∀ b : Bool, sX12_pullOf_87 (lX12_pullOf_14 fu) M (nN o) (nN (q.1 + 1)) (nN (q.2.1 + vS V k)) (nN k) (oI b) = some (M, pI (pullE (fol (pullG V o) c (k + 1) (q.1 + 1, q.2.1 + vS V k, vH V k + 1, b)))) := by
        intro b
        unfold sX12_pullOf_87
        rw [if_pos ((nN_inB (n := 12) (by omega)).mpr (by omega)), nN_cl (by omega), e3, nN_succ k]
        have := ih (k + 1) fu (q.1 + 1, q.2.1 + vS V k, vH V k + 1, b) (by omega) (by omega) (by show q.1 + 1 ≤ k + 1; omega) (by show vH V k + 1 ≤ 4; omega)
        rw [← this]
        rfl
      have hg : pullG V o k q = (q.1 + 1, q.2.1 + vS V k, vH V k + 1, q.2.2.2 && decide (0 < vH V k) && (decide (q.2.2.1 = 0) || decide (vH V k + 1 = q.2.2.1))) := by
        unfold pullG; rw [if_pos hb]
      rw [hg]
      unfold sX12_pullOf_86
      rw [show (0 : Int32) = oI false from rfl, show (1 : Int32) = oI true from rfl, hd, hd]
      cases hq4 : q.2.2.2 with
      | false => rw [if_pos rfl]; rfl
      | true =>
        rw [if_neg (by decide)]
        by_cases hz : vH V k = 0
        · rw [hz, if_pos (by decide)]; rfl
        · rw [if_neg (show ¬ nN (vH V k) ≤ oI false from fun h => hz (by have := (nN_le (b := 0) (by omega) (by decide)).mp h; omega))]
          by_cases hf0 : q.2.2.1 = 0
          · rw [hf0, if_pos (by decide)]
            have : 0 < vH V k := by omega
            simp [this]
          · have e9 : ¬ fI q.2.2.1 = -9 := by
              unfold fI
              rw [if_neg hf0, ← Int32.toInt_inj, nN_toInt (by omega)]
              have : (-9 : Int32).toInt = -9 := by decide
              omega
            rw [if_neg e9]
            have e10 : (nN (vH V k) = fI q.2.2.1) ↔ (vH V k + 1 = q.2.2.1) := by
              unfold fI
              rw [if_neg hf0, nN_eq (by omega) (by omega)]
              omega
            have h0 : 0 < vH V k := by omega
            by_cases h5 : vH V k + 1 = q.2.2.1
            · rw [if_pos (e10.mpr h5)]
              simp [h0, h5]
            · rw [if_neg (fun h => h5 (e10.mp h))]
              simp [h0, h5, hf0]
    · rw [if_neg hb, if_neg (by decide), ih (k + 1) fu q (by omega) (by omega) (by omega) h4]
      unfold pullG
      rw [if_neg hb]
theorem pullR (hF : FR M V) (hV : VOk V) {o : Nat} (ho : o < 64) : fX12_pullOf M (nN o) = some (M, pI (pullS V o)) :=
  pullR_loop hF hV ho (vN V) 0 fuel (0, 0, 0, true) (by omega) (fuel_ge (by have := hV.1; omega)) (Nat.le_refl _) (by decide)
theorem overR (hF : FR M V) (hV : VOk V) {r : Nat} {A : AM} (hw : gM M r 1 = nN (aW A)) (hA : aW A ≤ 300) : fX12_isOver M r = some (M, if vW V ≤ aW A then 1 else 0) := by
  unfold fX12_isOver
  have h2 := hV.2.2.1.2
  rw [hF.2.1, hw]
  by_cases h : vW V ≤ aW A
  · rw [if_neg (by rw [nN_lt (by omega) (by omega)]; omega), if_pos h]
  · rw [if_pos (by rw [nN_lt (by omega) (by omega)]; omega), if_neg h]
end REF
def speakK (k : Nat) (A : AM) (m : Nat) : AM := (aT A, aW A, m, fun p => if p < k ∧ m.testBit p = true then 0 else aS A p, fun p => if p < k ∧ m.testBit p = true then aD A p + 1 else aD A p)
theorem isR_out {r : Nat} (h : isR r) : r < 111 ∨ 116 < r := by rcases h with rfl | rfl <;> decide
theorem speakR_step {A : AM} {m k : Nat} (hk : k < 6) {r r' : Nat → Int32} (h : RR0 (speakK k A m) r) (e1 : r' 1 = r 1) (e2 : r' 2 = r 2) (e3 : ∀ p, p < 6 → r' (3 + p) = if p = k then (if m.testBit k = true then 0 else r (3 + k)) else r (3 + p)) (e4 : ∀ p, p < 6 → r' (9 + p) = if p = k then r (9 + k) + (if m.testBit k = true then 1 else 0) else r (9 + p)) : RR0 (speakK (k + 1) A m) r' := by
  refine ⟨e1.trans h.1, e2.trans h.2.1, fun p hp => ?_⟩
  obtain ⟨h3, h4⟩ := h.2.2 p hp
  rw [e3 p hp, e4 p hp]
  show _ = nN (if p < k + 1 ∧ m.testBit p = true then 0 else aS A p) ∧ _ = nN (if p < k + 1 ∧ m.testBit p = true then aD A p + 1 else aD A p)
  have h3 : r (3 + p) = nN (if p < k ∧ m.testBit p = true then 0 else aS A p) := h3
  have h4 : r (9 + p) = nN (if p < k ∧ m.testBit p = true then aD A p + 1 else aD A p) := h4
  by_cases hpk : p = k
  · subst hpk
    rw [if_neg (by omega)] at h3 h4
    rw [if_pos rfl, if_pos rfl, h3, h4]
    by_cases hb : m.testBit p = true
    · simp only [hb, if_true]
      rw [if_pos ⟨by omega, trivial⟩, if_pos ⟨by omega, trivial⟩]
      exact ⟨rfl, nN_succ _⟩
    · have hx : ¬ (p < p + 1 ∧ m.testBit p = true) := fun h => hb h.2
      rw [if_neg hb, if_neg hb, if_neg hx, if_neg hx]
      exact ⟨rfl, by rw [show (0 : Int32) = nN 0 from rfl, nN_add]; rfl⟩
  · rw [if_neg hpk, if_neg hpk, h3, h4]
    have : (p < k + 1 ∧ m.testBit p = true) ↔ (p < k ∧ m.testBit p = true) := by
      constructor
      · rintro ⟨h1, h2⟩; exact ⟨by omega, h2⟩
      · rintro ⟨h1, h2⟩; exact ⟨by omega, h2⟩
    simp only [this]
    exact ⟨trivial, trivial⟩
theorem speakR_loop {V : FV} (hV : VOk V) {A : AM} {m r : Nat} (hm : m < 64) (hr : isR r) : ∀ (c k fu : Nat) (M : Mem), k + c = vN V → c < fu → FR M V → RR0 (speakK k A m) (gM M r) → ∃ M', lX12_speak_6 fu M r (nN m) (nN k) = some M' ∧ Fr1 r M M' ∧ gM M' r 0 = gM M r 0 ∧ RR0 (speakS V A m) (gM M' r) := by
  intro c
  have hn := hV.1
  induction c with
  | zero =>
    intro k fu M hk hf hF h
    obtain ⟨fu, rfl⟩ : ∃ f, fu = f + 1 := ⟨fu - 1, by omega⟩
    refine ⟨M, ?_, Fr1.rfl, rfl, ?_⟩
    · show sX12_speak_6 _ M r (nN m) (nN k) = _
      unfold sX12_speak_6
      rw [hF.1, if_pos ((nN_le (by omega) (by omega)).mpr (by omega))]
    · have : k = vN V := by omega
      subst this
      exact h
  | succ c ih =>
    intro k fu M hk hf hF h
    obtain ⟨fu, rfl⟩ : ∃ f, fu = f + 1 := ⟨fu - 1, by omega⟩
    have hd : ∀ s2 : Int32, s2 = (if m.testBit k = true then 0 else gM M r (3 + k)) → ∃ M', sX12_speak_38 (lX12_speak_6 fu) M r (nN m) (nN k) r (3 + nN k) s2 = some M' ∧ Fr1 r M M' ∧ gM M' r 0 = gM M r 0 ∧ RR0 (speakS V A m) (gM M' r) := by
      intro s2 hs
      unfold sX12_speak_38
      rw [show (3 : Int32) + nN k = nN (3 + k) from nN_add 3 k, show (9 : Int32) + nN k = nN (9 + k) from nN_add 9 k, if_pos ((nN_inB (by omega)).mpr (by omega)), if_pos ((nN_inB (by omega)).mpr (by omega)), nN_cl (by omega), nN_cl (by omega), nN_succ]
      rw [show ((nN m >>> (nN k &&& 31)) &&& 1) = bt (nN m) k from rfl, tb_nN hm (by omega)]
      have f1 : Fr1 r M (sM (sM M r (3 + k) s2) r (9 + k) (gM (sM M r (3 + k) s2) r (9 + k) + if m.testBit k = true then 1 else 0)) := (Fr1.s r _ _ M).tr (Fr1.s r _ _ _)
      obtain ⟨M', g1, g2, g3, g4⟩ := ih (k + 1) fu _ (by omega) (by omega) (hF.fr f1 (isR_out hr)) (speakR_step (k := k) (by omega) h
        (by rw [row_o (by omega), row_o (by omega)]) (by rw [row_o (by omega), row_o (by omega)])
        (fun p hp => by
          rw [row_o (by omega)]
          by_cases hpk : p = k
          · subst hpk; rw [if_pos rfl, row_h, hs]
          · rw [if_neg hpk, row_o (by omega)])
        (fun p hp => by
          by_cases hpk : p = k
          · subst hpk; rw [if_pos rfl, row_h, row_o (by omega)]
          · rw [if_neg hpk, row_o (by omega), row_o (by omega)]))
      refine ⟨M', g1, f1.tr g2, ?_, g4⟩
      rw [g3, row_o (by omega), row_o (by omega)]
    show ∃ M', sX12_speak_6 (lX12_speak_6 fu) M r (nN m) (nN k) = some M' ∧ _
    unfold sX12_speak_6
    rw [hF.1, if_neg (by rw [nN_le (by omega) (by omega)]; omega), show ((nN m >>> (nN k &&& 31)) &&& 1) = bt (nN m) k from rfl, tb_nN hm (by omega)]
    by_cases hb : m.testBit k = true
    · rw [if_pos hb, if_pos rfl]
      exact hd 0 (by rw [if_pos hb])
    · rw [if_neg hb, if_neg (by decide), show (3 : Int32) + nN k = nN (3 + k) from nN_add 3 k, if_pos ((nN_inB (by omega)).mpr (by omega)), nN_cl (by omega)]
      have := hd (gM M r (3 + k)) (by rw [if_neg hb])
      rw [show (3 : Int32) + nN k = nN (3 + k) from nN_add 3 k] at this
      exact this
theorem speakR {V : FV} {M : Mem} {A : AM} {m r : Nat} (hF : FR M V) (hV : VOk V) (hm : m < 64) (hr : isR r) (h : RR0 A (gM M r)) : ∃ M', fX12_speak M r (nN m) = some M' ∧ Fr1 r M M' ∧ gM M' r 0 = gM M r 0 ∧ RR0 (speakS V A m) (gM M' r) := by
  have f1 := Fr1.s r 2 (nN m) M
  obtain ⟨M', g1, g2, g3, g4⟩ := speakR_loop (A := A) hV hm hr (vN V) 0 fuel (sM M r 2 (nN m)) (by omega) (fuel_ge (by have := hV.1; omega)) (hF.fr f1 (isR_out hr)) ⟨by rw [row_o (by omega)]; exact h.1, by rw [row_h]; rfl, fun p hp => by
    rw [row_o (by omega), row_o (by omega)]
    show _ = nN (if p < 0 ∧ m.testBit p = true then 0 else aS A p) ∧ _ = nN (if p < 0 ∧ m.testBit p = true then aD A p + 1 else aD A p)
    rw [if_neg (by omega), if_neg (by omega)]
    exact h.2.2 p hp⟩
  refine ⟨M', g1, f1.tr g2, ?_, g4⟩
  rw [g3, row_o (by omega)]
def incK (k : Nat) (A : AM) : AM := (aT A, aW A, aO A, fun p => if p < k then aS A p + 1 else aS A p, aD A)
def dueK (V : FV) (A : AM) (k : Nat) : Nat := fol (fun p m => if aS A p + 1 = vK V p then m ||| 2 ^ p else m) k 0 0
theorem fol_last {β : Type} (g : Nat → β → β) : ∀ (c k : Nat) (b : β), fol g (c + 1) k b = g (k + c) (fol g c k b)
  | 0, k, b => rfl
  | c + 1, k, b => by rw [fol_s, fol_last g c (k + 1), fol_s, show k + (c + 1) = k + 1 + c by omega]
theorem dueK_s (V : FV) (A : AM) (k : Nat) : dueK V A (k + 1) = if aS A k + 1 = vK V k then dueK V A k ||| 2 ^ k else dueK V A k := by
  unfold dueK
  rw [fol_last, Nat.zero_add]
theorem dueK_lt (V : FV) (A : AM) {k : Nat} (hk : k ≤ 6) : dueK V A k < 64 := by
  have := fol_inv (g := fun p m => if aS A p + 1 = vK V p then m ||| 2 ^ p else m) (P := fun _ m => m < 2 ^ 6) k 0 0 (by decide) (fun p m _ h2 hm => by
    show (if aS A p + 1 = vK V p then m ||| 2 ^ p else m) < 2 ^ 6
    split
    · exact Nat.or_lt_two_pow hm (Nat.pow_lt_pow_right (by decide) (by omega))
    · exact hm)
  exact this
theorem hushR_loop {V : FV} (hV : VOk V) {A : AM} {r : Nat} (hr : isR r) (hA : ∀ p, p < vN V → aS A p < 100) : ∀ (c k fu : Nat) (M : Mem), k + c = vN V → c < fu → FR M V → RR0 (incK k A) (gM M r) → ∃ M', lX12_hushes_4 fu M r (nN (dueK V A k)) (nN k) = some M' ∧ Fr1 r M M' ∧ gM M' r 0 = gM M r 0 ∧ RR0 (hushS V A) (gM M' r) := by
  intro c
  have hn := hV.1
  induction c with
  | zero =>
    intro k fu M hk hf hF h
    obtain ⟨fu, rfl⟩ : ∃ f, fu = f + 1 := ⟨fu - 1, by omega⟩
    have hk : k = vN V := by omega
    subst hk
    show ∃ M', sX12_hushes_4 _ M r (nN (dueK V A (vN V))) (nN (vN V)) = some M' ∧ _
    unfold sX12_hushes_4 sX12_hushes_53
    rw [hF.1, if_pos ((nN_le (by omega) (by omega)).mpr (Nat.le_refl _))]
    have hd : dueK V A (vN V) = dueSet V A := rfl
    have h64 := dueK_lt V A hn
    unfold hushS
    by_cases hz : dueSet V A = 0
    · rw [hd, hz, if_pos rfl, if_pos (show nN 0 = 0 from rfl)]
      exact ⟨M, rfl, Fr1.rfl, rfl, h⟩
    · rw [if_neg hz, hd, if_neg (show ¬ nN (dueSet V A) = 0 from fun e => hz ((nN_eq (b := 0) (by omega) (by decide)).mp e))]
      obtain ⟨M', g1, g2, g3, g4⟩ := speakR (A := incS V A) (m := dueSet V A) hF hV h64 hr h
      rw [g1]
      exact ⟨M', rfl, g2, g3, g4⟩
  | succ c ih =>
    intro k fu M hk hf hF h
    obtain ⟨fu, rfl⟩ : ∃ f, fu = f + 1 := ⟨fu - 1, by omega⟩
    show ∃ M', sX12_hushes_4 (lX12_hushes_4 fu) M r (nN (dueK V A k)) (nN k) = some M' ∧ _
    unfold sX12_hushes_4 sX12_hushes_45
    have h3 : gM M r (3 + k) = nN (aS A k) := by
      have := (h.2.2 k (by omega)).1
      rw [this]
      show nN (if k < k then _ else _) = _
      rw [if_neg (Nat.lt_irrefl k)]
    have f1 := Fr1.s r (3 + k) (gM M r (3 + k) + 1) M
    have hr3 : (113 : Nat) ≠ r := by rcases hr with rfl | rfl <;> decide
    have hks := (hV.2.2.2.1 k (by omega)).2.1.2
    rw [hF.1, if_neg (by rw [nN_le (by omega) (by omega)]; omega), show (3 : Int32) + nN k = nN (3 + k) from nN_add 3 k, if_pos ((nN_inB (by omega)).mpr (by omega)), if_pos ((nN_inB (n := 12) (by omega)).mpr (by omega)), nN_cl (by omega), nN_cl (by omega), row_h, g_si hr3, (hF.2.2.2.1 k (by omega)).2.1, h3, nN_succ, nN_succ]
    rw [h3, nN_succ] at f1
    have hstep : RR0 (incK (k + 1) A) (gM (sM M r (3 + k) (nN (aS A k + 1))) r) := by
      refine ⟨by rw [row_o (by omega)]; exact h.1, by rw [row_o (by omega)]; exact h.2.1, fun p hp => ?_⟩
      obtain ⟨q1, q2⟩ := h.2.2 p hp
      refine ⟨?_, by rw [row_o (by omega)]; exact q2⟩
      show _ = nN (if p < k + 1 then aS A p + 1 else aS A p)
      by_cases hpk : p = k
      · subst hpk
        rw [row_h, if_pos (Nat.lt_succ_self p)]
      · rw [row_o (by omega), q1]
        show nN (if p < k then aS A p + 1 else aS A p) = _
        have : p < k + 1 ↔ p < k := by omega
        simp only [this]
    obtain ⟨M', g1, g2, g3, g4⟩ := ih (k + 1) fu _ (by omega) (by omega) (hF.fr f1 (isR_out hr)) hstep
    rw [dueK_s] at g1
    have hlt := hA k (by omega)
    by_cases hd : aS A k + 1 = vK V k
    · rw [if_pos hd] at g1
      rw [if_pos ((nN_eq (by omega) (by omega)).mpr hd), sh1 (by omega), nN_or, g1]
      exact ⟨M', rfl, f1.tr g2, by rw [g3, row_o (by omega)], g4⟩
    · rw [if_neg hd] at g1
      rw [if_neg (fun e => hd ((nN_eq (by omega) (by omega)).mp e)), or0, g1]
      exact ⟨M', rfl, f1.tr g2, by rw [g3, row_o (by omega)], g4⟩
theorem hushR {V : FV} {M : Mem} {A : AM} {r : Nat} (hF : FR M V) (hV : VOk V) (hr : isR r) (hA : ∀ p, p < vN V → aS A p < 100) (h : RR0 A (gM M r)) : ∃ M', fX12_hushes M r = some M' ∧ Fr1 r M M' ∧ gM M' r 0 = gM M r 0 ∧ RR0 (hushS V A) (gM M' r) :=
  hushR_loop hV hr hA (vN V) 0 fuel M (by omega) (fuel_ge (by have := hV.1; omega)) hF ⟨h.1, h.2.1, fun p hp => by
    refine ⟨?_, (h.2.2 p hp).2⟩
    rw [(h.2.2 p hp).1]
    show _ = nN (if p < 0 then aS A p + 1 else aS A p)
    rw [if_neg (by omega)]⟩
theorem AOk.s100 {V : FV} {B : Nat} {A : AM} (hV : VOk V) (h : AOk V B A) : ∀ p, p < vN V → aS A p < 100 := fun p hp => by
  have := (h.2.2.2.1 p hp).1
  have := (hV.2.2.2.1 p hp).2.1.2
  omega
theorem sub_max {a b : Nat} (ha : a < 1000) (hb : b < 1000) : (if 0 ≤ nN a - nN b then nN a - nN b else 0) = nN (a - b) := by
  by_cases h : b ≤ a
  · rw [nN_sub h, if_pos (nN_nn (by omega))]
  · have : ¬ 0 ≤ nN a - nN b := by
      intro hc
      have e1 : nN b - nN a = nN (b - a) := nN_sub (by omega)
      have e2 : nN (b - a) ≤ 1000 := (nN_le (b := 1000) (by omega) (by decide)).mpr (by omega)
      have e3 : 1 ≤ nN (b - a) := (nN_le (a := 1) (by decide) (by omega)).mpr (by omega)
      rw [← e1] at e2 e3
      grind
    rw [if_neg this, show a - b = 0 by omega]
    rfl
theorem goesR {V : FV} {M : Mem} {A : AM} {r B : Nat} (hF : FR M V) (hV : VOk V) (hr : isR r) (hA : AOk V B A) (h : RR A (gM M r)) : ∃ M', fX12_goes M r = some M' ∧ Fr1 r M M' ∧ RR (goesS V A) (gM M' r) := by
  unfold fX12_goes
  rw [overR hF hV h.2.1 hA.2.1, bI_some]
  unfold goesS
  by_cases ho : vW V ≤ aW A
  · rw [if_pos ho, if_pos ho, if_neg (by decide)]
    exact ⟨M, rfl, Fr1.rfl, h⟩
  · rw [if_neg ho, if_neg ho, if_pos rfl, h.2.2.1, pullR hF hV (lt64 hV hA.2.2.1), bI_some]
    have hw := hV.2.2.1.2
    have key : ∀ s2 : Int32, s2 = nN (toS V A) → ∃ M', sX12_goes_53 M r r 1 s2 = some M' ∧ Fr1 r M M' ∧ RR (beatS V A) (gM M' r) := by
      intro s2 hs
      unfold sX12_goes_53
      rw [if_pos (by decide), show (1 : Int32).toNatClampNeg = 1 from rfl]
      have f1 : Fr1 r M (sM (sM M r 1 s2) r 0 (gM (sM M r 1 s2) r 0 + 1)) := (Fr1.s r _ _ M).tr (Fr1.s r _ _ _)
      obtain ⟨M', g1, g2, g3, g4⟩ := hushR (A := (aT A + 1, toS V A, aO A, aS A, aD A)) (hF.fr f1 (isR_out hr)) hV hr (show ∀ p, p < vN V → aS A p < 100 from AOk.s100 hV hA) ⟨by rw [row_o (by omega), row_h, hs]; rfl, by rw [row_o (by omega), row_o (by omega)]; exact h.2.2.1, fun p hp => by rw [row_o (by omega), row_o (by omega), row_o (by omega), row_o (by omega)]; exact h.2.2.2 p hp⟩
      rw [g1, bV_some]
      refine ⟨M', rfl, f1.tr g2, ?_, g4⟩
      rw [g3, row_h, row_o (by omega), h.1, nN_succ]
      have : aT (beatS V A) = aT A + 1 := by unfold beatS hushS; split <;> rfl
      rw [this]
    have hsub : ∀ s2 : Int32, (if 0 ≤ s2 then s2 else 0) = nN (toS V A) → ∃ M', sX12_goes_41 M r s2 = some M' ∧ Fr1 r M M' ∧ RR (beatS V A) (gM M' r) := by
      intro s2 hs
      unfold sX12_goes_41
      by_cases h0 : 0 ≤ s2
      · rw [if_pos h0] at hs ⊢
        exact key s2 hs
      · rw [if_neg h0] at hs ⊢
        exact key 0 hs
    cases hp : pullS V (aO A) with
    | none =>
      rw [show pI none = -9 from rfl, if_pos rfl]
      apply hsub
      rw [h.2.1, if_pos (nN_nn (by have := hA.2.1; omega))]
      unfold toS
      rw [hp]
    | some s =>
      have hs := pull_le V hV _ hp
      have hfl := flow_le V hV (aW A)
      have hn9 : ¬ pI (some s) = -9 := by
        show ¬ nN s = -9
        rw [← Int32.toInt_inj, nN_toInt (by omega)]
        have : (-9 : Int32).toInt = -9 := by decide
        omega
      rw [if_neg hn9, h.2.1, flowR hF hV (by omega), bI_some]
      apply hsub
      show (if 0 ≤ nN (aW A) + nN s - nN (flowS V (aW A)) then nN (aW A) + nN s - nN (flowS V (aW A)) else 0) = _
      rw [nN_add, sub_max (by omega) (by omega)]
      unfold toS
      rw [hp]
