/-! now, what is tried beside it, and the loops of beats -/
def QX (M0 M : Mem) : Prop := (∀ i, i < 58 ∨ (74 ≤ i ∧ i < 82) ∨ 109 ≤ i → gM M i = gM M0 i) ∧ (∀ i, gL M i = gL M0 i)
def QR (M0 M : Mem) : Prop := (∀ i, i ≠ 118 → i ≠ 124 → i ≠ 125 → i ≠ 109 → gM M i = gM M0 i) ∧ (∀ k, k ≠ 0 → gM M 109 k = gM M0 109 k) ∧ (∀ i, gL M i = gL M0 i)
theorem QX.rfl {M : Mem} : QX M M := ⟨fun _ _ => Eq.refl _, fun _ => Eq.refl _⟩
theorem QR.rfl {M : Mem} : QR M M := ⟨fun _ _ _ _ _ => Eq.refl _, fun _ _ => Eq.refl _, fun _ => Eq.refl _⟩
theorem QX.tr {M M1 M2 : Mem} (h : QX M M1) (h2 : QX M1 M2) : QX M M2 := ⟨fun i hi => (h2.1 i hi).trans (h.1 i hi), fun i => (h2.2 i).trans (h.2 i)⟩
theorem QR.tr {M M1 M2 : Mem} (h : QR M M1) (h2 : QR M1 M2) : QR M M2 := ⟨fun i a b c d => (h2.1 i a b c d).trans (h.1 i a b c d), fun k hk => (h2.2.1 k hk).trans (h.2.1 k hk), fun i => (h2.2.2 i).trans (h.2.2 i)⟩
theorem QX.f {b : Nat} {M M' : Mem} (h : Fr3 b M M') (hb : (58 ≤ b ∧ b + 2 < 74) ∨ (82 ≤ b ∧ b + 2 < 109)) : QX M M' := ⟨fun i hi => h.1 i (by omega) (by omega) (by omega), h.2⟩
theorem QR.f {r : Nat} {M M' : Mem} (h : Fr1 r M M') (hr : r = 118 ∨ r = 124 ∨ r = 125) : QR M M' := ⟨fun i a b c _ => h.1 i (by omega), fun k _ => by rw [h.1 109 (by omega)], h.2⟩
theorem QR.t (M : Mem) (v : Int32) : QR M (sM M 109 0 v) := ⟨fun i _ _ _ d => (sM_other M 109 0 v i d).1, fun k hk => g_sk hk, fun _ => Eq.refl _⟩
def NX (M : Mem) (V : FV) (A : AM) : Prop := FX M (feB (gM M 0 1)) V ∧ RX V A M 19
def NR (M : Mem) (V : FV) (A : AM) : Prop := FR M V ∧ RR A (gM M 117)
theorem NX.q {M M1 : Mem} {V : FV} {A : AM} (h : NX M V A) (q : QX M M1) : NX M1 V A := by
  have e0 := q.1 0 (by decide)
  refine ⟨?_, h.2.mv (q.1 19 (by decide)) (q.1 20 (by decide)) (q.1 21 (by decide))⟩
  rw [e0]
  exact h.1.mv (fun i h1 h2 => q.1 i (by have := fe_b (isFe_feB (gM M 0 1)); omega))
theorem NR.q {M M1 : Mem} {V : FV} {A : AM} (h : NR M V A) (q : QR M M1) : NR M1 V A := by
  refine ⟨h.1.mv (fun i h1 h2 => q.1 i (by omega) (by omega) (by omega) (by omega)), ?_⟩
  rw [q.1 117 (by decide) (by decide) (by decide) (by decide)]
  exact h.2
theorem copyX_loop {b c : Nat} (hb : isMo b) (hc : isMo c) (hbc : b ≠ c) : ∀ (d k fu : Nat) (M : Mem), k + d = 6 → d < fu → ∃ M', lX4_copyFrom_34 fu M b c (nN k) = some M' ∧ Fr3 b M M' ∧ gM M' b = gM M b ∧ ∀ p, p < 6 → gM M' (b + 1) p = (if p < k then gM M (b + 1) p else gM M (c + 1) p) ∧ gM M' (b + 2) p = (if p < k then gM M (b + 2) p else gM M (c + 2) p) := by
  intro d
  have hap := mo_apart hb hc hbc
  induction d with
  | zero =>
    intro k fu M hk hf
    obtain ⟨fu, rfl⟩ : ∃ g, fu = g + 1 := ⟨fu - 1, by omega⟩
    have hk : k = 6 := by omega
    subst hk
    refine ⟨M, ?_, Fr3.rfl, rfl, fun p hp => ?_⟩
    · show sX4_copyFrom_34 (lX4_copyFrom_34 fu) M b c 6 = _
      unfold sX4_copyFrom_34
      rw [if_pos (by decide)]
    · rw [if_pos hp, if_pos hp]; exact ⟨rfl, rfl⟩
  | succ d ih =>
    intro k fu M hk hf
    obtain ⟨fu, rfl⟩ : ∃ g, fu = g + 1 := ⟨fu - 1, by omega⟩
    show ∃ M', sX4_copyFrom_34 (lX4_copyFrom_34 fu) M b c (nN k) = some M' ∧ _
    unfold sX4_copyFrom_34
    rw [if_neg (show ¬ (6 : Int32) ≤ nN k from fun h => by have := (nN_le (a := 6) (by decide) (by omega)).mp h; omega), if_pos ((nN_inB (by omega)).mpr (by omega)), nN_cl (by omega), nN_succ, g_si (show c + 2 ≠ b + 1 by omega)]
    have f1 : Fr3 b M (sM (sM M (b + 1) k (gM M (c + 1) k)) (b + 2) k (gM M (c + 2) k)) := (Fr3.s (Or.inr (Or.inl rfl))).tr (Fr3.s (Or.inr (Or.inr rfl)))
    obtain ⟨M', g1, g2, g3, g4⟩ := ih (k + 1) fu _ (by omega) (by omega)
    refine ⟨M', g1, f1.tr g2, ?_, fun p hp => ?_⟩
    · rw [g3]; funext j; rw [g_si (by omega), g_si (by omega)]
    · obtain ⟨q1, q2⟩ := g4 p hp
      rw [q1, q2]
      have e1 : gM (sM (sM M (b + 1) k (gM M (c + 1) k)) (b + 2) k (gM M (c + 2) k)) (b + 1) p = if p = k then gM M (c + 1) p else gM M (b + 1) p := by
        rw [g_si (by omega)]
        by_cases h : p = k
        · subst h; rw [row_h, if_pos rfl]
        · rw [row_o h, if_neg h]
      have e2 : gM (sM (sM M (b + 1) k (gM M (c + 1) k)) (b + 2) k (gM M (c + 2) k)) (b + 2) p = if p = k then gM M (c + 2) p else gM M (b + 2) p := by
        by_cases h : p = k
        · subst h; rw [row_h, if_pos rfl]
        · rw [row_o h, if_neg h, g_si (by omega)]
      have e3 : gM (sM (sM M (b + 1) k (gM M (c + 1) k)) (b + 2) k (gM M (c + 2) k)) (c + 1) p = gM M (c + 1) p := by rw [g_si (by omega), g_si (by omega)]
      have e4 : gM (sM (sM M (b + 1) k (gM M (c + 1) k)) (b + 2) k (gM M (c + 2) k)) (c + 2) p = gM M (c + 2) p := by rw [g_si (by omega), g_si (by omega)]
      rw [e1, e2, e3, e4]
      by_cases h1 : p < k
      · have a1 : p < k + 1 := by omega
        have a2 : ¬ p = k := by omega
        exact ⟨by rw [if_pos a1, if_neg a2, if_pos h1], by rw [if_pos a1, if_neg a2, if_pos h1]⟩
      · by_cases h2 : p = k
        · have a1 : p < k + 1 := by omega
          exact ⟨by rw [if_pos a1, if_pos h2, if_neg h1], by rw [if_pos a1, if_pos h2, if_neg h1]⟩
        · have a1 : ¬ p < k + 1 := by omega
          exact ⟨by rw [if_neg a1, if_neg h1], by rw [if_neg a1, if_neg h1]⟩
theorem copyX {M : Mem} {b c : Nat} (hb : isMo b) (hc : isMo c) (hbc : b ≠ c) : ∃ M', fX4_copyFrom M b c = some M' ∧ Fr3 b M M' ∧ ∀ V A, RX V A M c → vN V ≤ 6 → RX V A M' b := by
  have hap := mo_apart hb hc hbc
  unfold fX4_copyFrom
  simp only [g_si (show c ≠ b by omega)]
  have f1 : Fr3 b M (sM (sM (sM (sM M b 0 (gM M c 0)) b 1 (gM M c 1)) b 2 (gM M c 2)) b 5 (gM M c 5)) := (((Fr3.s (Or.inl rfl)).tr (Fr3.s (Or.inl rfl))).tr (Fr3.s (Or.inl rfl))).tr (Fr3.s (Or.inl rfl))
  obtain ⟨M', g1, g2, g3, g4⟩ := copyX_loop hb hc hbc 6 0 fuel (sM (sM (sM (sM M b 0 (gM M c 0)) b 1 (gM M c 1)) b 2 (gM M c 2)) b 5 (gM M c 5)) rfl (fuel_ge (by decide))
  refine ⟨M', g1, f1.tr g2, fun V A h hn => ?_⟩
  have e1 : ∀ j, gM (sM (sM (sM (sM M b 0 (gM M c 0)) b 1 (gM M c 1)) b 2 (gM M c 2)) b 5 (gM M c 5)) (c + 1) j = gM M (c + 1) j := fun j => by rw [g_si (by omega), g_si (by omega), g_si (by omega), g_si (by omega)]
  have e2 : ∀ j, gM (sM (sM (sM (sM M b 0 (gM M c 0)) b 1 (gM M c 1)) b 2 (gM M c 2)) b 5 (gM M c 5)) (c + 2) j = gM M (c + 2) j := fun j => by rw [g_si (by omega), g_si (by omega), g_si (by omega), g_si (by omega)]
  refine ⟨⟨?_, ?_, ?_, fun p hp => ?_, fun p hp => ?_⟩, ?_⟩
  · rw [g3, row_o (by decide), row_o (by decide), row_o (by decide), row_h]; exact h.1.1
  · rw [g3, row_o (by decide), row_o (by decide), row_h]; exact h.1.2.1
  · rw [g3, row_o (by decide), row_h]; exact h.1.2.2.1
  · rw [(g4 p (by omega)).1, if_neg (by omega), e1]; exact h.1.2.2.2.1 p hp
  · rw [(g4 p hp).2, if_neg (by omega), e2]; exact h.1.2.2.2.2 p hp
  · rw [g3, row_h]; exact h.2
theorem asNow_loop : ∀ (d k fu : Nat) (M : Mem), k + d = 15 → d < fu → ∃ M', lX12_asNow_2 fu M (nN k) = some M' ∧ Fr1 118 M M' ∧ ∀ j, j < 15 → gM M' 118 j = if j < k then gM M 118 j else gM M 117 j := by
  intro d
  induction d with
  | zero =>
    intro k fu M hk hf
    obtain ⟨fu, rfl⟩ : ∃ g, fu = g + 1 := ⟨fu - 1, by omega⟩
    have hk : k = 15 := by omega
    subst hk
    refine ⟨M, ?_, Fr1.rfl, fun j hj => by rw [if_pos hj]⟩
    show sX12_asNow_2 (lX12_asNow_2 fu) M 15 = _
    unfold sX12_asNow_2
    rw [if_pos (by decide)]
  | succ d ih =>
    intro k fu M hk hf
    obtain ⟨fu, rfl⟩ : ∃ g, fu = g + 1 := ⟨fu - 1, by omega⟩
    show ∃ M', sX12_asNow_2 (lX12_asNow_2 fu) M (nN k) = some M' ∧ _
    unfold sX12_asNow_2
    rw [if_neg (show ¬ (15 : Int32) ≤ nN k from fun h => by have := (nN_le (a := 15) (by decide) (by omega)).mp h; omega), if_pos ((nN_inB (by omega)).mpr (by omega)), nN_cl (by omega), nN_succ]
    have f1 := Fr1.s 118 k (gM M 117 k) M
    obtain ⟨M', g1, g2, g3⟩ := ih (k + 1) fu _ (by omega) (by omega)
    refine ⟨M', g1, f1.tr g2, fun j hj => ?_⟩
    rw [g3 j hj, f1.1 117 (by decide)]
    by_cases h1 : j = k
    · subst h1; rw [if_pos (by omega), row_h, if_neg (by omega)]
    · by_cases h2 : j < k
      · rw [if_pos (by omega), row_o h1, if_pos h2]
      · rw [if_neg (by omega), if_neg h2]
theorem RR.of {A : AM} {r r' : Nat → Int32} (h : RR A r) (e : ∀ j, j < 15 → r' j = r j) : RR A r' := ⟨(e 0 (by decide)).trans h.1, (e 1 (by decide)).trans h.2.1, (e 2 (by decide)).trans h.2.2.1, fun p hp => ⟨(e (3 + p) (by omega)).trans (h.2.2.2 p hp).1, (e (9 + p) (by omega)).trans (h.2.2.2 p hp).2⟩⟩
theorem asNowR {M : Mem} {V : FV} {A : AM} (h : NR M V A) : ∃ M', fX12_asNow M = some M' ∧ QR M M' ∧ RR A (gM M' 118) := by
  obtain ⟨M', g1, g2, g3⟩ := asNow_loop 15 0 fuel M rfl (fuel_ge (by decide))
  exact ⟨M', g1, QR.f g2 (Or.inl rfl), h.2.of (fun j hj => by rw [g3 j hj, if_neg (by omega)])⟩
theorem copyNow {M : Mem} {V : FV} {A : AM} (hV : VOk V) (h : NX M V A) : ∃ M', fX11_copyOfNow M = some M' ∧ QX M M' ∧ RX V A M' 82 := by
  obtain ⟨M', g1, g2, g3⟩ := copyX (M := M) mo_82 mo_19 (by decide)
  unfold fX11_copyOfNow
  rw [g1, bV_some]
  exact ⟨M', rfl, QX.f g2 (Or.inr ⟨by decide, by decide⟩), g3 V A h.2 hV.1⟩
/-- one beat of the line 0 -/
theorem stepX {M : Mem} {V : FV} {A A1 : AM} {B : Nat} (hV : VOk V) (h : NX M V A) (hA : AOk V B A1) (hB : B < 20000) (h1 : RX V A1 M 82) : ∃ M', fX4_row M 82 (feB (gM M 0 1)) = some M' ∧ QX M M' ∧ RX V (goesS V A1) M' 82 := by
  obtain ⟨M', g1, g2, g3⟩ := rowX h.1 hV (isFe_feB _) mo_82 hA hB h1
  exact ⟨M', g1, QX.f g2 (Or.inr ⟨by decide, by decide⟩), g3⟩
theorem stepR {M : Mem} {V : FV} {A A1 : AM} {B : Nat} (hV : VOk V) (h : NR M V A) (hA : AOk V B A1) (h1 : RR A1 (gM M 118)) : ∃ M', fX12_goes M 118 = some M' ∧ QR M M' ∧ RR (goesS V A1) (gM M' 118) := by
  obtain ⟨M', g1, g2, g3⟩ := goesR h.1 hV r_118 hA h1
  exact ⟨M', g1, QR.f g2 (Or.inl rfl), g3⟩
def itG (V : FV) : Nat → AM → AM
  | 0, A => A
  | n + 1, A => itG V n (goesS V A)
theorem itG_ok {V : FV} (hV : VOk V) : ∀ (n B : Nat) (A : AM), AOk V B A → AOk V (B + n) (itG V n A)
  | 0, _, _, h => h
  | n + 1, B, A, h => by
    have := itG_ok hV n (B + 1) _ (goes_ok hV h)
    rw [show B + (n + 1) = B + 1 + n by omega]
    exact this
theorem ne9 {k : Nat} (h : k < 2147483648) : ¬ nN k = -9 := by
  rw [← Int32.toInt_inj, nN_toInt h]
  have : (-9 : Int32).toInt = -9 := by decide
  omega
/-! words -/
def wsum (V : FV) (A : AM) : Nat := fol (fun p s => s + aD A p) (vN V) 0 0
theorem words_hi {V : FV} {A : AM} (h : ∀ p, vN V ≤ p → aS A p = 0 ∧ aD A p = 0) : ∀ (c k s : Nat), vN V ≤ k → fol (fun p s => s + aD A p) c k s = s
  | 0, _, _, _ => rfl
  | c + 1, k, s, hk => by
    rw [fol_s, (h k hk).2, Nat.add_zero]
    exact words_hi h c (k + 1) s (by omega)
theorem fol_app {β : Type} (g : Nat → β → β) : ∀ (a c k : Nat) (b : β), fol g (a + c) k b = fol g c (k + a) (fol g a k b)
  | 0, c, k, b => by rw [Nat.zero_add, fol_0]; rfl
  | a + 1, c, k, b => by
    rw [show a + 1 + c = (a + c) + 1 by omega, fol_s, fol_app g a c (k + 1), fol_s, show k + 1 + a = k + (a + 1) by omega]
theorem wsum_6 {V : FV} {A : AM} (hn : vN V ≤ 6) (h : ∀ p, vN V ≤ p → aS A p = 0 ∧ aD A p = 0) : fol (fun p s => s + aD A p) 6 0 0 = wsum V A := by
  have := fol_app (fun p s => s + aD A p) (vN V) (6 - vN V) 0 0
  rw [show vN V + (6 - vN V) = 6 by omega] at this
  rw [this, words_hi h _ _ _ (by omega)]
  rfl
theorem wordsX_loop {M : Mem} {b : Nat} {D : Nat → Nat} (h : ∀ p, p < 6 → gM M (b + 2) p = nN (D p)) : ∀ (c k fu s : Nat), k + c = 6 → c < fu → lX4_allWords_4 fu M b (nN s) (nN k) = some (M, nN (fol (fun p s => s + D p) c k s)) := by
  intro c
  induction c with
  | zero =>
    intro k fu s hk hf
    obtain ⟨fu, rfl⟩ : ∃ g, fu = g + 1 := ⟨fu - 1, by omega⟩
    have hk : k = 6 := by omega
    subst hk
    show sX4_allWords_4 (lX4_allWords_4 fu) M b (nN s) 6 = _
    unfold sX4_allWords_4
    rw [if_pos (by decide)]
    rfl
  | succ c ih =>
    intro k fu s hk hf
    obtain ⟨fu, rfl⟩ : ∃ g, fu = g + 1 := ⟨fu - 1, by omega⟩
    show sX4_allWords_4 (lX4_allWords_4 fu) M b (nN s) (nN k) = _
    unfold sX4_allWords_4
    rw [if_neg (show ¬ (6 : Int32) ≤ nN k from fun h => by have := (nN_le (a := 6) (by decide) (by omega)).mp h; omega), if_pos ((nN_inB (by omega)).mpr (by omega)), nN_cl (by omega), h k (by omega), nN_add, nN_succ, fol_s]
    exact ih (k + 1) fu _ (by omega) (by omega)
theorem wordsX {M : Mem} {V : FV} {A : AM} {b B : Nat} (hV : VOk V) (hA : AOk V B A) (h : RX V A M b) : fX4_allWords M b = some (M, nN (wsum V A)) := by
  rw [← wsum_6 hV.1 hA.2.2.2.2]
  exact wordsX_loop h.1.2.2.2.2 6 0 fuel 0 rfl (fuel_ge (by decide))
theorem wordsR_loop {M : Mem} {V : FV} (hF : FR M V) (hV : VOk V) {r : Nat} {D : Nat → Nat} (h : ∀ p, p < 6 → gM M r (9 + p) = nN (D p)) : ∀ (c k fu s : Nat), k + c = vN V → c < fu → lX12_wordsOf_4 fu M r (nN s) (nN k) = some (M, nN (fol (fun p s => s + D p) c k s)) := by
  intro c
  have hn := hV.1
  induction c with
  | zero =>
    intro k fu s hk hf
    obtain ⟨fu, rfl⟩ : ∃ g, fu = g + 1 := ⟨fu - 1, by omega⟩
    show sX12_wordsOf_4 (lX12_wordsOf_4 fu) M r (nN s) (nN k) = _
    unfold sX12_wordsOf_4
    rw [hF.1, if_pos ((nN_le (by omega) (by omega)).mpr (by omega))]
    rfl
  | succ c ih =>
    intro k fu s hk hf
    obtain ⟨fu, rfl⟩ : ∃ g, fu = g + 1 := ⟨fu - 1, by omega⟩
    show sX12_wordsOf_4 (lX12_wordsOf_4 fu) M r (nN s) (nN k) = _
    unfold sX12_wordsOf_4
    rw [hF.1, if_neg (by rw [nN_le (by omega) (by omega)]; omega), show (9 : Int32) + nN k = nN (9 + k) from nN_add 9 k, if_pos ((nN_inB (by omega)).mpr (by omega)), nN_cl (by omega), h k (by omega), nN_add, nN_succ, fol_s]
    exact ih (k + 1) fu _ (by omega) (by omega)
theorem wordsR {M : Mem} {V : FV} {A : AM} {r : Nat} (hF : FR M V) (hV : VOk V) (h : RR0 A (gM M r)) : fX12_wordsOf M r = some (M, nN (wsum V A)) :=
  wordsR_loop hF hV (fun p hp => (h.2.2 p hp).2) (vN V) 0 fuel 0 (by omega) (fuel_ge (by have := hV.1; omega))
