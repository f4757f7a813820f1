/-! the reference's plan: all rows one by one -/
def rvs (V : FV) (v t0 : Nat) (D : Nat → Nat) : Nat → Nat → AM → Option Nat
  | 0, _, A => evS V v (aT A - t0) A
  | c + 1, k, A => if vW V ≤ aW A ∧ D k ≠ 0 then none else rvs V v t0 D c (k + 1) (goesS V (pz V A (D k)))
def oN : Option Nat → Int32
  | none => -9
  | some t => nN t
theorem tillR8_loop {V : FV} {A : AM} (hV : VOk V) : ∀ (k n fu : Nat) (M : Mem) (A1 : AM) (B : Nat), n + k = 400 → k + 1 < fu → NR M V A → AOk V B A1 → RR A1 (gM M 118) → ∃ M1, lX12_endsBehind_2 fu M (nN n) = some (M1, tOI n (tO V k A1)) ∧ Fr1 118 M M1 ∧ ∃ A2 B2, AOk V B2 A2 ∧ RR A2 (gM M1 118) ∧ ∀ q, tO V k A1 = some q → A2 = q.2 := by
  intro k
  induction k with
  | zero =>
    intro n fu M A1 B hn hfu hF hA h
    obtain ⟨fu, rfl⟩ := fu1 hfu
    have hn : n = 400 := by omega
    subst hn
    show ∃ M1, sX12_endsBehind_2 (lX12_endsBehind_2 fu) M 400 = some (M1, _) ∧ _
    unfold sX12_endsBehind_2 tO
    rw [if_neg (by decide), overR hF.1 hV h.2.1 hA.2.1, bI_some]
    by_cases ho : vW V ≤ aW A1
    · rw [if_pos ho, if_pos ho, if_neg (by decide)]
      exact ⟨M, rfl, Fr1.rfl, A1, B, hA, h, fun q hq => by cases hq; rfl⟩
    · rw [if_neg ho, if_neg ho, if_pos rfl]
      obtain ⟨M', g1, g2, g3⟩ := goesR hF.1 hV r_118 hA h
      rw [g1, bV_some]
      obtain ⟨fu, rfl⟩ : ∃ g, fu = g + 1 := ⟨fu - 1, by omega⟩
      show ∃ M1, sX12_endsBehind_2 (lX12_endsBehind_2 fu) M' (400 + 1) = some (M1, _) ∧ _
      unfold sX12_endsBehind_2
      rw [if_pos (by decide)]
      exact ⟨M', rfl, g2, _, B + 1, goes_ok hV hA, g3, fun q hq => by cases hq⟩
  | succ k ih =>
    intro n fu M A1 B hn hfu hF hA h
    obtain ⟨fu, rfl⟩ := fu1 hfu
    show ∃ M1, sX12_endsBehind_2 (lX12_endsBehind_2 fu) M (nN n) = some (M1, _) ∧ _
    unfold sX12_endsBehind_2
    rw [if_neg (show ¬ (400 : Int32) < nN n from fun e => by have := (nN_lt (a := 400) (by decide) (by omega)).mp e; omega), overR hF.1 hV h.2.1 hA.2.1, bI_some]
    rw [show tO V (k + 1) A1 = (if vW V ≤ aW A1 then some (0, A1) else (tO V k (goesS V A1)).map (fun q => (q.1 + 1, q.2))) from rfl]
    by_cases ho : vW V ≤ aW A1
    · rw [if_pos ho, if_pos ho, if_neg (by decide)]
      exact ⟨M, rfl, Fr1.rfl, A1, B, hA, h, fun q hq => by cases hq; rfl⟩
    · rw [if_neg ho, if_neg ho, if_pos rfl]
      obtain ⟨M', g1, g2, g3⟩ := goesR hF.1 hV r_118 hA h
      rw [g1, bV_some, nN_succ, tOI_map]
      obtain ⟨M1, k1, k2, A2, B2, k3, k4, k5⟩ := ih (n + 1) fu M' _ (B + 1) (by omega) (by omega) (hF.q (QR.f g2 (Or.inl rfl))) (goes_ok hV hA) g3
      refine ⟨M1, k1, g2.tr k2, A2, B2, k3, k4, fun q hq => ?_⟩
      obtain ⟨q', hq', rfl⟩ := Option.map_eq_some_iff.mp hq
      exact k5 q' hq'
def evO (V : FV) (v d : Nat) : Option (Nat × AM) → Option Nat
  | some q => if v ≤ (pullS V (aO q.2)).getD 0 then some (d + q.1) else none
  | none => none
theorem evS_O (V : FV) (v d : Nat) (A : AM) : evS V v d A = evO V v d (tO V (400 - d) A) := by
  unfold evS
  cases tO V (400 - d) A <;> rfl
theorem endsBy_end {V : FV} {A1 : AM} {B v : Nat} {M : Mem} (hV : VOk V) (hv : v ≤ 60) (hF : FR M V) (hA : AOk V B A1) (h : RR A1 (gM M 118)) {o : Option (Nat × AM)} {d : Nat} (hd : d ≤ 400) (ho : ∀ q, o = some q → A1 = q.2 ∧ q.1 ≤ 400) : sX12_endsBy_117 M (nN v) (tOI d o) = some (M, oN (evO V v d o)) := by
  unfold sX12_endsBy_117 sX12_endsBy_151
  rw [h.2.2.1, pullR hF hV (lt64 hV hA.2.2.1), bI_some]
  cases o with
  | none => rw [show tOI d none = -9 from rfl, if_pos rfl]; rfl
  | some q =>
    obtain ⟨e1, e2⟩ := ho q rfl
    rw [if_neg (show ¬ tOI d (some q) = -9 from ne9 (by omega))]
    show _ = some (M, oN (if v ≤ (pullS V (aO q.2)).getD 0 then some (d + q.1) else none))
    rw [← e1]
    cases hp : pullS V (aO A1) with
    | none =>
      rw [show pI none = -9 from rfl, if_pos rfl]
      show (if nN 0 < nN v then _ else _) = _
      by_cases hv0 : v ≤ 0
      · rw [if_neg (by rw [nN_lt (by decide) (by omega)]; omega)]
        show _ = some (M, oN (if v ≤ 0 then _ else _))
        rw [if_pos hv0]; rfl
      · rw [if_pos ((nN_lt (by decide) (by omega)).mpr (by omega))]
        show _ = some (M, oN (if v ≤ 0 then _ else _))
        rw [if_neg hv0]; rfl
    | some s =>
      have hs := pull_le V hV _ hp
      rw [if_neg (show ¬ pI (some s) = -9 from ne9 (by omega))]
      show (if nN s < nN v then _ else _) = some (M, oN (if v ≤ s then _ else _))
      by_cases hvs : v ≤ s
      · rw [if_neg (by rw [nN_lt (by omega) (by omega)]; omega), if_pos hvs]; rfl
      · rw [if_pos ((nN_lt (by omega) (by omega)).mpr (by omega)), if_neg hvs]; rfl
theorem endsBy_loop {V : FV} {A : AM} {N v : Nat} {D : Nat → Nat} (hV : VOk V) (hA : AOk V 9999 A) (hN : N ≤ 3) (hv : v ≤ 60) (hD : ∀ e, e < N → D e ≤ vN V) : ∀ (c k fu : Nat) (M : Mem) (A1 : AM), k + c = N → c < fu → NR M V A → AOk V (9999 + k) A1 → aT A ≤ aT A1 ∧ aT A1 ≤ aT A + k → RR A1 (gM M 118) → (∀ e, e < N → gM M 124 e = nN (D e)) → ∃ M1, lX12_endsBy_6 fu M (nN N) (nN v) (nN k) = some (M1, oN (rvs V v (aT A) D c k A1)) ∧ Fr1 118 M M1 := by
  have hn := hV.1
  intro c
  induction c with
  | zero =>
    intro k fu M A1 hk hf h hA1 hT h1 h124
    obtain ⟨fu, rfl⟩ := fu1 hf
    show ∃ M1, sX12_endsBy_6 (lX12_endsBy_6 fu) M (nN N) (nN v) (nN k) = some (M1, _) ∧ _
    unfold sX12_endsBy_6 sX12_endsBy_83
    have hA0 := hA.1
    rw [if_pos ((nN_le (by omega) (by omega)).mpr (by omega)), overR h.1 hV h1.2.1 hA1.2.1, bI_some, h1.1, h.2.1, nN_sub hT.1]
    show ∃ M1, _ = some (M1, oN (evS V v (aT A1 - aT A) A1)) ∧ _
    rw [evS_O]
    by_cases ho : vW V ≤ aW A1
    · rw [if_pos ho, if_neg (by decide)]
      have ht : tO V (400 - (aT A1 - aT A)) A1 = some (0, A1) := by
        cases 400 - (aT A1 - aT A) with
        | zero => unfold tO; rw [if_pos ho]
        | succ j => unfold tO; rw [if_pos ho]
      have := endsBy_end (o := some (0, A1)) (d := aT A1 - aT A) hV hv h.1 hA1 h1 (by omega) (fun q hq => by cases hq; exact ⟨rfl, Nat.zero_le _⟩)
      rw [show nN (aT A1 - aT A) = tOI (aT A1 - aT A) (some (0, A1)) from rfl, this, ht]
      exact ⟨M, rfl, Fr1.rfl⟩
    · rw [if_neg ho, if_pos rfl]
      obtain ⟨M1, k1, k2, A2, B2, k3, k4, k5⟩ := tillR8_loop hV (400 - (aT A1 - aT A)) (aT A1 - aT A) fuel M A1 _ (by omega) (show 400 - (aT A1 - aT A) + 1 < 1000 by omega) h hA1 h1
      rw [show fX12_endsBehind M (nN (aT A1 - aT A)) = _ from k1, bI_some]
      have hF1 := h.1.fr k2 (by decide)
      have := endsBy_end (o := tO V (400 - (aT A1 - aT A)) A1) (d := aT A1 - aT A) hV hv hF1 k3 k4 (by omega) (fun q hq => ⟨k5 q hq, by have := tO_le _ _ _ hq; omega⟩)
      rw [this]
      exact ⟨M1, rfl, k2⟩
  | succ c ih =>
    intro k fu M A1 hk hf h hA1 hT h1 h124
    obtain ⟨fu, rfl⟩ := fu1 hf
    show ∃ M1, sX12_endsBy_6 (lX12_endsBy_6 fu) M (nN N) (nN v) (nN k) = some (M1, _) ∧ _
    unfold sX12_endsBy_6 sX12_endsBy_25 sX12_endsBy_46 sX12_endsBy_69
    have hDk := hD k (by omega)
    rw [if_neg (by rw [nN_le (by omega) (by omega)]; omega), if_pos ((nN_inB (n := 3) (by omega)).mpr (by omega)), nN_cl (by omega), h124 k (by omega), overR h.1 hV h1.2.1 hA1.2.1, bI_some, bI_some, nN_succ]
    rw [show rvs V v (aT A) D (c + 1) k A1 = (if vW V ≤ aW A1 ∧ D k ≠ 0 then none else rvs V v (aT A) D c (k + 1) (goesS V (pz V A1 (D k)))) from rfl]
    have fin : ∀ (M' : Mem) (A2 : AM), Fr1 118 M M' → AOk V (9999 + k) A2 → aT A2 = aT A1 → RR A2 (gM M' 118) → ∃ M1, (bV (fX12_goes M' 118) fun M12 => lX12_endsBy_6 fu M12 (nN N) (nN v) (nN (k + 1))) = some (M1, oN (rvs V v (aT A) D c (k + 1) (goesS V A2))) ∧ Fr1 118 M M1 := by
      intro M' A2 f2 ok2 t2 r2
      obtain ⟨M2, g1, g2, g3⟩ := goesR (h.1.fr f2 (by decide)) hV r_118 ok2 r2
      rw [g1, bV_some]
      have f3 := f2.tr g2
      have tt : aT (goesS V A2) = aT A2 ∨ aT (goesS V A2) = aT A2 + 1 := by
        by_cases ho : vW V ≤ aW A2
        · left; unfold goesS; rw [if_pos ho]
        · right; exact goes_T ho
      obtain ⟨M1, k1, k2⟩ := ih (k + 1) fu M2 _ (by omega) (by omega) (h.q (QR.f f3 (Or.inl rfl))) (goes_ok hV ok2) (by omega) g3 (fun e he => by rw [f3.1 124 (by decide)]; exact h124 e he)
      exact ⟨M1, k1, f3.tr k2⟩
    by_cases hz : D k = 0
    · rw [hz, if_pos (show nN 0 = 0 from rfl), if_neg (show ¬ (vW V ≤ aW A1 ∧ 0 ≠ 0) from fun e => e.2 rfl), show pz V A1 0 = A1 from rfl]
      have h10 : ¬ ((1 : Int32) = 0) := by decide
      by_cases ho : vW V ≤ aW A1
      · rw [if_pos ho]
        simp only [h10, if_false]
        exact fin M A1 Fr1.rfl hA1 rfl h1
      · rw [if_neg ho]
        simp only [h10, if_false, if_true]
        exact fin M A1 Fr1.rfl hA1 rfl h1
    · rw [if_neg (show ¬ nN (D k) = 0 from fun e => hz ((nN_eq (b := 0) (by omega) (by decide)).mp e))]
      by_cases ho : vW V ≤ aW A1
      · rw [if_pos ho, if_neg (by decide), if_pos rfl, if_pos ⟨ho, hz⟩]
        exact ⟨M, rfl, Fr1.rfl⟩
      · rw [if_neg ho, if_pos rfl, if_pos rfl, if_neg (show ¬ (vW V ≤ aW A1 ∧ D k ≠ 0) from fun e => ho e.1), if_pos ((nN_inB (n := 3) (by omega)).mpr (by omega)), h124 k (by omega), show nN (D k) - 1 = nN (D k - 1) from nN_sub (b := 1) (by omega), sh1 (by omega), show pz V A1 (D k) = speakS V A1 (2 ^ (D k - 1)) by unfold pz; rw [if_neg hz]]
        obtain ⟨M', g1, g2, g3, g4⟩ := speakR h.1 hV (lt64 hV (pw_lt (V := V) (p := D k - 1) (by omega))) r_118 h1.2
        rw [g1, bV_some]
        exact fin M' _ g2 (speak_ok hV hA1 (pw_lt (by omega))) rfl ⟨g3.trans h1.1, g4⟩
theorem endsByR {V : FV} {A : AM} {N v : Nat} {D : Nat → Nat} {M : Mem} (hV : VOk V) (hA : AOk V 9999 A) (hN : N ≤ 3) (hv : v ≤ 60) (hD : ∀ e, e < N → D e ≤ vN V) (h : NR M V A) (h124 : ∀ e, e < N → gM M 124 e = nN (D e)) : ∃ M1, fX12_endsBy M (nN N) (nN v) = some (M1, oN (rvs V v (aT A) D N 0 A)) ∧ Fr1 118 M M1 := by
  unfold fX12_endsBy
  obtain ⟨M', g1, g2, g3⟩ := asNow_loop 15 0 fuel M rfl (fuel_ge (by decide))
  rw [show fX12_asNow M = some M' from g1, bV_some]
  obtain ⟨M1, k1, k2⟩ := endsBy_loop hV hA hN hv hD N 0 fuel M' A (by omega) (fuel_ge (by omega)) (h.q (QR.f g2 (Or.inl rfl))) hA ⟨Nat.le_refl _, Nat.le_refl _⟩ (h.2.of (fun j hj => by rw [g3 j hj, if_neg (by omega)])) (fun e he => by rw [g2.1 124 (by decide)]; exact h124 e he)
  exact ⟨M1, k1, g2.tr k2⟩
/-! the rows as numbers -/
def dgS (V : FV) (N w : Nat) : Nat → Nat := fun e => if e < N then (w / (vN V + 1) ^ (N - 1 - e)) % (vN V + 1) else 0
theorem gI_pred {j : Nat} (h : 0 < j) : gI j + (-1) = gI (j - 1) := by
  have := gI_succ (j - 1)
  rw [show j - 1 + 1 = j by omega] at this
  rw [← this]; grind
theorem digR_loop {V : FV} {A : AM} {N w : Nat} (hV : VOk V) (hN : N ≤ 3) (hw : w < 1000) {rec : Mem → Int32 → Int32 → Int32 → Int32 → Int32 → Int32 → Option (Mem × Int32)} {x2 x3 x4 x5 x6 : Int32} : ∀ (j fu : Nat) (M : Mem), j ≤ N → j < fu → NR M V A → (∀ e, j ≤ e → e < N → gM M 124 e = nN (dgS V N w e)) → ∃ M1, lX12_plan_89 rec fu M (nN N) x2 x3 x4 x5 x6 (nN (w / (vN V + 1) ^ (N - j))) (gI j) = sX12_plan_131 rec M1 (nN N) x2 x3 x4 x5 x6 ∧ Fr1 124 M M1 ∧ ∀ e, e < N → gM M1 124 e = nN (dgS V N w e) := by
  have hn := hV.1
  intro j
  induction j with
  | zero =>
    intro fu M hj hf h hd
    obtain ⟨fu, rfl⟩ := fu1 hf
    refine ⟨M, ?_, Fr1.rfl, fun e he => hd e (Nat.zero_le _) he⟩
    show sX12_plan_89 rec (lX12_plan_89 rec fu) M (nN N) x2 x3 x4 x5 x6 (nN (w / (vN V + 1) ^ (N - 0))) (gI 0) = _
    unfold sX12_plan_89
    rw [if_pos (by decide)]
  | succ j ih =>
    intro fu M hj hf h hd
    obtain ⟨fu, rfl⟩ := fu1 hf
    have eg : gI (j + 1) = nN j := by unfold gI; rw [if_neg (by omega)]; rfl
    show ∃ M1, sX12_plan_89 rec (lX12_plan_89 rec fu) M (nN N) x2 x3 x4 x5 x6 (nN (w / (vN V + 1) ^ (N - (j + 1)))) (gI (j + 1)) = _ ∧ _
    unfold sX12_plan_89
    have hr : w / (vN V + 1) ^ (N - (j + 1)) < 1000 := Nat.lt_of_le_of_lt (Nat.div_le_self _ _) hw
    have hz : ¬ nN (vN V) + 1 = 0 := fun e => by
      rw [nN_succ] at e
      have := (nN_eq (b := 0) (by omega) (by decide)).mp e
      omega
    rw [h.1.1, if_pos hz, eg, if_neg (Int32.not_lt.mpr (nN_nn (by omega))), if_pos ((nN_inB (n := 3) (by omega)).mpr (by omega)), nN_cl (by omega), g_si (show (111 : Nat) ≠ 124 by decide), h.1.1, if_pos hz, nN_succ, nN_rem (by omega) (by omega), nN_div (by omega) (by omega), ← eg, gI_pred (by omega), show j + 1 - 1 = j by omega]
    have f1 := Fr1.s 124 j (nN (w / (vN V + 1) ^ (N - (j + 1)) % (vN V + 1))) M
    have e2 : w / (vN V + 1) ^ (N - (j + 1)) / (vN V + 1) = w / (vN V + 1) ^ (N - j) := by
      rw [Nat.div_div_eq_div_mul, ← Nat.pow_succ, show (N - (j + 1)).succ = N - j by omega]
    rw [e2]
    obtain ⟨M1, k1, k2, k3⟩ := ih fu _ (by omega) (by omega) (h.q (QR.f f1 (Or.inr (Or.inl rfl)))) (fun e h1 h2 => by
      by_cases hej : e = j
      · subst hej
        rw [row_h]
        unfold dgS
        rw [if_pos h2, show N - 1 - e = N - (e + 1) by omega]
      · rw [row_o hej]; exact hd e (by omega) h2)
    exact ⟨M1, k1, f1.tr k2, k3⟩
theorem bestR_copy {N : Nat} {D : Nat → Nat} (hN : N ≤ 3) {rec : Mem → Int32 → Int32 → Int32 → Int32 → Int32 → Int32 → Option (Mem × Int32)} {x2 x3 x4 x5 x6 : Int32} : ∀ (c k fu : Nat) (M : Mem), k + c = N → c < fu → (∀ e, e < N → gM M 124 e = nN (D e)) → (∀ e, e < k → gM M 125 e = nN (D e)) → ∃ M1, lX12_plan_167 rec fu M (nN N) x2 x3 x4 x5 x6 (nN k) = rec M1 (nN N) x2 x3 x4 x5 (x6 + 1) ∧ Fr1 125 M M1 ∧ ∀ e, e < N → gM M1 125 e = nN (D e) := by
  intro c
  induction c with
  | zero =>
    intro k fu M hk hf h1 h2
    obtain ⟨fu, rfl⟩ := fu1 hf
    refine ⟨M, ?_, Fr1.rfl, fun e he => h2 e (by omega)⟩
    show sX12_plan_167 rec (lX12_plan_167 rec fu) M (nN N) x2 x3 x4 x5 x6 (nN k) = _
    unfold sX12_plan_167
    rw [if_pos ((nN_le (by omega) (by omega)).mpr (by omega))]
  | succ c ih =>
    intro k fu M hk hf h1 h2
    obtain ⟨fu, rfl⟩ := fu1 hf
    show ∃ M1, sX12_plan_167 rec (lX12_plan_167 rec fu) M (nN N) x2 x3 x4 x5 x6 (nN k) = _ ∧ _
    unfold sX12_plan_167
    rw [if_neg (by rw [nN_le (by omega) (by omega)]; omega), if_pos ((nN_inB (n := 3) (by omega)).mpr (by omega)), nN_cl (by omega), nN_succ]
    have f1 := Fr1.s 125 k (gM M 124 k) M
    obtain ⟨M1, k1, k2, k3⟩ := ih (k + 1) fu (sM M 125 k (gM M 124 k)) (by omega) (by omega) (fun e he => by rw [g_si (by decide)]; exact h1 e he) (fun e he => by
      by_cases hek : e = k
      · subst hek; rw [row_h]; exact h1 e (by omega)
      · rw [row_o hek]; exact h2 e (by omega))
    exact ⟨M1, k1, f1.tr k2, k3⟩
def wayG (V : FV) (v : Nat) (A : AM) (N w : Nat) (st : PS) : PS := updS st (rvs V v (aT A) (dgS V N w) N 0 A) (dgS V N w)
theorem evS_le {V : FV} {v d : Nat} {A : AM} {t : Nat} (hd : d ≤ 400) (h : evS V v d A = some t) : t ≤ 400 := by
  unfold evS at h
  cases ht : tO V (400 - d) A with
  | none => rw [ht] at h; cases h
  | some q =>
    rw [ht] at h
    have := tO_le _ _ _ ht
    have h : (if v ≤ (pullS V (aO q.2)).getD 0 then some (d + q.1) else none) = some t := h
    split at h
    · cases h; omega
    · cases h
theorem rvs_le {V : FV} {v t0 : Nat} {D : Nat → Nat} : ∀ (c k : Nat) (A : AM) (t : Nat), aT A + c ≤ t0 + 400 → rvs V v t0 D c k A = some t → t ≤ 400 := by
  intro c
  induction c with
  | zero => intro k A t hT h; exact evS_le (by omega) h
  | succ c ih =>
    intro k A t hT h
    unfold rvs at h
    split at h
    · cases h
    · refine ih (k + 1) _ t ?_ h
      have e1 : aT (pz V A (D k)) = aT A := by unfold pz; split <;> rfl
      have tt : aT (goesS V (pz V A (D k))) ≤ aT A + 1 := by
        by_cases ho : vW V ≤ aW (pz V A (D k))
        · unfold goesS; rw [if_pos ho, e1]; omega
        · rw [goes_T ho, e1]; omega
      omega
theorem wayR_loop {V : FV} {A : AM} {N v : Nat} (hV : VOk V) (hA : AOk V 9999 A) (hN : N ≤ 3) (hv : v ≤ 60) {x3 : Int32} {all : Nat} (hall : all ≤ 400) : ∀ (c w fu : Nat) (M : Mem) (st : PS), w + c = all → c < fu → st.1 ≤ 401 → NR M V A → (st.1 < 401 → ∀ e, e < N → gM M 125 e = nN (st.2 e)) → ∃ M1, lX12_plan_73 fu M (nN N) (nN v) x3 (nN all) (lS st.1) (nN w) = sX12_plan_199 M1 (nN N) x3 (lS (fol (wayG V v A N) c w st).1) ∧ QR M M1 ∧ (fol (wayG V v A N) c w st).1 ≤ 401 ∧ ((fol (wayG V v A N) c w st).1 < 401 → ∀ e, e < N → gM M1 125 e = nN ((fol (wayG V v A N) c w st).2 e)) := by
  have hn := hV.1
  intro c
  induction c with
  | zero =>
    intro w fu M st hw hf hst h hb
    obtain ⟨fu, rfl⟩ := fu1 hf
    refine ⟨M, ?_, QR.rfl, hst, hb⟩
    show sX12_plan_73 (lX12_plan_73 fu) M (nN N) (nN v) x3 (nN all) (lS st.1) (nN w) = _
    unfold sX12_plan_73
    rw [if_pos ((nN_le (by omega) (by omega)).mpr (by omega)), fol_0]
  | succ c ih =>
    intro w fu M st hw hf hst h hb
    obtain ⟨fu, rfl⟩ := fu1 hf
    show ∃ M1, sX12_plan_73 (lX12_plan_73 fu) M (nN N) (nN v) x3 (nN all) (lS st.1) (nN w) = _ ∧ _
    unfold sX12_plan_73
    rw [if_neg (by rw [nN_le (by omega) (by omega)]; omega)]
    obtain ⟨M1, k1, k2, k3⟩ := digR_loop (rec := lX12_plan_73 fu) (x2 := nN v) (x3 := x3) (x4 := nN all) (x5 := lS st.1) (x6 := nN w) (w := w) hV hN (by omega) N fuel M (Nat.le_refl _) (fuel_ge (by omega)) h (fun e h1 h2 => by omega)
    rw [Nat.sub_self, Nat.pow_zero, Nat.div_one] at k1
    have eN : gI N = nN N - 1 := by
      have := gI_succ N
      unfold gI at this ⊢
      by_cases h0 : N = 0
      · subst h0; rfl
      · rw [if_neg h0, show nN N - 1 = nN (N - 1) from nN_sub (b := 1) (by omega)]
    rw [← eN, k1]
    unfold sX12_plan_131 sX12_plan_160
    have q1 := QR.f k2 (Or.inr (Or.inl rfl))
    obtain ⟨M2, e1, e2⟩ := endsByR (D := dgS V N w) hV hA hN hv (fun e he => by unfold dgS; rw [if_pos he]; exact Nat.lt_succ_iff.mp (Nat.mod_lt (w / (vN V + 1) ^ (N - 1 - e)) (Nat.succ_pos (vN V)))) (h.q q1) k3
    rw [e1, bI_some, nN_succ, fol_s]
    have q2 := q1.tr (QR.f e2 (Or.inl rfl))
    have b2 : st.1 < 401 → ∀ e, e < N → gM M2 125 e = nN (st.2 e) := fun hs e he => by
      rw [e2.1 125 (by decide), k2.1 125 (by decide)]; exact hb hs e he
    have d2 : ∀ e, e < N → gM M2 124 e = nN (dgS V N w e) := fun e he => by rw [e2.1 124 (by decide)]; exact k3 e he
    have next : ∀ (M3 : Mem) (st' : PS), QR M M3 → st'.1 ≤ 401 → (st'.1 < 401 → ∀ e, e < N → gM M3 125 e = nN (st'.2 e)) → wayG V v A N w st = st' → ∃ M4, lX12_plan_73 fu M3 (nN N) (nN v) x3 (nN all) (lS st'.1) (nN (w + 1)) = sX12_plan_199 M4 (nN N) x3 (lS (fol (wayG V v A N) c (w + 1) (wayG V v A N w st)).1) ∧ QR M M4 ∧ (fol (wayG V v A N) c (w + 1) (wayG V v A N w st)).1 ≤ 401 ∧ ((fol (wayG V v A N) c (w + 1) (wayG V v A N w st)).1 < 401 → ∀ e, e < N → gM M4 125 e = nN ((fol (wayG V v A N) c (w + 1) (wayG V v A N w st)).2 e)) := by
      intro M3 st' q3 h1 h2 h3
      rw [h3]
      obtain ⟨M4, f1, f2, f3, f4⟩ := ih (w + 1) fu M3 st' (by omega) (by omega) h1 (h.q q3) h2
      exact ⟨M4, f1, q3.tr f2, f3, f4⟩
    cases hr : rvs V v (aT A) (dgS V N w) N 0 A with
    | none =>
      rw [show oN none = -9 from rfl, if_pos rfl]
      exact next M2 st q2 hst b2 (by unfold wayG; rw [hr]; rfl)
    | some t =>
      have ht := rvs_le N 0 A t (by omega) hr
      have et : oN (some t) = lS t := by unfold lS; rw [if_neg (by omega)]; rfl
      rw [if_neg (show ¬ oN (some t) = -9 from ne9 (by omega))]
      have copy : t < st.1 → ∃ M4, lX12_plan_167 (lX12_plan_73 fu) fuel M2 (nN N) (nN v) x3 (nN all) (oN (some t)) (nN w) 0 = sX12_plan_199 M4 (nN N) x3 (lS (fol (wayG V v A N) c (w + 1) (wayG V v A N w st)).1) ∧ QR M M4 ∧ (fol (wayG V v A N) c (w + 1) (wayG V v A N w st)).1 ≤ 401 ∧ ((fol (wayG V v A N) c (w + 1) (wayG V v A N w st)).1 < 401 → ∀ e, e < N → gM M4 125 e = nN ((fol (wayG V v A N) c (w + 1) (wayG V v A N w st)).2 e)) := by
        intro hlt
        obtain ⟨M3, f1, f2, f3⟩ := bestR_copy (rec := lX12_plan_73 fu) (x2 := nN v) (x3 := x3) (x4 := nN all) (x5 := oN (some t)) (x6 := nN w) hN N 0 fuel M2 (by omega) (fuel_ge (by omega)) d2 (fun e he => by omega)
        rw [show (0 : Int32) = nN 0 from rfl, f1, nN_succ, et]
        exact next M3 (t, dgS V N w) (q2.tr (QR.f f2 (Or.inr (Or.inr rfl)))) (by show t ≤ 401; omega) (fun _ => f3) (by unfold wayG; rw [hr]; unfold updS; show (if t < st.1 then _ else _) = _; rw [if_pos hlt])
      by_cases hs : st.1 = 401
      · rw [show lS st.1 = -9 by unfold lS; rw [if_pos hs], if_pos rfl]
        exact copy (by omega)
      · have es : lS st.1 = nN st.1 := by unfold lS; rw [if_neg hs]
        rw [if_neg (show ¬ lS st.1 = -9 by rw [es]; exact ne9 (by omega))]
        by_cases hlt : t < st.1
        · rw [if_neg (by rw [es]; show ¬ nN st.1 ≤ nN t; rw [nN_le (by omega) (by omega)]; omega)]
          exact copy hlt
        · rw [if_pos (by rw [es]; show nN st.1 ≤ nN t; rw [nN_le (by omega) (by omega)]; omega)]
          exact next M2 st q2 hst b2 (by unfold wayG; rw [hr]; unfold updS; show (if t < st.1 then _ else _) = _; rw [if_neg hlt])
theorem allR_loop {V : FV} {A : AM} {N : Nat} (hV : VOk V) (hN : N ≤ 3) {x2 x3 : Int32} : ∀ (c k fu : Nat) (M : Mem) (a : Nat), k + c = N → c < fu → NR M V A → lX12_plan_41 fu M (nN N) x2 x3 (nN a) (nN k) = sX12_plan_66 M (nN N) x2 x3 (nN (a * (vN V + 1) ^ c)) := by
  intro c
  induction c with
  | zero =>
    intro k fu M a hk hf h
    obtain ⟨fu, rfl⟩ := fu1 hf
    show sX12_plan_41 (lX12_plan_41 fu) M (nN N) x2 x3 (nN a) (nN k) = _
    unfold sX12_plan_41
    rw [if_pos ((nN_le (by omega) (by omega)).mpr (by omega)), Nat.pow_zero, Nat.mul_one]
  | succ c ih =>
    intro k fu M a hk hf h
    obtain ⟨fu, rfl⟩ := fu1 hf
    show sX12_plan_41 (lX12_plan_41 fu) M (nN N) x2 x3 (nN a) (nN k) = _
    unfold sX12_plan_41
    rw [if_neg (by rw [nN_le (by omega) (by omega)]; omega), h.1.1, nN_succ (vN V), nN_mul, nN_succ k, ih (k + 1) fu M _ (by omega) (by omega) h, Nat.mul_assoc, Nat.pow_succ, Nat.mul_comm ((vN V + 1) ^ c)]
/-! all rows, one by one, are the search -/
def dig (V : FV) (tr : Nat → Nat) (k c w : Nat) : Nat → Nat := fun e => if e < k then tr e else if e < k + c then (w / (vN V + 1) ^ (k + c - 1 - e)) % (vN V + 1) else 0
theorem fol_nest {β : Type} (F : Nat → β → β) (K : Nat) : ∀ (m j : Nat) (b : β), fol F (m * K) (j * K) b = fol (fun g b => fol (fun w b => F (g * K + w) b) K 0 b) m j b := by
  have sh : ∀ (c i a : Nat) (b : β), fol F c (a + i) b = fol (fun w b => F (a + w) b) c i b := by
    intro c
    induction c with
    | zero => intro i a b; rfl
    | succ c ih => intro i a b; rw [fol_s, fol_s, show a + i + 1 = a + (i + 1) by omega, ih]
  intro m
  induction m with
  | zero => intro j b; rw [Nat.zero_mul]; rfl
  | succ m ih =>
    intro j b
    rw [Nat.succ_mul, Nat.add_comm (m * K) K, fol_app, fol_s, show j * K + K = (j + 1) * K by rw [Nat.succ_mul], ih]
    congr 1
    have := sh K 0 (j * K) b
    rw [Nat.add_zero] at this
    exact this
theorem rvs_congr {V : FV} {v t0 : Nat} {D D' : Nat → Nat} : ∀ (c k : Nat) (A : AM), (∀ e, k ≤ e → e < k + c → D e = D' e) → rvs V v t0 D c k A = rvs V v t0 D' c k A := by
  intro c
  induction c with
  | zero => intro k A _; rfl
  | succ c ih =>
    intro k A h
    unfold rvs
    rw [h k (Nat.le_refl _) (by omega), ih (k + 1) _ (fun e h1 h2 => h e (by omega) (by omega))]
theorem dig_split {V : FV} {tr : Nat → Nat} {k c g w : Nat} (hg : g < vN V + 1) (hw : w < (vN V + 1) ^ c) : dig V tr k (c + 1) (g * (vN V + 1) ^ c + w) = dig V (rn tr k g) (k + 1) c w := by
  funext e
  unfold dig rn
  have hpos : 0 < (vN V + 1) ^ c := Nat.pow_pos (Nat.succ_pos _)
  by_cases h1 : e < k
  · rw [if_pos h1, if_pos (by omega), if_neg (by omega)]
  · rw [if_neg h1]
    by_cases h2 : e = k
    · subst h2
      rw [if_pos (by omega), if_pos (by omega), if_pos rfl, show e + (c + 1) - 1 - e = c by omega, Nat.add_comm, Nat.add_mul_div_right _ _ hpos, Nat.div_eq_of_lt hw, Nat.zero_add, Nat.mod_eq_of_lt hg]
    · rw [if_neg (show ¬ e < k + 1 by omega)]
      by_cases h3 : e < k + (c + 1)
      · rw [if_pos h3, if_pos (by omega), show k + (c + 1) - 1 - e = k + 1 + c - 1 - e by omega]
        obtain ⟨i, hi⟩ : ∃ i, i = k + 1 + c - 1 - e := ⟨_, rfl⟩
        rw [← hi]
        have hsplit : (vN V + 1) ^ c = (vN V + 1) ^ (c - 1 - i) * (vN V + 1) * (vN V + 1) ^ i := by
          rw [← Nat.pow_succ, ← Nat.pow_add]
          congr 1; omega
        have hpi : 0 < (vN V + 1) ^ i := Nat.pow_pos (Nat.succ_pos _)
        rw [hsplit, ← Nat.mul_assoc, Nat.add_comm, Nat.add_mul_div_right _ _ hpi, ← Nat.mul_assoc, Nat.add_mul_mod_self_right]
      · rw [if_neg h3, if_neg (by omega)]
theorem dig_zero {V : FV} {tr : Nat → Nat} {k : Nat} (htr : ∀ i, k ≤ i → tr i = 0) : dig V tr k 0 0 = tr := by
  funext e
  unfold dig
  by_cases h1 : e < k
  · rw [if_pos h1]
  · rw [if_neg h1, if_neg (by omega), htr e (by omega)]
theorem fol_none {v t0 : Nat} {V : FV} (K : Nat) (D : Nat → Nat → Nat) (R : Nat → Option Nat) (h : ∀ w, w < K → R w = none) : ∀ (c j : Nat) (st : PS), j + c ≤ K → fol (fun w st => updS st (R w) (D w)) c j st = st := by
  intro c
  induction c with
  | zero => intro j st _; rfl
  | succ c ih =>
    intro j st hj
    rw [fol_s, h j (by omega)]
    exact ih (j + 1) st (by omega)
def enumS (V : FV) (v t0 : Nat) (c k : Nat) (A : AM) (tr : Nat → Nat) (st : PS) : PS := fol (fun w st => updS st (rvs V v t0 (dig V tr k c w) c k A) (dig V tr k c w)) ((vN V + 1) ^ c) 0 st
theorem rn_zero {tr : Nat → Nat} {k : Nat} (h : tr k = 0) : rn tr k 0 = tr := by
  funext e
  unfold rn
  by_cases he : e = k
  · subst he; rw [if_pos rfl, h]
  · rw [if_neg he]
theorem dig_k {V : FV} {tr : Nat → Nat} {k c w : Nat} {g : Nat} : dig V (rn tr k g) (k + 1) c w k = g := by
  unfold dig rn
  rw [if_pos (by omega), if_pos rfl]
theorem enum_over {V : FV} {v t0 : Nat} {A : AM} (ho : vW V ≤ aW A) : ∀ (c k : Nat) (tr : Nat → Nat) (st : PS), (∀ i, k ≤ i → tr i = 0) → enumS V v t0 c k A tr st = updS st (evS V v (aT A - t0) A) tr := by
  intro c
  induction c with
  | zero =>
    intro k tr st htr
    unfold enumS
    rw [Nat.pow_zero]
    show updS st (rvs V v t0 (dig V tr k 0 0) 0 k A) (dig V tr k 0 0) = _
    rw [dig_zero htr]
    rfl
  | succ c ih =>
    intro k tr st htr
    unfold enumS
    have hpw : (vN V + 1) ^ (c + 1) = (vN V + 1) * (vN V + 1) ^ c := by rw [Nat.pow_succ, Nat.mul_comm]
    have hnest := fol_nest (fun w st => updS st (rvs V v t0 (dig V tr k (c + 1) w) (c + 1) k A) (dig V tr k (c + 1) w)) ((vN V + 1) ^ c) (vN V + 1) 0 st
    rw [Nat.zero_mul] at hnest
    rw [hpw, hnest, fol_s]
    have hg0 : goesS V A = A := by unfold goesS; rw [if_pos ho]
    have h0 : fol (fun w st => updS st (rvs V v t0 (dig V tr k (c + 1) (0 * (vN V + 1) ^ c + w)) (c + 1) k A) (dig V tr k (c + 1) (0 * (vN V + 1) ^ c + w))) ((vN V + 1) ^ c) 0 st = enumS V v t0 c (k + 1) A tr st := by
      unfold enumS
      refine fol_congr _ _ _ (fun w _ hw st => ?_)
      rw [dig_split (Nat.succ_pos _) (by omega), rn_zero (htr k (Nat.le_refl _))]
      have hk : dig V tr (k + 1) c w k = 0 := by
        have := dig_k (V := V) (tr := tr) (k := k) (c := c) (w := w) (g := 0)
        rw [rn_zero (htr k (Nat.le_refl _))] at this
        exact this
      rw [show rvs V v t0 (dig V tr (k + 1) c w) (c + 1) k A = (if vW V ≤ aW A ∧ dig V tr (k + 1) c w k ≠ 0 then none else rvs V v t0 (dig V tr (k + 1) c w) c (k + 1) (goesS V (pz V A (dig V tr (k + 1) c w k)))) from rfl, if_neg (fun e => e.2 hk), hk, show pz V A 0 = A from rfl, hg0]
    rw [h0, ih (k + 1) tr st (fun i hi => htr i (by omega))]
    have hrest : ∀ (m g : Nat) (st : PS), 1 ≤ g → g + m = vN V + 1 → fol (fun g b => fol (fun w b => updS b (rvs V v t0 (dig V tr k (c + 1) (g * (vN V + 1) ^ c + w)) (c + 1) k A) (dig V tr k (c + 1) (g * (vN V + 1) ^ c + w))) ((vN V + 1) ^ c) 0 b) m g st = st := by
      intro m
      induction m with
      | zero => intro g st _ _; rfl
      | succ m ihm =>
        intro g st hg hgm
        rw [fol_s]
        rw [fol_none (v := v) (t0 := t0) (V := V) ((vN V + 1) ^ c) (fun w => dig V tr k (c + 1) (g * (vN V + 1) ^ c + w)) (fun w => rvs V v t0 (dig V tr k (c + 1) (g * (vN V + 1) ^ c + w)) (c + 1) k A) (fun w hw => by
          rw [dig_split (by omega) hw]
          unfold rvs
          rw [if_pos ⟨ho, by rw [dig_k]; omega⟩]) ((vN V + 1) ^ c) 0 st (by omega)]
        exact ihm (g + 1) st (by omega) (by omega)
    exact hrest (vN V) 1 _ (Nat.le_refl _) (by omega)
theorem enum_ds {V : FV} {v t0 : Nat} : ∀ (c k : Nat) (A : AM) (tr : Nat → Nat) (st : PS), (∀ i, k ≤ i → tr i = 0) → enumS V v t0 c k A tr st = ds V v t0 c k A tr st := by
  intro c
  induction c with
  | zero =>
    intro k A tr st htr
    unfold enumS
    rw [Nat.pow_zero]
    show updS st (rvs V v t0 (dig V tr k 0 0) 0 k A) (dig V tr k 0 0) = _
    rw [dig_zero htr]
    rfl
  | succ c ih =>
    intro k A tr st htr
    by_cases ho : vW V ≤ aW A
    · rw [enum_over ho (c + 1) k tr st htr]
      unfold ds
      rw [if_pos ho]
    · unfold enumS ds
      rw [if_neg ho]
      have hpw : (vN V + 1) ^ (c + 1) = (vN V + 1) * (vN V + 1) ^ c := by rw [Nat.pow_succ, Nat.mul_comm]
      have hnest := fol_nest (fun w st => updS st (rvs V v t0 (dig V tr k (c + 1) w) (c + 1) k A) (dig V tr k (c + 1) w)) ((vN V + 1) ^ c) (vN V + 1) 0 st
      rw [Nat.zero_mul] at hnest
      rw [hpw, hnest]
      refine fol_congr _ _ _ (fun g _ hg st => ?_)
      rw [← ih (k + 1) (goesS V (pz V A g)) (rn tr k g) st (fun i hi => by unfold rn; rw [if_neg (by omega)]; exact htr i (by omega))]
      unfold enumS
      refine fol_congr _ _ _ (fun w _ hw st => ?_)
      rw [dig_split (by omega) (by omega)]
      rw [show rvs V v t0 (dig V (rn tr k g) (k + 1) c w) (c + 1) k A = (if vW V ≤ aW A ∧ dig V (rn tr k g) (k + 1) c w k ≠ 0 then none else rvs V v t0 (dig V (rn tr k g) (k + 1) c w) c (k + 1) (goesS V (pz V A (dig V (rn tr k g) (k + 1) c w k)))) from rfl, if_neg (fun e => ho e.1), dig_k]
theorem way_ds {V : FV} {v : Nat} {A : AM} (N : Nat) (st : PS) : fol (wayG V v A N) ((vN V + 1) ^ N) 0 st = ds V v (aT A) N 0 A (fun _ => 0) st := by
  rw [← enum_ds N 0 A (fun _ => 0) st (fun _ _ => rfl)]
  unfold enumS
  refine fol_congr _ _ _ (fun w _ _ st => ?_)
  have : dgS V N w = dig V (fun _ => 0) 0 N w := by
    funext e
    unfold dgS dig
    rw [if_neg (Nat.not_lt_zero e), Nat.zero_add]
  unfold wayG
  rw [this]
theorem tI_of {g : Nat} (h : g ≤ 6) : (if nN g = 0 then (-5 : Int32) else nN g - 1) = tI g := by
  unfold tI
  by_cases h0 : g = 0
  · subst h0; rfl
  · rw [if_neg (show ¬ nN g = 0 from fun e => h0 ((nN_eq (b := 0) (by omega) (by decide)).mp e)), if_neg h0, show nN g - 1 = nN (g - 1) from nN_sub (b := 1) (by omega)]
theorem R_plan {M : Mem} {V : FV} {A : AM} (hV : VOk V) (hA : AOk V 9999 A) (h : NR M V A) (x1 x2 x3 : Int32) : ∃ M1, fX12_plan M x1 x2 x3 = some (M1, planS V A x1 x2 x3) ∧ QR M M1 := by
  unfold fX12_plan planS
  have hn := hV.1
  have q0 := QR.t M 0
  by_cases h1 : ¬ (1 ≤ x1 ∧ x1 ≤ 3)
  · rw [in_n h1, bI_some, if_pos rfl, if_neg (fun e => h1 e.1)]; exact ⟨_, rfl, q0⟩
  have h1 := Classical.not_not.mp h1
  rw [in_y h1.1 h1.2, bI_some, if_neg (by decide)]
  by_cases h2 : ¬ (0 ≤ x2 ∧ x2 ≤ 60)
  · rw [in_n h2, bI_some, if_pos rfl, if_neg (fun e => h2 e.2.1)]; exact ⟨_, rfl, q0⟩
  have h2 := Classical.not_not.mp h2
  rw [in_y h2.1 h2.2, bI_some, if_neg (by decide)]
  by_cases h3 : ¬ (-1 ≤ x3 ∧ x3 ≤ 2)
  · rw [in_n h3, bI_some, if_pos rfl, if_neg (fun e => h3 e.2.2)]; exact ⟨_, rfl, q0⟩
  have h3 := Classical.not_not.mp h3
  rw [in_y h3.1 h3.2, bI_some, if_neg (by decide), if_pos ⟨h1, h2, h3⟩]
  obtain ⟨N, hN, rfl⟩ := to_nN_le (m := 3) (by decide) (Int32.le_trans (by decide) h1.1) h1.2
  obtain ⟨v, hv, rfl⟩ := to_nN_le (m := 60) (by decide) h2.1 h2.2
  have hall : (vN V + 1) ^ N ≤ 400 := by
    have a1 : (vN V + 1) ^ N ≤ 7 ^ N := Nat.pow_le_pow_left (by omega) N
    have a2 : 7 ^ N ≤ 7 ^ 3 := Nat.pow_le_pow_right (by decide) hN
    have a3 : (7 : Nat) ^ 3 = 343 := by decide
    omega
  have e41 := allR_loop (x2 := nN v) (x3 := x3) hV hN N 0 fuel (sM M 109 0 0) 1 (by omega) (fuel_ge (by omega)) (h.q q0)
  rw [Nat.one_mul] at e41
  obtain ⟨M1, k1, k2, k3, k4⟩ := wayR_loop (x3 := x3) hV hA hN hv hall ((vN V + 1) ^ N) 0 fuel (sM M 109 0 0) (401, fun _ => 0) (by omega) (fuel_ge (by omega)) (Nat.le_refl _) (h.q q0) (fun e => absurd e (by decide))
  rw [way_ds] at k1 k3 k4
  have e66 : lX12_plan_41 fuel (sM M 109 0 0) (nN N) (nN v) x3 1 0 = sX12_plan_199 M1 (nN N) x3 (lS (ds V v (aT A) N 0 A (fun _ => 0) (401, fun _ => 0)).1) := e41.trans (by unfold sX12_plan_66; exact k1)
  rw [e66, nN_cl (by omega), nN_cl (by omega)]
  refine ⟨M1, ?_, q0.tr k2⟩
  obtain ⟨st, hst⟩ : ∃ st, st = ds V v (aT A) N 0 A (fun _ => 0) (401, fun _ => 0) := ⟨_, rfl⟩
  have hdig : ∀ (c k : Nat) (A : AM) (tr : Nat → Nat) (st : PS), (∀ e, tr e ≤ 6) → (∀ e, st.2 e ≤ 6) → ∀ e, (ds V v (aT A) c k A tr st).2 e ≤ 6 := by
    intro c
    have : ∀ (t0 : Nat) (k : Nat) (A : AM) (tr : Nat → Nat) (st : PS), (∀ e, tr e ≤ 6) → (∀ e, st.2 e ≤ 6) → ∀ e, (ds V v t0 c k A tr st).2 e ≤ 6 := by
      induction c with
      | zero =>
        intro t0 k A tr st h1 h2 e
        unfold ds updS
        cases evS V v (aT A - t0) A with
        | none => exact h2 e
        | some t =>
          show (if t < st.1 then (t, tr) else st).2 e ≤ 6
          split
          · exact h1 e
          · exact h2 e
      | succ c ih =>
        intro t0 k A tr st h1 h2
        unfold ds
        split
        · intro e
          unfold updS
          cases evS V v (aT A - t0) A with
          | none => exact h2 e
          | some t =>
            show (if t < st.1 then (t, tr) else st).2 e ≤ 6
            split
            · exact h1 e
            · exact h2 e
        · refine fol_inv (P := fun _ (s : PS) => ∀ e, s.2 e ≤ 6) (vN V + 1) 0 st h2 (fun g s _ hg hs => ?_)
          refine ih t0 (k + 1) (goesS V (pz V A g)) (rn tr k g) s (fun e => ?_) hs
          unfold rn
          split
          · omega
          · exact h1 e
    exact fun k A tr st => this (aT A) k A tr st
  have hd6 : ∀ e, st.2 e ≤ 6 := by rw [hst]; exact hdig N 0 A (fun _ => 0) (401, fun _ => 0) (fun _ => Nat.zero_le _) (fun _ => Nat.zero_le _)
  rw [← hst] at k3 k4 ⊢
  unfold sX12_plan_199
  by_cases h4 : x3 = -1
  · rw [if_pos h4, h4]
    have hlt : (-1 : Int32) < nN N := by
      have := h1.1
      grind
    rw [if_pos hlt, if_neg (show ¬ (0 : Int32) ≤ -1 by decide)]
    unfold lS
    by_cases hs : st.1 = 401
    · rw [if_pos hs]
    · rw [if_neg hs]
  · rw [if_neg h4]
    have h30 : 0 ≤ x3 := by have := h3.1; grind
    obtain ⟨k, hk, rfl⟩ := to_nN_le (m := 2) (by decide) h30 h3.2
    by_cases hs : st.1 = 401
    · rw [show lS st.1 = -9 by unfold lS; rw [if_pos hs], if_pos rfl]
      split <;> first | rfl | rw [if_pos hs]
    · rw [if_neg (show ¬ lS st.1 = -9 by unfold lS; rw [if_neg hs]; exact ne9 (by omega))]
      by_cases h5 : nN k < nN N
      · have hkN := (nN_lt (by omega) (by omega)).mp h5
        rw [if_pos h5, if_pos h5, if_neg hs, if_pos h30, if_pos ((nN_inB (n := 3) (by omega)).mpr (by omega)), nN_cl (by omega), k4 (by omega) k hkN, ← tI_of (hd6 k)]
        split <;> rfl
      · rw [if_neg h5, if_neg h5]
