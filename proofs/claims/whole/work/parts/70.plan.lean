/-! plan: the search, and the class's -/
abbrev PS : Type := Nat × (Nat → Nat)
def evS (V : FV) (v d : Nat) (A : AM) : Option Nat := match tO V (400 - d) A with
  | some q => if v ≤ (pullS V (aO q.2)).getD 0 then some (d + q.1) else none
  | none => none
def updS (st : PS) (o : Option Nat) (tr : Nat → Nat) : PS := match o with
  | some t => if t < st.1 then (t, tr) else st
  | none => st
def pz (V : FV) (A : AM) (g : Nat) : AM := if g = 0 then A else speakS V A (2 ^ (g - 1))
def rn (tr : Nat → Nat) (k g : Nat) : Nat → Nat := fun e => if e = k then g else tr e
def ds (V : FV) (v t0 : Nat) : Nat → Nat → AM → (Nat → Nat) → PS → PS
  | 0, _, A, tr, st => updS st (evS V v (aT A - t0) A) tr
  | c + 1, k, A, tr, st => if vW V ≤ aW A then updS st (evS V v (aT A - t0) A) tr else fol (fun g st => ds V v t0 c (k + 1) (goesS V (pz V A g)) (rn tr k g) st) (vN V + 1) 0 st
def tI (g : Nat) : Int32 := if g = 0 then -5 else nN (g - 1)
def gI (g : Nat) : Int32 := if g = 0 then -1 else nN (g - 1)
theorem gI_succ (g : Nat) : gI g + 1 = gI (g + 1) := by
  unfold gI
  by_cases h : g = 0
  · subst h; rfl
  · rw [if_neg h, if_neg (by omega), nN_succ]
    congr 1; omega
theorem upd_le {st : PS} {o : Option Nat} {tr : Nat → Nat} (h : st.1 ≤ 401) : (updS st o tr).1 ≤ 401 := by
  unfold updS
  cases o with
  | none => exact h
  | some t =>
    show (if t < st.1 then (t, tr) else st).1 ≤ 401
    split
    · show t ≤ 401; omega
    · exact h
/-- the planner's cells -/
def PL (M : Mem) (N v : Nat) (st : PS) : Prop := gM M 58 3 = nN N ∧ gM M 58 4 = nN v ∧ gM M 58 5 = nN st.1 ∧ (st.1 < 401 → ∀ k, k < 3 → gM M 61 k = tI (st.2 k))
def FrP (j : Nat) (M M' : Mem) : Prop := (∀ i, i ≠ 58 → i ≠ 60 → i ≠ 61 → (i < j ∨ 74 ≤ i) → gM M' i = gM M i) ∧ (∀ i, gL M' i = gL M i)
theorem FrP.rfl {j : Nat} {M : Mem} : FrP j M M := ⟨fun _ _ _ _ _ => Eq.refl _, fun _ => Eq.refl _⟩
theorem FrP.tr {j : Nat} {M M1 M2 : Mem} (h : FrP j M M1) (h2 : FrP j M1 M2) : FrP j M M2 := ⟨fun i a b c d => (h2.1 i a b c d).trans (h.1 i a b c d), fun i => (h2.2 i).trans (h.2 i)⟩
theorem FrP.mono {j j' : Nat} {M M' : Mem} (h : FrP j M M') (hj : j' ≤ j) : FrP j' M M' := ⟨fun i a b c d => h.1 i a b c (by omega), h.2⟩
theorem FrP.f {j b : Nat} {M M' : Mem} (h : Fr3 b M M') (hb : j ≤ b ∧ b + 2 < 74) : FrP j M M' := ⟨fun i _ _ _ d => h.1 i (by omega) (by omega) (by omega), h.2⟩
theorem FrP.s {j i k : Nat} {v : Int32} {M : Mem} (hi : i = 58 ∨ i = 60 ∨ i = 61) : FrP j M (sM M i k v) := ⟨fun a h1 h2 h3 _ => (sM_other M i k v a (by omega)).1, fun _ => Eq.refl _⟩
theorem FrP.q {j : Nat} {M M' : Mem} (h : FrP j M M') (hj : 62 ≤ j) : QX M M' := ⟨fun i hi => h.1 i (by omega) (by omega) (by omega) (by omega), h.2⟩
theorem mo_Qn {d : Nat} (h : d < 4) : isMo (62 + 3 * d) := (show ∀ n, n < 4 → isMo (62 + 3 * n) by unfold isMo; decide) d h
theorem PL.f {M M' : Mem} {N v b : Nat} {st : PS} (h : PL M N v st) (f : Fr3 b M M') (hb : 62 ≤ b) : PL M' N v st := by
  unfold PL
  rw [f.1 58 (by omega) (by omega) (by omega), f.1 61 (by omega) (by omega) (by omega)]
  exact h
theorem weighX_loop {d : Nat} {tr : Nat → Nat} (hd : d ≤ 3) (htr : ∀ i, d ≤ i → tr i = 0) : ∀ (c k fu : Nat) (M : Mem), k + c = 3 → c < fu → (∀ i, i < d → gM M 60 i = tI (tr i)) → (∀ i, i < k → gM M 61 i = tI (tr i)) → ∃ M', lX9_weigh_60 fu M (nN d) (nN k) = some M' ∧ Fr1 61 M M' ∧ ∀ i, i < 3 → gM M' 61 i = tI (tr i) := by
  intro c
  induction c with
  | zero =>
    intro k fu M hk hf h1 h2
    obtain ⟨fu, rfl⟩ := fu1 hf
    have hk : k = 3 := by omega
    subst hk
    refine ⟨M, ?_, Fr1.rfl, h2⟩
    show sX9_weigh_60 (lX9_weigh_60 fu) M (nN d) 3 = _
    unfold sX9_weigh_60
    rw [if_pos (by decide)]
  | succ c ih =>
    intro k fu M hk hf h1 h2
    obtain ⟨fu, rfl⟩ := fu1 hf
    show ∃ M', sX9_weigh_60 (lX9_weigh_60 fu) M (nN d) (nN k) = some M' ∧ _
    unfold sX9_weigh_60 sX9_weigh_90
    have key : ∀ s2 : Int32, s2 = tI (tr k) → ∃ M', lX9_weigh_60 fu (sM M 61 k s2) (nN d) (nN (k + 1)) = some M' ∧ Fr1 61 M M' ∧ ∀ i, i < 3 → gM M' 61 i = tI (tr i) := by
      intro s2 hs
      obtain ⟨M', g1, g2, g3⟩ := ih (k + 1) fu (sM M 61 k s2) (by omega) (by omega) (fun i hi => by rw [g_si (by decide)]; exact h1 i hi) (fun i hi => by
        by_cases hik : i = k
        · subst hik; rw [row_h, hs]
        · rw [row_o hik]; exact h2 i (by omega))
      exact ⟨M', g1, (Fr1.s 61 k s2 M).tr g2, g3⟩
    rw [if_neg (show ¬ (3 : Int32) ≤ nN k from fun h => by have := (nN_le (a := 3) (by decide) (by omega)).mp h; omega), if_pos ((nN_inB (by omega)).mpr (by omega)), if_pos ((nN_inB (n := 3) (by omega)).mpr (by omega)), nN_cl (by omega), nN_succ]
    by_cases hkd : d ≤ k
    · rw [if_pos ((nN_le (by omega) (by omega)).mpr hkd)]
      exact key (-5) (by rw [htr k hkd]; rfl)
    · rw [if_neg (by rw [nN_le (by omega) (by omega)]; exact hkd), if_pos ((nN_inB (n := 3) (by omega)).mpr (by omega))]
      exact key _ (h1 k (by omega))
theorem weighX {V : FV} {A1 : AM} {M : Mem} {N v d t0 : Nat} {tr : Nat → Nat} {st : PS} (hV : VOk V) {f : Nat} (hf : isFe f) (hd : d ≤ 3) (hv : v ≤ 60) (hF : FX M f V) (hA1 : AOk V (9999 + d) A1) (hT : aT A1 - t0 = d) (h1 : RX V A1 M (62 + 3 * d)) (hP : PL M N v st) (hst : st.1 ≤ 401) (htr : ∀ i, d ≤ i → tr i = 0) (h60 : ∀ i, i < d → gM M 60 i = tI (tr i)) : ∃ M', fX9_weigh M f (nN d) = some M' ∧ FrP (62 + 3 * d) M M' ∧ PL M' N v (updS st (evS V v (aT A1 - t0) A1) tr) ∧ gM M' 60 = gM M 60 := by
  unfold fX9_weigh
  rw [if_pos ((nN_inB (by omega)).mpr (by omega)), nN_cl (by omega), hP.2.2.1, hT]
  have hb := mo_Qn (d := d) (by omega)
  by_cases hneg : st.1 < d + 1
  · have : nN st.1 - 1 - nN d < 0 := by
      have e1 : nN st.1 < nN (d + 1) := (nN_lt (by omega) (by omega)).mpr hneg
      have e2 : nN (d + 1) = nN d + 1 := (nN_succ d).symm
      have e3 : nN d ≤ 3 := (nN_le (b := 3) (by omega) (by decide)).mpr hd
      have e4 := nN_nn (a := d) (by omega)
      have e5 := nN_nn (a := st.1) (by omega)
      rw [e2] at e1
      grind
    rw [tillX_neg this, bI_some, if_pos rfl]
    refine ⟨M, rfl, FrP.rfl, ?_, rfl⟩
    have : updS st (evS V v d A1) tr = st := by
      unfold updS evS
      cases tO V (400 - d) A1 with
      | none => rfl
      | some q =>
        show (match (if v ≤ (pullS V (aO q.2)).getD 0 then some (d + q.1) else none) with | some t => if t < st.1 then (t, tr) else st | none => st) = st
        split
        · rename_i t ht
          split at ht
          · cases ht; rw [if_neg (by omega)]
          · cases ht
        · rfl
    rw [this]
    exact hP
  · rw [show nN st.1 - 1 = nN (st.1 - 1) from nN_sub (b := 1) (by omega), nN_sub (by omega)]
    obtain ⟨M1, k1, k2, k3⟩ := tillX (k := st.1 - 1 - d) hV hf hb (by omega) (by omega) hF hA1 h1
    have fr1 : FrP (62 + 3 * d) M M1 := FrP.f k2 ⟨by omega, by omega⟩
    have hP1 := hP.f k2 (by omega)
    rw [k1, bI_some]
    have hbd := tO_bd (V := V) (st.1 - 1 - d) (400 - d) A1 (by omega)
    have e60 : gM M1 60 = gM M 60 := k2.1 60 (by omega) (by omega) (by omega)
    unfold evS
    cases ht : tO V (400 - d) A1 with
    | none =>
      rw [ht] at hbd
      rw [hbd, show tOI 0 none = -9 from rfl, if_pos rfl]
      exact ⟨M1, rfl, fr1, hP1, e60⟩
    | some q =>
      rw [ht] at hbd
      have hbd : tO V (st.1 - 1 - d) A1 = (if q.1 ≤ st.1 - 1 - d then some q else none) := hbd
      by_cases hq : q.1 ≤ st.1 - 1 - d
      · rw [if_pos hq] at hbd
        have r3 := k3 q hbd
        rw [hbd, if_neg (show ¬ tOI 0 (some q) = -9 from ne9 (by omega)), r3.1.2.2.1, show tOI 0 (some q) = nN q.1 by show nN (0 + q.1) = nN q.1; rw [Nat.zero_add]]
        have ho64 : aO q.2 < 64 := by
          have : ∀ (k : Nat) (B : Nat) (A : AM) (q : Nat × AM), AOk V B A → tO V k A = some q → aO q.2 < 64 := by
            intro k
            induction k with
            | zero =>
              intro B A q hA hq
              unfold tO at hq
              split at hq
              · cases hq; exact lt64 hV hA.2.2.1
              · cases hq
            | succ k ih =>
              intro B A q hA hq
              unfold tO at hq
              split at hq
              · cases hq; exact lt64 hV hA.2.2.1
              · obtain ⟨q', hq', rfl⟩ := Option.map_eq_some_iff.mp hq
                exact ih (B + 1) _ q' (goes_ok hV hA) hq'
          exact this _ _ _ _ hA1 ht
        have hF1 := hF.fr hf hb k2
        rw [pullX hF1 ho64, bI_some, hP1.2.1, nN_add]
        have hpl : (if (0 : Int32) < pI (pullS V (aO q.2)) then pI (pullS V (aO q.2)) else 0) = nN ((pullS V (aO q.2)).getD 0) := by
          cases hp : pullS V (aO q.2) with
          | none => rfl
          | some s =>
            have := pull_le V hV _ hp
            show (if (0 : Int32) < nN s then nN s else 0) = nN s
            by_cases hs : s = 0
            · subst hs; rfl
            · rw [if_pos (show (0 : Int32) < nN s from (nN_lt (a := 0) (by decide) (by omega)).mpr (by omega))]
        have hp54 : (pullS V (aO q.2)).getD 0 ≤ 54 := by
          cases hp : pullS V (aO q.2) with
          | none => decide
          | some s => exact pull_le V hV _ hp
        rw [hpl]
        by_cases hvv : v ≤ (pullS V (aO q.2)).getD 0
        · rw [if_pos ((nN_le (by omega) (by omega)).mpr hvv)]
          obtain ⟨M2, e1, e2, e3⟩ := weighX_loop hd htr 3 0 fuel (sM M1 58 5 (nN (d + q.1))) rfl (fuel_ge (by decide)) (fun i hi => by rw [g_si (by decide), e60]; exact h60 i hi) (fun i hi => by omega)
          refine ⟨M2, e1, fr1.tr ((FrP.s (Or.inl rfl)).tr ⟨fun i a b c _ => e2.1 i c, e2.2⟩), ?_, ?_⟩
          · show PL M2 N v (updS st (if v ≤ (pullS V (aO q.2)).getD 0 then some (d + q.1) else none) tr)
            rw [if_pos hvv]
            unfold updS
            show PL M2 N v (if d + q.1 < st.1 then (d + q.1, tr) else st)
            rw [if_pos (by omega)]
            refine ⟨?_, ?_, ?_, fun _ => e3⟩
            · rw [e2.1 58 (by decide), row_o (by decide)]; exact hP1.1
            · rw [e2.1 58 (by decide), row_o (by decide)]; exact hP1.2.1
            · rw [e2.1 58 (by decide), row_h]
          · rw [e2.1 60 (by decide)]
            funext i
            rw [g_si (by decide), e60]
        · rw [if_neg (by rw [nN_le (by omega) (by omega)]; exact hvv)]
          refine ⟨M1, rfl, fr1, ?_, e60⟩
          show PL M1 N v (updS st (if v ≤ (pullS V (aO q.2)).getD 0 then some (d + q.1) else none) tr)
          rw [if_neg hvv]
          exact hP1
      · rw [if_neg hq] at hbd
        rw [hbd, show tOI 0 none = -9 from rfl, if_pos rfl]
        refine ⟨M1, rfl, fr1, ?_, e60⟩
        show PL M1 N v (updS st (if v ≤ (pullS V (aO q.2)).getD 0 then some (d + q.1) else none) tr)
        have : updS st (if v ≤ (pullS V (aO q.2)).getD 0 then some (d + q.1) else none) tr = st := by
          split
          · unfold updS
            show (if d + q.1 < st.1 then _ else _) = _
            rw [if_neg (by omega)]
          · rfl
        rw [this]
        exact hP1
theorem ds_le {V : FV} {v t0 : Nat} : ∀ (c k : Nat) (A : AM) (tr : Nat → Nat) (st : PS), st.1 ≤ 401 → (ds V v t0 c k A tr st).1 ≤ 401 := by
  intro c
  induction c with
  | zero => intro k A tr st h; exact upd_le h
  | succ c ih =>
    intro k A tr st h
    unfold ds
    split
    · exact upd_le h
    · exact fol_inv (P := fun _ (s : PS) => s.1 ≤ 401) (vN V + 1) 0 st h (fun g s _ _ hs => ih _ _ _ _ hs)
theorem goes_T {V : FV} {A : AM} (h : ¬ vW V ≤ aW A) : aT (goesS V A) = aT A + 1 := by
  unfold goesS
  rw [if_neg h]
  unfold beatS hushS
  split <;> rfl
theorem tryX {V : FV} {N v t0 : Nat} (hV : VOk V) (hN : N ≤ 3) (hv : v ≤ 60) {f : Nat} (hf : isFe f) (ht0 : t0 ≤ 9999) : ∀ (c d fu : Nat) (M : Mem) (A1 : AM) (tr : Nat → Nat) (st : PS), d + c = N → c < fu → FX M f V → AOk V (9999 + d) A1 → aT A1 = t0 + d → RX V A1 M (62 + 3 * d) → PL M N v st → st.1 ≤ 401 → (∀ i, d ≤ i → tr i = 0) → (∀ i, i < d → gM M 60 i = tI (tr i)) → ∃ M', rX9_tryAll fu M f (nN d) = some M' ∧ FrP (62 + 3 * d) M M' ∧ PL M' N v (ds V v t0 c d A1 tr st) ∧ ∀ i, i < d → gM M' 60 i = gM M 60 i := by
  intro c
  have hn := hV.1
  induction c with
  | zero =>
    intro d fu M A1 tr st hdc hfu hF hA1 hT h1 hP hst htr h60
    obtain ⟨fu, rfl⟩ := fu1 hfu
    have hd : d = N := by omega
    subst hd
    show ∃ M', eX9_tryAll (rX9_tryAll fu) M f (nN d) = some M' ∧ _
    unfold eX9_tryAll sX9_tryAll_46
    rw [if_neg (Int32.not_lt.mpr (nN_nn (by omega))), hP.1, if_neg (by rw [nN_lt (by omega) (by omega)]; omega), if_pos (show nN d < 4 from (nN_lt (b := 4) (by omega) (by decide)).mpr (by omega)), if_pos rfl]
    obtain ⟨M', g1, g2, g3, g4⟩ := weighX (t0 := t0) hV hf hN hv hF hA1 (by omega) h1 hP hst htr h60
    rw [g1, bV_some]
    exact ⟨M', rfl, g2, g3, fun i _ => by rw [g4]⟩
  | succ c ih =>
    intro d fu M A1 tr st hdc hfu hF hA1 hT h1 hP hst htr h60
    obtain ⟨fu, rfl⟩ := fu1 hfu
    show ∃ M', eX9_tryAll (rX9_tryAll fu) M f (nN d) = some M' ∧ _
    unfold eX9_tryAll
    have hW := hA1.2.1
    rw [if_neg (Int32.not_lt.mpr (nN_nn (by omega))), hP.1, if_neg (by rw [nN_lt (by omega) (by omega)]; omega), if_pos (show nN d < 4 from (nN_lt (b := 4) (by omega) (by decide)).mpr (by omega)), if_neg (fun e => by have := (nN_eq (by omega) (by omega)).mp e; omega), if_pos ((nN_inB (by omega)).mpr (by omega)), nN_cl (by omega), h1.1.2.1, overX hF hV (by omega), bI_some]
    unfold ds
    by_cases ho : vW V ≤ aW A1
    · rw [if_pos ho, if_neg (by decide), if_pos ho]
      unfold sX9_tryAll_46
      obtain ⟨M', g1, g2, g3, g4⟩ := weighX (t0 := t0) hV hf (d := d) (by omega) hv hF hA1 (by omega) h1 hP hst htr h60
      rw [g1, bV_some]
      exact ⟨M', rfl, g2, g3, fun i _ => by rw [g4]⟩
    · rw [if_neg ho, if_pos rfl, if_neg ho]
      have hb := mo_Qn (d := d) (by omega)
      have hc := mo_Qn (d := d + 1) (by omega)
      have hne : 62 + 3 * (d + 1) ≠ 62 + 3 * d := by omega
      -- the loop over the passengers, nobody first
      have loop : ∀ (e g fu2 : Nat) (M : Mem) (st : PS), g + e = vN V + 1 → e < fu2 → FX M f V → RX V A1 M (62 + 3 * d) → PL M N v st → st.1 ≤ 401 → (∀ i, i < d → gM M 60 i = tI (tr i)) → ∃ M', lX9_tryAll_55 (rX9_tryAll fu) fu2 M f (nN d) (gI g) = some M' ∧ FrP (62 + 3 * d) M M' ∧ PL M' N v (fol (fun g st => ds V v t0 c (d + 1) (goesS V (pz V A1 g)) (rn tr d g) st) e g st) ∧ ∀ i, i < d → gM M' 60 i = gM M 60 i := by
        intro e
        induction e with
        | zero =>
          intro g fu2 M st hg hf2 hF h1 hP hst h60
          obtain ⟨fu2, rfl⟩ := fu1 hf2
          refine ⟨M, ?_, FrP.rfl, hP, fun _ _ => rfl⟩
          show sX9_tryAll_55 (rX9_tryAll fu) (lX9_tryAll_55 (rX9_tryAll fu) fu2) M f (nN d) (gI g) = _
          unfold sX9_tryAll_55
          rw [hF.1, show gI g = nN (vN V) by unfold gI; rw [if_neg (by omega)]; congr 1; omega, if_pos ((nN_le (by omega) (by omega)).mpr (Nat.le_refl _))]
        | succ e ihe =>
          intro g fu2 M st hg hf2 hF h1 hP hst h60
          obtain ⟨fu2, rfl⟩ := fu1 hf2
          show ∃ M', sX9_tryAll_55 (rX9_tryAll fu) (lX9_tryAll_55 (rX9_tryAll fu) fu2) M f (nN d) (gI g) = some M' ∧ _
          unfold sX9_tryAll_55
          have hnl : ¬ nN (vN V) ≤ gI g := by
            unfold gI
            split
            · rw [Int32.le_iff_toInt_le, nN_toInt (by omega)]
              have : (-1 : Int32).toInt = -1 := by decide
              omega
            · rw [nN_le (by omega) (by omega)]; omega
          rw [hF.1, if_neg hnl]
          have body : ∃ M', sX9_tryAll_78 (lX9_tryAll_55 (rX9_tryAll fu) fu2) (rX9_tryAll fu) M f (nN d) (gI g) (nN d) (tI g) = some M' ∧ FrP (62 + 3 * d) M M' ∧ PL M' N v (fol (fun g st => ds V v t0 c (d + 1) (goesS V (pz V A1 g)) (rn tr d g) st) (e + 1) g st) ∧ ∀ i, i < d → gM M' 60 i = gM M 60 i := by
            unfold sX9_tryAll_78 sX9_tryAll_113
            rw [show nN d + 1 = nN (d + 1) from nN_succ d, if_pos ((nN_inB (n := 3) (by omega)).mpr (by omega)), if_pos ((nN_inB (n := 4) (by omega)).mpr (by omega)), if_pos ((nN_inB (n := 4) (by omega)).mpr (by omega)), nN_cl (by omega), nN_cl (by omega), fol_s, gI_succ]
            have f0 : FrP (62 + 3 * d) M (sM M 60 d (tI g)) := FrP.s (Or.inr (Or.inl rfl))
            have h10 : RX V A1 (sM M 60 d (tI g)) (62 + 3 * d) := h1.mv (funext fun j => g_si (by omega)) (funext fun j => g_si (by omega)) (funext fun j => g_si (by omega))
            obtain ⟨M1, a1, a2, a3⟩ := copyX (M := sM M 60 d (tI g)) hc hb hne
            have r1 := a3 V A1 h10 hn
            have f1 : FrP (62 + 3 * (d + 1)) (sM M 60 d (tI g)) M1 := FrP.f a2 ⟨by omega, by omega⟩
            have F1 : FX M1 f V := by
              have hfb := fe_b hf
              exact (hF.mv (fun i h1 h2 => funext fun j => g_si (by omega))).fr hf hc a2
            have P1 : PL M1 N v st := by
              refine PL.f ?_ a2 (by omega)
              unfold PL
              rw [show gM (sM M 60 d (tI g)) 58 = gM M 58 from funext fun j => g_si (by decide), show gM (sM M 60 d (tI g)) 61 = gM M 61 from funext fun j => g_si (by decide)]
              exact hP
            have e1 : gM M1 60 = gM (sM M 60 d (tI g)) 60 := a2.1 60 (by omega) (by omega) (by omega)
            -- the pinch, if there is one
            have pinch : ∃ M2, (if gI g < 0 then (bV (fX4_row M1 (62 + 3 * (d + 1)) f) fun M18 => bV (rX9_tryAll fu M18 f (nN (d + 1))) fun M19 => lX9_tryAll_55 (rX9_tryAll fu) fu2 M19 f (nN d) (gI (g + 1))) else bV (fX4_speak M1 (62 + 3 * (d + 1)) f ((1 : Int32) <<< (gI g &&& 31))) fun M17 => (bV (fX4_row M17 (62 + 3 * (d + 1)) f) fun M18 => bV (rX9_tryAll fu M18 f (nN (d + 1))) fun M19 => lX9_tryAll_55 (rX9_tryAll fu) fu2 M19 f (nN d) (gI (g + 1)))) = (bV (fX4_row M2 (62 + 3 * (d + 1)) f) fun M18 => bV (rX9_tryAll fu M18 f (nN (d + 1))) fun M19 => lX9_tryAll_55 (rX9_tryAll fu) fu2 M19 f (nN d) (gI (g + 1))) ∧ Fr3 (62 + 3 * (d + 1)) M1 M2 ∧ RX V (pz V A1 g) M2 (62 + 3 * (d + 1)) ∧ AOk V (9999 + d) (pz V A1 g) ∧ aT (pz V A1 g) = aT A1 ∧ aW (pz V A1 g) = aW A1 := by
              by_cases hg0 : g = 0
              · subst hg0
                rw [if_pos (by decide)]
                exact ⟨M1, rfl, Fr3.rfl, r1, hA1, rfl, rfl⟩
              · have eg : gI g = nN (g - 1) := by unfold gI; rw [if_neg hg0]
                have ep : pz V A1 g = speakS V A1 (2 ^ (g - 1)) := by unfold pz; rw [if_neg hg0]
                rw [eg, if_neg (Int32.not_lt.mpr (nN_nn (by omega))), sh1 (by omega), ep]
                obtain ⟨M2, b1, b2, b3⟩ := speakX F1 hV hf hc (pw_lt (V := V) (p := g - 1) (by omega)) (by have := hA1.1; omega) r1.1
                rw [b1, bV_some]
                exact ⟨M2, rfl, b2, b3, speak_ok hV hA1 (pw_lt (by omega)), rfl, rfl⟩
            obtain ⟨M2, b1, b2, b3, b4, b5, b6⟩ := pinch
            rw [a1, bV_some, b1]
            have F2 := F1.fr hf hc b2
            obtain ⟨M3, c1, c2, c3⟩ := rowX F2 hV hf hc b4 (by omega) b3
            rw [c1, bV_some]
            have F3 := F2.fr hf hc c2
            have P3 := (P1.f b2 (by omega)).f c2 (by omega)
            have e3 : gM M3 60 = gM (sM M 60 d (tI g)) 60 := by
              rw [c2.1 60 (by omega) (by omega) (by omega), b2.1 60 (by omega) (by omega) (by omega), e1]
            have f3 : FrP (62 + 3 * (d + 1)) (sM M 60 d (tI g)) M3 := (f1.tr (FrP.f b2 ⟨by omega, by omega⟩)).tr (FrP.f c2 ⟨by omega, by omega⟩)
            have ok3 : AOk V (9999 + (d + 1)) (goesS V (pz V A1 g)) := goes_ok hV b4
            have T3 : aT (goesS V (pz V A1 g)) = t0 + (d + 1) := by rw [goes_T (by rw [b6]; exact ho), b5, hT]; omega
            obtain ⟨M4, d1, d2, d3, d4⟩ := ih (d + 1) fu M3 _ (rn tr d g) st (by omega) (by omega) F3 ok3 T3 c3 P3 hst (fun i hi => by unfold rn; rw [if_neg (by omega)]; exact htr i (by omega)) (fun i hi => by
              rw [e3]
              unfold rn
              by_cases hid : i = d
              · subst hid; rw [row_h, if_pos rfl]
              · rw [row_o hid, if_neg hid]; exact h60 i (by omega))
            rw [d1, bV_some]
            have f4 : FrP (62 + 3 * (d + 1)) M M4 := ((FrP.s (Or.inr (Or.inl rfl))).tr f3).tr d2
            have e4 : ∀ i, i < d → gM M4 60 i = gM M 60 i := fun i hi => by
              rw [d4 i (by omega), e3, row_o (by omega)]
            have F4 : FX M4 f V := by
              have hfb := fe_b hf
              exact hF.mv (fun i h1 h2 => f4.1 i (by omega) (by omega) (by omega) (by omega))
            have h14 : RX V A1 M4 (62 + 3 * d) := h1.mv (f4.1 _ (by omega) (by omega) (by omega) (by omega)) (f4.1 _ (by omega) (by omega) (by omega) (by omega)) (f4.1 _ (by omega) (by omega) (by omega) (by omega))
            obtain ⟨M5, g1, g2, g3, g4⟩ := ihe (g + 1) fu2 M4 _ (by omega) (by omega) F4 h14 d3 (ds_le _ _ _ _ _ hst) (fun i hi => by rw [e4 i hi]; exact h60 i hi)
            exact ⟨M5, g1, (f4.mono (by omega)).tr g2, g3, fun i hi => by rw [g4 i hi, e4 i hi]⟩
          by_cases hg0 : g = 0
          · subst hg0
            rw [if_neg (show ¬ (0 : Int32) ≤ gI 0 by decide)]
            exact body
          · have eg : gI g = nN (g - 1) := by unfold gI; rw [if_neg hg0]
            have et : tI g = gI g := by unfold tI gI; rw [if_neg hg0, if_neg hg0]
            rw [if_pos (by rw [eg]; exact nN_nn (by omega))]
            rw [et] at body
            exact body
      exact loop (vN V + 1) 0 fuel M st (by omega) (fuel_ge (by omega)) hF h1 hP hst h60
def planS (V : FV) (A : AM) (x1 x2 x3 : Int32) : Int32 := if (1 ≤ x1 ∧ x1 ≤ 3) ∧ (0 ≤ x2 ∧ x2 ≤ 60) ∧ (-1 ≤ x3 ∧ x3 ≤ 2) then (if x3 < x1 then (if (ds V x2.toNatClampNeg (aT A) x1.toNatClampNeg 0 A (fun _ => 0) (401, fun _ => 0)).1 = 401 then -9 else if 0 ≤ x3 then tI ((ds V x2.toNatClampNeg (aT A) x1.toNatClampNeg 0 A (fun _ => 0) (401, fun _ => 0)).2 x3.toNatClampNeg) else nN (ds V x2.toNatClampNeg (aT A) x1.toNatClampNeg 0 A (fun _ => 0) (401, fun _ => 0)).1) else -9) else -1
theorem X_plan {M : Mem} {V : FV} {A : AM} (hV : VOk V) (hA : AOk V 9999 A) (h : NX M V A) (x1 x2 x3 : Int32) : ∃ M1, fX11_plan M x1 x2 x3 = some (M1, planS V A x1 x2 x3) ∧ QX M M1 := by
  unfold fX11_plan planS
  by_cases h1 : x1 < 1
  · rw [if_pos h1, if_neg (fun e => Int32.not_lt.mpr e.1.1 h1)]; exact ⟨M, rfl, QX.rfl⟩
  rw [if_neg h1]
  by_cases h2 : (3 : Int32) < x1
  · rw [if_pos h2, if_neg (fun e => Int32.not_lt.mpr e.1.2 h2)]; exact ⟨M, rfl, QX.rfl⟩
  rw [if_neg h2]
  by_cases h3 : x2 < 0
  · rw [if_pos h3, if_neg (fun e => Int32.not_lt.mpr e.2.1.1 h3)]; exact ⟨M, rfl, QX.rfl⟩
  rw [if_neg h3]
  by_cases h4 : (60 : Int32) < x2
  · rw [if_pos h4, if_neg (fun e => Int32.not_lt.mpr e.2.1.2 h4)]; exact ⟨M, rfl, QX.rfl⟩
  rw [if_neg h4]
  by_cases h5 : x3 < -1
  · rw [if_pos h5, if_neg (fun e => Int32.not_lt.mpr e.2.2.1 h5)]; exact ⟨M, rfl, QX.rfl⟩
  rw [if_neg h5]
  by_cases h6 : ¬ x3 < 3
  · rw [if_neg h6, if_neg (fun e => h6 (by have := e.2.2.2; grind))]; exact ⟨M, rfl, QX.rfl⟩
  have h6 := Classical.not_not.mp h6
  rw [if_pos h6, if_pos (show (1 ≤ x1 ∧ x1 ≤ 3) ∧ (0 ≤ x2 ∧ x2 ≤ 60) ∧ (-1 ≤ x3 ∧ x3 ≤ 2) from ⟨⟨Int32.not_lt.mp h1, Int32.not_lt.mp h2⟩, ⟨Int32.not_lt.mp h3, Int32.not_lt.mp h4⟩, Int32.not_lt.mp h5, by grind⟩)]
  by_cases h7 : ¬ x3 < x1
  · rw [if_neg h7, if_neg h7]; exact ⟨M, rfl, QX.rfl⟩
  have h7 := Classical.not_not.mp h7
  rw [if_pos h7, if_pos h7]
  obtain ⟨N, hN, rfl⟩ := to_nN_le (m := 3) (by decide) (Int32.le_trans (by decide) (Int32.not_lt.mp h1)) (Int32.not_lt.mp h2)
  obtain ⟨v, hv, rfl⟩ := to_nN_le (m := 60) (by decide) (Int32.not_lt.mp h3) (Int32.not_lt.mp h4)
  rw [nN_cl (by omega), nN_cl (by omega)]
  unfold fX9_search
  rw [if_neg (show ¬ (3 : Int32) < nN N from h2)]
  obtain ⟨M0, hM0⟩ : ∃ M0, M0 = sM (sM (sM M 58 3 (nN N)) 58 4 (nN v)) 58 5 401 := ⟨_, rfl⟩
  rw [← hM0]
  have q0 : QX M M0 := by
    rw [hM0]
    exact ((FrP.s (j := 62) (Or.inl rfl)).tr ((FrP.s (Or.inl rfl)).tr (FrP.s (Or.inl rfl)))).q (by decide)
  have n0 := h.q q0
  obtain ⟨M1, a1, a2, a3⟩ := copyX (M := M0) mo_62 mo_19 (by decide)
  have q1 : QX M M1 := q0.tr (QX.f a2 (Or.inl ⟨by decide, by decide⟩))
  have n1 := h.q q1
  have P1 : PL M1 N v (401, fun _ => 0) := by
    unfold PL
    rw [a2.1 58 (by decide) (by decide) (by decide), hM0]
    refine ⟨by rw [row_o (by decide), row_o (by decide), row_h], by rw [row_o (by decide), row_h], by rw [row_h]; rfl, fun e => absurd e (by decide)⟩
  have e0 : gM M1 0 = gM M 0 := q1.1 0 (by decide)
  obtain ⟨M2, b1, b2, b3, -⟩ := tryX (t0 := aT A) hV hN hv (isFe_feB (gM M 0 1)) hA.1 N 0 5 M1 A (fun _ => 0) (401, fun _ => 0) (by omega) (by omega) (by rw [← e0]; exact n1.1) hA rfl (a3 V A n0.2 hV.1) P1 (Nat.le_refl _) (fun _ _ => rfl) (fun i hi => by omega)
  rw [a1, bV_some, show fX9_tryAll M1 (feB (gM M 0 1)) 0 = some M2 from b1, bV_some, bV_some]
  refine ⟨M2, ?_, q1.tr (b2.q (by decide))⟩
  have hle := ds_le (V := V) (v := v) (t0 := aT A) N 0 A (fun _ => 0) (401, fun _ => 0) (Nat.le_refl _)
  obtain ⟨st, hst⟩ : ∃ st, st = ds V v (aT A) N 0 A (fun _ => 0) (401, fun _ => 0) := ⟨_, rfl⟩
  rw [← hst] at hle b3 ⊢
  rw [b3.2.2.1]
  by_cases hs : st.1 = 401
  · rw [if_pos hs, if_neg (show ¬ nN st.1 ≤ 400 from fun e => by have := (nN_le (b := 400) (by omega) (by decide)).mp e; omega)]
  · rw [if_neg hs, if_pos (show nN st.1 ≤ 400 from (nN_le (b := 400) (by omega) (by decide)).mpr (by omega))]
    by_cases h8 : 0 ≤ x3
    · obtain ⟨k, hk, rfl⟩ := to_nN_lt (m := 3) (by decide) h8 h6
      rw [if_pos h8, if_pos h8, if_pos ((nN_inB (n := 3) (by omega)).mpr hk), nN_cl (by omega), b3.2.2.2 (by omega) k hk]
    · rw [if_neg h8, if_neg h8]
