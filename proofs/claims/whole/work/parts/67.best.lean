/-! pinched now: best, who -/
theorem pw_lt {V : FV} {p : Nat} (hp : p < vN V) : 2 ^ p < 2 ^ vN V := Nat.pow_lt_pow_right (by decide) hp
theorem pinchX {M : Mem} {V : FV} {A : AM} (hV : VOk V) (hA : AOk V 9999 A) (h : NX M V A) {p : Nat} (hp : p < vN V) : ∃ M1, fX11_copyWherePinched M (nN p) = some M1 ∧ QX M M1 ∧ RX V (speakS V A (2 ^ p)) M1 82 := by
  have hn := hV.1
  unfold fX11_copyWherePinched
  obtain ⟨M', g1, g2, g3⟩ := copyNow hV h
  rw [g1, bV_some, sh1 (by omega)]
  obtain ⟨M1, k1, k2, k3⟩ := speakX (h.q g2).1 hV (isFe_feB _) mo_82 (pw_lt hp) (by have := hA.1; omega) g3.1
  rw [k1, bV_some]
  exact ⟨M1, rfl, g2.tr (QX.f k2 (Or.inr ⟨by decide, by decide⟩)), k3⟩
theorem pinchR {M : Mem} {V : FV} {A : AM} (hV : VOk V) (h : NR M V A) {p : Nat} (hp : p < vN V) {α : Type} (k : Mem → Option α) : ∃ M1, bV (fX12_asNow M) (fun M9 => bV (fX12_speak M9 118 ((1 : Int32) <<< (nN p &&& 31))) k) = k M1 ∧ QR M M1 ∧ RR (speakS V A (2 ^ p)) (gM M1 118) := by
  have hn := hV.1
  obtain ⟨M', g1, g2, g3⟩ := asNowR h
  rw [g1, bV_some, sh1 (by omega)]
  obtain ⟨M1, k1, k2, k3, k4⟩ := speakR (h.q g2).1 hV (lt64 hV (pw_lt hp)) r_118 g3.2
  rw [k1, bV_some]
  exact ⟨M1, rfl, g2.tr (QR.f k2 (Or.inl rfl)), k3.trans g3.1, k4⟩
theorem overNow {M : Mem} {V : FV} {A : AM} (hV : VOk V) (hA : AOk V 9999 A) (h : NX M V A) : fX11_isOver M = some (M, if vW V ≤ aW A then 1 else 0) := by
  unfold fX11_isOver
  rw [h.2.1.2.1, overX h.1 hV (by have := hA.2.1; omega), bI_some]
  split
  · rw [if_pos (Or.inr rfl)]
  · rw [if_pos (Or.inl rfl)]
theorem cntX {M : Mem} {V : FV} {A : AM} (hV : VOk V) (hA : AOk V 9999 A) (h : NX M V A) : fX11_countPinchable M = some (M, if vW V ≤ aW A then 0 else nN (vN V)) := by
  unfold fX11_countPinchable
  rw [overNow hV hA h, bI_some]
  by_cases ho : vW V ≤ aW A
  · rw [if_pos ho, if_pos ho, if_neg (by decide)]
  · rw [if_neg ho, if_neg ho, if_pos rfl, h.1.1]
theorem tO_bd {V : FV} : ∀ (k k' : Nat) (A : AM), k ≤ k' → tO V k A = (match tO V k' A with | some q => (if q.1 ≤ k then some q else none) | none => none) := by
  intro k
  induction k with
  | zero =>
    intro k' A _
    cases k' with
    | zero =>
      unfold tO
      by_cases h : vW V ≤ aW A
      · rw [if_pos h]; rfl
      · rw [if_neg h]
    | succ k' =>
      unfold tO
      by_cases h : vW V ≤ aW A
      · rw [if_pos h, if_pos h]; rfl
      · rw [if_neg h, if_neg h]
        cases ht : tO V k' (goesS V A) with
        | none => rfl
        | some q => simp
  | succ k ih =>
    intro k' A hk
    obtain ⟨k', rfl⟩ : ∃ j, k' = j + 1 := ⟨k' - 1, by omega⟩
    unfold tO
    by_cases h : vW V ≤ aW A
    · rw [if_pos h, if_pos h]; rfl
    · rw [if_neg h, if_neg h, ih k' (goesS V A) (by omega)]
      cases ht : tO V k' (goesS V A) with
      | none => rfl
      | some q =>
        show Option.map _ (if q.1 ≤ k then some q else none) = (if q.1 + 1 ≤ k + 1 then some (q.1 + 1, q.2) else none)
        by_cases hq : q.1 ≤ k
        · rw [if_pos hq, if_pos (by omega)]; rfl
        · rw [if_neg hq, if_neg (by omega)]; rfl
def bestG (V : FV) (A : AM) (p : Nat) (s : Int32 × Nat) : Int32 × Nat := match tO V 400 (speakS V A (2 ^ p)) with
  | some q => if q.1 < s.2 then (nN p, q.1) else s
  | none => s
def bestS (V : FV) (A : AM) : Int32 := if vW V ≤ aW A then -9 else (fol (bestG V A) (vN V) 0 (-9, 401)).1
theorem bestX_loop {V : FV} {A : AM} (hV : VOk V) (hA : AOk V 9999 A) : ∀ (c k fu : Nat) (M : Mem) (s : Int32 × Nat), k + c = vN V → c < fu → s.2 ≤ 401 → NX M V A → ∃ M1, lX11_best_15 fu M s.1 (nN s.2) (nN (vN V)) (nN k) = some (M1, (fol (bestG V A) c k s).1) ∧ QX M M1 := by
  intro c
  have hn := hV.1
  induction c with
  | zero =>
    intro k fu M s hk hf hs h
    obtain ⟨fu, rfl⟩ := fu1 hf
    refine ⟨M, ?_, QX.rfl⟩
    show sX11_best_15 (lX11_best_15 fu) M s.1 (nN s.2) (nN (vN V)) (nN k) = _
    unfold sX11_best_15
    rw [if_pos ((nN_le (by omega) (by omega)).mpr (by omega)), fol_0]
  | succ c ih =>
    intro k fu M s hk hf hs h
    obtain ⟨fu, rfl⟩ := fu1 hf
    show ∃ M1, sX11_best_15 (lX11_best_15 fu) M s.1 (nN s.2) (nN (vN V)) (nN k) = some (M1, _) ∧ _
    unfold sX11_best_15
    rw [if_neg (by rw [nN_le (by omega) (by omega)]; omega)]
    obtain ⟨M', g1, g2, g3⟩ := pinchX hV hA h (p := k) (by omega)
    have hok : AOk V 9999 (speakS V A (2 ^ k)) := speak_ok hV hA (pw_lt (by omega))
    rw [g1, bV_some, nN_succ, fol_s]
    have next : ∀ s' M1, s'.2 ≤ 401 → bestG V A k s = s' → QX M' M1 → ∃ M2, lX11_best_15 fu M1 s'.1 (nN s'.2) (nN (vN V)) (nN (k + 1)) = some (M2, (fol (bestG V A) c (k + 1) (bestG V A k s)).1) ∧ QX M M2 := by
      intro s' M1 h1 h2 h3
      obtain ⟨M2, e1, e2⟩ := ih (k + 1) fu M1 s' (by omega) (by omega) h1 (h.q (g2.tr h3))
      rw [h2]
      exact ⟨M2, e1, (g2.tr h3).tr e2⟩
    by_cases h0 : s.2 = 0
    · rw [h0, tillX_neg (by decide), bI_some, if_pos rfl]
      have := next s M' hs (by unfold bestG; split; · rw [if_neg (by omega)]
                               · rfl) QX.rfl
      rw [h0] at this
      exact this
    · obtain ⟨M1, k1, k2, k3⟩ := tillX (k := s.2 - 1) hV (isFe_feB (gM M' 0 1)) mo_82 (by omega) (by decide) (h.q g2).1 hok g3
      rw [show nN s.2 - 1 = nN (s.2 - 1) from nN_sub (b := 1) (by omega), k1, bI_some]
      have q1 := QX.f k2 (Or.inr ⟨by decide, by decide⟩)
      have hbd := tO_bd (V := V) (s.2 - 1) 400 (speakS V A (2 ^ k)) (by omega)
      cases ht : tO V 400 (speakS V A (2 ^ k)) with
      | none =>
        rw [ht] at hbd
        rw [hbd, show tOI 0 none = -9 from rfl, if_pos rfl]
        exact next s M1 hs (by unfold bestG; rw [ht]) q1
      | some q =>
        rw [ht] at hbd
        have hbd : tO V (s.2 - 1) (speakS V A (2 ^ k)) = (if q.1 ≤ s.2 - 1 then some q else none) := hbd
        by_cases hq : q.1 < s.2
        · rw [if_pos (by omega)] at hbd
          rw [hbd, if_neg (show ¬ tOI 0 (some q) = -9 from ne9 (by omega)), show tOI 0 (some q) = nN q.1 by show nN (0 + q.1) = nN q.1; rw [Nat.zero_add]]
          exact next (nN k, q.1) M1 (by show q.1 ≤ 401; omega) (by unfold bestG; rw [ht]; show (if q.1 < s.2 then _ else _) = _; rw [if_pos hq]) q1
        · rw [if_neg (by omega)] at hbd
          rw [hbd, show tOI 0 none = -9 from rfl, if_pos rfl]
          exact next s M1 hs (by unfold bestG; rw [ht]; show (if q.1 < s.2 then _ else _) = _; rw [if_neg hq]) q1
theorem X_best {M : Mem} {V : FV} {A : AM} (hV : VOk V) (hA : AOk V 9999 A) (h : NX M V A) : ∃ M1, fX11_best M = some (M1, bestS V A) ∧ QX M M1 := by
  unfold fX11_best bestS
  rw [cntX hV hA h, bI_some]
  by_cases ho : vW V ≤ aW A
  · rw [if_pos ho, if_pos ho]
    refine ⟨M, ?_, QX.rfl⟩
    show sX11_best_15 (lX11_best_15 999) M (-9) 401 0 0 = _
    unfold sX11_best_15
    rw [if_pos (by decide)]
  · rw [if_neg ho, if_neg ho]
    exact bestX_loop hV hA (vN V) 0 fuel M (-9, 401) (by omega) (fuel_ge (by have := hV.1; omega)) (Nat.le_refl _) h
def lS (s : Nat) : Int32 := if s = 401 then -9 else nN s
theorem bestR_loop {V : FV} {A : AM} (hV : VOk V) (hA : AOk V 9999 A) (ho : ¬ vW V ≤ aW A) : ∀ (c k fu : Nat) (M : Mem) (s : Int32 × Nat), k + c = vN V → c < fu → s.2 ≤ 401 → NR M V A → ∃ M1, lX12_best_13 fu M s.1 (lS s.2) (nN k) = some (M1, (fol (bestG V A) c k s).1) ∧ QR M M1 := by
  intro c
  have hn := hV.1
  induction c with
  | zero =>
    intro k fu M s hk hf hs h
    obtain ⟨fu, rfl⟩ := fu1 hf
    refine ⟨M, ?_, QR.rfl⟩
    show sX12_best_13 (lX12_best_13 fu) M s.1 (lS s.2) (nN k) = _
    unfold sX12_best_13
    rw [h.1.1, if_pos ((nN_le (by omega) (by omega)).mpr (by omega)), fol_0]
  | succ c ih =>
    intro k fu M s hk hf hs h
    obtain ⟨fu, rfl⟩ := fu1 hf
    show ∃ M1, sX12_best_13 (lX12_best_13 fu) M s.1 (lS s.2) (nN k) = some (M1, _) ∧ _
    unfold sX12_best_13 sX12_best_75
    rw [h.1.1, if_neg (by rw [nN_le (by omega) (by omega)]; omega), overR h.1 hV h.2.2.1 hA.2.1, bI_some, if_neg ho, if_pos rfl]
    have hok : AOk V 9999 (speakS V A (2 ^ k)) := speak_ok hV hA (pw_lt (by omega))
    obtain ⟨M', g1, g2, g3⟩ := pinchR hV h (p := k) (by omega) (fun M6 => bI (fX12_endsBehind M6 0) fun M7 r8 => if r8 = -9 then lX12_best_13 fu M7 s.1 (lS s.2) (nN k + 1) else if lS s.2 = -9 then lX12_best_13 fu M7 (nN k) r8 (nN k + 1) else if lS s.2 ≤ r8 then lX12_best_13 fu M7 s.1 (lS s.2) (nN k + 1) else lX12_best_13 fu M7 (nN k) r8 (nN k + 1))
    rw [g1]
    obtain ⟨M1, k1, k2, k3⟩ := tillR (n := 0) hV (by decide) (h.q g2) hok g3
    rw [show (0 : Int32) = nN 0 from rfl, k1, bI_some, nN_succ, fol_s, Nat.sub_zero]
    have next : ∀ s', s'.2 ≤ 401 → bestG V A k s = s' → ∃ M2, lX12_best_13 fu M1 s'.1 (lS s'.2) (nN (k + 1)) = some (M2, (fol (bestG V A) c (k + 1) (bestG V A k s)).1) ∧ QR M M2 := by
      intro s' h1 h2
      obtain ⟨M2, e1, e2⟩ := ih (k + 1) fu M1 s' (by omega) (by omega) h1 (h.q (g2.tr k2))
      rw [h2]
      exact ⟨M2, e1, (g2.tr k2).tr e2⟩
    cases ht : tO V 400 (speakS V A (2 ^ k)) with
    | none =>
      rw [show tOI 0 none = -9 from rfl, if_pos rfl]
      exact next s hs (by unfold bestG; rw [ht])
    | some q =>
      have hq4 := tO_le _ _ _ ht
      rw [if_neg (show ¬ tOI 0 (some q) = -9 from ne9 (by omega)), show tOI 0 (some q) = nN q.1 by show nN (0 + q.1) = nN q.1; rw [Nat.zero_add]]
      have eq2 : nN q.1 = lS q.1 := by unfold lS; rw [if_neg (by omega)]
      by_cases hs1 : s.2 = 401
      · rw [show lS s.2 = -9 by unfold lS; rw [if_pos hs1], if_pos rfl, eq2]
        exact next (nN k, q.1) (by show q.1 ≤ 401; omega) (by unfold bestG; rw [ht]; show (if q.1 < s.2 then _ else _) = _; rw [if_pos (by omega)])
      · have e2 : lS s.2 = nN s.2 := by unfold lS; rw [if_neg hs1]
        rw [if_neg (show ¬ lS s.2 = -9 by rw [e2]; exact ne9 (by omega))]
        by_cases hq : q.1 < s.2
        · rw [if_neg (by rw [e2, nN_le (by omega) (by omega)]; omega), eq2]
          exact next (nN k, q.1) (by show q.1 ≤ 401; omega) (by unfold bestG; rw [ht]; show (if q.1 < s.2 then _ else _) = _; rw [if_pos hq])
        · rw [if_pos (by rw [e2, nN_le (by omega) (by omega)]; omega)]
          exact next s hs (by unfold bestG; rw [ht]; show (if q.1 < s.2 then _ else _) = _; rw [if_neg hq])
theorem R_best {M : Mem} {V : FV} {A : AM} (hV : VOk V) (hA : AOk V 9999 A) (h : NR M V A) : ∃ M1, fX12_best M = some (M1, bestS V A) ∧ QR M M1 := by
  unfold fX12_best bestS
  have q0 := QR.t M 0
  by_cases ho : vW V ≤ aW A
  · rw [if_pos ho]
    refine ⟨sM M 109 0 0, ?_, q0⟩
    show sX12_best_13 (lX12_best_13 999) (sM M 109 0 0) (-9) (-9) 0 = _
    unfold sX12_best_13
    split
    · rfl
    · rw [overR (h.q q0).1 hV (h.q q0).2.2.1 hA.2.1, bI_some, if_pos ho, if_neg (by decide)]
  · rw [if_neg ho]
    obtain ⟨M1, k1, k2⟩ := bestR_loop hV hA ho (vN V) 0 fuel (sM M 109 0 0) (-9, 401) (by omega) (fuel_ge (by have := hV.1; omega)) (Nat.le_refl _) (h.q q0)
    exact ⟨M1, k1, q0.tr k2⟩
/-! seen, who -/
def SX (M : Mem) (sn : Nat) (sk so : Nat → Nat) : Prop := gM M 0 9 = nN sn ∧ ∀ i, i < sn → gM M 55 i = nN (sk i) ∧ gM M 56 i = nN (so i)
def SR (M : Mem) (sn : Nat) (sk so : Nat → Nat) : Prop := gM M 109 24 = nN sn ∧ ∀ i, i < sn → gM M 122 i = nN (sk i) ∧ gM M 123 i = nN (so i)
def SOk (sn : Nat) (sk so : Nat → Nat) : Prop := sn ≤ 5 ∧ ∀ i, i < sn → sk i ≤ 60 ∧ so i < 64
theorem SX.q {M M1 : Mem} {sn : Nat} {sk so : Nat → Nat} (h : SX M sn sk so) (q : QX M M1) : SX M1 sn sk so := by
  unfold SX; rw [q.1 0 (by decide), q.1 55 (by decide), q.1 56 (by decide)]; exact h
theorem SR.q {M M1 : Mem} {sn : Nat} {sk so : Nat → Nat} (h : SR M sn sk so) (q : QR M M1) : SR M1 sn sk so := by
  unfold SR; rw [q.2.1 24 (by decide), q.1 122 (by decide) (by decide) (by decide) (by decide), q.1 123 (by decide) (by decide) (by decide) (by decide)]; exact h
section SEEN
variable {sn : Nat} {sk so : Nat → Nat} {V : FV}
def latF (sk : Nat → Nat) (i l : Nat) : Nat := if l < sk i + 1 then sk i + 1 else l
def mI (l : Nat) : Int32 := if l = 0 then -1 else nN (l - 1)
theorem mI_lt {l n : Nat} (hl : l < 1000) (hn : n < 1000) : mI l < nN n ↔ l ≤ n := by
  unfold mI
  split
  · rw [Int32.lt_iff_toInt_lt, nN_toInt (by omega)]
    have : (-1 : Int32).toInt = -1 := by decide
    omega
  · rw [nN_lt (by omega) (by omega)]; omega
theorem latX_loop {M : Mem} (hS : SOk sn sk so) (h : SX M sn sk so) : ∀ (c k fu l : Nat), k + c = sn → c < fu → l ≤ 61 → lX11_latestSeen_4 fu M (mI l) (nN k) = some (M, mI (fol (latF sk) c k l)) := by
  intro c
  have hs := hS.1
  induction c with
  | zero =>
    intro k fu l hk hf hl
    obtain ⟨fu, rfl⟩ := fu1 hf
    show sX11_latestSeen_4 (lX11_latestSeen_4 fu) M (mI l) (nN k) = _
    unfold sX11_latestSeen_4
    rw [h.1, if_pos ((nN_le (by omega) (by omega)).mpr (by omega))]
    rfl
  | succ c ih =>
    intro k fu l hk hf hl
    obtain ⟨fu, rfl⟩ := fu1 hf
    show sX11_latestSeen_4 (lX11_latestSeen_4 fu) M (mI l) (nN k) = _
    unfold sX11_latestSeen_4
    have h60 := (hS.2 k (by omega)).1
    rw [h.1, if_neg (by rw [nN_le (by omega) (by omega)]; omega), if_neg (show ¬ (5 : Int32) ≤ nN k from fun e => by have := (nN_le (a := 5) (by decide) (by omega)).mp e; omega), if_pos ((nN_inB (by omega)).mpr (by omega)), nN_cl (by omega), (h.2 k (by omega)).1, nN_succ, fol_s]
    have e : (if mI l < nN (sk k) then nN (sk k) else mI l) = mI (latF sk k l) := by
      unfold latF
      by_cases hh : l < sk k + 1
      · rw [if_pos ((mI_lt (by omega) (by omega)).mpr (by omega)), if_pos hh]
        unfold mI
        rw [if_neg (by omega)]
        rfl
      · rw [if_neg (fun e => hh (by have := (mI_lt (by omega) (by omega)).mp e; omega)), if_neg hh]
    rw [e]
    exact ih (k + 1) fu _ (by omega) (by omega) (by unfold latF; split <;> omega)
theorem lat_ge (sk : Nat → Nat) : ∀ (c k l : Nat), l ≤ fol (latF sk) c k l ∧ ∀ i, k ≤ i → i < k + c → sk i + 1 ≤ fol (latF sk) c k l := by
  intro c
  induction c with
  | zero => intro k l; exact ⟨Nat.le_refl _, fun i h1 h2 => by omega⟩
  | succ c ih =>
    intro k l
    obtain ⟨h1, h2⟩ := ih (k + 1) (latF sk k l)
    rw [fol_s]
    have e : l ≤ latF sk k l ∧ sk k + 1 ≤ latF sk k l := by unfold latF; split <;> omega
    refine ⟨by omega, fun i h3 h4 => ?_⟩
    by_cases hik : i = k
    · subst hik; omega
    · exact h2 i (by omega) (by omega)
theorem conX_loop {M : Mem} (hS : SOk sn sk so) (h : SX M sn sk so) {n o : Nat} (hn : n < 1000) (ho : o < 1000) : ∀ (c k fu : Nat) (b : Bool), k + c = sn → c < fu → (b = true ↔ ∃ i, k ≤ i ∧ i < sn ∧ sk i = n ∧ so i ≠ o) → lX11_contradictsSeen_2 fu M (nN n) (nN o) (nN k) = some (M, oI b) := by
  intro c
  have hs := hS.1
  induction c with
  | zero =>
    intro k fu b hk hf hb
    obtain ⟨fu, rfl⟩ := fu1 hf
    show sX11_contradictsSeen_2 (lX11_contradictsSeen_2 fu) M (nN n) (nN o) (nN k) = _
    unfold sX11_contradictsSeen_2
    rw [h.1, if_pos ((nN_le (by omega) (by omega)).mpr (by omega))]
    cases b with
    | false => rfl
    | true => obtain ⟨i, h1, h2, -⟩ := hb.mp rfl; omega
  | succ c ih =>
    intro k fu b hk hf hb
    obtain ⟨fu, rfl⟩ := fu1 hf
    show sX11_contradictsSeen_2 (lX11_contradictsSeen_2 fu) M (nN n) (nN o) (nN k) = _
    unfold sX11_contradictsSeen_2
    have h60 := hS.2 k (by omega)
    rw [h.1, if_neg (by rw [nN_le (by omega) (by omega)]; omega), if_neg (show ¬ (5 : Int32) ≤ nN k from fun e => by have := (nN_le (a := 5) (by decide) (by omega)).mp e; omega), if_pos ((nN_inB (by omega)).mpr (by omega)), nN_cl (by omega), (h.2 k (by omega)).1, (h.2 k (by omega)).2, nN_succ]
    have rest : (¬ (sk k = n ∧ so k ≠ o)) → lX11_contradictsSeen_2 fu M (nN n) (nN o) (nN (k + 1)) = some (M, oI b) := fun hne => ih (k + 1) fu b (by omega) (by omega) (by
      rw [hb]
      constructor
      · rintro ⟨i, h1, h2, h3, h4⟩
        by_cases hik : i = k
        · subst hik; exact absurd ⟨h3, h4⟩ hne
        · exact ⟨i, by omega, h2, h3, h4⟩
      · rintro ⟨i, h1, h2, h3, h4⟩; exact ⟨i, by omega, h2, h3, h4⟩)
    by_cases h1 : sk k = n
    · rw [if_pos (by rw [h1])]
      by_cases h2 : so k = o
      · rw [if_pos (by rw [h2])]
        exact rest (fun e => e.2 h2)
      · rw [if_neg (fun e => h2 ((nN_eq (by omega) (by omega)).mp e)), show b = true from hb.mpr ⟨k, Nat.le_refl _, by omega, h1, h2⟩]
        rfl
    · rw [if_neg (fun e => h1 ((nN_eq (by omega) (by omega)).mp e))]
      exact rest (fun e => h1 e.1)
theorem itG_s (V : FV) (n : Nat) (A : AM) : itG V (n + 1) A = itG V n (goesS V A) := rfl
abbrev asS (V : FV) (A1 : AM) (sn : Nat) (sk so : Nat → Nat) : Prop := ∀ e, e < sn → so e = aO (itG V (sk e) A1)
theorem agrX_loop {A : AM} (hV : VOk V) (hS : SOk sn sk so) {lat : Nat} (hlat : lat ≤ 61) (hl : ∀ i, i < sn → sk i < lat) : ∀ (d n fu : Nat) (M : Mem) (A1 : AM) (B : Nat) (b : Bool), n + d = lat → d < fu → B + d < 20000 → NX M V A → SX M sn sk so → AOk V B A1 → RX V A1 M 82 → (b = true ↔ ∀ e, e < sn → n ≤ sk e → so e = aO (itG V (sk e - n) A1)) → ∃ M1, lX11_agreesWithSeen_7 fu M 82 (mI lat) (nN n) = some (M1, oI b) ∧ QX M M1 := by
  intro d
  have hs := hS.1
  induction d with
  | zero =>
    intro n fu M A1 B b hn hf hB h hX hA1 h1 hb
    obtain ⟨fu, rfl⟩ := fu1 hf
    refine ⟨M, ?_, QX.rfl⟩
    show sX11_agreesWithSeen_7 (lX11_agreesWithSeen_7 fu) M 82 (mI lat) (nN n) = _
    unfold sX11_agreesWithSeen_7
    rw [if_pos ((mI_lt (by omega) (by omega)).mpr (by omega)), show b = true from hb.mpr (fun e he hh => by have := hl e he; omega)]
    rfl
  | succ d ih =>
    intro n fu M A1 B b hn hf hB h hX hA1 h1 hb
    obtain ⟨fu, rfl⟩ := fu1 hf
    show ∃ M1, sX11_agreesWithSeen_7 (lX11_agreesWithSeen_7 fu) M 82 (mI lat) (nN n) = some (M1, _) ∧ _
    unfold sX11_agreesWithSeen_7
    have h64 := lt64 hV hA1.2.2.1
    rw [if_neg (fun e => by have := (mI_lt (by omega) (by omega)).mp e; omega), h1.1.2.2.1]
    by_cases hc : ∃ i, 0 ≤ i ∧ i < sn ∧ sk i = n ∧ so i ≠ aO A1
    · rw [show fX11_contradictsSeen M (nN n) (nN (aO A1)) = some (M, oI true) from conX_loop hS hX (by omega) (by omega) sn 0 fuel true (by omega) (fuel_ge (by omega)) ⟨fun _ => hc, fun _ => rfl⟩, bI_some, if_neg (by decide)]
      have : b = false := by
        cases b with
        | false => rfl
        | true =>
          obtain ⟨i, -, i2, i3, i4⟩ := hc
          have := hb.mp rfl i i2 (by omega)
          rw [i3, Nat.sub_self] at this
          exact absurd this i4
      rw [this]
      exact ⟨M, rfl, QX.rfl⟩
    · rw [show fX11_contradictsSeen M (nN n) (nN (aO A1)) = some (M, oI false) from conX_loop hS hX (by omega) (by omega) sn 0 fuel false (by omega) (fuel_ge (by omega)) ⟨fun e => (by cases e), fun e => absurd e hc⟩, bI_some, if_pos (show oI false = 0 from rfl)]
      obtain ⟨M', g1, g2, g3⟩ := stepX hV h hA1 (by omega) h1
      rw [g1, bV_some, nN_succ]
      obtain ⟨M1, k1, k2⟩ := ih (n + 1) fu M' _ (B + 1) b (by omega) (by omega) (by omega) (h.q g2) (hX.q g2) (goes_ok hV hA1) g3 (by
        rw [hb]
        constructor
        · intro hh e he hne
          have := hh e he (by omega)
          rw [show sk e - n = (sk e - (n + 1)) + 1 by omega, itG_s] at this
          exact this
        · intro hh e he hne
          by_cases hen : sk e = n
          · rw [hen, Nat.sub_self]
            exact Classical.byContradiction fun hx => hc ⟨e, Nat.zero_le _, he, hen, hx⟩
          · have := hh e he (by omega)
            rw [show sk e - n = (sk e - (n + 1)) + 1 by omega, itG_s]
            exact this)
      exact ⟨M1, k1, g2.tr k2⟩
theorem agrX {M : Mem} {A A1 : AM} {B : Nat} (hV : VOk V) (hS : SOk sn sk so) (hB : B + 100 < 20000) (h : NX M V A) (hX : SX M sn sk so) (hA1 : AOk V B A1) (h1 : RX V A1 M 82) : ∃ M1, fX11_agreesWithSeen M 82 = some (M1, if asS V A1 sn sk so then 1 else 0) ∧ QX M M1 := by
  unfold fX11_agreesWithSeen
  have hs := hS.1
  have hlt : fX11_latestSeen M = some (M, mI (fol (latF sk) sn 0 0)) := latX_loop hS hX sn 0 fuel 0 (by omega) (fuel_ge (by omega)) (by decide)
  obtain ⟨-, hge⟩ := lat_ge sk sn 0 0
  have hle : fol (latF sk) sn 0 0 ≤ 61 := fol_inv (P := fun _ l => l ≤ 61) sn 0 0 (by decide) (fun p l _ h2 hl => by
    have := (hS.2 p (by omega)).1
    unfold latF
    split <;> omega)
  rw [hlt, bI_some]
  obtain ⟨M1, k1, k2⟩ := agrX_loop hV hS hle (fun i hi => by have := hge i (by omega) (by omega); omega) (fol (latF sk) sn 0 0) 0 fuel M A1 B (decide (asS V A1 sn sk so)) (by omega) (fuel_ge (by omega)) (by omega) h hX hA1 h1 (by
    rw [decide_eq_true_iff]
    exact ⟨fun hh e he _ => hh e he, fun hh e he => hh e he (Nat.zero_le _)⟩)
  refine ⟨M1, ?_, k2⟩
  rw [show (0 : Int32) = nN 0 from rfl, k1]
  by_cases hc : asS V A1 sn sk so
  · rw [decide_eq_true hc, if_pos hc]; rfl
  · rw [decide_eq_false hc, if_neg hc]; rfl
theorem seenR_in {M : Mem} {rec : Mem → Int32 → Int32 → Option (Mem × Int32)} {n o : Nat} (hS : SOk sn sk so) (h : SR M sn sk so) (hn : n < 1000) (ho : o < 1000) (h2 : gM M 118 2 = nN o) : ∀ (c k fu : Nat) (b b' : Bool), k + c = sn → c < fu → (b' = true ↔ (b = true ∧ ∀ i, k ≤ i → i < sn → sk i = n → so i = o)) → lX12_isAsSeen_12 rec fu M (oI b) (nN n) (nN k) = sX12_isAsSeen_61 rec M (oI b') (nN n) := by
  intro c
  have hs := hS.1
  induction c with
  | zero =>
    intro k fu b b' hk hf hb
    obtain ⟨fu, rfl⟩ := fu1 hf
    show sX12_isAsSeen_12 rec (lX12_isAsSeen_12 rec fu) M (oI b) (nN n) (nN k) = _
    unfold sX12_isAsSeen_12
    have : b' = b := by
      rw [Bool.eq_iff_iff, hb]
      exact ⟨fun h => h.1, fun h => ⟨h, fun i h1 h2 => by omega⟩⟩
    rw [h.1, if_pos ((nN_le (by omega) (by omega)).mpr (by omega)), this]
  | succ c ih =>
    intro k fu b b' hk hf hb
    obtain ⟨fu, rfl⟩ := fu1 hf
    show sX12_isAsSeen_12 rec (lX12_isAsSeen_12 rec fu) M (oI b) (nN n) (nN k) = _
    unfold sX12_isAsSeen_12 sX12_isAsSeen_53
    have h60 := hS.2 k (by omega)
    rw [h.1, if_neg (by rw [nN_le (by omega) (by omega)]; omega), if_pos ((nN_inB (n := 5) (by omega)).mpr (by omega)), nN_cl (by omega), (h.2 k (by omega)).1, (h.2 k (by omega)).2, h2, nN_succ, show (0 : Int32) = oI false from rfl, show (1 : Int32) = oI true from rfl]
    cases b with
    | false =>
      rw [if_pos rfl]
      exact ih (k + 1) fu false b' (by omega) (by omega) ⟨fun e => (by have := (hb.mp e).1; cases this), fun e => (by cases e.1)⟩
    | true =>
      rw [if_neg (by decide)]
      have rest : (sk k = n → so k = o) → lX12_isAsSeen_12 rec fu M (oI true) (nN n) (nN (k + 1)) = sX12_isAsSeen_61 rec M (oI b') (nN n) := fun hh => ih (k + 1) fu true b' (by omega) (by omega) (by
        rw [hb]
        constructor
        · rintro ⟨e1, e2⟩; exact ⟨e1, fun i a1 a2 a3 => e2 i (by omega) a2 a3⟩
        · rintro ⟨e1, e2⟩
          refine ⟨e1, fun i a1 a2 a3 => ?_⟩
          by_cases hik : i = k
          · subst hik; exact hh a3
          · exact e2 i (by omega) a2 a3)
      by_cases h3 : sk k = n
      · rw [if_pos (by rw [h3])]
        by_cases h4 : so k = o
        · rw [if_pos (by rw [h4])]
          exact rest (fun _ => h4)
        · rw [if_neg (fun e => h4 ((nN_eq (by omega) (by omega)).mp e))]
          exact ih (k + 1) fu false b' (by omega) (by omega) ⟨fun e => absurd ((hb.mp e).2 k (Nat.le_refl _) (by omega) h3) h4, fun e => (by cases e.1)⟩
      · rw [if_neg (fun e => h3 ((nN_eq (by omega) (by omega)).mp e))]
        exact rest (fun e => absurd e h3)
theorem seenR_loop {A : AM} (hV : VOk V) (hS : SOk sn sk so) : ∀ (d n fu : Nat) (M : Mem) (A1 : AM) (B : Nat) (b b' : Bool), n + d = 61 → d < fu → NR M V A → SR M sn sk so → AOk V B A1 → RR A1 (gM M 118) → (b' = true ↔ (b = true ∧ ∀ e, e < sn → n ≤ sk e → so e = aO (itG V (sk e - n) A1))) → ∃ M1, lX12_isAsSeen_4 fu M (oI b) (nN n) = some (M1, oI b') ∧ QR M M1 := by
  intro d
  have hs := hS.1
  induction d with
  | zero =>
    intro n fu M A1 B b b' hn hf h hX hA1 h1 hb
    obtain ⟨fu, rfl⟩ := fu1 hf
    refine ⟨M, ?_, QR.rfl⟩
    have hn : n = 61 := by omega
    subst hn
    show sX12_isAsSeen_4 (lX12_isAsSeen_4 fu) M (oI b) 61 = _
    unfold sX12_isAsSeen_4
    have : b' = b := by
      rw [Bool.eq_iff_iff, hb]
      exact ⟨fun h => h.1, fun h => ⟨h, fun e he h2 => by have := (hS.2 e he).1; omega⟩⟩
    rw [if_pos (by decide), this, if_pos (by cases b; · exact Or.inl rfl
                                             · exact Or.inr rfl)]
  | succ d ih =>
    intro n fu M A1 B b b' hn hf h hX hA1 h1 hb
    obtain ⟨fu, rfl⟩ := fu1 hf
    show ∃ M1, sX12_isAsSeen_4 (lX12_isAsSeen_4 fu) M (oI b) (nN n) = some (M1, _) ∧ _
    unfold sX12_isAsSeen_4
    have h64 := lt64 hV hA1.2.2.1
    have hx : ∃ b1 : Bool, (b1 = true ↔ (b = true ∧ ∀ i, 0 ≤ i → i < sn → sk i = n → so i = aO A1)) := by
      by_cases hc : (b = true ∧ ∀ i, 0 ≤ i → i < sn → sk i = n → so i = aO A1)
      · exact ⟨true, fun _ => hc, fun _ => rfl⟩
      · exact ⟨false, fun e => (by cases e), fun e => absurd e hc⟩
    obtain ⟨b1, hb1⟩ := hx
    rw [if_neg (show ¬ (60 : Int32) < nN n from fun e => by have := (nN_lt (a := 60) (by decide) (by omega)).mp e; omega), show (0 : Int32) = nN 0 from rfl, seenR_in (rec := lX12_isAsSeen_4 fu) hS hX (by omega) (by omega) h1.2.2.1 sn 0 fuel b b1 (by omega) (fuel_ge (by omega)) hb1]
    unfold sX12_isAsSeen_61
    obtain ⟨M', g1, g2, g3⟩ := stepR hV h hA1 h1
    rw [g1, bV_some, nN_succ]
    obtain ⟨M1, k1, k2⟩ := ih (n + 1) fu M' _ (B + 1) b1 b' (by omega) (by omega) (h.q g2) (hX.q g2) (goes_ok hV hA1) g3 (by
      rw [hb, hb1]
      constructor
      · rintro ⟨e1, e2⟩
        refine ⟨⟨e1, fun i _ h2 h3 => ?_⟩, fun e he hne => ?_⟩
        · have := e2 i h2 (by omega)
          rw [h3, Nat.sub_self] at this
          exact this
        · have := e2 e he (by omega)
          rw [show sk e - n = (sk e - (n + 1)) + 1 by omega, itG_s] at this
          exact this
      · rintro ⟨⟨e1, e2⟩, e3⟩
        refine ⟨e1, fun e he hne => ?_⟩
        by_cases hen : sk e = n
        · rw [hen, Nat.sub_self]; exact e2 e (Nat.zero_le _) he hen
        · have := e3 e he (by omega)
          rw [show sk e - n = (sk e - (n + 1)) + 1 by omega, itG_s]
          exact this)
    exact ⟨M1, k1, g2.tr k2⟩
theorem asR {M : Mem} {A A1 : AM} {B : Nat} (hV : VOk V) (hS : SOk sn sk so) (h : NR M V A) (hX : SR M sn sk so) (hA1 : AOk V B A1) (h1 : RR A1 (gM M 118)) : ∃ M1, fX12_isAsSeen M = some (M1, if asS V A1 sn sk so then 1 else 0) ∧ QR M M1 := by
  obtain ⟨M1, k1, k2⟩ := seenR_loop hV hS 61 0 fuel M A1 B true (decide (asS V A1 sn sk so)) rfl (fuel_ge (by decide)) h hX hA1 h1 (by
    rw [decide_eq_true_iff]
    exact ⟨fun hh => ⟨rfl, fun e he _ => hh e he⟩, fun hh e he => hh.2 e he (Nat.zero_le _)⟩)
  refine ⟨M1, ?_, k2⟩
  show lX12_isAsSeen_4 fuel M (oI true) (nN 0) = _
  rw [k1]
  by_cases hc : asS V A1 sn sk so
  · rw [decide_eq_true hc, if_pos hc]; rfl
  · rw [decide_eq_false hc, if_neg hc]; rfl
def whoG (V : FV) (A : AM) (sn : Nat) (sk so : Nat → Nat) (p : Nat) (x : Int32) : Int32 := if asS V (speakS V A (2 ^ p)) sn sk so then x ||| nN (2 ^ p) else x
def whoS (V : FV) (A : AM) (sn : Nat) (sk so : Nat → Nat) : Int32 := fol (whoG V A sn sk so) (if vW V ≤ aW A then 0 else vN V) 0 (if asS V A sn sk so then 64 else 0)
theorem whoX_l {A : AM} (hV : VOk V) (hA : AOk V 9999 A) (hS : SOk sn sk so) {m : Nat} (hm : m ≤ vN V) : ∀ (c k fu : Nat) (M : Mem) (x : Int32), k + c = m → c < fu → NX M V A → SX M sn sk so → ∃ M1, lX11_who_25 fu M x (nN m) (nN k) = some (M1, fol (whoG V A sn sk so) c k x) ∧ QX M M1 := by
  intro c
  have hn := hV.1
  induction c with
  | zero =>
    intro k fu M x hk hf h hX
    obtain ⟨fu, rfl⟩ := fu1 hf
    refine ⟨M, ?_, QX.rfl⟩
    show sX11_who_25 (lX11_who_25 fu) M x (nN m) (nN k) = _
    unfold sX11_who_25
    rw [if_pos ((nN_le (by omega) (by omega)).mpr (by omega)), fol_0]
  | succ c ih =>
    intro k fu M x hk hf h hX
    obtain ⟨fu, rfl⟩ := fu1 hf
    show ∃ M1, sX11_who_25 (lX11_who_25 fu) M x (nN m) (nN k) = some (M1, _) ∧ _
    unfold sX11_who_25
    rw [if_neg (by rw [nN_le (by omega) (by omega)]; omega)]
    obtain ⟨M', g1, g2, g3⟩ := pinchX hV hA h (p := k) (by omega)
    have hok : AOk V 9999 (speakS V A (2 ^ k)) := speak_ok hV hA (pw_lt (by omega))
    obtain ⟨M1, k1, k2⟩ := agrX hV hS (by decide) (h.q g2) (hX.q g2) hok g3
    rw [g1, bV_some, k1, bI_some, nN_succ, sh1 (by omega), fol_s]
    have q1 := g2.tr k2
    unfold whoG
    by_cases hc : asS V (speakS V A (2 ^ k)) sn sk so
    · rw [if_pos hc, if_pos hc, if_neg (by decide)]
      obtain ⟨M2, e1, e2⟩ := ih (k + 1) fu M1 (x ||| nN (2 ^ k)) (by omega) (by omega) (h.q q1) (hX.q q1)
      exact ⟨M2, e1, q1.tr e2⟩
    · rw [if_neg hc, if_neg hc, if_pos rfl]
      obtain ⟨M2, e1, e2⟩ := ih (k + 1) fu M1 x (by omega) (by omega) (h.q q1) (hX.q q1)
      exact ⟨M2, e1, q1.tr e2⟩
theorem X_who {M : Mem} {A : AM} (hV : VOk V) (hA : AOk V 9999 A) (hS : SOk sn sk so) (h : NX M V A) (hX : SX M sn sk so) : ∃ M1, fX11_who M = some (M1, whoS V A sn sk so) ∧ QX M M1 := by
  unfold fX11_who
  have hn := hV.1
  obtain ⟨M', g1, g2, g3⟩ := copyNow hV h
  obtain ⟨M1, k1, k2⟩ := agrX hV hS (by decide) (h.q g2) (hX.q g2) hA g3
  have q1 := g2.tr k2
  rw [g1, bV_some, k1, bI_some]
  have key : ∀ x : Int32, x = (if asS V A sn sk so then 64 else 0) → ∃ M2, sX11_who_17 M1 x = some (M2, whoS V A sn sk so) ∧ QX M M2 := by
    intro x hx
    unfold sX11_who_17 whoS
    rw [cntX hV hA (h.q q1), bI_some, ← hx]
    obtain ⟨M2, e1, e2⟩ := whoX_l hV hA hS (m := if vW V ≤ aW A then 0 else vN V) (by split <;> omega) (if vW V ≤ aW A then 0 else vN V) 0 fuel M1 x (by omega) (fuel_ge (by split <;> omega)) (h.q q1) (hX.q q1)
    refine ⟨M2, ?_, q1.tr e2⟩
    rw [← e1]
    congr 1
    split <;> rfl
  by_cases hc : asS V A sn sk so
  · rw [if_pos hc, if_neg (by decide)]; exact key 64 (by rw [if_pos hc])
  · rw [if_neg hc, if_pos rfl]; exact key 0 (by rw [if_neg hc])
theorem whoR_l {A : AM} (hV : VOk V) (hA : AOk V 9999 A) (hS : SOk sn sk so) (ho : ¬ vW V ≤ aW A) : ∀ (c k fu : Nat) (M : Mem) (x : Int32), k + c = vN V → c < fu → NR M V A → SR M sn sk so → ∃ M1, lX12_who_25 fu M x (nN k) = some (M1, fol (whoG V A sn sk so) c k x) ∧ QR M M1 := by
  intro c
  have hn := hV.1
  induction c with
  | zero =>
    intro k fu M x hk hf h hX
    obtain ⟨fu, rfl⟩ := fu1 hf
    refine ⟨M, ?_, QR.rfl⟩
    show sX12_who_25 (lX12_who_25 fu) M x (nN k) = _
    unfold sX12_who_25
    rw [h.1.1, if_pos ((nN_le (by omega) (by omega)).mpr (by omega)), fol_0]
  | succ c ih =>
    intro k fu M x hk hf h hX
    obtain ⟨fu, rfl⟩ := fu1 hf
    show ∃ M1, sX12_who_25 (lX12_who_25 fu) M x (nN k) = some (M1, _) ∧ _
    unfold sX12_who_25 sX12_who_76
    rw [h.1.1, if_neg (by rw [nN_le (by omega) (by omega)]; omega), overR h.1 hV h.2.2.1 hA.2.1, bI_some, if_neg ho, if_pos rfl]
    have hok : AOk V 9999 (speakS V A (2 ^ k)) := speak_ok hV hA (pw_lt (by omega))
    obtain ⟨M', g1, g2, g3⟩ := pinchR hV h (p := k) (by omega) (fun M10 => bI (fX12_isAsSeen M10) fun M11 r12 => if r12 = 0 then lX12_who_25 fu M11 (x ||| 0) (nN k + 1) else lX12_who_25 fu M11 (x ||| (1 : Int32) <<< (nN k &&& 31)) (nN k + 1))
    rw [g1]
    obtain ⟨M1, k1, k2⟩ := asR hV hS (h.q g2) (hX.q g2) hok g3
    rw [k1, bI_some, nN_succ, sh1 (by omega), or0, fol_s]
    have q1 := g2.tr k2
    unfold whoG
    by_cases hc : asS V (speakS V A (2 ^ k)) sn sk so
    · rw [if_pos hc, if_pos hc, if_neg (by decide)]
      obtain ⟨M2, e1, e2⟩ := ih (k + 1) fu M1 (x ||| nN (2 ^ k)) (by omega) (by omega) (h.q q1) (hX.q q1)
      exact ⟨M2, e1, q1.tr e2⟩
    · rw [if_neg hc, if_neg hc, if_pos rfl]
      obtain ⟨M2, e1, e2⟩ := ih (k + 1) fu M1 x (by omega) (by omega) (h.q q1) (hX.q q1)
      exact ⟨M2, e1, q1.tr e2⟩
theorem R_who {M : Mem} {A : AM} (hV : VOk V) (hA : AOk V 9999 A) (hS : SOk sn sk so) (h : NR M V A) (hX : SR M sn sk so) : ∃ M1, fX12_who M = some (M1, whoS V A sn sk so) ∧ QR M M1 := by
  unfold fX12_who
  have hn := hV.1
  have q0 := QR.t M 0
  obtain ⟨M', g1, g2, g3⟩ := asNowR (h.q q0)
  obtain ⟨M1, k1, k2⟩ := asR hV hS ((h.q q0).q g2) ((hX.q q0).q g2) hA g3
  have q1 := q0.tr (g2.tr k2)
  rw [g1, bV_some, k1, bI_some]
  have key : ∀ x : Int32, x = (if asS V A sn sk so then 64 else 0) → ∃ M2, lX12_who_25 fuel M1 x 0 = some (M2, whoS V A sn sk so) ∧ QR M M2 := by
    intro x hx
    unfold whoS
    rw [← hx]
    by_cases ho : vW V ≤ aW A
    · rw [if_pos ho]
      refine ⟨M1, ?_, q1⟩
      show sX12_who_25 (lX12_who_25 999) M1 x 0 = _
      unfold sX12_who_25
      rw [fol_0]
      split
      · rfl
      · rw [overR (h.q q1).1 hV (h.q q1).2.2.1 hA.2.1, bI_some, if_pos ho, if_neg (by decide)]
    · rw [if_neg ho]
      obtain ⟨M2, e1, e2⟩ := whoR_l hV hA hS ho (vN V) 0 fuel M1 x (by omega) (fuel_ge (by omega)) (h.q q1) (hX.q q1)
      exact ⟨M2, e1, q1.tr e2⟩
  by_cases hc : asS V A sn sk so
  · rw [if_pos hc, if_neg (by decide)]; exact key 64 (by rw [if_pos hc])
  · rw [if_neg hc, if_pos rfl]; exact key 0 (by rw [if_neg hc])
end SEEN
