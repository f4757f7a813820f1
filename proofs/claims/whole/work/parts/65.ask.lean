/-! inBeats, ends, last, drift, mute -/
theorem fu1 {c fu : Nat} (h : c < fu) : ∃ g, fu = g + 1 := ⟨fu - 1, by omega⟩
def inE (V : FV) (A A2 : AM) (x2 : Int32) : Int32 := if x2 = 0 then nN (aW A2) else if x2 = 1 then nN (aO A2) else nN (wsum V A2) - nN (wsum V A)
def inBeatsS (V : FV) (A : AM) (x1 x2 : Int32) : Int32 := if (0 ≤ x1 ∧ x1 ≤ 200) ∧ (0 ≤ x2 ∧ x2 ≤ 2) then inE V A (itG V x1.toNatClampNeg A) x2 else -1
theorem inBeatsX_loop {V : FV} {A : AM} (hV : VOk V) (hA : AOk V 9999 A) {x2 : Int32} {n : Nat} (hn : n ≤ 200) : ∀ (c k fu : Nat) (M : Mem) (A1 : AM) (B : Nat), k + c = n → c < fu → B + c < 20000 → NX M V A → AOk V B A1 → RX V A1 M 82 → ∃ M1, lX11_inBeats_30 fu M (nN n) x2 (nN k) = some (M1, inE V A (itG V c A1) x2) ∧ QX M M1 := by
  intro c
  induction c with
  | zero =>
    intro k fu M A1 B hk hf hB h hA1 h1
    obtain ⟨fu, rfl⟩ := fu1 hf
    show ∃ M1, sX11_inBeats_30 (lX11_inBeats_30 fu) M (nN n) x2 (nN k) = some (M1, _) ∧ _
    unfold sX11_inBeats_30 sX11_inBeats_50
    rw [if_pos ((nN_le (by omega) (by omega)).mpr (by omega))]
    unfold inE
    by_cases e0 : x2 = 0
    · rw [if_pos e0, if_pos e0, h1.1.2.1]; exact ⟨M, rfl, QX.rfl⟩
    · rw [if_neg e0, if_neg e0]
      by_cases e1 : x2 = 1
      · rw [if_pos e1, if_pos e1, h1.1.2.2.1]; exact ⟨M, rfl, QX.rfl⟩
      · rw [if_neg e1, if_neg e1, wordsX hV hA1 h1, bI_some, wordsX hV hA h.2, bI_some]; exact ⟨M, rfl, QX.rfl⟩
  | succ c ih =>
    intro k fu M A1 B hk hf hB h hA1 h1
    obtain ⟨fu, rfl⟩ := fu1 hf
    show ∃ M1, sX11_inBeats_30 (lX11_inBeats_30 fu) M (nN n) x2 (nN k) = some (M1, _) ∧ _
    unfold sX11_inBeats_30
    rw [if_neg (by rw [nN_le (by omega) (by omega)]; omega)]
    obtain ⟨M', g1, g2, g3⟩ := stepX hV h hA1 (by omega) h1
    rw [g1, bV_some, nN_succ]
    obtain ⟨M1, k1, k2⟩ := ih (k + 1) fu M' _ (B + 1) (by omega) (by omega) (by omega) (h.q g2) (goes_ok hV hA1) g3
    exact ⟨M1, k1, g2.tr k2⟩
theorem X_inBeats {M : Mem} {V : FV} {A : AM} (hV : VOk V) (hA : AOk V 9999 A) (h : NX M V A) (x1 x2 : Int32) : ∃ M1, fX11_inBeats M x1 x2 = some (M1, inBeatsS V A x1 x2) ∧ QX M M1 := by
  unfold fX11_inBeats inBeatsS
  by_cases h1 : x1 < 0
  · rw [if_pos h1, if_neg (fun e => Int32.not_lt.mpr e.1.1 h1)]; exact ⟨M, rfl, QX.rfl⟩
  rw [if_neg h1]
  by_cases h2 : (200 : Int32) < x1
  · rw [if_pos h2, if_neg (fun e => Int32.not_lt.mpr e.1.2 h2)]; exact ⟨M, rfl, QX.rfl⟩
  rw [if_neg h2]
  by_cases h3 : x2 < 0
  · rw [if_pos h3, if_neg (fun e => Int32.not_lt.mpr e.2.1 h3)]; exact ⟨M, rfl, QX.rfl⟩
  rw [if_neg h3]
  by_cases h4 : x2 ≤ 2
  · rw [if_pos h4, if_pos ⟨⟨Int32.not_lt.mp h1, Int32.not_lt.mp h2⟩, Int32.not_lt.mp h3, h4⟩]
    obtain ⟨n, hn, rfl⟩ := to_nN_le (m := 200) (by decide) (Int32.not_lt.mp h1) (Int32.not_lt.mp h2)
    obtain ⟨M', g1, g2, g3⟩ := copyNow hV h
    rw [g1, bV_some, nN_cl (by omega)]
    obtain ⟨M1, k1, k2⟩ := inBeatsX_loop hV hA (x2 := x2) hn n 0 fuel M' A 9999 (by omega) (fuel_ge (by omega)) (by omega) (h.q g2) hA g3
    exact ⟨M1, k1, g2.tr k2⟩
  · rw [if_neg h4, if_neg (fun e => h4 e.2.2)]; exact ⟨M, rfl, QX.rfl⟩
theorem inBeatsR_loop {V : FV} {A : AM} (hV : VOk V) {x2 : Int32} {n : Nat} (hn : n ≤ 200) : ∀ (c k fu : Nat) (M : Mem) (A1 : AM) (B : Nat), k + c = n → c < fu → NR M V A → AOk V B A1 → RR A1 (gM M 118) → ∃ M1, lX12_inBeats_33 fu M (nN n) x2 (nN k) = some (M1, inE V A (itG V c A1) x2) ∧ QR M M1 := by
  intro c
  induction c with
  | zero =>
    intro k fu M A1 B hk hf h hA1 h1
    obtain ⟨fu, rfl⟩ := fu1 hf
    show ∃ M1, sX12_inBeats_33 (lX12_inBeats_33 fu) M (nN n) x2 (nN k) = some (M1, _) ∧ _
    unfold sX12_inBeats_33 sX12_inBeats_52
    rw [if_pos ((nN_le (by omega) (by omega)).mpr (by omega))]
    unfold inE
    by_cases e0 : x2 = 0
    · rw [if_pos e0, if_pos e0, h1.2.1]; exact ⟨M, rfl, QR.rfl⟩
    · rw [if_neg e0, if_neg e0]
      by_cases e1 : x2 = 1
      · rw [if_pos e1, if_pos e1, h1.2.2.1]; exact ⟨M, rfl, QR.rfl⟩
      · rw [if_neg e1, if_neg e1, wordsR h.1 hV h1.2, bI_some, wordsR h.1 hV h.2.2, bI_some]; exact ⟨M, rfl, QR.rfl⟩
  | succ c ih =>
    intro k fu M A1 B hk hf h hA1 h1
    obtain ⟨fu, rfl⟩ := fu1 hf
    show ∃ M1, sX12_inBeats_33 (lX12_inBeats_33 fu) M (nN n) x2 (nN k) = some (M1, _) ∧ _
    unfold sX12_inBeats_33
    rw [if_neg (by rw [nN_le (by omega) (by omega)]; omega)]
    obtain ⟨M', g1, g2, g3⟩ := stepR hV h hA1 h1
    rw [g1, bV_some, nN_succ]
    obtain ⟨M1, k1, k2⟩ := ih (k + 1) fu M' _ (B + 1) (by omega) (by omega) (h.q g2) (goes_ok hV hA1) g3
    exact ⟨M1, k1, g2.tr k2⟩
theorem R_inBeats {M : Mem} {V : FV} {A : AM} (hV : VOk V) (hA : AOk V 9999 A) (h : NR M V A) (x1 x2 : Int32) : ∃ M1, fX12_inBeats M x1 x2 = some (M1, inBeatsS V A x1 x2) ∧ QR M M1 := by
  unfold fX12_inBeats inBeatsS
  have q0 := QR.t M 0
  by_cases h1 : 0 ≤ x1 ∧ x1 ≤ 200
  · rw [in_y h1.1 h1.2, bI_some, if_neg (by decide)]
    by_cases h2 : 0 ≤ x2 ∧ x2 ≤ 2
    · rw [in_y h2.1 h2.2, bI_some, if_neg (by decide), if_pos ⟨h1, h2⟩]
      obtain ⟨n, hn, rfl⟩ := to_nN_le (m := 200) (by decide) h1.1 h1.2
      obtain ⟨M', g1, g2, g3⟩ := asNowR (h.q q0)
      rw [g1, bV_some, nN_cl (by omega)]
      obtain ⟨M1, k1, k2⟩ := inBeatsR_loop hV (x2 := x2) hn n 0 fuel M' A 9999 (by omega) (fuel_ge (by omega)) ((h.q q0).q g2) hA g3
      exact ⟨M1, k1, q0.tr (g2.tr k2)⟩
    · rw [in_n h2, bI_some, if_pos rfl, if_neg (fun e => h2 e.2)]; exact ⟨_, rfl, q0⟩
  · rw [in_n h1, bI_some, if_pos rfl, if_neg (fun e => h1 e.1)]; exact ⟨_, rfl, q0⟩
/-! till it is over -/
def tO (V : FV) : Nat → AM → Option (Nat × AM)
  | 0, A => if vW V ≤ aW A then some (0, A) else none
  | k + 1, A => if vW V ≤ aW A then some (0, A) else (tO V k (goesS V A)).map (fun q => (q.1 + 1, q.2))
def tOI (n : Nat) : Option (Nat × AM) → Int32
  | none => -9
  | some q => nN (n + q.1)
theorem tOI_map (n : Nat) (o : Option (Nat × AM)) : tOI n (o.map (fun q => (q.1 + 1, q.2))) = tOI (n + 1) o := by
  cases o with
  | none => rfl
  | some q => show nN (n + (q.1 + 1)) = nN (n + 1 + q.1); congr 1; omega
theorem tillX_loop {V : FV} (hV : VOk V) {f b : Nat} (hf : isFe f) (hb : isMo b) : ∀ (k n fu : Nat) (M : Mem) (A1 : AM) (B : Nat), k + 1 < fu → n + k < 10000 → B + k + 1 < 20000 → FX M f V → AOk V B A1 → RX V A1 M b → ∃ M1, lX4_rowTillOver_2 fu M b f (nN (n + k)) (nN n) = some (M1, tOI n (tO V k A1)) ∧ Fr3 b M M1 ∧ ∀ q, tO V k A1 = some q → RX V q.2 M1 b := by
  intro k
  induction k with
  | zero =>
    intro n fu M A1 B hfu hn hB hF hA h
    obtain ⟨fu, rfl⟩ := fu1 hfu
    show ∃ M1, sX4_rowTillOver_2 (lX4_rowTillOver_2 fu) M b f (nN (n + 0)) (nN n) = some (M1, _) ∧ _
    unfold sX4_rowTillOver_2 tO
    rw [Nat.add_zero, if_neg (by rw [nN_lt (by omega) (by omega)]; omega), h.1.2.1, overX hF hV (by have := hA.2.1; omega), bI_some]
    by_cases ho : vW V ≤ aW A1
    · rw [if_pos ho, if_pos ho, if_neg (by decide)]
      exact ⟨M, rfl, Fr3.rfl, fun q hq => by cases hq; exact h⟩
    · rw [if_neg ho, if_neg ho, if_pos rfl]
      obtain ⟨M', g1, g2, g3⟩ := rowX hF hV hf hb hA (by omega) h
      rw [g1, bV_some, nN_succ]
      obtain ⟨fu, rfl⟩ : ∃ g, fu = g + 1 := ⟨fu - 1, by omega⟩
      show ∃ M1, sX4_rowTillOver_2 (lX4_rowTillOver_2 fu) M' b f (nN n) (nN (n + 1)) = some (M1, _) ∧ _
      unfold sX4_rowTillOver_2
      rw [if_pos ((nN_lt (by omega) (by omega)).mpr (by omega))]
      exact ⟨M', rfl, g2, fun q hq => by cases hq⟩
  | succ k ih =>
    intro n fu M A1 B hfu hn hB hF hA h
    obtain ⟨fu, rfl⟩ := fu1 hfu
    show ∃ M1, sX4_rowTillOver_2 (lX4_rowTillOver_2 fu) M b f (nN (n + (k + 1))) (nN n) = some (M1, _) ∧ _
    unfold sX4_rowTillOver_2
    rw [if_neg (by rw [nN_lt (by omega) (by omega)]; omega), h.1.2.1, overX hF hV (by have := hA.2.1; omega), bI_some]
    rw [show tO V (k + 1) A1 = (if vW V ≤ aW A1 then some (0, A1) else (tO V k (goesS V A1)).map (fun q => (q.1 + 1, q.2))) from rfl]
    by_cases ho : vW V ≤ aW A1
    · rw [if_pos ho, if_pos ho, if_neg (by decide)]
      exact ⟨M, rfl, Fr3.rfl, fun q hq => by cases hq; exact h⟩
    · rw [if_neg ho, if_neg ho, if_pos rfl]
      obtain ⟨M', g1, g2, g3⟩ := rowX hF hV hf hb hA (by omega) h
      rw [g1, bV_some, nN_succ, tOI_map]
      obtain ⟨M1, k1, k2, k3⟩ := ih (n + 1) fu M' _ (B + 1) (by omega) (by omega) (by omega) (hF.fr hf hb g2) (goes_ok hV hA) g3
      rw [show n + 1 + k = n + (k + 1) by omega] at k1
      refine ⟨M1, k1, g2.tr k2, fun q hq => ?_⟩
      obtain ⟨q', hq', rfl⟩ := Option.map_eq_some_iff.mp hq
      exact k3 q' hq'
theorem tillX {V : FV} {M : Mem} {A1 : AM} {f b k B : Nat} (hV : VOk V) (hf : isFe f) (hb : isMo b) (hk : k ≤ 400) (hB : B + 500 < 20000) (hF : FX M f V) (hA : AOk V B A1) (h : RX V A1 M b) : ∃ M1, fX4_rowTillOver M b f (nN k) = some (M1, tOI 0 (tO V k A1)) ∧ Fr3 b M M1 ∧ ∀ q, tO V k A1 = some q → RX V q.2 M1 b := by
  have := tillX_loop hV hf hb k 0 fuel M A1 B (show k + 1 < 1000 by omega) (by omega) (by omega) hF hA h
  rw [Nat.zero_add] at this
  exact this
theorem tillX_neg {M : Mem} {f b : Nat} {x : Int32} (h : x < 0) : fX4_rowTillOver M b f x = some (M, -9) := by
  show sX4_rowTillOver_2 (lX4_rowTillOver_2 999) M b f x 0 = _
  unfold sX4_rowTillOver_2
  rw [if_pos h]
theorem tillR_loop {V : FV} {A : AM} (hV : VOk V) : ∀ (k n fu : Nat) (M : Mem) (A1 : AM) (B : Nat), n + k = 400 → k + 1 < fu → NR M V A → AOk V B A1 → RR A1 (gM M 118) → ∃ M1, lX12_endsBehind_2 fu M (nN n) = some (M1, tOI n (tO V k A1)) ∧ QR M M1 ∧ ∀ q, tO V k A1 = some q → RR q.2 (gM M1 118) := by
  intro k
  induction k with
  | zero =>
    intro n fu M A1 B hn hfu hF hA h
    obtain ⟨fu, rfl⟩ := fu1 hfu
    have hn : n = 400 := by omega
    subst hn
    show ∃ M1, sX12_endsBehind_2 (lX12_endsBehind_2 fu) M 400 = some (M1, _) ∧ _
    unfold sX12_endsBehind_2 tO
    rw [if_neg (by decide), overR hF.1 hV h.2.1 hA.2.1, bI_some]
    by_cases ho : vW V ≤ aW A1
    · rw [if_pos ho, if_pos ho, if_neg (by decide)]
      exact ⟨M, rfl, QR.rfl, fun q hq => by cases hq; exact h⟩
    · rw [if_neg ho, if_neg ho, if_pos rfl]
      obtain ⟨M', g1, g2, g3⟩ := stepR hV hF hA h
      rw [g1, bV_some]
      obtain ⟨fu, rfl⟩ : ∃ g, fu = g + 1 := ⟨fu - 1, by omega⟩
      show ∃ M1, sX12_endsBehind_2 (lX12_endsBehind_2 fu) M' (400 + 1) = some (M1, _) ∧ _
      unfold sX12_endsBehind_2
      rw [if_pos (by decide)]
      exact ⟨M', rfl, g2, fun q hq => by cases hq⟩
  | succ k ih =>
    intro n fu M A1 B hn hfu hF hA h
    obtain ⟨fu, rfl⟩ := fu1 hfu
    show ∃ M1, sX12_endsBehind_2 (lX12_endsBehind_2 fu) M (nN n) = some (M1, _) ∧ _
    unfold sX12_endsBehind_2
    rw [if_neg (show ¬ (400 : Int32) < nN n from fun e => by have := (nN_lt (a := 400) (by decide) (by omega)).mp e; omega), overR hF.1 hV h.2.1 hA.2.1, bI_some]
    rw [show tO V (k + 1) A1 = (if vW V ≤ aW A1 then some (0, A1) else (tO V k (goesS V A1)).map (fun q => (q.1 + 1, q.2))) from rfl]
    by_cases ho : vW V ≤ aW A1
    · rw [if_pos ho, if_pos ho, if_neg (by decide)]
      exact ⟨M, rfl, QR.rfl, fun q hq => by cases hq; exact h⟩
    · rw [if_neg ho, if_neg ho, if_pos rfl]
      obtain ⟨M', g1, g2, g3⟩ := stepR hV hF hA h
      rw [g1, bV_some, nN_succ, tOI_map]
      obtain ⟨M1, k1, k2, k3⟩ := ih (n + 1) fu M' _ (B + 1) (by omega) (by omega) (hF.q g2) (goes_ok hV hA) g3
      refine ⟨M1, k1, g2.tr k2, fun q hq => ?_⟩
      obtain ⟨q', hq', rfl⟩ := Option.map_eq_some_iff.mp hq
      exact k3 q' hq'
theorem tillR {V : FV} {M : Mem} {A A1 : AM} {n B : Nat} (hV : VOk V) (hn : n ≤ 400) (hF : NR M V A) (hA : AOk V B A1) (h : RR A1 (gM M 118)) : ∃ M1, fX12_endsBehind M (nN n) = some (M1, tOI n (tO V (400 - n) A1)) ∧ QR M M1 ∧ ∀ q, tO V (400 - n) A1 = some q → RR q.2 (gM M1 118) :=
  tillR_loop hV (400 - n) n fuel M A1 B (by omega) (show 400 - n + 1 < 1000 by omega) hF hA h
theorem X_ends {M : Mem} {V : FV} {A : AM} (hV : VOk V) (hA : AOk V 9999 A) (h : NX M V A) : ∃ M1, fX11_ends M = some (M1, tOI 0 (tO V 400 A)) ∧ QX M M1 := by
  unfold fX11_ends
  obtain ⟨M', g1, g2, g3⟩ := copyNow hV h
  rw [g1, bV_some]
  obtain ⟨M1, k1, k2, -⟩ := tillX (k := 400) hV (isFe_feB (gM M' 0 1)) mo_82 (by decide) (by decide) (h.q g2).1 hA g3
  rw [show (400 : Int32) = nN 400 from rfl, k1, bI_some]
  exact ⟨M1, rfl, g2.tr (QX.f k2 (Or.inr ⟨by decide, by decide⟩))⟩
theorem R_ends {M : Mem} {V : FV} {A : AM} (hV : VOk V) (hA : AOk V 9999 A) (h : NR M V A) : ∃ M1, fX12_ends M = some (M1, tOI 0 (tO V 400 A)) ∧ QR M M1 := by
  unfold fX12_ends
  have q0 := QR.t M 0
  obtain ⟨M', g1, g2, g3⟩ := asNowR (h.q q0)
  rw [g1, bV_some]
  obtain ⟨M1, k1, k2, -⟩ := tillR (n := 0) hV (by decide) ((h.q q0).q g2) hA g3
  rw [show (0 : Int32) = nN 0 from rfl, k1, bI_some]
  exact ⟨M1, rfl, q0.tr (g2.tr k2)⟩
def lastS (V : FV) (A : AM) : Int32 := match tO V 400 A with
  | none => -9
  | some q => nN (aO q.2)
theorem tO_le {V : FV} : ∀ (k : Nat) (A : AM) (q : Nat × AM), tO V k A = some q → q.1 ≤ k := by
  intro k
  induction k with
  | zero =>
    intro A q h
    unfold tO at h
    split at h
    · cases h; exact Nat.le_refl _
    · cases h
  | succ k ih =>
    intro A q h
    unfold tO at h
    split at h
    · cases h; exact Nat.zero_le _
    · obtain ⟨q', hq', rfl⟩ := Option.map_eq_some_iff.mp h
      have := ih _ _ hq'
      show q'.1 + 1 ≤ k + 1; omega
theorem X_last {M : Mem} {V : FV} {A : AM} (hV : VOk V) (hA : AOk V 9999 A) (h : NX M V A) : ∃ M1, fX11_last M = some (M1, lastS V A) ∧ QX M M1 := by
  unfold fX11_last lastS
  obtain ⟨M', g1, g2, g3⟩ := copyNow hV h
  rw [g1, bV_some]
  obtain ⟨M1, k1, k2, k3⟩ := tillX (k := 400) hV (isFe_feB (gM M' 0 1)) mo_82 (by decide) (by decide) (h.q g2).1 hA g3
  rw [show (400 : Int32) = nN 400 from rfl, k1, bI_some]
  refine ⟨M1, ?_, g2.tr (QX.f k2 (Or.inr ⟨by decide, by decide⟩))⟩
  cases ht : tO V 400 A with
  | none => rw [show tOI 0 none = -9 from rfl, if_pos rfl]
  | some q =>
    have := tO_le _ _ _ ht
    rw [if_neg (show ¬ tOI 0 (some q) = -9 from ne9 (by omega)), (k3 q ht).1.2.2.1]
theorem R_last {M : Mem} {V : FV} {A : AM} (hV : VOk V) (hA : AOk V 9999 A) (h : NR M V A) : ∃ M1, fX12_last M = some (M1, lastS V A) ∧ QR M M1 := by
  unfold fX12_last lastS
  have q0 := QR.t M 0
  obtain ⟨M', g1, g2, g3⟩ := asNowR (h.q q0)
  rw [g1, bV_some]
  obtain ⟨M1, k1, k2, k3⟩ := tillR (n := 0) hV (by decide) ((h.q q0).q g2) hA g3
  rw [show (0 : Int32) = nN 0 from rfl, k1, bI_some]
  refine ⟨M1, ?_, q0.tr (g2.tr k2)⟩
  rw [show 400 - 0 = 400 from rfl] at k3 ⊢
  cases ht : tO V 400 A with
  | none => rw [show tOI 0 none = -9 from rfl, if_pos rfl]
  | some q =>
    have := tO_le _ _ _ ht
    rw [if_neg (show ¬ tOI 0 (some q) = -9 from ne9 (by omega)), (k3 q ht).2.2.1]
/-! drift -/
def drS (V : FV) (w0 : Nat) : Nat → Nat → AM → Int32
  | 0, _, _ => -9
  | k + 1, n, A1 => if vW V ≤ aW A1 then -9 else if w0 ≤ aW (goesS V A1) then drS V w0 k (n + 1) (goesS V A1) else nN n
theorem driftX_loop {V : FV} {A : AM} (hV : VOk V) (hA : AOk V 9999 A) : ∀ (k n fu : Nat) (M : Mem) (A1 : AM) (B : Nat), n + k = 401 → k < fu → B + k < 20000 → NX M V A → AOk V B A1 → RX V A1 M 82 → ∃ M1, lX11_drift_7 fu M (nN n) = some (M1, drS V (aW A) k n A1) ∧ QX M M1 := by
  intro k
  induction k with
  | zero =>
    intro n fu M A1 B hn hfu hB hF hA1 h
    obtain ⟨fu, rfl⟩ := fu1 hfu
    have hn : n = 401 := by omega
    subst hn
    exact ⟨M, by show sX11_drift_7 (lX11_drift_7 fu) M 401 = _; unfold sX11_drift_7; rw [if_pos (by decide)]; rfl, QX.rfl⟩
  | succ k ih =>
    intro n fu M A1 B hn hfu hB hF hA1 h
    obtain ⟨fu, rfl⟩ := fu1 hfu
    show ∃ M1, sX11_drift_7 (lX11_drift_7 fu) M (nN n) = some (M1, _) ∧ _
    unfold sX11_drift_7
    rw [if_neg (show ¬ (400 : Int32) < nN n from fun e => by have := (nN_lt (a := 400) (by decide) (by omega)).mp e; omega), h.1.2.1, overX hF.1 hV (by have := hA1.2.1; omega), bI_some]
    rw [show drS V (aW A) (k + 1) n A1 = (if vW V ≤ aW A1 then -9 else if aW A ≤ aW (goesS V A1) then drS V (aW A) k (n + 1) (goesS V A1) else nN n) from rfl]
    by_cases ho : vW V ≤ aW A1
    · rw [if_pos ho, if_pos ho, if_neg (by decide)]; exact ⟨M, rfl, QX.rfl⟩
    · rw [if_neg ho, if_neg ho, if_pos rfl]
      obtain ⟨M', g1, g2, g3⟩ := stepX hV hF hA1 (by omega) h
      have hok := goes_ok hV hA1
      rw [g1, bV_some, (hF.q g2).2.1.2.1, g3.1.2.1, nN_succ]
      have := hA.2.1
      have := hok.2.1
      by_cases hd : aW A ≤ aW (goesS V A1)
      · rw [if_pos hd, if_pos ((nN_le (by omega) (by omega)).mpr hd)]
        obtain ⟨M1, k1, k2⟩ := ih (n + 1) fu M' _ (B + 1) (by omega) (by omega) (by omega) (hF.q g2) hok g3
        exact ⟨M1, k1, g2.tr k2⟩
      · rw [if_neg hd, if_neg (fun e => hd ((nN_le (by omega) (by omega)).mp e))]
        exact ⟨M', rfl, g2⟩
theorem X_drift {M : Mem} {V : FV} {A : AM} (hV : VOk V) (hA : AOk V 9999 A) (h : NX M V A) : ∃ M1, fX11_drift M = some (M1, drS V (aW A) 400 1 A) ∧ QX M M1 := by
  unfold fX11_drift
  obtain ⟨M', g1, g2, g3⟩ := copyNow hV h
  rw [g1, bV_some]
  obtain ⟨M1, k1, k2⟩ := driftX_loop hV hA 400 1 fuel M' A 9999 rfl (fuel_ge (by decide)) (by decide) (h.q g2) hA g3
  exact ⟨M1, k1, g2.tr k2⟩
theorem driftR_loop {V : FV} {A : AM} (hV : VOk V) (hA : AOk V 9999 A) : ∀ (k n fu : Nat) (M : Mem) (A1 : AM) (B : Nat), n + k = 401 → k < fu → NR M V A → AOk V B A1 → RR A1 (gM M 118) → ∃ M1, lX12_drift_11 fu M (nN n) = some (M1, drS V (aW A) k n A1) ∧ QR M M1 := by
  intro k
  induction k with
  | zero =>
    intro n fu M A1 B hn hfu hF hA1 h
    obtain ⟨fu, rfl⟩ := fu1 hfu
    have hn : n = 401 := by omega
    subst hn
    exact ⟨M, by show sX12_drift_11 (lX12_drift_11 fu) M 401 = _; unfold sX12_drift_11; rw [if_pos (by decide)]; rfl, QR.rfl⟩
  | succ k ih =>
    intro n fu M A1 B hn hfu hF hA1 h
    obtain ⟨fu, rfl⟩ := fu1 hfu
    show ∃ M1, sX12_drift_11 (lX12_drift_11 fu) M (nN n) = some (M1, _) ∧ _
    unfold sX12_drift_11
    rw [if_neg (show ¬ (400 : Int32) < nN n from fun e => by have := (nN_lt (a := 400) (by decide) (by omega)).mp e; omega), overR hF.1 hV h.2.1 hA1.2.1, bI_some]
    rw [show drS V (aW A) (k + 1) n A1 = (if vW V ≤ aW A1 then -9 else if aW A ≤ aW (goesS V A1) then drS V (aW A) k (n + 1) (goesS V A1) else nN n) from rfl]
    by_cases ho : vW V ≤ aW A1
    · rw [if_pos ho, if_pos ho, if_neg (by decide)]; exact ⟨M, rfl, QR.rfl⟩
    · rw [if_neg ho, if_neg ho, if_pos rfl]
      obtain ⟨M', g1, g2, g3⟩ := stepR hV hF hA1 h
      have hok := goes_ok hV hA1
      rw [g1, bV_some, (hF.q g2).2.2.1, g3.2.1, nN_succ]
      have := hA.2.1
      have := hok.2.1
      by_cases hd : aW A ≤ aW (goesS V A1)
      · rw [if_pos hd, if_pos ((nN_le (by omega) (by omega)).mpr hd)]
        obtain ⟨M1, k1, k2⟩ := ih (n + 1) fu M' _ (B + 1) (by omega) (by omega) (hF.q g2) hok g3
        exact ⟨M1, k1, g2.tr k2⟩
      · rw [if_neg hd, if_neg (fun e => hd ((nN_le (by omega) (by omega)).mp e))]
        exact ⟨M', rfl, g2⟩
theorem R_drift {M : Mem} {V : FV} {A : AM} (hV : VOk V) (hA : AOk V 9999 A) (h : NR M V A) : ∃ M1, fX12_drift M = some (M1, drS V (aW A) 400 1 A) ∧ QR M M1 := by
  unfold fX12_drift
  have q0 := QR.t M 0
  obtain ⟨M', g1, g2, g3⟩ := asNowR (h.q q0)
  rw [g1, bV_some]
  obtain ⟨M1, k1, k2⟩ := driftR_loop hV hA 400 1 fuel M' A 9999 rfl (fuel_ge (by decide)) ((h.q q0).q g2) hA g3
  exact ⟨M1, k1, q0.tr (g2.tr k2)⟩
/-! mute -/
def muS (V : FV) : Nat → AM → Int32 → Int32
  | 0, _, a => a
  | k + 1, A1, a => muS V k (goesS V A1) (a ||| nN (aO (goesS V A1)))
def muE (V : FV) (a : Int32) : Int32 := (((1 : Int32) <<< (nN (vN V) &&& 31)) - 1) &&& (a ^^^ (-1))
def muteS (V : FV) (A : AM) (x1 : Int32) : Int32 := if 0 ≤ x1 ∧ x1 ≤ 200 then muE V (muS V x1.toNatClampNeg A (nN (aO A))) else -1
theorem muteX_loop {V : FV} {A : AM} (hV : VOk V) {n : Nat} (hn : n ≤ 200) : ∀ (c k fu : Nat) (M : Mem) (A1 : AM) (B : Nat) (a : Int32), k + c = n → c < fu → B + c < 20000 → NX M V A → AOk V B A1 → RX V A1 M 82 → ∃ M1, lX11_mute_26 fu M (nN n) a (nN k) = some (M1, muE V (muS V c A1 a)) ∧ QX M M1 := by
  intro c
  induction c with
  | zero =>
    intro k fu M A1 B a hk hf hB h hA1 h1
    obtain ⟨fu, rfl⟩ := fu1 hf
    show ∃ M1, sX11_mute_26 (lX11_mute_26 fu) M (nN n) a (nN k) = some (M1, _) ∧ _
    unfold sX11_mute_26 sX11_mute_53 fX2_everybody
    rw [if_pos ((nN_le (by omega) (by omega)).mpr (by omega)), bI_some, h.1.1]
    exact ⟨M, rfl, QX.rfl⟩
  | succ c ih =>
    intro k fu M A1 B a hk hf hB h hA1 h1
    obtain ⟨fu, rfl⟩ := fu1 hf
    show ∃ M1, sX11_mute_26 (lX11_mute_26 fu) M (nN n) a (nN k) = some (M1, _) ∧ _
    unfold sX11_mute_26
    rw [if_neg (by rw [nN_le (by omega) (by omega)]; omega)]
    obtain ⟨M', g1, g2, g3⟩ := stepX hV h hA1 (by omega) h1
    rw [g1, bV_some, nN_succ, g3.1.2.2.1]
    obtain ⟨M1, k1, k2⟩ := ih (k + 1) fu M' _ (B + 1) (a ||| nN (aO (goesS V A1))) (by omega) (by omega) (by omega) (h.q g2) (goes_ok hV hA1) g3
    exact ⟨M1, k1, g2.tr k2⟩
theorem X_mute {M : Mem} {V : FV} {A : AM} (hV : VOk V) (hA : AOk V 9999 A) (h : NX M V A) (x1 : Int32) : ∃ M1, fX11_mute M x1 = some (M1, muteS V A x1) ∧ QX M M1 := by
  unfold fX11_mute muteS
  by_cases h1 : x1 < 0
  · rw [if_pos h1, if_neg (fun e => Int32.not_lt.mpr e.1 h1)]; exact ⟨M, rfl, QX.rfl⟩
  rw [if_neg h1]
  by_cases h2 : x1 ≤ 200
  · rw [if_pos h2, if_pos ⟨Int32.not_lt.mp h1, h2⟩]
    obtain ⟨n, hn, rfl⟩ := to_nN_le (m := 200) (by decide) (Int32.not_lt.mp h1) h2
    obtain ⟨M', g1, g2, g3⟩ := copyNow hV h
    rw [g1, bV_some, nN_cl (by omega), g3.1.2.2.1]
    obtain ⟨M1, k1, k2⟩ := muteX_loop hV hn n 0 fuel M' A 9999 (nN (aO A)) (by omega) (fuel_ge (by omega)) (by omega) (h.q g2) hA g3
    exact ⟨M1, k1, g2.tr k2⟩
  · rw [if_neg h2, if_neg (fun e => h2 e.2)]; exact ⟨M, rfl, QX.rfl⟩
theorem muteR_loop {V : FV} {A : AM} (hV : VOk V) {n : Nat} (hn : n ≤ 200) : ∀ (c k fu : Nat) (M : Mem) (A1 : AM) (B : Nat) (a : Int32), k + c = n → c < fu → NR M V A → AOk V B A1 → RR A1 (gM M 118) → ∃ M1, lX12_mute_31 fu M (nN n) a (nN k) = some (M1, muE V (muS V c A1 a)) ∧ QR M M1 := by
  intro c
  induction c with
  | zero =>
    intro k fu M A1 B a hk hf h hA1 h1
    obtain ⟨fu, rfl⟩ := fu1 hf
    show ∃ M1, sX12_mute_31 (lX12_mute_31 fu) M (nN n) a (nN k) = some (M1, _) ∧ _
    unfold sX12_mute_31 sX12_mute_59
    rw [if_pos ((nN_le (by omega) (by omega)).mpr (by omega)), h.1.1]
    exact ⟨M, rfl, QR.rfl⟩
  | succ c ih =>
    intro k fu M A1 B a hk hf h hA1 h1
    obtain ⟨fu, rfl⟩ := fu1 hf
    show ∃ M1, sX12_mute_31 (lX12_mute_31 fu) M (nN n) a (nN k) = some (M1, _) ∧ _
    unfold sX12_mute_31
    rw [if_neg (by rw [nN_le (by omega) (by omega)]; omega)]
    obtain ⟨M', g1, g2, g3⟩ := stepR hV h hA1 h1
    rw [g1, bV_some, nN_succ, g3.2.2.1]
    obtain ⟨M1, k1, k2⟩ := ih (k + 1) fu M' _ (B + 1) (a ||| nN (aO (goesS V A1))) (by omega) (by omega) (h.q g2) (goes_ok hV hA1) g3
    exact ⟨M1, k1, g2.tr k2⟩
theorem R_mute {M : Mem} {V : FV} {A : AM} (hV : VOk V) (hA : AOk V 9999 A) (h : NR M V A) (x1 : Int32) : ∃ M1, fX12_mute M x1 = some (M1, muteS V A x1) ∧ QR M M1 := by
  unfold fX12_mute muteS
  have q0 := QR.t M 0
  by_cases h1 : 0 ≤ x1 ∧ x1 ≤ 200
  · rw [in_y h1.1 h1.2, bI_some, if_neg (by decide), if_pos h1]
    obtain ⟨n, hn, rfl⟩ := to_nN_le (m := 200) (by decide) h1.1 h1.2
    obtain ⟨M', g1, g2, g3⟩ := asNowR (h.q q0)
    rw [g1, bV_some, nN_cl (by omega), g3.2.2.1]
    obtain ⟨M1, k1, k2⟩ := muteR_loop hV hn n 0 fuel M' A 9999 (nN (aO A)) (by omega) (fuel_ge (by omega)) ((h.q q0).q g2) hA g3
    exact ⟨M1, k1, q0.tr (g2.tr k2)⟩
  · rw [in_n h1, bI_some, if_pos rfl, if_neg h1]; exact ⟨_, rfl, q0⟩
