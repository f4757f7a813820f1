/-! ring, first, best -/
def rgS (V : FV) (A1 : AM) : AM := hushS V (aT A1 + 1, aW A1, aO A1, aS A1, aD A1)
abbrev alike (A A2 : AM) : Prop := aO A2 = aO A ∧ ∀ p, p < 6 → aS A2 p = aS A p
def riS (V : FV) (A : AM) : Nat → Nat → AM → Int32
  | 0, _, _ => -9
  | k + 1, n, A1 => if alike A (rgS V A1) then nN n else riS V A k (n + 1) (rgS V A1)
theorem rg_ok {V : FV} {B : Nat} {A : AM} (hV : VOk V) (hA : AOk V B A) : AOk V (B + 1) (rgS V A) := by
  refine hush_ok hV (Nat.succ_le_succ hA.1) hA.2.1 hA.2.2.1 (fun p hp => ?_) hA.2.2.2.2
  have := hA.2.2.2.1 p hp
  show aS A p < vK V p ∧ aS A p + 1 ≤ aT A + 1
  omega
theorem silX {V : FV} {A : AM} {M : Mem} {b B p : Nat} (hA : AOk V B A) (hV : VOk V) (h : RX V A M b) (hp : p < vN V) : fX4_silenceOf M b (nN p) = some (M, nN (aS A p)) := by
  have hn := hV.1
  unfold fX4_silenceOf
  rw [if_neg (Int32.not_lt.mpr (nN_nn (by omega))), if_pos (show nN p < 6 from (nN_lt (b := 6) (by omega) (by decide)).mpr (by omega)), if_pos ((nN_inB (by omega)).mpr (by omega)), nN_cl (by omega), h.1.1, h.1.2.2.2.1 p hp, nN_sub (by omega)]
  have := (hA.2.2.2.1 p hp).2
  rw [show aT A - (aT A - aS A p) = aS A p by omega]
theorem soundsX_loop {V : FV} {A A2 : AM} {M : Mem} {f b c B B2 : Nat} (hV : VOk V) (hF : FX M f V) (hA : AOk V B A) (hA2 : AOk V B2 A2) (h2 : RX V A2 M b) (h : RX V A M c) : ∀ (d k fu : Nat), k + d = vN V → d < fu → lX4_soundsLike_20 fu M b f c 1 (nN k) = some (M, if ∀ p, p < vN V → k ≤ p → aS A2 p = aS A p then 1 else 0) := by
  intro d
  have hn := hV.1
  induction d with
  | zero =>
    intro k fu hk hf
    obtain ⟨fu, rfl⟩ := fu1 hf
    show sX4_soundsLike_20 (lX4_soundsLike_20 fu) M b f c 1 (nN k) = _
    unfold sX4_soundsLike_20
    rw [hF.1, if_pos ((nN_le (by omega) (by omega)).mpr (by omega)), if_pos (Or.inr rfl), if_pos (fun p h1 h2 => by omega)]
  | succ d ih =>
    intro k fu hk hf
    obtain ⟨fu, rfl⟩ := fu1 hf
    show sX4_soundsLike_20 (lX4_soundsLike_20 fu) M b f c 1 (nN k) = _
    unfold sX4_soundsLike_20
    rw [hF.1, if_neg (by rw [nN_le (by omega) (by omega)]; omega), if_neg (by decide), silX hA2 hV h2 (by omega), bI_some, silX hA hV h (by omega), bI_some, nN_succ]
    have e1 := (hA2.s100 hV) k (by omega)
    have e2 := (hA.s100 hV) k (by omega)
    by_cases he : aS A2 k = aS A k
    · rw [if_pos (by rw [he]), ih (k + 1) fu (by omega) (by omega)]
      have : (∀ p, p < vN V → k + 1 ≤ p → aS A2 p = aS A p) ↔ (∀ p, p < vN V → k ≤ p → aS A2 p = aS A p) := by
        constructor
        · intro hh p h1 h2
          by_cases hpk : p = k
          · subst hpk; exact he
          · exact hh p h1 (by omega)
        · intro hh p h1 h2; exact hh p h1 (by omega)
      simp only [this]
    · rw [if_neg (fun e => he ((nN_eq (by omega) (by omega)).mp e)), if_neg (fun hh => he (hh k (by omega) (Nat.le_refl _)))]
      obtain ⟨fu, rfl⟩ : ∃ g, fu = g + 1 := ⟨fu - 1, by omega⟩
      show sX4_soundsLike_20 (lX4_soundsLike_20 fu) M b f c 0 (nN (k + 1)) = _
      unfold sX4_soundsLike_20
      split
      · rw [if_pos (Or.inl rfl)]
      · rw [if_pos rfl, if_pos (Or.inl rfl)]
theorem sounds0 {M : Mem} {f b c : Nat} : lX4_soundsLike_20 fuel M b f c 0 0 = some (M, 0) := by
  show sX4_soundsLike_20 (lX4_soundsLike_20 999) M b f c 0 0 = _
  unfold sX4_soundsLike_20
  split
  · rw [if_pos (Or.inl rfl)]
  · rw [if_pos rfl, if_pos (Or.inl rfl)]
theorem soundsX {V : FV} {A A2 : AM} {M : Mem} {f b c B B2 : Nat} (hV : VOk V) (hF : FX M f V) (hA : AOk V B A) (hA2 : AOk V B2 A2) (h2 : RX V A2 M b) (h : RX V A M c) : fX4_soundsLike M b f c = some (M, if alike A A2 then 1 else 0) := by
  unfold fX4_soundsLike
  have o1 := lt64 hV hA.2.2.1
  have o2 := lt64 hV hA2.2.2.1
  rw [h2.1.2.2.1, h.1.2.2.1]
  by_cases he : aO A2 = aO A
  · rw [if_pos (by rw [he]), show (0 : Int32) = nN 0 from rfl, soundsX_loop hV hF hA hA2 h2 h (vN V) 0 fuel (by omega) (fuel_ge (by have := hV.1; omega))]
    have : (∀ p, p < vN V → 0 ≤ p → aS A2 p = aS A p) ↔ alike A A2 := by
      constructor
      · intro hh
        refine ⟨he, fun p hp => ?_⟩
        rcases Nat.lt_or_ge p (vN V) with h1 | h1
        · exact hh p h1 (Nat.zero_le _)
        · rw [(hA2.2.2.2.2 p h1).1, (hA.2.2.2.2 p h1).1]
      · intro hh p hp _
        exact hh.2 p (by have := hV.1; omega)
    simp only [this]
    rfl
  · rw [if_neg (fun e => he ((nN_eq (by omega) (by omega)).mp e)), sounds0, if_neg (fun e => he e.1)]
theorem ringX_loop {V : FV} {A : AM} (hV : VOk V) (hA : AOk V 9999 A) : ∀ (k n fu : Nat) (M : Mem) (A1 : AM) (B : Nat), n + k = 401 → k < fu → B + k < 20000 → NX M V A → AOk V B A1 → RX V A1 M 82 → ∃ M1, lX11_ring_7 fu M (nN n) = some (M1, riS V A k n A1) ∧ QX M M1 := by
  intro k
  induction k with
  | zero =>
    intro n fu M A1 B hn hfu hB hF hA1 h
    obtain ⟨fu, rfl⟩ := fu1 hfu
    have hn : n = 401 := by omega
    subst hn
    exact ⟨M, by show sX11_ring_7 (lX11_ring_7 fu) M 401 = _; unfold sX11_ring_7; rw [if_pos (by decide)]; rfl, QX.rfl⟩
  | succ k ih =>
    intro n fu M A1 B hn hfu hB hF hA1 h
    obtain ⟨fu, rfl⟩ := fu1 hfu
    show ∃ M1, sX11_ring_7 (lX11_ring_7 fu) M (nN n) = some (M1, _) ∧ _
    unfold sX11_ring_7
    rw [if_neg (show ¬ (400 : Int32) < nN n from fun e => by have := (nN_lt (a := 400) (by decide) (by omega)).mp e; omega)]
    obtain ⟨M', g1, g2, g3⟩ := passX hF.1 hV (isFe_feB _) mo_82 hA1.2.2.2.1 (by have := hA1.1; omega) h
    have q1 := QX.f g2 (Or.inr ⟨by decide, by decide⟩)
    have hok := rg_ok hV hA1
    rw [g1, bV_some, soundsX hV (hF.q q1).1 hA hok g3 (hF.q q1).2, bI_some, nN_succ]
    rw [show riS V A (k + 1) n A1 = (if alike A (rgS V A1) then nN n else riS V A k (n + 1) (rgS V A1)) from rfl]
    by_cases he : alike A (rgS V A1)
    · rw [if_pos he, if_pos he, if_neg (by decide)]; exact ⟨M', rfl, q1⟩
    · rw [if_neg he, if_neg he, if_pos rfl]
      obtain ⟨M1, k1, k2⟩ := ih (n + 1) fu M' _ (B + 1) (by omega) (by omega) (by omega) (hF.q q1) hok g3
      exact ⟨M1, k1, q1.tr k2⟩
theorem X_ring {M : Mem} {V : FV} {A : AM} (hV : VOk V) (hA : AOk V 9999 A) (h : NX M V A) : ∃ M1, fX11_ring M = some (M1, riS V A 400 1 A) ∧ QX M M1 := by
  unfold fX11_ring
  obtain ⟨M', g1, g2, g3⟩ := copyNow hV h
  rw [g1, bV_some]
  obtain ⟨M1, k1, k2⟩ := ringX_loop hV hA 400 1 fuel M' A 9999 rfl (fuel_ge (by decide)) (by decide) (h.q g2) hA g3
  exact ⟨M1, k1, g2.tr k2⟩
theorem ringR_in {M : Mem} {rec : Mem → Int32 → Option (Mem × Int32)} {x1 : Int32} : ∀ (d k fu : Nat) (b b' : Bool), k + d = 9 → d < fu → (b' = true ↔ (b = true ∧ ∀ j, j < 9 → k ≤ j → gM M 118 j = gM M 117 j)) → lX12_ring_30 rec fu M x1 (oI b) (nN k) = sX12_ring_67 rec M x1 (oI b') := by
  intro d
  induction d with
  | zero =>
    intro k fu b b' hk hf hb
    obtain ⟨fu, rfl⟩ := fu1 hf
    have hk : k = 9 := by omega
    subst hk
    show sX12_ring_30 rec (lX12_ring_30 rec fu) M x1 (oI b) 9 = _
    unfold sX12_ring_30
    have : b' = b := by
      rw [Bool.eq_iff_iff, hb]
      exact ⟨fun h => h.1, fun h => ⟨h, fun j h1 h2 => by omega⟩⟩
    rw [if_pos (by decide), this]
  | succ d ih =>
    intro k fu b b' hk hf hb
    obtain ⟨fu, rfl⟩ := fu1 hf
    show sX12_ring_30 rec (lX12_ring_30 rec fu) M x1 (oI b) (nN k) = _
    unfold sX12_ring_30 sX12_ring_59
    rw [if_neg (show ¬ (9 : Int32) ≤ nN k from fun h => by have := (nN_le (a := 9) (by decide) (by omega)).mp h; omega), if_pos ((nN_inB (by omega)).mpr (by omega)), nN_cl (by omega), nN_succ, show (0 : Int32) = oI false from rfl, show (1 : Int32) = oI true from rfl]
    cases b with
    | false =>
      rw [if_pos rfl]
      exact ih (k + 1) fu false b' (by omega) (by omega) ⟨fun h => (by have := (hb.mp h).1; cases this), fun h => (by cases h.1)⟩
    | true =>
      rw [if_neg (by decide)]
      by_cases he : gM M 118 k = gM M 117 k
      · rw [if_pos he]
        refine ih (k + 1) fu true b' (by omega) (by omega) ?_
        rw [hb]
        constructor
        · rintro ⟨h1, h2⟩; exact ⟨h1, fun j h3 h4 => h2 j h3 (by omega)⟩
        · rintro ⟨h1, h2⟩
          refine ⟨h1, fun j h3 h4 => ?_⟩
          by_cases hjk : j = k
          · subst hjk; exact he
          · exact h2 j h3 (by omega)
      · rw [if_neg he]
        exact ih (k + 1) fu false b' (by omega) (by omega) ⟨fun h => absurd ((hb.mp h).2 k (by omega) (Nat.le_refl _)) he, fun h => (by cases h.1)⟩
theorem alike_R {V : FV} {A A2 : AM} {B B2 : Nat} {r r2 : Nat → Int32} (hV : VOk V) (hA : AOk V B A) (hA2 : AOk V B2 A2) (h : RR0 A r) (h2 : RR0 A2 r2) : (∀ j, j < 9 → 2 ≤ j → r2 j = r j) ↔ alike A A2 := by
  have o1 := lt64 hV hA.2.2.1
  have o2 := lt64 hV hA2.2.2.1
  have b1 : ∀ p, p < 6 → aS A p < 100 := fun p hp => by
    rcases Nat.lt_or_ge p (vN V) with h1 | h1
    · exact hA.s100 hV p h1
    · rw [(hA.2.2.2.2 p h1).1]; decide
  have b2 : ∀ p, p < 6 → aS A2 p < 100 := fun p hp => by
    rcases Nat.lt_or_ge p (vN V) with h1 | h1
    · exact hA2.s100 hV p h1
    · rw [(hA2.2.2.2.2 p h1).1]; decide
  constructor
  · intro hh
    refine ⟨?_, fun p hp => ?_⟩
    · have := hh 2 (by decide) (by decide)
      rw [h.2.1, h2.2.1] at this
      exact (nN_eq (by omega) (by omega)).mp this
    · have := hh (3 + p) (by omega) (by omega)
      rw [(h.2.2 p hp).1, (h2.2.2 p hp).1] at this
      have := b1 p hp
      have := b2 p hp
      exact (nN_eq (by omega) (by omega)).mp (by assumption)
  · rintro ⟨e1, e2⟩ j hj h2j
    by_cases hj2 : j = 2
    · subst hj2; rw [h.2.1, h2.2.1, e1]
    · obtain ⟨p, rfl⟩ : ∃ p, j = 3 + p := ⟨j - 3, by omega⟩
      rw [(h.2.2 p (by omega)).1, (h2.2.2 p (by omega)).1, e2 p (by omega)]
theorem RR0_t {V : FV} {A A' : AM} {r : Nat → Int32} (e : A'.2 = A.2) (h : RR0 (hushS V A) r) : RR0 (hushS V A') r := by
  obtain ⟨t, w, o, s, d⟩ := A
  obtain ⟨t', w', o', s', d'⟩ := A'
  cases e
  have hd : dueSet V (t', w, o, s, d) = dueSet V (t, w, o, s, d) := rfl
  unfold hushS at h ⊢
  rw [hd]
  split
  · rw [if_pos (by assumption)] at h; exact h
  · rw [if_neg (by assumption)] at h; exact h
theorem ringR_loop {V : FV} {A : AM} (hV : VOk V) (hA : AOk V 9999 A) : ∀ (k n fu : Nat) (M : Mem) (A1 : AM) (B : Nat), n + k = 401 → k < fu → NR M V A → AOk V B A1 → RR0 A1 (gM M 118) → ∃ M1, lX12_ring_11 fu M (nN n) = some (M1, riS V A k n A1) ∧ QR M M1 := by
  intro k
  induction k with
  | zero =>
    intro n fu M A1 B hn hfu hF hA1 h
    obtain ⟨fu, rfl⟩ := fu1 hfu
    have hn : n = 401 := by omega
    subst hn
    exact ⟨M, by show sX12_ring_11 (lX12_ring_11 fu) M 401 = _; unfold sX12_ring_11; rw [if_pos (by decide)]; rfl, QR.rfl⟩
  | succ k ih =>
    intro n fu M A1 B hn hfu hF hA1 h
    obtain ⟨fu, rfl⟩ := fu1 hfu
    show ∃ M1, sX12_ring_11 (lX12_ring_11 fu) M (nN n) = some (M1, _) ∧ _
    unfold sX12_ring_11
    rw [if_neg (show ¬ (400 : Int32) < nN n from fun e => by have := (nN_lt (a := 400) (by decide) (by omega)).mp e; omega)]
    obtain ⟨M', g1, g2, g3, g4⟩ := hushR hF.1 hV r_118 (hA1.s100 hV) h
    have q1 := QR.f g2 (Or.inl rfl)
    have hok := rg_ok hV hA1
    have g5 : RR0 (rgS V A1) (gM M' 118) := RR0_t (A := A1) rfl g4
    have hal := alike_R hV hA hok (hF.q q1).2.2 g5
    have hin := ringR_in (M := M') (rec := lX12_ring_11 fu) (x1 := nN n) 7 2 fuel true (decide (alike A (rgS V A1))) rfl (fuel_ge (by decide)) (by rw [decide_eq_true_iff, ← hal]; exact ⟨fun h => ⟨rfl, h⟩, fun h => h.2⟩)
    rw [g1, bV_some, show (1 : Int32) = oI true from rfl, show (2 : Int32) = nN 2 from rfl, hin]
    rw [show riS V A (k + 1) n A1 = (if alike A (rgS V A1) then nN n else riS V A k (n + 1) (rgS V A1)) from rfl]
    unfold sX12_ring_67
    by_cases he : alike A (rgS V A1)
    · rw [if_pos he, decide_eq_true he, if_neg (by decide)]; exact ⟨M', rfl, q1⟩
    · rw [if_neg he, decide_eq_false he, if_pos (show oI false = 0 from rfl), nN_succ]
      obtain ⟨M1, k1, k2⟩ := ih (n + 1) fu M' _ (B + 1) (by omega) (by omega) (hF.q q1) hok g5
      exact ⟨M1, k1, q1.tr k2⟩
theorem R_ring {M : Mem} {V : FV} {A : AM} (hV : VOk V) (hA : AOk V 9999 A) (h : NR M V A) : ∃ M1, fX12_ring M = some (M1, riS V A 400 1 A) ∧ QR M M1 := by
  unfold fX12_ring
  have q0 := QR.t M 0
  obtain ⟨M', g1, g2, g3⟩ := asNowR (h.q q0)
  rw [g1, bV_some]
  obtain ⟨M1, k1, k2⟩ := ringR_loop hV hA 400 1 fuel M' A 9999 rfl (fuel_ge (by decide)) ((h.q q0).q g2) hA g3.2
  exact ⟨M1, k1, q0.tr (g2.tr k2)⟩
/-! first -/
def firstS (V : FV) (A : AM) (x1 : Int32) : Int32 := if 0 ≤ x1 ∧ x1 ≤ 1 then (if vN V = 0 then -9 else if x1 = 0 then nN (dueT V A - aT A) else nN (whoF V (fun p => aT A - aS A p) (dueT V A))) else -1
theorem X_first {M : Mem} {V : FV} {A : AM} (hV : VOk V) (hA : AOk V 9999 A) (h : NX M V A) (x1 : Int32) : fX11_first M x1 = some (M, firstS V A x1) := by
  unfold fX11_first firstS
  have hn := hV.1
  have hT := hA.1
  by_cases h1 : x1 < 0
  · rw [if_pos h1, if_neg (fun e => Int32.not_lt.mpr e.1 h1)]
  rw [if_neg h1]
  by_cases h2 : x1 ≤ 1
  · rw [if_pos h2, if_pos (show 0 ≤ x1 ∧ x1 ≤ 1 from ⟨Int32.not_lt.mp h1, h2⟩), h.1.1]
    by_cases h0 : vN V = 0
    · rw [h0, if_pos (show nN 0 = 0 from rfl), if_pos rfl]
    · rw [if_neg h0, if_neg (show ¬ nN (vN V) = 0 from fun e => h0 ((nN_eq (b := 0) (by omega) (by decide)).mp e)), h.2.2, h.2.1.1]
      by_cases h3 : x1 = 0
      · have hd : aT A < dueT V A := (dueF_lt (V := V) (q := fun p => aT A - aS A p) (x := aT A) (by omega)).mpr (fun p hp => by have := hA.2.2.2.1 p hp; omega)
        rw [if_pos h3, if_pos h3, nN_sub (by omega)]
      · rw [if_neg h3, if_neg h3, whoX (q := fun p => aT A - aS A p) (x := dueT V A) h.1 hV (fun p hp => ⟨h.2.1.2.2.2.1 p hp, by omega⟩) (show dueT V A ≤ 1000000000 from dueF_le), bI_some]
  · rw [if_neg h2, if_neg (fun e => h2 e.2)]
def firG (V : FV) (A : AM) (p : Nat) (q : Nat × Nat) : Nat × Nat := if q.1 = 0 ∨ vK V p - aS A p < q.1 then (vK V p - aS A p, 2 ^ p) else if vK V p - aS A p = q.1 then (q.1, q.2 ||| 2 ^ p) else q
def lI (l : Nat) : Int32 := if l = 0 then -9 else nN l
theorem firstR_loop {V : FV} {A : AM} {M : Mem} (hV : VOk V) (hA : AOk V 9999 A) (h : NR M V A) {x1 : Int32} : ∀ (c k fu : Nat) (q : Nat × Nat), k + c = vN V → c < fu → q.1 ≤ 30 → lX12_first_24 fu M x1 (lI q.1) (nN q.2) (nN k) = sX12_first_115 M x1 (lI (fol (firG V A) c k q).1) (nN (fol (firG V A) c k q).2) := by
  intro c
  have hn := hV.1
  induction c with
  | zero =>
    intro k fu q hk hf hq
    obtain ⟨fu, rfl⟩ := fu1 hf
    show sX12_first_24 (lX12_first_24 fu) M x1 (lI q.1) (nN q.2) (nN k) = _
    unfold sX12_first_24
    rw [h.1.1, if_pos ((nN_le (by omega) (by omega)).mpr (by omega)), fol_0]
  | succ c ih =>
    intro k fu q hk hf hq
    obtain ⟨fu, rfl⟩ := fu1 hf
    show sX12_first_24 (lX12_first_24 fu) M x1 (lI q.1) (nN q.2) (nN k) = _
    unfold sX12_first_24 sX12_first_66 sX12_first_89
    obtain ⟨s1, s2⟩ := hA.2.2.2.1 k (by omega)
    have hk30 := (hV.2.2.2.1 k (by omega)).2.1.2
    rw [h.1.1, if_neg (by rw [nN_le (by omega) (by omega)]; omega), if_pos ((nN_inB (n := 12) (by omega)).mpr (by omega)), show (3 : Int32) + nN k = nN (3 + k) from nN_add 3 k, if_pos ((nN_inB (by omega)).mpr (by omega)), nN_cl (by omega), nN_cl (by omega), (h.1.2.2.2.1 k (by omega)).2.1, (h.2.2.2.2 k (by omega)).1, nN_sub (by omega), sh1 (by omega), nN_or, nN_succ, fol_s]
    have hits : vK V k - aS A k ≠ 0 := by omega
    have e0 : nN (vK V k - aS A k) = lI (vK V k - aS A k) := by unfold lI; rw [if_neg hits]
    by_cases hz : q.1 = 0
    · have hg : firG V A k q = (vK V k - aS A k, 2 ^ k) := by unfold firG; rw [if_pos (Or.inl hz)]
      rw [hg, hz, show lI 0 = -9 from rfl, if_pos rfl, if_pos rfl, e0]
      exact ih (k + 1) fu (vK V k - aS A k, 2 ^ k) (by omega) (by omega) (by show vK V k - aS A k ≤ 30; omega)
    · have eq1 : lI q.1 = nN q.1 := by unfold lI; rw [if_neg hz]
      rw [if_neg (show ¬ lI q.1 = -9 by rw [eq1]; exact ne9 (by omega)), if_neg (show ¬ lI q.1 = -9 by rw [eq1]; exact ne9 (by omega)), if_neg (show ¬ lI q.1 = -9 by rw [eq1]; exact ne9 (by omega)), eq1]
      by_cases hl : vK V k - aS A k < q.1
      · have hg : firG V A k q = (vK V k - aS A k, 2 ^ k) := by unfold firG; rw [if_pos (Or.inr hl)]
        rw [hg, if_neg (by rw [nN_le (by omega) (by omega)]; omega), if_neg (ne9 (by omega)), if_neg (by rw [nN_le (by omega) (by omega)]; omega), e0]
        exact ih (k + 1) fu (vK V k - aS A k, 2 ^ k) (by omega) (by omega) (by show vK V k - aS A k ≤ 30; omega)
      · rw [if_pos ((nN_le (by omega) (by omega)).mpr (by omega))]
        by_cases he : vK V k - aS A k = q.1
        · have hg : firG V A k q = (q.1, q.2 ||| 2 ^ k) := by unfold firG; rw [if_neg (by omega), if_pos he]
          rw [hg, if_pos (by rw [he]), if_pos ((nN_le (by omega) (by omega)).mpr (by omega)), ← eq1]
          exact ih (k + 1) fu (q.1, q.2 ||| 2 ^ k) (by omega) (by omega) hq
        · have hg : firG V A k q = q := by unfold firG; rw [if_neg (by omega), if_neg he]
          rw [hg, if_neg (fun e => he ((nN_eq (by omega) (by omega)).mp e)), if_pos ((nN_le (by omega) (by omega)).mpr (by omega)), ← eq1]
          exact ih (k + 1) fu q (by omega) (by omega) hq
def firI (V : FV) (A : AM) (k : Nat) (q : Nat × Nat) : Prop := (k = 0 ∧ q.1 = 0) ∨ (0 < k ∧ 1 ≤ q.1 ∧ (∀ p, p < k → q.1 ≤ vK V p - aS A p) ∧ (∃ p, p < k ∧ vK V p - aS A p = q.1) ∧ ∀ j, q.2.testBit j = decide (j < k ∧ vK V j - aS A j = q.1))
theorem firI_step {V : FV} {A : AM} {p : Nat} {q : Nat × Nat} (hp : 1 ≤ vK V p - aS A p) (h : firI V A p q) : firI V A (p + 1) (firG V A p q) := by
  unfold firG
  have hb : ∀ j, (2 ^ p).testBit j = decide (p = j) := fun j => Nat.testBit_two_pow
  rcases h with ⟨h1, h2⟩ | ⟨h1, h2, h3, h4, h5⟩
  · rw [if_pos (Or.inl h2)]
    subst h1
    refine Or.inr ⟨Nat.succ_pos _, hp, fun j hj => ?_, ⟨0, by omega, rfl⟩, fun j => ?_⟩
    · rw [show j = 0 by omega]; exact Nat.le_refl _
    · rw [hb j]
      by_cases hj : 0 = j
      · subst hj; simp
      · have : ¬ (j < 0 + 1 ∧ vK V j - aS A j = vK V 0 - aS A 0) := by omega
        rw [decide_eq_false this, decide_eq_false hj]
  · by_cases hl : vK V p - aS A p < q.1
    · rw [if_pos (Or.inr hl)]
      refine Or.inr ⟨Nat.succ_pos _, hp, fun j hj => ?_, ⟨p, by omega, rfl⟩, fun j => ?_⟩
      · show vK V p - aS A p ≤ _
        by_cases hjp : j = p
        · subst hjp; exact Nat.le_refl _
        · have := h3 j (by omega); omega
      · rw [hb j]
        by_cases hj : p = j
        · subst hj; simp
        · have : ¬ (j < p + 1 ∧ vK V j - aS A j = vK V p - aS A p) := by
            rintro ⟨a1, a2⟩
            have := h3 j (by omega)
            omega
          rw [decide_eq_false this, decide_eq_false hj]
    · rw [if_neg (by omega)]
      by_cases he : vK V p - aS A p = q.1
      · rw [if_pos he]
        refine Or.inr ⟨Nat.succ_pos _, h2, fun j hj => ?_, ⟨p, by omega, he⟩, fun j => ?_⟩
        · show q.1 ≤ _
          by_cases hjp : j = p
          · subst hjp; omega
          · exact h3 j (by omega)
        · show (q.2 ||| 2 ^ p).testBit j = _
          rw [Nat.testBit_or, h5 j, hb j]
          by_cases hj : p = j
          · subst hj; simp [he]
          · have : (j < p + 1 ∧ vK V j - aS A j = q.1) ↔ (j < p ∧ vK V j - aS A j = q.1) := by omega
            simp [hj, this]
      · rw [if_neg he]
        refine Or.inr ⟨Nat.succ_pos _, h2, fun j hj => ?_, ?_, fun j => ?_⟩
        · by_cases hjp : j = p
          · subst hjp; omega
          · exact h3 j (by omega)
        · obtain ⟨j, hj, e⟩ := h4
          exact ⟨j, by omega, e⟩
        · rw [h5 j]
          have : (j < p + 1 ∧ vK V j - aS A j = q.1) ↔ (j < p ∧ vK V j - aS A j = q.1) := by
            constructor
            · rintro ⟨a1, a2⟩
              refine ⟨?_, a2⟩
              rcases Nat.lt_or_ge j p with h | h
              · exact h
              · exact absurd (by rw [show p = j by omega]; exact a2) he
            · rintro ⟨a1, a2⟩; exact ⟨by omega, a2⟩
          simp only [this]
theorem R_first {M : Mem} {V : FV} {A : AM} (hV : VOk V) (hA : AOk V 9999 A) (h : NR M V A) (x1 : Int32) : ∃ M1, fX12_first M x1 = some (M1, firstS V A x1) ∧ QR M M1 := by
  unfold fX12_first firstS
  have q0 := QR.t M 0
  have hn := hV.1
  have hT := hA.1
  by_cases h1 : 0 ≤ x1 ∧ x1 ≤ 1
  · rw [in_y h1.1 h1.2, bI_some, if_neg (by decide), if_pos h1]
    refine ⟨sM M 109 0 0, ?_, q0⟩
    have hl : lX12_first_24 fuel (sM M 109 0 0) x1 (-9) 0 0 = sX12_first_115 (sM M 109 0 0) x1 (lI (fol (firG V A) (vN V) 0 (0, 0)).1) (nN (fol (firG V A) (vN V) 0 (0, 0)).2) := firstR_loop hV hA (h.q q0) (x1 := x1) (vN V) 0 fuel (0, 0) (by omega) (fuel_ge (by omega)) (by decide)
    rw [hl]
    have hi := fol_inv (g := firG V A) (P := firI V A) (vN V) 0 (0, 0) (Or.inl ⟨rfl, rfl⟩) (fun p q _ h2 hq => firI_step (by have := (hA.2.2.2.1 p (by omega)).1; omega) hq)
    rw [Nat.zero_add] at hi
    generalize fol (firG V A) (vN V) 0 (0, 0) = q at hi
    unfold sX12_first_115
    rcases hi with ⟨e1, e2⟩ | ⟨e1, e2, e3, e4, e5⟩
    · rw [e2, if_pos (show lI 0 = -9 from rfl), if_pos e1]
      rfl
    · have eq1 : lI q.1 = nN q.1 := by unfold lI; rw [if_neg (by omega)]
      obtain ⟨p0, hp0, ep0⟩ := e4
      have hq30 : q.1 ≤ 30 := by
        have := (hV.2.2.2.1 p0 hp0).2.1.2
        omega
      have hd : dueT V A = aT A + q.1 := by
        have a1 : aT A + q.1 - 1 < dueT V A := (dueF_lt (V := V) (q := fun p => aT A - aS A p) (x := aT A + q.1 - 1) (by omega)).mpr (fun p hp => by have := hA.2.2.2.1 p hp; have := e3 p hp; omega)
        have a2 : ¬ aT A + q.1 < dueT V A := fun e => by
          have := (dueF_lt (V := V) (q := fun p => aT A - aS A p) (x := aT A + q.1) (by omega)).mp e p0 hp0
          have := hA.2.2.2.1 p0 hp0
          omega
        omega
      rw [eq1, if_neg (ne9 (by omega)), if_neg (show ¬ vN V = 0 by omega)]
      by_cases h3 : x1 = 0
      · rw [if_pos h3, if_pos h3, hd]
        congr 3; omega
      · rw [if_neg h3, if_neg h3, hd]
        have : q.2 = whoF V (fun p => aT A - aS A p) (aT A + q.1) := by
          apply Nat.eq_of_testBit_eq
          intro j
          rw [e5 j]
          unfold whoF
          rw [due_fol (fun p => aT A - aS A p + vK V p ≤ aT A + q.1)]
          have : (j < vN V ∧ vK V j - aS A j = q.1) ↔ (0 ≤ j ∧ j < 0 + vN V ∧ aT A - aS A j + vK V j ≤ aT A + q.1) := by
            constructor
            · rintro ⟨b1, b2⟩
              have := hA.2.2.2.1 j b1
              exact ⟨Nat.zero_le _, by omega, by omega⟩
            · rintro ⟨-, b1, b2⟩
              have := hA.2.2.2.1 j (by omega)
              have := e3 j (by omega)
              exact ⟨by omega, by omega⟩
          simp only [this, Nat.zero_testBit, Bool.false_or]
        rw [this]
  · rw [in_n h1, bI_some, if_pos rfl, if_neg h1]; exact ⟨_, rfl, q0⟩
