/-! the reference's odds: all sets of sneezes -/
def spk (V : FV) (p : Nat) (A : AM) : AM := if vW V ≤ aW A then A else speakS V A (2 ^ p)
def vl (V : FV) (p x set : Nat) : Nat → Nat → AM → Nat → Nat
  | 0, _, A, o => if vW V ≤ aW A then o else 0
  | c + 1, k, A, o => if set.testBit k = true then vl V p x set c (k + 1) (goesS V (spk V p A)) (o * x) else vl V p x set c (k + 1) (goesS V A) (o * (10 - x))
theorem vl_shift {V : FV} {p x : Nat} (s : Nat) : ∀ (c k : Nat) (A : AM) (o : Nat), vl V p x s c (k + 1) A o = vl V p x (s / 2) c k A o := by
  intro c
  induction c with
  | zero => intro k A o; rfl
  | succ c ih =>
    intro k A o
    unfold vl
    rw [Nat.testBit_succ, ih, ih]
theorem sum_pair (f : Nat → Nat) : ∀ (m k a : Nat), fol (fun s a => a + f s) (2 * m) (2 * k) a = fol (fun s a => a + (f (2 * s) + f (2 * s + 1))) m k a := by
  intro m
  induction m with
  | zero => intro k a; rfl
  | succ m ih =>
    intro k a
    rw [show 2 * (m + 1) = 2 * m + 1 + 1 by omega, fol_s, fol_s, fol_s, show 2 * k + 1 + 1 = 2 * (k + 1) by omega, ih]
    congr 1
    omega
theorem sum_add (f g : Nat → Nat) : ∀ (m k a b : Nat), fol (fun s a => a + (f s + g s)) m k (a + b) = fol (fun s a => a + f s) m k a + fol (fun s a => a + g s) m k b := by
  intro m
  induction m with
  | zero => intro k a b; rfl
  | succ m ih =>
    intro k a b
    rw [fol_s, fol_s, fol_s, ← ih]
    congr 1
    omega
theorem sum_ways {V : FV} {p x : Nat} (hx : x ≤ 10) : ∀ (c : Nat) (A : AM) (o : Nat), fol (fun s a => a + vl V p x s c 0 A o) (2 ^ c) 0 0 = o * wS V p x c A := by
  intro c
  induction c with
  | zero =>
    intro A o
    show 0 + vl V p x 0 0 0 A o = _
    unfold vl wS
    by_cases h : vW V ≤ aW A
    · rw [if_pos h, if_pos h]; omega
    · rw [if_neg h, if_neg h, Nat.mul_zero]
  | succ c ih =>
    intro A o
    have h1 := sum_pair (fun s => vl V p x s (c + 1) 0 A o) (2 ^ c) 0 0
    rw [Nat.mul_zero] at h1
    rw [Nat.pow_succ, Nat.mul_comm, h1]
    have e0 : ∀ s, vl V p x (2 * s) (c + 1) 0 A o = vl V p x s c 0 (goesS V A) (o * (10 - x)) := fun s => by
      rw [show vl V p x (2 * s) (c + 1) 0 A o = (if (2 * s).testBit 0 = true then vl V p x (2 * s) c (0 + 1) (goesS V (spk V p A)) (o * x) else vl V p x (2 * s) c (0 + 1) (goesS V A) (o * (10 - x))) from rfl]
      rw [if_neg (by simp [Nat.testBit_zero]), vl_shift, show 2 * s / 2 = s by omega]
    have e1 : ∀ s, vl V p x (2 * s + 1) (c + 1) 0 A o = vl V p x s c 0 (goesS V (spk V p A)) (o * x) := fun s => by
      rw [show vl V p x (2 * s + 1) (c + 1) 0 A o = (if (2 * s + 1).testBit 0 = true then vl V p x (2 * s + 1) c (0 + 1) (goesS V (spk V p A)) (o * x) else vl V p x (2 * s + 1) c (0 + 1) (goesS V A) (o * (10 - x))) from rfl]
      rw [if_pos (by simp [Nat.testBit_zero]), vl_shift, show (2 * s + 1) / 2 = s by omega]
    simp only [e0, e1]
    have h2 := sum_add (fun s => vl V p x s c 0 (goesS V A) (o * (10 - x))) (fun s => vl V p x s c 0 (goesS V (spk V p A)) (o * x)) (2 ^ c) 0 0 0
    rw [Nat.add_zero] at h2
    rw [h2, ih, ih]
    by_cases h : vW V ≤ aW A
    · have g1 : goesS V A = A := by unfold goesS; rw [if_pos h]
      have g2 : spk V p A = A := by unfold spk; rw [if_pos h]
      rw [g2, g1, wS_over h, wS_over h, ← Nat.add_mul, ← Nat.mul_add, show 10 - x + x = 10 by omega, Nat.pow_succ, Nat.mul_assoc, Nat.mul_comm 10]
    · have g2 : spk V p A = speakS V A (2 ^ p) := by unfold spk; rw [if_neg h]
      rw [g2, show wS V p x (c + 1) A = x * wS V p x c (goesS V (speakS V A (2 ^ p))) + (10 - x) * wS V p x c (goesS V A) by conv => lhs; unfold wS; rw [if_neg h]]
      rw [Nat.mul_add, Nat.mul_assoc, Nat.mul_assoc, Nat.add_comm]
theorem sh1' {n : Nat} (h : n ≤ 6) : (1 : Int32) <<< (nN n &&& 31) = nN (2 ^ n) := (show ∀ p, p < 7 → (1 : Int32) <<< (nN p &&& 31) = nN (2 ^ p) by decide +kernel) n (by omega)
theorem spk_ok {V : FV} {B p : Nat} {A : AM} (hV : VOk V) (hA : AOk V B A) (hp : p < vN V) : AOk V B (spk V p A) := by
  unfold spk
  split
  · exact hA
  · exact speak_ok hV hA (pw_lt hp)
theorem oddsR_in {V : FV} {A : AM} {p x n set : Nat} (hV : VOk V) (hp : p < vN V) (hx : x ≤ 10) (hn : n ≤ 6) (hs : set < 64) {rec : Mem → Int32 → Int32 → Int32 → Int32 → Int32 → Int32 → Option (Mem × Int32)} {x4 x5 : Int32} : ∀ (c k fu : Nat) (M : Mem) (A1 : AM) (B o : Nat), k + c = n → c < fu → NR M V A → AOk V B A1 → RR A1 (gM M 118) → ∃ M1, lX12_odds_69 rec fu M (nN p) (nN x) (nN n) x4 x5 (nN set) (nN o) (nN k) = rec M1 (nN p) (nN x) (nN n) x4 (x5 + nN (vl V p x set c k A1 o)) (nN set + 1) ∧ QR M M1 := by
  have hn6 := hV.1
  intro c
  induction c with
  | zero =>
    intro k fu M A1 B o hk hf h hA1 h1
    obtain ⟨fu, rfl⟩ := fu1 hf
    refine ⟨M, ?_, QR.rfl⟩
    show sX12_odds_69 rec (lX12_odds_69 rec fu) M (nN p) (nN x) (nN n) x4 x5 (nN set) (nN o) (nN k) = _
    unfold sX12_odds_69 sX12_odds_152 sX12_odds_171 vl
    rw [if_pos ((nN_le (by omega) (by omega)).mpr (by omega)), overR h.1 hV h1.2.1 hA1.2.1, bI_some]
    by_cases ho : vW V ≤ aW A1
    · rw [if_pos ho, if_pos ho, if_neg (by decide)]
    · rw [if_neg ho, if_neg ho, if_pos rfl]
      rfl
  | succ c ih =>
    intro k fu M A1 B o hk hf h hA1 h1
    obtain ⟨fu, rfl⟩ := fu1 hf
    show ∃ M1, sX12_odds_69 rec (lX12_odds_69 rec fu) M (nN p) (nN x) (nN n) x4 x5 (nN set) (nN o) (nN k) = _ ∧ _
    unfold sX12_odds_69 sX12_odds_91 sX12_odds_108 sX12_odds_138
    rw [if_neg (by rw [nN_le (by omega) (by omega)]; omega), show ((nN set >>> (nN k &&& 31)) &&& 1) = bt (nN set) k from rfl, tb_nN hs (by omega)]
    have fin : ∀ (M' : Mem) (A2 : AM) (o2 : Nat), QR M M' → AOk V B A2 → RR A2 (gM M' 118) → ∃ M1, (bV (fX12_goes M' 118) fun M23 => lX12_odds_69 rec fu M23 (nN p) (nN x) (nN n) x4 x5 (nN set) (nN o2) (nN k + 1)) = rec M1 (nN p) (nN x) (nN n) x4 (x5 + nN (vl V p x set c (k + 1) (goesS V A2) o2)) (nN set + 1) ∧ QR M M1 := by
      intro M' A2 o2 q2 ok2 r2
      obtain ⟨M2, g1, g2, g3⟩ := stepR hV (h.q q2) ok2 r2
      rw [g1, bV_some, nN_succ]
      obtain ⟨M1, k1, k2⟩ := ih (k + 1) fu M2 _ (B + 1) o2 (by omega) (by omega) (h.q (q2.tr g2)) (goes_ok hV ok2) g3
      exact ⟨M1, k1, (q2.tr g2).tr k2⟩
    rw [show vl V p x set (c + 1) k A1 o = (if set.testBit k = true then vl V p x set c (k + 1) (goesS V (spk V p A1)) (o * x) else vl V p x set c (k + 1) (goesS V A1) (o * (10 - x))) from rfl]
    by_cases hb : set.testBit k = true
    · rw [if_pos hb, if_pos rfl, if_neg (by decide), if_neg (by decide), if_pos hb, overR h.1 hV h1.2.1 hA1.2.1, bI_some, nN_mul]
      by_cases ho : vW V ≤ aW A1
      · rw [if_pos ho, if_neg (by decide), show spk V p A1 = A1 by unfold spk; rw [if_pos ho]]
        exact fin M A1 (o * x) QR.rfl hA1 h1
      · rw [if_neg ho, if_pos rfl, show spk V p A1 = speakS V A1 (2 ^ p) by unfold spk; rw [if_neg ho], sh1 (by omega)]
        obtain ⟨M', g1, g2, g3, g4⟩ := speakR h.1 hV (lt64 hV (pw_lt hp)) r_118 h1.2
        rw [g1, bV_some]
        exact fin M' _ (o * x) (QR.f g2 (Or.inl rfl)) (speak_ok hV hA1 (pw_lt hp)) ⟨g3.trans h1.1, g4⟩
    · rw [if_neg hb, if_neg (by decide), if_pos rfl, if_pos rfl, if_neg hb, show (10 : Int32) - nN x = nN (10 - x) from nN_sub (a := 10) hx, nN_mul]
      exact fin M A1 (o * (10 - x)) QR.rfl hA1 h1
theorem oddsR_out {V : FV} {A : AM} {p x n : Nat} (hV : VOk V) (hA : AOk V 9999 A) (hp : p < vN V) (hx : x ≤ 10) (hn : n ≤ 6) {x4 : Int32} : ∀ (c s fu : Nat) (M : Mem) (up : Nat), s + c = 2 ^ n → c < fu → NR M V A → ∃ M1, lX12_odds_51 fu M (nN p) (nN x) (nN n) x4 (nN up) (nN s) = sX12_odds_180 M1 (nN n) x4 (nN (fol (fun s a => a + vl V p x s n 0 A 1) c s up)) ∧ QR M M1 := by
  have h64 : 2 ^ n ≤ 64 := show 2 ^ n ≤ 2 ^ 6 from Nat.pow_le_pow_right (by decide) hn
  intro c
  induction c with
  | zero =>
    intro s fu M up hs hf h
    obtain ⟨fu, rfl⟩ := fu1 hf
    refine ⟨M, ?_, QR.rfl⟩
    show sX12_odds_51 (lX12_odds_51 fu) M (nN p) (nN x) (nN n) x4 (nN up) (nN s) = _
    unfold sX12_odds_51
    rw [sh1' hn, if_pos ((nN_le (by omega) (by omega)).mpr (by omega)), fol_0]
  | succ c ih =>
    intro s fu M up hs hf h
    obtain ⟨fu, rfl⟩ := fu1 hf
    show ∃ M1, sX12_odds_51 (lX12_odds_51 fu) M (nN p) (nN x) (nN n) x4 (nN up) (nN s) = _ ∧ _
    unfold sX12_odds_51
    rw [sh1' hn, if_neg (by rw [nN_le (by omega) (by omega)]; omega)]
    obtain ⟨M', g1, g2, g3⟩ := asNowR h
    rw [g1, bV_some]
    obtain ⟨M1, k1, k2⟩ := oddsR_in (rec := lX12_odds_51 fu) (x4 := x4) (x5 := nN up) hV hp hx hn (set := s) (by omega) n 0 fuel M' A 9999 1 (by omega) (fuel_ge (by omega)) (h.q g2) hA g3
    rw [show (1 : Int32) = nN 1 from rfl, show (0 : Int32) = nN 0 from rfl, k1, nN_add, nN_succ, fol_s]
    have q1 := g2.tr k2
    obtain ⟨M2, e1, e2⟩ := ih (s + 1) fu M1 (up + vl V p x s n 0 A 1) (by omega) (by omega) (h.q q1)
    exact ⟨M2, e1, q1.tr e2⟩
theorem R_odds {M : Mem} {V : FV} {A : AM} (hV : VOk V) (hA : AOk V 9999 A) (h : NR M V A) (x1 x2 x3 x4 : Int32) : ∃ M1, fX12_odds M x1 x2 x3 x4 = some (M1, oddsS V A x1 x2 x3 x4) ∧ QR M M1 := by
  unfold fX12_odds oddsS
  have hn := hV.1
  have q0 := QR.t M 0
  rw [hasR hV (h.q q0).1, bI_some]
  by_cases h1 : ¬ (0 ≤ x1 ∧ x1 < nN (vN V))
  · rw [if_neg h1, if_pos rfl, if_neg (fun e => h1 e.1)]; exact ⟨_, rfl, q0⟩
  have h1 := Classical.not_not.mp h1
  rw [if_pos h1, if_neg (by decide)]
  by_cases h2 : ¬ (0 ≤ x2 ∧ x2 ≤ 10)
  · rw [in_n h2, bI_some, if_pos rfl, if_neg (fun e => h2 e.2.1)]; exact ⟨_, rfl, q0⟩
  have h2 := Classical.not_not.mp h2
  rw [in_y h2.1 h2.2, bI_some, if_neg (by decide)]
  by_cases h3 : ¬ (0 ≤ x3 ∧ x3 ≤ 6)
  · rw [in_n h3, bI_some, if_pos rfl, if_neg (fun e => h3 e.2.2.1)]; exact ⟨_, rfl, q0⟩
  have h3 := Classical.not_not.mp h3
  rw [in_y h3.1 h3.2, bI_some, if_neg (by decide)]
  by_cases h4 : ¬ (0 ≤ x4 ∧ x4 ≤ 1)
  · rw [in_n h4, bI_some, if_pos rfl, if_neg (fun e => h4 e.2.2.2)]; exact ⟨_, rfl, q0⟩
  have h4 := Classical.not_not.mp h4
  rw [in_y h4.1 h4.2, bI_some, if_neg (by decide), if_pos ⟨h1, h2, h3, h4⟩]
  obtain ⟨p, hp, rfl⟩ := to_nN_lt (by omega) h1.1 h1.2
  obtain ⟨x, hx, rfl⟩ := to_nN_le (m := 10) (by decide) h2.1 h2.2
  obtain ⟨n, hn6, rfl⟩ := to_nN_le (m := 6) (by decide) h3.1 h3.2
  have h64 : 2 ^ n ≤ 64 := show 2 ^ n ≤ 2 ^ 6 from Nat.pow_le_pow_right (by decide) hn6
  obtain ⟨M1, k1, k2⟩ := oddsR_out (x4 := x4) hV hA hp hx hn6 (2 ^ n) 0 fuel (sM M 109 0 0) 0 (by omega) (fuel_ge (by omega)) (h.q q0)
  rw [sum_ways hx, Nat.one_mul] at k1
  have hle := wS_le (V := V) (p := p) hx n A
  have h10 := ten_le hn6
  rw [nN_cl (by omega), nN_cl (by omega), nN_cl (by omega), show lX12_odds_51 fuel (sM M 109 0 0) (nN p) (nN x) (nN n) x4 0 0 = _ from k1]
  refine ⟨M1, ?_, q0.tr k2⟩
  unfold sX12_odds_180 oddsE
  have hpos : 0 < 10 ^ n := Nat.pow_pos (by decide)
  have hg : 0 < Nat.gcd (wS V p x n A) (10 ^ n) := Nat.gcd_pos_of_pos_right _ hpos
  have hgl : Nat.gcd (wS V p x n A) (10 ^ n) ≤ 1000000 := Nat.le_trans (Nat.gcd_le_right _ hpos) h10
  have hgz : ¬ nN (Nat.gcd (wS V p x n A) (10 ^ n)) = 0 := fun e => by have := (nN_eq (b := 0) (by omega) (by decide)).mp e; omega
  rw [powR hn6, bI_some, gcdR (by omega) h10, bI_some, if_pos hgz, if_pos hgz, nN_div (by omega) (by omega), nN_div (by omega) (by omega)]
  split <;> rfl
