/-! the class's Ferry (as told) and Moment -/
def FX (M : Mem) (f : Nat) (V : FV) : Prop := gM M f 0 = nN (vN V) ∧ gM M f 7 = nN (vW V) ∧ gM M f 4 = nN (vC V) ∧ (∀ p, p < vN V → gM M (f + 1) p = nN (vS V p) ∧ gM M (f + 2) p = nN (vK V p) ∧ gM M (f + 3) p = nN (vH V p)) ∧ (∀ o, o < 64 → gM M (f + 6) o = pI (pullS V o)) ∧ (∀ y, y < 200 → gM M (f + 7) y = nN (flowS V y))
def Fr3 (b : Nat) (M M' : Mem) : Prop := (∀ i, i ≠ b → i ≠ b + 1 → i ≠ b + 2 → gM M' i = gM M i) ∧ (∀ i, gL M' i = gL M i)
theorem Fr3.rfl {b : Nat} {M : Mem} : Fr3 b M M := ⟨fun _ _ _ _ => Eq.refl _, fun _ => Eq.refl _⟩
theorem Fr3.tr {b : Nat} {M M1 M2 : Mem} (h : Fr3 b M M1) (h2 : Fr3 b M1 M2) : Fr3 b M M2 := ⟨fun i h0 h1 h3 => (h2.1 i h0 h1 h3).trans (h.1 i h0 h1 h3), fun i => (h2.2 i).trans (h.2 i)⟩
theorem Fr3.s {b j k : Nat} {v : Int32} {M : Mem} (hj : j = b ∨ j = b + 1 ∨ j = b + 2) : Fr3 b M (sM M j k v) := ⟨fun i h0 h1 h2 => (sM_other M j k v i (by rcases hj with h | h | h <;> omega)).1, fun _ => Eq.refl _⟩
theorem FX.mv {M M' : Mem} {f : Nat} {V : FV} (h : FX M f V) (e : ∀ i, f ≤ i → i ≤ f + 7 → gM M' i = gM M i) : FX M' f V := by
  unfold FX
  rw [e f (by omega) (by omega), e (f + 1) (by omega) (by omega), e (f + 2) (by omega) (by omega), e (f + 3) (by omega) (by omega), e (f + 6) (by omega) (by omega), e (f + 7) (by omega) (by omega)]
  exact h
theorem mo_b {b : Nat} (hb : isMo b) : 19 ≤ b ∧ b ≤ 100 ∧ b % 1 = 0 := isMo_all (P := fun b => 19 ≤ b ∧ b ≤ 100 ∧ b % 1 = 0) (by decide) hb
theorem fe_b {f : Nat} (hf : isFe f) : f + 7 ≤ 18 ∧ 3 ≤ f := by rcases hf with rfl | rfl <;> decide
theorem FX.fr {M M' : Mem} {f b : Nat} {V : FV} (h : FX M f V) (hf : isFe f) (hb : isMo b) (e : Fr3 b M M') : FX M' f V := h.mv (fun i h1 h2 => by
  have := mo_b hb
  have := fe_b hf
  exact e.1 i (by omega) (by omega) (by omega))
theorem mo_apart {b c : Nat} (hb : isMo b) (hc : isMo c) (h : b ≠ c) : b + 2 < c ∨ c + 2 < b := by
  have := (show ∀ b ∈ isMoL, ∀ c ∈ isMoL, b ≠ c → b + 2 < c ∨ c + 2 < b by decide +kernel) b hb c hc h
  exact this
def dueF (V : FV) (q : Nat → Nat) : Nat := fol (fun p d => if q p + vK V p < d then q p + vK V p else d) (vN V) 0 1000000000
def dueT (V : FV) (A : AM) : Nat := dueF V (fun p => aT A - aS A p)
def RXs (V : FV) (A : AM) (M : Mem) (b : Nat) : Prop := gM M b 0 = nN (aT A) ∧ gM M b 1 = nN (aW A) ∧ gM M b 2 = nN (aO A) ∧ (∀ p, p < vN V → gM M (b + 1) p = nN (aT A - aS A p)) ∧ (∀ p, p < 6 → gM M (b + 2) p = nN (aD A p))
def RX (V : FV) (A : AM) (M : Mem) (b : Nat) : Prop := RXs V A M b ∧ gM M b 5 = nN (dueT V A)
theorem RXs.mv {V : FV} {A : AM} {M M' : Mem} {b : Nat} (h : RXs V A M b) (e0 : gM M' b = gM M b) (e1 : gM M' (b + 1) = gM M (b + 1)) (e2 : gM M' (b + 2) = gM M (b + 2)) : RXs V A M' b := by
  unfold RXs; rw [e0, e1, e2]; exact h
theorem RX.mv {V : FV} {A : AM} {M M' : Mem} {b : Nat} (h : RX V A M b) (e0 : gM M' b = gM M b) (e1 : gM M' (b + 1) = gM M (b + 1)) (e2 : gM M' (b + 2) = gM M (b + 2)) : RX V A M' b := by
  unfold RX RXs; rw [e0, e1, e2]; exact h
theorem RX.fr {V : FV} {A : AM} {M M' : Mem} {b c : Nat} (h : RX V A M b) (hb : isMo b) (hc : isMo c) (hbc : b ≠ c) (e : Fr3 c M M') : RX V A M' b := by
  have := mo_apart hb hc hbc
  exact h.mv (e.1 b (by omega) (by omega) (by omega)) (e.1 _ (by omega) (by omega) (by omega)) (e.1 _ (by omega) (by omega) (by omega))
theorem dueF_congr {V : FV} {q q' : Nat → Nat} (h : ∀ p, p < vN V → q p = q' p) : dueF V q = dueF V q' := by
  unfold dueF
  refine fol_congr _ _ _ (fun p _ h2 d => ?_)
  rw [h p (by omega)]
theorem due_lt_aux {V : FV} {q : Nat → Nat} {x : Nat} : ∀ (c k d : Nat), x < fol (fun p d => if q p + vK V p < d then q p + vK V p else d) c k d ↔ x < d ∧ ∀ p, k ≤ p → p < k + c → x < q p + vK V p
  | 0, k, d => by
    rw [fol_0]
    exact ⟨fun h => ⟨h, fun p h1 h2 => by omega⟩, fun h => h.1⟩
  | c + 1, k, d => by
    rw [fol_s, due_lt_aux c (k + 1)]
    constructor
    · rintro ⟨h1, h2⟩
      refine ⟨?_, fun p hp1 hp2 => ?_⟩
      · split at h1 <;> omega
      · by_cases hpk : p = k
        · subst hpk; split at h1 <;> omega
        · exact h2 p (by omega) (by omega)
    · rintro ⟨h1, h2⟩
      refine ⟨?_, fun p hp1 hp2 => h2 p (by omega) (by omega)⟩
      have := h2 k (Nat.le_refl _) (by omega)
      split <;> omega
theorem dueF_lt {V : FV} {q : Nat → Nat} {x : Nat} (hx : x < 1000000000) : x < dueF V q ↔ ∀ p, p < vN V → x < q p + vK V p := by
  unfold dueF
  rw [due_lt_aux]
  exact ⟨fun h p hp => h.2 p (Nat.zero_le _) (by omega), fun h => ⟨hx, fun p _ h2 => h p (by omega)⟩⟩
theorem dueF_le {V : FV} {q : Nat → Nat} : dueF V q ≤ 1000000000 := by
  unfold dueF
  exact fol_inv (P := fun _ d => d ≤ 1000000000) (vN V) 0 1000000000 (Nat.le_refl _) (fun p d _ _ hd => by
    show (if q p + vK V p < d then q p + vK V p else d) ≤ 1000000000
    split <;> omega)
section MOM
variable {V : FV} {f b : Nat}
theorem overX {M : Mem} {x : Nat} (hF : FX M f V) (hV : VOk V) (hx : x ≤ 400) : fX2_isOver M f (nN x) = some (M, if vW V ≤ x then 1 else 0) := by
  unfold fX2_isOver
  have h2 := hV.2.2.1.2
  rw [hF.2.1]
  by_cases h : vW V ≤ x
  · rw [if_neg (by rw [nN_lt (by omega) (by omega)]; omega), if_pos h]
  · rw [if_pos (by rw [nN_lt (by omega) (by omega)]; omega), if_neg h]
theorem pullX {M : Mem} {o : Nat} (hF : FX M f V) (ho : o < 64) : fX2_pullOf M f (nN o) = some (M, pI (pullS V o)) := by
  unfold fX2_pullOf
  rw [if_neg (show ¬ nN o < 0 from fun h => Nat.not_lt_zero _ ((nN_lt (b := 0) (by omega) (by decide)).mp h)), if_pos (show nN o < 64 from (nN_lt (b := 64) (by omega) (by decide)).mpr ho), if_pos ((nN_inB (by omega)).mpr ho), nN_cl (by omega), hF.2.2.2.2.1 o ho]
theorem flowX {M : Mem} {y : Nat} (hF : FX M f V) (hy : y ≤ 199) : fX2_flowAt M f (nN y) = some (M, nN (flowS V y)) := by
  unfold fX2_flowAt
  rw [if_pos (nN_nn (by omega)), if_neg (show ¬ (199 : Int32) < nN y from fun h => by have := (nN_lt (a := 199) (by decide) (by omega)).mp h; omega), if_pos ((nN_inB (by omega)).mpr (by omega)), nN_cl (by omega), hF.2.2.2.2.2 y (by omega)]
def whoF (V : FV) (q : Nat → Nat) (x : Nat) : Nat := fol (fun p m => if q p + vK V p ≤ x then m ||| 2 ^ p else m) (vN V) 0 0
theorem whoX_loop {M : Mem} (hF : FX M f V) (hV : VOk V) {q : Nat → Nat} (hq : ∀ p, p < vN V → gM M (b + 1) p = nN (q p) ∧ q p ≤ 20000) {x : Nat} (hx : x ≤ 1000000000) : ∀ (c k fu m : Nat), k + c = vN V → c < fu → lX4_whoIsDueAt_5 fu M b f (nN x) (nN m) (nN k) = some (M, nN (fol (fun p m => if q p + vK V p ≤ x then m ||| 2 ^ p else m) c k m)) := by
  intro c
  have hn := hV.1
  induction c with
  | zero =>
    intro k fu m hk hf
    obtain ⟨fu, rfl⟩ : ∃ g, fu = g + 1 := ⟨fu - 1, by omega⟩
    show sX4_whoIsDueAt_5 _ M b f (nN x) (nN m) (nN k) = _
    unfold sX4_whoIsDueAt_5
    rw [hF.1, if_pos ((nN_le (by omega) (by omega)).mpr (by omega))]
    rfl
  | succ c ih =>
    intro k fu m hk hf
    obtain ⟨fu, rfl⟩ : ∃ g, fu = g + 1 := ⟨fu - 1, by omega⟩
    show sX4_whoIsDueAt_5 (lX4_whoIsDueAt_5 fu) M b f (nN x) (nN m) (nN k) = _
    unfold sX4_whoIsDueAt_5
    have hk30 := (hV.2.2.2.1 k (by omega)).2.1.2
    have hqk := (hq k (by omega)).2
    rw [hF.1, if_neg (by rw [nN_le (by omega) (by omega)]; omega), if_neg (show ¬ (6 : Int32) ≤ nN k from fun h => by have := (nN_le (a := 6) (by decide) (by omega)).mp h; omega), if_pos ((nN_inB (by omega)).mpr (by omega)), nN_cl (by omega), (hq k (by omega)).1, (hF.2.2.2.1 k (by omega)).2.1, nN_add, nN_succ, fol_s, sh1 (by omega), nN_or]
    by_cases h : q k + vK V k ≤ x
    · rw [if_neg (by rw [nN_lt (by omega) (by omega)]; omega), if_pos h]
      exact ih (k + 1) fu _ (by omega) (by omega)
    · rw [if_pos (by rw [nN_lt (by omega) (by omega)]; omega), if_neg h]
      exact ih (k + 1) fu _ (by omega) (by omega)
theorem whoX {M : Mem} (hF : FX M f V) (hV : VOk V) {q : Nat → Nat} (hq : ∀ p, p < vN V → gM M (b + 1) p = nN (q p) ∧ q p ≤ 20000) {x : Nat} (hx : x ≤ 1000000000) : fX4_whoIsDueAt M b f (nN x) = some (M, nN (whoF V q x)) :=
  whoX_loop hF hV hq hx (vN V) 0 fuel 0 (by omega) (fuel_ge (by have := hV.1; omega))
theorem RXs.s5 {A : AM} {M : Mem} {v : Int32} (h : RXs V A M b) : RXs V A (sM M b 5 v) b :=
  ⟨by rw [row_o (by decide)]; exact h.1, by rw [row_o (by decide)]; exact h.2.1, by rw [row_o (by decide)]; exact h.2.2.1, fun p hp => by rw [g_si (by omega)]; exact h.2.2.2.1 p hp, fun p hp => by rw [g_si (by omega)]; exact h.2.2.2.2 p hp⟩
theorem speakX_loop (hV : VOk V) (hf : isFe f) (hb : isMo b) {A : AM} {m : Nat} (hm : m < 2 ^ vN V) (hA : aT A ≤ 20000) : ∀ (c k fu d : Nat) (M : Mem), k + c = vN V → c < fu → d ≤ 1000000000 → FX M f V → RXs V (speakK k A m) M b → gM M b 5 = nN d → ∃ M', lX4_speak_13 fu M b f (nN m) (nN k) = some M' ∧ Fr3 b M M' ∧ RXs V (speakS V A m) M' b ∧ gM M' b 5 = nN (fol (fun p d => if aT A - aS (speakS V A m) p + vK V p < d then aT A - aS (speakS V A m) p + vK V p else d) c k d) := by
  intro c
  have hn := hV.1
  have h64 := lt64 hV hm
  induction c with
  | zero =>
    intro k fu d M hk hfu hd hF h h5
    obtain ⟨fu, rfl⟩ : ∃ g, fu = g + 1 := ⟨fu - 1, by omega⟩
    have hk : k = vN V := by omega
    subst hk
    show ∃ M', sX4_speak_13 (lX4_speak_13 fu) M b f (nN m) (nN (vN V)) = some M' ∧ _
    unfold sX4_speak_13
    rw [hF.1, if_pos ((nN_le (by omega) (by omega)).mpr (Nat.le_refl _))]
    exact ⟨M, rfl, Fr3.rfl, h, h5⟩
  | succ c ih =>
    intro k fu d M hk hfu hd hF h h5
    obtain ⟨fu, rfl⟩ : ∃ g, fu = g + 1 := ⟨fu - 1, by omega⟩
    show ∃ M', sX4_speak_13 (lX4_speak_13 fu) M b f (nN m) (nN k) = some M' ∧ _
    have tail : ∀ M1 : Mem, Fr3 b M M1 → RXs V (speakK (k + 1) A m) M1 b → gM M1 b 5 = nN d → ∃ M', sX4_speak_55 (lX4_speak_13 fu) M1 b f (nN m) (nN k) = some M' ∧ Fr3 b M M' ∧ RXs V (speakS V A m) M' b ∧ gM M' b 5 = nN (fol (fun p d => if aT A - aS (speakS V A m) p + vK V p < d then aT A - aS (speakS V A m) p + vK V p else d) (c + 1) k d) := by
      intro M1 f1 h1 h51
      have hF1 := hF.fr hf hb f1
      have hk30 := (hV.2.2.2.1 k (by omega)).2.1.2
      have hq : aT (speakK (k + 1) A m) - aS (speakK (k + 1) A m) k = aT A - aS (speakS V A m) k := by
        show aT A - (if k < k + 1 ∧ m.testBit k = true then 0 else aS A k) = aT A - (if k < vN V ∧ m.testBit k = true then 0 else aS A k)
        have : (k < k + 1 ∧ m.testBit k = true) ↔ (k < vN V ∧ m.testBit k = true) := ⟨fun ⟨_, h2⟩ => ⟨by omega, h2⟩, fun ⟨_, h2⟩ => ⟨by omega, h2⟩⟩
        simp only [this]
      have h1k := h1.2.2.2.1 k (by omega)
      rw [hq] at h1k
      rw [fol_s]
      generalize hQ : aT A - aS (speakS V A m) k = Q at h1k ⊢
      have hQl : Q ≤ 20000 := by omega
      unfold sX4_speak_55 sX4_speak_89
      rw [if_pos ((nN_inB (by omega)).mpr (by omega)), nN_cl (by omega), h1k, (hF1.2.2.2.1 k (by omega)).2.1, nN_add, nN_succ, h51]
      by_cases hd2 : Q + vK V k < d
      · rw [if_neg (fun e => by have := (nN_le (by omega) (by omega)).mp e; omega), if_pos hd2]
        have f2 : Fr3 b M1 (sM M1 b 5 (nN (Q + vK V k))) := Fr3.s (Or.inl rfl)
        obtain ⟨M', g1, g2, g3, g4⟩ := ih (k + 1) fu (Q + vK V k) _ (by omega) (by omega) (by omega) (hF1.fr hf hb f2) h1.s5 row_h
        exact ⟨M', g1, (f1.tr f2).tr g2, g3, g4⟩
      · rw [if_pos ((nN_le (by omega) (by omega)).mpr (by omega)), if_neg hd2]
        have f2 : Fr3 b M1 (sM M1 b 5 (nN d)) := Fr3.s (Or.inl rfl)
        obtain ⟨M', g1, g2, g3, g4⟩ := ih (k + 1) fu d _ (by omega) (by omega) hd (hF1.fr hf hb f2) h1.s5 row_h
        exact ⟨M', g1, (f1.tr f2).tr g2, g3, g4⟩
    unfold sX4_speak_13
    rw [hF.1, if_neg (by rw [nN_le (by omega) (by omega)]; omega), if_neg (show ¬ (6 : Int32) ≤ nN k from fun h => by have := (nN_le (a := 6) (by decide) (by omega)).mp h; omega), show ((nN m >>> (nN k &&& 31)) &&& 1) = bt (nN m) k from rfl, tb_nN h64 (by omega)]
    by_cases hbit : m.testBit k = true
    · rw [if_pos hbit, if_neg (by decide), if_pos ((nN_inB (by omega)).mpr (by omega)), nN_cl (by omega)]
      have f1 : Fr3 b M (sM (sM M (b + 1) k (gM M b 0)) (b + 2) k (gM (sM M (b + 1) k (gM M b 0)) (b + 2) k + 1)) := (Fr3.s (Or.inr (Or.inl rfl))).tr (Fr3.s (Or.inr (Or.inr rfl)))
      exact tail _ f1 ⟨by rw [g_si (by omega), g_si (by omega)]; exact h.1, by rw [g_si (by omega), g_si (by omega)]; exact h.2.1, by rw [g_si (by omega), g_si (by omega)]; exact h.2.2.1, fun p hp => by
          rw [g_si (by omega)]
          show _ = nN (aT A - (if p < k + 1 ∧ m.testBit p = true then 0 else aS A p))
          by_cases hpk : p = k
          · subst hpk
            rw [row_h, if_pos ⟨by omega, hbit⟩]
            exact h.1
          · rw [row_o hpk, h.2.2.2.1 p hp]
            show nN (aT A - (if p < k ∧ m.testBit p = true then 0 else aS A p)) = _
            have : (p < k + 1 ∧ m.testBit p = true) ↔ (p < k ∧ m.testBit p = true) := ⟨fun ⟨h1, h2⟩ => ⟨by omega, h2⟩, fun ⟨h1, h2⟩ => ⟨by omega, h2⟩⟩
            simp only [this], fun p hp => by
          show _ = nN (if p < k + 1 ∧ m.testBit p = true then aD A p + 1 else aD A p)
          have h5 : gM M (b + 2) p = nN (if p < k ∧ m.testBit p = true then aD A p + 1 else aD A p) := h.2.2.2.2 p hp
          by_cases hpk : p = k
          · subst hpk
            rw [row_h, if_pos ⟨by omega, hbit⟩, g_si (by omega), h5, if_neg (by omega)]
            exact nN_succ _
          · rw [row_o hpk, g_si (by omega), h5]
            have : (p < k + 1 ∧ m.testBit p = true) ↔ (p < k ∧ m.testBit p = true) := ⟨fun ⟨h1, h2⟩ => ⟨by omega, h2⟩, fun ⟨h1, h2⟩ => ⟨by omega, h2⟩⟩
            simp only [this]⟩ (by rw [g_si (by omega), g_si (by omega)]; exact h5)
    · rw [if_neg hbit, if_pos rfl]
      have hs : speakK (k + 1) A m = speakK k A m := by
        have : ∀ p, (p < k + 1 ∧ m.testBit p = true) ↔ (p < k ∧ m.testBit p = true) := fun p => by
          constructor
          · rintro ⟨h1, h2⟩
            refine ⟨?_, h2⟩
            rcases Nat.lt_or_ge p k with h | h
            · exact h
            · rw [show p = k by omega] at h2; exact absurd h2 hbit
          · rintro ⟨h1, h2⟩; exact ⟨by omega, h2⟩
        unfold speakK
        simp only [this]
      exact tail M Fr3.rfl (by rw [hs]; exact h) h5
/-- whatever the oars were before -/
theorem speakX' {M : Mem} (hF : FX M f V) (hV : VOk V) (hf : isFe f) (hb : isMo b) {A : AM} {m : Nat} (hm : m < 2 ^ vN V) (hA : aT A ≤ 20000) (h0 : gM M b 0 = nN (aT A)) (h1 : gM M b 1 = nN (aW A)) (h3 : ∀ p, p < vN V → gM M (b + 1) p = nN (aT A - aS A p)) (h4 : ∀ p, p < 6 → gM M (b + 2) p = nN (aD A p)) : ∃ M', fX4_speak M b f (nN m) = some M' ∧ Fr3 b M M' ∧ RX V (speakS V A m) M' b := by
  have f1 : Fr3 b M (sM (sM M b 2 (nN m)) b 5 1000000000) := (Fr3.s (Or.inl rfl)).tr (Fr3.s (Or.inl rfl))
  have hr : RXs V (speakK 0 A m) (sM M b 2 (nN m)) b := ⟨by rw [row_o (by decide)]; exact h0, by rw [row_o (by decide)]; exact h1, by rw [row_h]; rfl, fun p hp => by
      rw [g_si (by omega), h3 p hp]
      show _ = nN (aT A - (if p < 0 ∧ m.testBit p = true then 0 else aS A p))
      rw [if_neg (by omega)], fun p hp => by
      rw [g_si (by omega), h4 p hp]
      show _ = nN (if p < 0 ∧ m.testBit p = true then aD A p + 1 else aD A p)
      rw [if_neg (by omega)]⟩
  obtain ⟨M', g1, g2, g3, g4⟩ := speakX_loop (A := A) hV hf hb hm hA (vN V) 0 fuel 1000000000 _ (by omega) (fuel_ge (by have := hV.1; omega)) (Nat.le_refl _) (hF.fr hf hb f1) hr.s5 row_h
  exact ⟨M', g1, f1.tr g2, g3, g4⟩
theorem speakX {M : Mem} (hF : FX M f V) (hV : VOk V) (hf : isFe f) (hb : isMo b) {A : AM} {m : Nat} (hm : m < 2 ^ vN V) (hA : aT A ≤ 20000) (h : RXs V A M b) : ∃ M', fX4_speak M b f (nN m) = some M' ∧ Fr3 b M M' ∧ RX V (speakS V A m) M' b :=
  speakX' hF hV hf hb hm hA h.1 h.2.1 h.2.2.2.1 h.2.2.2.2
/-- a beat's hush: A is the moment before, with its silences not yet counted on -/
theorem passX {M : Mem} (hF : FX M f V) (hV : VOk V) (hf : isFe f) (hb : isMo b) {A : AM} (hA : ∀ p, p < vN V → aS A p < vK V p ∧ aS A p ≤ aT A) (ht : aT A < 20000) (h : RX V A M b) : ∃ M', fX4_passTime M b f = some M' ∧ Fr3 b M M' ∧ RX V (hushS V (aT A + 1, aW A, aO A, aS A, aD A)) M' b := by
  unfold fX4_passTime
  obtain ⟨A1, hA1⟩ : ∃ A1 : AM, A1 = (aT A + 1, aW A, aO A, aS A, aD A) := ⟨_, rfl⟩
  rw [← hA1]
  have f1 : Fr3 b M (sM M b 0 (gM M b 0 + 1)) := Fr3.s (Or.inl rfl)
  have hF1 := hF.fr hf hb f1
  have hs : RXs V (incS V A1) (sM M b 0 (gM M b 0 + 1)) b := by
    rw [hA1]
    refine ⟨by rw [row_h, h.1.1, nN_succ]; rfl, by rw [row_o (by decide)]; exact h.1.2.1, by rw [row_o (by decide)]; exact h.1.2.2.1, fun p hp => ?_, fun p hp => ?_⟩
    · rw [g_si (by omega), h.1.2.2.2.1 p hp]
      show _ = nN (aT A + 1 - (if p < vN V then aS A p + 1 else aS A p))
      rw [if_pos hp]
      congr 1; omega
    · rw [g_si (by omega)]; exact h.1.2.2.2.2 p hp
  have hq : ∀ p, p < vN V → gM (sM M b 0 (gM M b 0 + 1)) (b + 1) p = nN (aT A - aS A p) ∧ aT A - aS A p ≤ 20000 := fun p hp => ⟨by rw [g_si (by omega)]; exact h.1.2.2.2.1 p hp, by omega⟩
  have hdue : dueT V (incS V A1) = dueT V A := by
    rw [hA1]
    refine dueF_congr (fun p hp => ?_)
    show aT A + 1 - (if p < vN V then aS A p + 1 else aS A p) = aT A - aS A p
    rw [if_pos hp]; omega
  have hset : dueSet V A1 = whoF V (fun p => aT A - aS A p) (aT A + 1) := by
    rw [hA1]
    refine fol_congr _ _ _ (fun p _ h2 m => ?_)
    have hp := hA p (by omega)
    have : (aS A p + 1 = vK V p) ↔ (aT A - aS A p + vK V p ≤ aT A + 1) := by omega
    show (if aS A p + 1 = vK V p then _ else _) = _
    simp only [this]
  have hlt : (aT A + 1 < dueT V A) ↔ dueSet V A1 = 0 := by
    rw [dueSet_z, show (aT A + 1 < dueT V A) = (aT A + 1 < dueF V (fun p => aT A - aS A p)) from rfl, dueF_lt (by omega), hA1]
    constructor
    · intro hh p hp he
      have := hh p hp
      have := hA p hp
      have he : aS A p + 1 = vK V p := he
      omega
    · intro hh p hp
      have := hh p hp
      have := hA p hp
      have hne : aS A p + 1 ≠ vK V p := hh p hp
      omega
  have hd1e9 : dueT V A ≤ 1000000000 := dueF_le
  rw [row_h, row_o (by decide), h.1.1, nN_succ, h.2]
  rw [h.1.1, nN_succ] at hs hF1 f1 hq
  unfold hushS
  by_cases hz : dueSet V A1 = 0
  · rw [if_pos ((nN_lt (by omega) (by omega)).mpr (hlt.mpr hz)), if_pos hz]
    refine ⟨_, rfl, f1, hs, ?_⟩
    rw [row_o (by decide), h.2, hdue]
  · rw [if_neg (fun e => hz (hlt.mp ((nN_lt (by omega) (by omega)).mp e))), if_neg hz, whoX hF1 hV hq (by omega), bI_some, ← hset]
    obtain ⟨M', g1, g2, g3⟩ := speakX hF1 hV hf hb (dueSet_lt V A1) (by rw [hA1]; show aT A + 1 ≤ 20000; omega) hs
    rw [g1, bV_some]
    exact ⟨M', rfl, f1.tr g2, g3⟩
theorem rowX {M : Mem} {B : Nat} (hF : FX M f V) (hV : VOk V) (hf : isFe f) (hb : isMo b) {A : AM} (hA : AOk V B A) (hB : B < 20000) (h : RX V A M b) : ∃ M', fX4_row M b f = some M' ∧ Fr3 b M M' ∧ RX V (goesS V A) M' b := by
  unfold fX4_row
  have hT := hA.1
  rw [h.1.2.1, overX hF hV (by have := hA.2.1; omega), bI_some]
  unfold goesS
  by_cases ho : vW V ≤ aW A
  · rw [if_pos ho, if_pos ho, if_neg (by decide)]
    exact ⟨M, rfl, Fr3.rfl, h⟩
  · rw [if_neg ho, if_neg ho, if_pos rfl, h.1.2.2.1, pullX hF (lt64 hV hA.2.2.1), bI_some]
    have hw := hV.2.2.1.2
    have key : ∀ M1 : Mem, Fr3 b M M1 → RX V (aT A, toS V A, aO A, aS A, aD A) M1 b → ∃ M', sX4_row_50 M1 b f = some M' ∧ Fr3 b M M' ∧ RX V (beatS V A) M' b := by
      intro M1 f1 h1
      unfold sX4_row_50
      obtain ⟨M', g1, g2, g3⟩ := passX (hF.fr hf hb f1) hV hf hb (A := (aT A, toS V A, aO A, aS A, aD A)) hA.2.2.2.1 (by show aT A < 20000; omega) h1
      rw [g1, bV_some]
      exact ⟨M', rfl, f1.tr g2, g3⟩
    cases hp : pullS V (aO A) with
    | none =>
      rw [show pI none = -9 from rfl, if_pos rfl]
      have : toS V A = aW A := by unfold toS; rw [hp]
      exact key M Fr3.rfl (by rw [this]; exact h)
    | some s =>
      have hs := pull_le V hV _ hp
      have hfl := flow_le V hV (aW A)
      have hn9 : ¬ pI (some s) = -9 := by
        show ¬ nN s = -9
        rw [← Int32.toInt_inj, nN_toInt (by omega)]
        have : (-9 : Int32).toInt = -9 := by decide
        omega
      rw [if_neg hn9, h.1.2.1, flowX hF (by omega), bI_some]
      have hto : toS V A = aW A + s - flowS V (aW A) := by unfold toS; rw [hp]
      have e : (if (0 : Int32) < nN (aW A) + pI (some s) - nN (flowS V (aW A)) then nN (aW A) + pI (some s) - nN (flowS V (aW A)) else 0) = nN (toS V A) := by
        rw [show pI (some s) = nN s from rfl, nN_add, hto, ← sub_max (a := aW A + s) (b := flowS V (aW A)) (by omega) (by omega)]
        generalize nN (aW A + s) - nN (flowS V (aW A)) = z
        by_cases h1 : 0 ≤ z
        · rw [if_pos h1]
          by_cases h2 : 0 < z
          · rw [if_pos h2]
          · rw [if_neg h2]; grind
        · rw [if_neg h1, if_neg (fun h2 => h1 (Int32.le_of_lt h2))]
      rw [e]
      refine key _ (Fr3.s (Or.inl rfl)) ⟨⟨by rw [row_o (by decide)]; exact h.1.1, by rw [row_h]; rfl, by rw [row_o (by decide)]; exact h.1.2.2.1, fun p hp => ?_, fun p hp => ?_⟩, ?_⟩
      · rw [g_si (by omega)]; exact h.1.2.2.2.1 p hp
      · rw [g_si (by omega)]; exact h.1.2.2.2.2 p hp
      · rw [row_o (by decide)]; exact h.2
end MOM
