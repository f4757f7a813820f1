/-! reading a told ferry: how the reference reads it -/
def FrW (M M' : Mem) : Prop := (∀ i, i ≠ 109 → gM M' i = gM M i) ∧ (∀ k, k ≠ 4 → k ≠ 5 → k ≠ 6 → k ≠ 7 → k ≠ 8 → gM M' 109 k = gM M 109 k) ∧ ∀ i, gL M' i = gL M i
def FrV (M M' : Mem) : Prop := (∀ i, i ≠ 109 → (i < 111 ∨ 117 ≤ i) → gM M' i = gM M i) ∧ (∀ k, k = 3 ∨ k = 21 ∨ k = 24 → gM M' 109 k = gM M 109 k) ∧ (∀ i, gL M' i = gL M i) ∧ (∀ k, k < 3 → gM M' 111 k = gM M 111 k) ∧ (∀ p, p < 6 → gM M' 112 p = gM M 112 p ∧ gM M' 113 p = gM M 113 p ∧ gM M' 114 p = gM M 114 p) ∧ (∀ k, k < 4 → gM M' 115 k = gM M 115 k ∧ gM M' 116 k = gM M 116 k)
theorem FrW.rfl {M : Mem} : FrW M M := ⟨fun _ _ => Eq.refl _, fun _ _ _ _ _ _ => Eq.refl _, fun _ => Eq.refl _⟩
theorem FrW.tr {M M1 M2 : Mem} (h : FrW M M1) (h2 : FrW M1 M2) : FrW M M2 := ⟨fun i hi => (h2.1 i hi).trans (h.1 i hi), fun k a b c d e => (h2.2.1 k a b c d e).trans (h.2.1 k a b c d e), fun i => (h2.2.2 i).trans (h.2.2 i)⟩
theorem FrU.w {M M' : Mem} (h : FrU M M') : FrW M M' := ⟨h.1, fun k a b c d _ => h.2.1 k a b c d, h.2.2⟩
theorem FrW.s {M : Mem} {v : Int32} : FrW M (sM M 109 8 v) := ⟨fun i hi => (sM_other _ 109 8 v i hi).1, fun j a b c d e => row_o e, fun _ => Eq.refl _⟩
theorem FrV.rfl {M : Mem} : FrV M M := ⟨fun _ _ _ => Eq.refl _, fun _ _ => Eq.refl _, fun _ => Eq.refl _, fun _ _ => Eq.refl _, fun _ _ => ⟨Eq.refl _, Eq.refl _, Eq.refl _⟩, fun _ _ => ⟨Eq.refl _, Eq.refl _⟩⟩
theorem FrV.tr {M M1 M2 : Mem} (h : FrV M M1) (g : FrV M1 M2) : FrV M M2 := ⟨fun i a b => (g.1 i a b).trans (h.1 i a b), fun k a => (g.2.1 k a).trans (h.2.1 k a), fun i => (g.2.2.1 i).trans (h.2.2.1 i), fun k a => (g.2.2.2.1 k a).trans (h.2.2.2.1 k a), fun p a => ⟨(g.2.2.2.2.1 p a).1.trans (h.2.2.2.2.1 p a).1, (g.2.2.2.2.1 p a).2.1.trans (h.2.2.2.2.1 p a).2.1, (g.2.2.2.2.1 p a).2.2.trans (h.2.2.2.2.1 p a).2.2⟩, fun k a => ⟨(g.2.2.2.2.2 k a).1.trans (h.2.2.2.2.2 k a).1, (g.2.2.2.2.2 k a).2.trans (h.2.2.2.2.2 k a).2⟩⟩
theorem FrW.v {M M' : Mem} (h : FrW M M') : FrV M M' := ⟨fun i a _ => h.1 i a, fun k a => h.2.1 k (by omega) (by omega) (by omega) (by omega) (by omega), h.2.2, fun k _ => by rw [h.1 111 (by decide)], fun p _ => by rw [h.1 112 (by decide), h.1 113 (by decide), h.1 114 (by decide)]; exact ⟨Eq.refl _, Eq.refl _, Eq.refl _⟩, fun k _ => by rw [h.1 115 (by decide), h.1 116 (by decide)]; exact ⟨Eq.refl _, Eq.refl _⟩⟩
theorem FrV.s {M : Mem} {i k : Nat} {v : Int32} (h : (i = 109 ∧ k = 15) ∨ (i = 111 ∧ 3 ≤ k) ∨ ((i = 112 ∨ i = 113 ∨ i = 114) ∧ 6 ≤ k) ∨ ((i = 115 ∨ i = 116) ∧ 4 ≤ k)) : FrV M (sM M i k v) :=
  ⟨fun j a b => (sM_other _ i k v j (by omega)).1, fun j a => by rw [g_s, if_neg (by omega)], fun _ => Eq.refl _, fun j a => by rw [g_s, if_neg (by omega)], fun p a => ⟨by rw [g_s, if_neg (by omega)], by rw [g_s, if_neg (by omega)], by rw [g_s, if_neg (by omega)]⟩, fun j a => ⟨by rw [g_s, if_neg (by omega)], by rw [g_s, if_neg (by omega)]⟩⟩
def BR (M : Mem) (V : FV) (wt : Nat) : Prop := gM M 111 3 = nN (vN V) ∧ gM M 111 4 = nN (vW V) ∧ gM M 111 5 = nN (vC V) ∧ gM M 109 15 = nN wt ∧ (∀ p, p < vN V → gM M 112 (6 + p) = nN (vS V p) ∧ gM M 113 (6 + p) = nN (vK V p) ∧ gM M 114 (6 + p) = nN (vH V p)) ∧ (∀ k, k < vC V → gM M 115 (4 + k) = nN (vY V k) ∧ gM M 116 (4 + k) = nN (vF V k))
theorem BR.w {M M' : Mem} {V : FV} {wt : Nat} (h : BR M V wt) (e : FrW M M') : BR M' V wt := by
  unfold BR
  rw [e.1 111 (by decide), e.1 112 (by decide), e.1 113 (by decide), e.1 114 (by decide), e.1 115 (by decide), e.1 116 (by decide), e.2.1 15 (by decide) (by decide) (by decide) (by decide) (by decide)]
  exact h
theorem TR.w {M M' : Mem} {l : Nat} {x : Nat → Nat} (h : TR M l x) (e : FrW M M') : TR M' l x := h.mv (e.2.1 3 (by decide) (by decide) (by decide) (by decide) (by decide)) (e.1 110 (by decide))
theorem TR.v {M M' : Mem} {l : Nat} {x : Nat → Nat} (h : TR M l x) (e : FrV M M') : TR M' l x := h.mv (e.2.1 3 (by decide)) (e.1 110 (by decide) (by decide))
abbrev TE : Type := Sum Nat TK
def StR (l : Nat) (M : Mem) : TE → Prop
  | .inl s => gM M 109 8 = nN s ∧ s ≤ 200
  | .inr t => gM M 109 8 = -1 ∧ TKR M t ∧ tS t ≤ tN t ∧ tN t ≤ l ∧ tK t ≤ 4 ∧ (tK t = 1 → tV t = 112 ∨ tV t = 99 ∨ tV t = 119)
theorem StR.o {l : Nat} {M M' : Mem} {e : TE} (h : StR l M e) (h9 : ∀ k, k ≠ 15 → gM M' 109 k = gM M 109 k) : StR l M' e := by
  cases e with
  | inl s => exact ⟨(h9 8 (by decide)).trans h.1, h.2⟩
  | inr t => exact ⟨(h9 8 (by decide)).trans h.1, ⟨(h9 6 (by decide)).trans h.2.1.1, (h9 4 (by decide)).trans h.2.1.2.1, (h9 5 (by decide)).trans h.2.1.2.2.1, fun a => (h9 7 (by decide)).trans (h.2.1.2.2.2.1 a), h.2.1.2.2.2.2⟩, h.2.2⟩
theorem wellY {M : Mem} (h : gM M 109 8 = -1) : fX12_isWell M = some (M, 1) := by
  unfold fX12_isWell; rw [h, if_neg (by decide)]
theorem wellN {M : Mem} {s : Nat} (h : gM M 109 8 = nN s) (hs : s ≤ 200) : fX12_isWell M = some (M, 0) := by
  unfold fX12_isWell; rw [h, if_pos (nN_nn (by omega))]
section READR
variable {l : Nat} {x : Nat → Nat}
theorem takB {M : Mem} {s : Nat} {b : Int32} (h : StR l M (.inl s)) : fX12_takes M b = some (M, 0) := by
  unfold fX12_takes; rw [wellN h.1 h.2, bI_some, if_pos rfl]
theorem takN {M : Mem} {t : TK} (hl : l ≤ 200) (h : StR l M (.inr t)) : fX12_takes M 0 = some (sM M 109 8 (nN (tS t)), 0) ∧ StR l (sM M 109 8 (nN (tS t))) (.inl (tS t)) := by
  refine ⟨?_, row_h, by have := h.2.2; omega⟩
  unfold fX12_takes; rw [wellY h.1, bI_some, if_neg (by decide), if_pos rfl, h.2.1.1]
theorem takY {M : Mem} {t : TK} (hl : l ≤ 200) (hx : ∀ i, i < l → x i ≤ 255) (hT : TR M l x) (h : StR l M (.inr t)) (hk : tK t ≠ 0) : ∃ M1, fX12_takes M 1 = some (M1, nN (tV t)) ∧ FrW M M1 ∧ StR l M1 (.inr (nx l x t)) := by
  obtain ⟨M1, a1, a2, a3⟩ := tokR hl hx hT h.2.2.2.1 h.2.1.2.1
  have b := tk_b l x (tN t) h.2.2.2.1
  refine ⟨M1, ?_, a2.w, (a2.2.1 8 (by decide) (by decide) (by decide) (by decide)).trans h.1, a3, b.2.1, b.2.2.1, b.2.2.2.2.1, b.2.2.2.2.2⟩
  unfold fX12_takes; rw [wellY h.1, bI_some, if_neg (by decide), if_neg (by decide), a1, bV_some, h.2.1.2.2.2.1 hk]
def numE (l : Nat) (x : Nat → Nat) (lo hi : Nat) : TE → TE × Nat
  | .inl s => (.inl s, 0)
  | .inr t => if okN t lo hi then (.inr (nx l x t), tV t) else (.inl (tS t), 0)
theorem numE_y {t : TK} {lo hi : Nat} (h : okN t lo hi) : numE l x lo hi (.inr t) = (.inr (nx l x t), tV t) := if_pos h
theorem numE_n {t : TK} {lo hi : Nat} (h : ¬ okN t lo hi) : numE l x lo hi (.inr t) = (.inl (tS t), 0) := if_neg h
theorem numR {M : Mem} {e : TE} (hl : l ≤ 200) (hx : ∀ i, i < l → x i ≤ 255) (hT : TR M l x) (h : StR l M e) (lo hi : Nat) (hlo : lo ≤ 1000) (hhi : hi ≤ 1000) : ∃ M1, fX12_number M (nN lo) (nN hi) = some (M1, nN (numE l x lo hi e).2) ∧ FrW M M1 ∧ StR l M1 (numE l x lo hi e).1 := by
  unfold fX12_number sX12_number_25 sX12_number_26
  cases e with
  | inl s =>
    refine ⟨M, ?_, FrW.rfl, h⟩
    rw [takB h, bI_some]
    have hin : ∀ a b c, bI (fX12_in M a b c) (fun M2 r3 => if r3 = 0 then bI (fX12_takes M2 0) (fun M5 r6 => some (M5, r6)) else bI (fX12_takes M2 1) (fun M5 r6 => some (M5, r6))) = some (M, 0) := fun a b c => by
      by_cases hc : b ≤ a ∧ a ≤ c
      · rw [in_y hc.1 hc.2, bI_some, if_neg (by decide), takB h, bI_some]
      · rw [in_n hc, bI_some, if_pos rfl, takB h, bI_some]
    rw [hin]
    split <;> rfl
  | inr t =>
    have hk := h.2.1.2.2.1
    rw [hk]
    have no : ¬ okN t lo hi → ∃ M1, bI (fX12_takes M 0) (fun M5 r6 => some (M5, r6)) = some (M1, nN (numE l x lo hi (.inr t)).2) ∧ FrW M M1 ∧ StR l M1 (numE l x lo hi (.inr t)).1 := fun hn => by
      have a := takN hl h
      rw [a.1, bI_some]
      rw [numE_n hn]
      exact ⟨_, rfl, FrW.s, a.2⟩
    by_cases k2 : tK t = 2
    · rw [if_pos (by rw [k2]; rfl), h.2.1.2.2.2.1 (by omega), inR (by have := h.2.1.2.2.2.2 k2; omega) (by omega) (by omega), bI_some]
      by_cases o : lo ≤ tV t ∧ tV t ≤ hi
      · rw [if_pos o, if_neg (by decide)]
        obtain ⟨M1, a1, a2, a3⟩ := takY hl hx hT h (by omega)
        rw [a1, bI_some]
        rw [numE_y ⟨k2, o⟩]
        exact ⟨M1, rfl, a2, a3⟩
      · rw [if_neg o, if_pos rfl]
        exact no (fun e => o e.2)
    · rw [if_neg (show ¬ nN (tK t) = 2 from fun e => k2 ((nN_eq (b := 2) (by have := h.2.2.2.2.1; omega) (by decide)).mp e))]
      exact no (fun e => k2 e.1)
theorem newR0 {M : Mem} {V : FV} {wt : Nat} (hF : BR M V wt) (hV : VOk V) : ∀ (c k fu : Nat), k + c = vC V → c < fu → lX12_isNewYard_4 fu M 0 (nN k) = some (M, 0) := by
  intro c
  have hc := hV.2.1
  induction c with
  | zero =>
    intro k fu hk hf
    obtain ⟨fu, rfl⟩ := fu1 hf
    show sX12_isNewYard_4 _ M 0 (nN k) = _
    unfold sX12_isNewYard_4
    rw [hF.2.2.1, if_pos ((nN_le (by omega) (by omega)).mpr (by omega)), if_pos (Or.inl rfl)]
  | succ c ih =>
    intro k fu hk hf
    obtain ⟨fu, rfl⟩ := fu1 hf
    show sX12_isNewYard_4 (lX12_isNewYard_4 fu) M 0 (nN k) = _
    unfold sX12_isNewYard_4 sX12_isNewYard_37
    rw [hF.2.2.1, if_neg (by rw [nN_le (by omega) (by omega)]; omega), if_pos rfl, nN_succ]
    exact ih (k + 1) fu (by omega) (by omega)
theorem newR_loop {M : Mem} {V : FV} {wt y : Nat} (hF : BR M V wt) (hV : VOk V) (hy : y ≤ 1000) (h7 : gM M 109 7 = nN y) : ∀ (c k fu : Nat), k + c = vC V → c < fu → (∀ j, j < k → vY V j ≠ y) → lX12_isNewYard_4 fu M 1 (nN k) = some (M, if newY V y then 1 else 0) := by
  intro c
  have hc := hV.2.1
  induction c with
  | zero =>
    intro k fu hk hf h
    obtain ⟨fu, rfl⟩ := fu1 hf
    show sX12_isNewYard_4 _ M 1 (nN k) = _
    unfold sX12_isNewYard_4
    rw [hF.2.2.1, if_pos ((nN_le (by omega) (by omega)).mpr (by omega)), if_pos (Or.inr rfl), if_pos (show newY V y from fun j hj => h j (by omega))]
  | succ c ih =>
    intro k fu hk hf h
    obtain ⟨fu, rfl⟩ := fu1 hf
    show sX12_isNewYard_4 (lX12_isNewYard_4 fu) M 1 (nN k) = _
    unfold sX12_isNewYard_4 sX12_isNewYard_37
    have hy2 := (hV.2.2.2.2 k (by omega)).1
    rw [hF.2.2.1, if_neg (by rw [nN_le (by omega) (by omega)]; omega), if_neg (by decide), show (4 : Int32) + nN k = nN (4 + k) from nN_add 4 k, if_pos ((nN_inB (by omega)).mpr (by omega)), nN_cl (by omega), (hF.2.2.2.2.2 k (by omega)).1, h7, nN_succ]
    by_cases e : vY V k = y
    · rw [if_pos (by rw [e]), if_neg (show ¬ newY V y from fun h => h k (by omega) e)]
      exact newR0 hF hV c (k + 1) fu (by omega) (by omega)
    · rw [if_neg (fun h => e ((nN_eq (by omega) (by omega)).mp h))]
      exact ih (k + 1) fu (by omega) (by omega) (fun j hj => by
        rcases Nat.lt_or_ge j k with h1 | h1
        · exact h j h1
        · have : j = k := by omega
          rw [this]; exact e)
theorem newR {M : Mem} {V : FV} {wt y : Nat} (hF : BR M V wt) (hV : VOk V) (hy : y ≤ 1000) (h7 : gM M 109 7 = nN y) : fX12_isNewYard M = some (M, if newY V y then 1 else 0) :=
  newR_loop hF hV hy h7 (vC V) 0 fuel (by omega) (fuel_ge (by have := hV.2.1; omega)) (fun j hj => absurd hj (Nat.not_lt_zero _))
def OutR (l : Nat) (x : Nat → Nat) (M1 : Mem) : OT → Prop
  | .inl s => StR l M1 (.inl s)
  | .inr q => StR l M1 (.inr (tk l x q.2.2)) ∧ BR M1 q.1 q.2.1
theorem pasR {M : Mem} {V : FV} {wt : Nat} {t : TK} (hl : l ≤ 200) (hx : ∀ i, i < l → x i ≤ 255) (hT : TR M l x) (h : StR l M (.inr t)) (hF : BR M V wt) (hn : vN V < 6) : ∃ M1, fX12_readsItem M 112 = some M1 ∧ FrV M M1 ∧ OutR l x M1 (pasS V wt t (nx l x t) (nx l x (nx l x t))) := by
  unfold fX12_readsItem
  rw [if_pos rfl, hF.1, show (6 : Int32) + nN (vN V) = nN (6 + vN V) from nN_add 6 _, nN_cl (show 6 + vN V < 2147483648 by omega)]
  obtain ⟨M1, a1, a2, a3⟩ := numR hl hx hT h 1 9 (by decide) (by decide)
  rw [show fX12_number M 1 9 = _ from a1, bI_some, if_pos ((nN_inB (by omega)).mpr (by omega))]
  have f1 : FrV M1 (sM M1 112 (6 + vN V) (nN (numE l x 1 9 (.inr t)).2)) := FrV.s (by omega)
  have s1 := a3.o (M' := sM M1 112 (6 + vN V) (nN (numE l x 1 9 (.inr t)).2)) (fun k _ => g_si (by decide))
  obtain ⟨M2, b1, b2, b3⟩ := numR hl hx ((hT.w a2).v f1) s1 1 30 (by decide) (by decide)
  rw [show fX12_number _ 1 30 = _ from b1, bI_some]
  generalize he1 : numE l x 1 9 (.inr t) = e1 at f1 s1 b1 b2 b3 ⊢
  have f2 : FrV M2 (sM M2 113 (6 + vN V) (nN (numE l x 1 30 e1.1).2)) := FrV.s (by omega)
  have s2 := b3.o (M' := sM M2 113 (6 + vN V) (nN (numE l x 1 30 e1.1).2)) (fun k _ => g_si (by decide))
  obtain ⟨M3, c1, c2, c3⟩ := numR hl hx ((((hT.w a2).v f1).w b2).v f2) s2 0 3 (by decide) (by decide)
  rw [show fX12_number _ 0 3 = _ from c1, bI_some]
  generalize he2 : numE l x 1 30 e1.1 = e2 at f2 s2 c1 c2 c3 ⊢
  generalize he3 : numE l x 0 3 e2.1 = e3 at c1 c3 ⊢
  have eM3 : ∀ i, i ≠ 109 → i ≠ 112 → i ≠ 113 → gM M3 i = gM M i := fun i h1 h2 h3 => by rw [c2.1 i h1, (sM_other _ 113 _ _ i h3).1, b2.1 i h1, (sM_other _ 112 _ _ i h2).1, a2.1 i h1]
  have e112 : ∀ j, gM M3 112 j = if j = 6 + vN V then nN e1.2 else gM M 112 j := fun j => by
    rw [c2.1 112 (by decide), g_si (by decide), b2.1 112 (by decide), g_s, a2.1 112 (by decide)]
    simp
  have e113 : ∀ j, gM M3 113 j = if j = 6 + vN V then nN e2.2 else gM M 113 j := fun j => by
    rw [c2.1 113 (by decide), g_s, b2.1 113 (by decide), g_si (by decide), a2.1 113 (by decide)]
    simp
  rw [g_si (show (111 : Nat) ≠ 114 by decide), eM3 111 (by decide) (by decide) (by decide), hF.1, nN_succ]
  have f3 : FrV M3 (sM (sM M3 114 (6 + vN V) (nN e3.2)) 111 3 (nN (vN V + 1))) := (FrV.s (by omega)).tr (FrV.s (by omega))
  have s3 := c3.o (M' := sM (sM M3 114 (6 + vN V) (nN e3.2)) 111 3 (nN (vN V + 1))) (fun k _ => by rw [g_si (by decide), g_si (by decide)])
  have e15 : gM M3 109 15 = gM M 109 15 := by rw [c2.2.1 15 (by decide) (by decide) (by decide) (by decide) (by decide), g_si (by decide), b2.2.1 15 (by decide) (by decide) (by decide) (by decide) (by decide), g_si (by decide), a2.2.1 15 (by decide) (by decide) (by decide) (by decide) (by decide)]
  refine ⟨_, rfl, ((((a2.v.tr f1).tr b2.v).tr f2).tr c2.v).tr f3, ?_⟩
  have hB : BR (sM (sM M3 114 (6 + vN V) (nN e3.2)) 111 3 (nN (vN V + 1))) (addP V e1.2 e2.2 e3.2) wt := by
    refine ⟨row_h, ?_, ?_, ?_, fun p hp => ⟨?_, ?_, ?_⟩, fun k hk => ?_⟩
    · rw [row_o (by decide), g_si (by decide), eM3 111 (by decide) (by decide) (by decide)]; exact hF.2.1
    · rw [row_o (by decide), g_si (by decide), eM3 111 (by decide) (by decide) (by decide)]; exact hF.2.2.1
    · rw [g_si (by decide), g_si (by decide), e15]; exact hF.2.2.2.1
    · rw [g_si (by decide), g_si (by decide)]
      exact upd_s (g := fun p => gM M 112 (6 + p)) (g' := fun p => gM M3 112 (6 + p)) (fun j hj => (hF.2.2.2.2.1 j hj).1) ((e112 _).trans (if_pos rfl)) (fun j hj => (e112 _).trans (if_neg (by omega))) hp
    · rw [g_si (by decide), g_si (by decide)]
      exact upd_s (g := fun p => gM M 113 (6 + p)) (g' := fun p => gM M3 113 (6 + p)) (fun j hj => (hF.2.2.2.2.1 j hj).2.1) ((e113 _).trans (if_pos rfl)) (fun j hj => (e113 _).trans (if_neg (by omega))) hp
    · rw [g_si (by decide)]
      exact upd_s (g := fun p => gM M 114 (6 + p)) (g' := fun p => gM (sM M3 114 (6 + vN V) (nN e3.2)) 114 (6 + p)) (fun j hj => (hF.2.2.2.2.1 j hj).2.2) row_h (fun j hj => (row_o (by omega)).trans (by rw [eM3 114 (by decide) (by decide) (by decide)])) hp
    · rw [g_si (by decide), g_si (by decide), g_si (by decide), g_si (by decide), eM3 115 (by decide) (by decide) (by decide), eM3 116 (by decide) (by decide) (by decide)]; exact hF.2.2.2.2.2 k hk
  unfold pasS
  generalize sM (sM M3 114 (6 + vN V) (nN e3.2)) 111 3 (nN (vN V + 1)) = N at s3 hB ⊢
  by_cases o1 : okN t 1 9
  · rw [numE_y o1] at he1
    subst he1
    rw [if_pos o1]
    by_cases o2 : okN (nx l x t) 1 30
    · rw [numE_y o2] at he2
      subst he2
      rw [if_pos o2]
      by_cases o3 : okN (nx l x (nx l x t)) 0 3
      · rw [numE_y o3] at he3
        subst he3
        rw [if_pos o3]
        exact ⟨s3, hB⟩
      · rw [numE_n o3] at he3
        subst he3
        rw [if_neg o3]
        exact s3
    · rw [numE_n o2] at he2
      subst he2
      subst he3
      rw [if_neg o2]
      exact s3
  · rw [numE_n o1] at he1
    subst he1
    subst he2
    subst he3
    rw [if_neg o1]
    exact s3
theorem widR {M : Mem} {V : FV} {wt : Nat} {t : TK} (hl : l ≤ 200) (hx : ∀ i, i < l → x i ≤ 255) (hT : TR M l x) (h : StR l M (.inr t)) (hF : BR M V wt) : ∃ M1, fX12_readsItem M 119 = some M1 ∧ FrV M M1 ∧ OutR l x M1 (widS V t) := by
  unfold fX12_readsItem
  rw [if_neg (by decide), if_neg (by decide)]
  obtain ⟨M1, a1, a2, a3⟩ := numR hl hx hT h 10 200 (by decide) (by decide)
  rw [show fX12_number M 10 200 = _ from a1, bI_some]
  generalize he1 : numE l x 10 200 (.inr t) = e1 at a1 a3 ⊢
  have f1 : FrV M1 (sM (sM M1 111 4 (nN e1.2)) 109 15 1) := (FrV.s (by omega)).tr (FrV.s (by omega))
  have s1 := a3.o (M' := sM (sM M1 111 4 (nN e1.2)) 109 15 1) (fun k hk => by rw [row_o hk, g_si (by decide)])
  refine ⟨_, rfl, a2.v.tr f1, ?_⟩
  have hB1 := hF.w a2
  have hB : BR (sM (sM M1 111 4 (nN e1.2)) 109 15 1) (setW V e1.2) 1 := by
    refine ⟨?_, ?_, ?_, row_h, fun p hp => ?_, fun k hk => ?_⟩
    · rw [g_si (by decide), row_o (by decide)]; exact hB1.1
    · rw [g_si (by decide), row_h]; rfl
    · rw [g_si (by decide), row_o (by decide)]; exact hB1.2.2.1
    · rw [g_si (by decide), g_si (by decide), g_si (by decide), g_si (by decide), g_si (by decide), g_si (by decide)]; exact hB1.2.2.2.2.1 p hp
    · rw [g_si (by decide), g_si (by decide), g_si (by decide), g_si (by decide)]; exact hB1.2.2.2.2.2 k hk
  unfold widS
  by_cases o1 : okN t 10 200
  · rw [numE_y o1] at he1
    subst he1
    rw [if_pos o1]
    exact ⟨s1, hB⟩
  · rw [numE_n o1] at he1
    subst he1
    rw [if_neg o1]
    exact s1
theorem cur120 {M M0 : Mem} {V : FV} {wt : Nat} {e1 : TE × Nat} {s3 : Int32} (hl : l ≤ 200) (hx : ∀ i, i < l → x i ≤ 255) (hT : TR M l x) (h : StR l M e1.1) (hF : BR M V wt) (hn : vC V < 4) (ht : fX12_takes M0 s3 = some (M, nN e1.2)) : ∃ M1, sX12_readsItem_120 M0 (nN (4 + vC V)) s3 = some M1 ∧ FrV M M1 ∧ StR l M1 (numE l x 0 8 e1.1).1 ∧ BR M1 (addC V e1.2 (numE l x 0 8 e1.1).2) wt := by
  unfold sX12_readsItem_120
  rw [ht, bI_some, if_pos ((nN_inB (by omega)).mpr (by omega)), nN_cl (by omega)]
  have f1 : FrV M (sM M 115 (4 + vC V) (nN e1.2)) := FrV.s (by omega)
  have s1 := h.o (M' := sM M 115 (4 + vC V) (nN e1.2)) (fun k _ => g_si (by decide))
  obtain ⟨M2, b1, b2, b3⟩ := numR hl hx (hT.v f1) s1 0 8 (by decide) (by decide)
  rw [show fX12_number _ 0 8 = _ from b1, bI_some]
  generalize numE l x 0 8 e1.1 = e2 at b1 b3 ⊢
  rw [g_si (show (111 : Nat) ≠ 115 by decide), hF.2.2.1, show (4 : Int32) + nN (vC V) = nN (4 + vC V) from nN_add 4 _, if_pos ((nN_inB (by omega)).mpr (by omega)), nN_cl (by omega), g_si (show (111 : Nat) ≠ 116 by decide), b2.1 111 (by decide), g_si (show (111 : Nat) ≠ 115 by decide), hF.2.2.1, nN_succ]
  have f3 : FrV M2 (sM (sM M2 116 (4 + vC V) (nN e2.2)) 111 5 (nN (vC V + 1))) := (FrV.s (by omega)).tr (FrV.s (by omega))
  have eM : ∀ i, i ≠ 109 → i ≠ 115 → gM M2 i = gM M i := fun i h1 h2 => by rw [b2.1 i h1, (sM_other _ 115 _ _ i h2).1]
  refine ⟨_, rfl, (f1.tr b2.v).tr f3, b3.o (fun k _ => by rw [g_si (by decide), g_si (by decide)]), ?_, ?_, row_h, ?_, fun p hp => ?_, fun k hk => ⟨?_, ?_⟩⟩
  · rw [row_o (by decide), g_si (by decide), eM 111 (by decide) (by decide)]; exact hF.1
  · rw [row_o (by decide), g_si (by decide), eM 111 (by decide) (by decide)]; exact hF.2.1
  · rw [g_si (by decide), g_si (by decide), b2.2.1 15 (by decide) (by decide) (by decide) (by decide) (by decide), g_si (by decide)]; exact hF.2.2.2.1
  · rw [g_si (by decide), g_si (by decide), g_si (by decide), g_si (by decide), g_si (by decide), g_si (by decide), eM 112 (by decide) (by decide), eM 113 (by decide) (by decide), eM 114 (by decide) (by decide)]; exact hF.2.2.2.2.1 p hp
  · rw [g_si (by decide), g_si (by decide)]
    exact upd_s (g := fun p => gM M 115 (4 + p)) (g' := fun p => gM M2 115 (4 + p)) (fun j hj => (hF.2.2.2.2.2 j hj).1) (by rw [b2.1 115 (by decide), row_h]) (fun j hj => by rw [b2.1 115 (by decide), row_o (by omega)]) hk
  · rw [g_si (by decide)]
    exact upd_s (g := fun p => gM M 116 (4 + p)) (g' := fun p => gM (sM M2 116 (4 + vC V) (nN e2.2)) 116 (4 + p)) (fun j hj => (hF.2.2.2.2.2 j hj).2) row_h (fun j hj => (row_o (by omega)).trans (by rw [eM 116 (by decide) (by decide)])) hk
theorem curR {M : Mem} {V : FV} {wt : Nat} {t : TK} (hl : l ≤ 200) (hx : ∀ i, i < l → x i ≤ 255) (hT : TR M l x) (h : StR l M (.inr t)) (hF : BR M V wt) (hV : VOk V) (hn : vC V < 4) : ∃ M1, fX12_readsItem M 99 = some M1 ∧ FrV M M1 ∧ OutR l x M1 (curS V wt t (nx l x t)) := by
  unfold fX12_readsItem sX12_readsItem_119
  rw [if_neg (by decide), if_pos rfl, hF.2.2.1, show (4 : Int32) + nN (vC V) = nN (4 + vC V) from nN_add 4 _, h.2.1.2.2.1]
  have no : ¬ (okN t 0 199 ∧ newY V (tV t)) → ∃ M1, sX12_readsItem_120 M (nN (4 + vC V)) 0 = some M1 ∧ FrV M M1 ∧ OutR l x M1 (curS V wt t (nx l x t)) := fun hn' => by
    have a := takN hl h
    obtain ⟨M1, b1, b2, b3, b4⟩ := cur120 (e1 := (.inl (tS t), 0)) hl hx (hT.w FrW.s) a.2 (hF.w FrW.s) hn a.1
    refine ⟨M1, b1, FrW.s.v.tr b2, ?_⟩
    unfold curS
    rw [if_neg hn']
    exact b3
  by_cases k2 : tK t = 2
  · rw [if_pos (show nN (tK t) = 2 by rw [k2]; rfl), h.2.1.2.2.2.1 (by omega), show fX12_in M (nN (tV t)) 0 199 = _ from inR (a := 0) (b := 199) (by have := h.2.1.2.2.2.2 k2; omega) (by decide) (by decide), bI_some]
    by_cases o : 0 ≤ tV t ∧ tV t ≤ 199
    · rw [if_pos o, if_neg (by decide), newR hF hV (by omega) (h.2.1.2.2.2.1 (by omega)), bI_some]
      by_cases ny : newY V (tV t)
      · rw [if_pos ny, if_neg (by decide)]
        obtain ⟨M1, a1, a2, a3⟩ := takY hl hx hT h (by omega)
        obtain ⟨M2, b1, b2, b3, b4⟩ := cur120 (e1 := (.inr (nx l x t), tV t)) hl hx (hT.w a2) a3 (hF.w a2) hn a1
        refine ⟨M2, b1, a2.v.tr b2, ?_⟩
        unfold curS
        rw [if_pos ⟨⟨k2, o⟩, ny⟩]
        by_cases o2 : okN (nx l x t) 0 8
        · rw [numE_y o2] at b3 b4
          rw [if_pos o2]
          exact ⟨b3, b4⟩
        · rw [numE_n o2] at b3
          rw [if_neg o2]
          exact b3
      · rw [if_neg ny, if_pos rfl]
        exact no (fun e => ny e.2)
    · rw [if_neg o, if_pos rfl]
      exact no (fun e => o e.1.2)
  · rw [if_neg (show ¬ nN (tK t) = 2 from fun e => k2 ((nN_eq (b := 2) (by have := h.2.2.2.2.1; omega) (by decide)).mp e))]
    exact no (fun e => k2 e.1.1)
end READR
