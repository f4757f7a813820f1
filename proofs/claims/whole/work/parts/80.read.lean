/-! reading a told ferry: what it says, and how the class reads it -/
abbrev OT : Type := Sum Nat (FV × Nat × Nat)
abbrev okN (t : TK) (lo hi : Nat) : Prop := tK t = 2 ∧ lo ≤ tV t ∧ tV t ≤ hi
abbrev newY (V : FV) (y : Nat) : Prop := ∀ k, k < vC V → vY V k ≠ y
def nx (l : Nat) (x : Nat → Nat) (t : TK) : TK := tk l x (tN t)
def addP (V : FV) (a b c : Nat) : FV := (vN V + 1, vW V, vC V, updN (vS V) (vN V) a, updN (vK V) (vN V) b, updN (vH V) (vN V) c, vY V, vF V)
def addC (V : FV) (y g : Nat) : FV := (vN V, vW V, vC V + 1, vS V, vK V, vH V, updN (vY V) (vC V) y, updN (vF V) (vC V) g)
def setW (V : FV) (w : Nat) : FV := (vN V, w, vC V, vS V, vK V, vH V, vY V, vF V)
def pasS (V : FV) (wt : Nat) (t1 t2 t3 : TK) : OT := if okN t1 1 9 then (if okN t2 1 30 then (if okN t3 0 3 then .inr (addP V (tV t1) (tV t2) (tV t3), wt, tN t3) else .inl (tS t3)) else .inl (tS t2)) else .inl (tS t1)
def curS (V : FV) (wt : Nat) (t1 t2 : TK) : OT := if okN t1 0 199 ∧ newY V (tV t1) then (if okN t2 0 8 then .inr (addC V (tV t1) (tV t2), wt, tN t2) else .inl (tS t2)) else .inl (tS t1)
def widS (V : FV) (t1 : TK) : OT := if okN t1 10 200 then .inr (setW V (tV t1), 1, tN t1) else .inl (tS t1)
def itemS (l : Nat) (x : Nat → Nat) (V : FV) (wt : Nat) (t : TK) : OT :=
  if tK t = 1 then
    if tV t = 112 then (if 6 ≤ vN V then .inl (tS t) else pasS V wt (nx l x t) (nx l x (nx l x t)) (nx l x (nx l x (nx l x t))))
    else if tV t = 99 then (if 4 ≤ vC V then .inl (tS t) else curS V wt (nx l x t) (nx l x (nx l x t)))
    else (if wt = 0 then widS V (nx l x t) else .inl (tS t))
  else .inl (tS t)
def parS (l : Nat) (x : Nat → Nat) : Nat → FV → Nat → TK → Nat → Sum Nat (FV × Nat)
  | 0, _, _, _, _ => .inl 0
  | c + 1, V, wt, t, n => if tK t = 0 then .inr (V, n) else match itemS l x V wt t with
    | .inl s => .inl s
    | .inr q => if tK (tk l x q.2.2) = 3 then parS l x c q.1 q.2.1 (nx l x (tk l x q.2.2)) (n + 1) else .inl (tS (tk l x q.2.2))
theorem updN_P {P : Nat → Prop} {f : Nat → Nat} {n v : Nat} (h : ∀ p, p < n → P (f p)) (hv : P v) : ∀ p, p < n + 1 → P (updN f n v p) := fun p hp => by
  unfold updN
  split
  · exact hv
  · exact h p (by omega)
theorem addP_ok {V : FV} {a b c : Nat} (hV : VOk V) (hn : vN V < 6) (ha : 1 ≤ a ∧ a ≤ 9) (hb : 1 ≤ b ∧ b ≤ 30) (hc : c ≤ 3) : VOk (addP V a b c) :=
  ⟨hn, hV.2.1, hV.2.2.1, fun p hp => ⟨updN_P (P := fun v => 1 ≤ v ∧ v ≤ 9) (fun p hp => (hV.2.2.2.1 p hp).1) ha p hp, updN_P (P := fun v => 1 ≤ v ∧ v ≤ 30) (fun p hp => (hV.2.2.2.1 p hp).2.1) hb p hp, updN_P (P := fun v => v ≤ 3) (fun p hp => (hV.2.2.2.1 p hp).2.2) hc p hp⟩, hV.2.2.2.2⟩
theorem addC_ok {V : FV} {y g : Nat} (hV : VOk V) (hn : vC V < 4) (hy : y ≤ 199) (hg : g ≤ 8) : VOk (addC V y g) :=
  ⟨hV.1, hn, hV.2.2.1, hV.2.2.2.1, fun k hk => ⟨updN_P (P := fun v => v ≤ 199) (fun p hp => (hV.2.2.2.2 p hp).1) hy k hk, updN_P (P := fun v => v ≤ 8) (fun p hp => (hV.2.2.2.2 p hp).2) hg k hk⟩⟩
theorem setW_ok {V : FV} {w : Nat} (hV : VOk V) (h : 10 ≤ w ∧ w ≤ 200) : VOk (setW V w) := ⟨hV.1, hV.2.1, h, hV.2.2.2⟩
abbrev TB (l : Nat) (t : TK) : Prop := tS t ≤ tN t ∧ tN t ≤ l
theorem nx_b {l : Nat} {x : Nat → Nat} {t : TK} (h : tN t ≤ l) : TB l (nx l x t) ∧ tN t ≤ tN (nx l x t) := by
  have := tk_b l x (tN t) h
  unfold nx TB
  omega
def ItOk (l : Nat) (t : TK) : OT → Prop
  | .inl s => s ≤ l
  | .inr q => VOk q.1 ∧ q.2.1 ≤ 1 ∧ tN t ≤ q.2.2 ∧ q.2.2 ≤ l
theorem item_ok {l : Nat} {x : Nat → Nat} {V : FV} {wt : Nat} {t : TK} (hV : VOk V) (hw : wt ≤ 1) (ht : TB l t) : ItOk l t (itemS l x V wt t) := by
  have b1 := nx_b (x := x) ht.2
  have b2 := nx_b (x := x) b1.1.2
  have b3 := nx_b (x := x) b2.1.2
  have h0 : ItOk l t (.inl (tS t)) := Nat.le_trans ht.1 ht.2
  unfold itemS
  split
  · split
    · split
      · exact h0
      · rename_i hn
        unfold pasS
        split
        · rename_i o1
          split
          · rename_i o2
            split
            · rename_i o3
              exact ⟨addP_ok hV (by omega) o1.2 o2.2 o3.2.2, hw, by show tN t ≤ tN (nx l x (nx l x (nx l x t))); omega, b3.1.2⟩
            · exact Nat.le_trans b3.1.1 b3.1.2
          · exact Nat.le_trans b2.1.1 b2.1.2
        · exact Nat.le_trans b1.1.1 b1.1.2
    · split
      · split
        · exact h0
        · rename_i hn
          unfold curS
          split
          · rename_i o1
            split
            · rename_i o2
              exact ⟨addC_ok hV (by omega) o1.1.2.2 o2.2.2, hw, by show tN t ≤ tN (nx l x (nx l x t)); omega, b2.1.2⟩
            · exact Nat.le_trans b2.1.1 b2.1.2
          · exact Nat.le_trans b1.1.1 b1.1.2
      · split
        · unfold widS
          split
          · rename_i o1
            exact ⟨setW_ok hV o1.2, Nat.le_refl _, b1.2, b1.1.2⟩
          · exact Nat.le_trans b1.1.1 b1.1.2
        · exact h0
  · exact h0
section READ
variable {l : Nat} {x : Nat → Nat} {f : Nat}
theorem numX {M : Mem} {p : Nat} (hl : l ≤ 200) (hx : ∀ i, i < l → x i ≤ 255) (hT : TX M l x) (hp : p ≤ l) (h2 : gM M 1 2 = nN p) (lo hi : Nat) (hlo : lo ≤ 1000) (hhi : hi ≤ 1000) : ∃ M1, fX10_readNumber M (nN lo) (nN hi) = some (M1, if okN (tk l x p) lo hi then 1 else 0) ∧ FrT M M1 ∧ TKX M1 (tk l x p) := by
  obtain ⟨M1, a1, a2, a3⟩ := tokX hl hx hT hp h2
  refine ⟨M1, ?_, a2, a3⟩
  unfold fX10_readNumber
  rw [a1, bV_some]
  generalize tk l x p = t at a3 ⊢
  by_cases k2 : tK t = 2
  · have e := a3.2.2.2 k2
    rw [if_pos (a3.2.2.1.2.1.mpr k2), e.1]
    by_cases c1 : tV t < lo
    · rw [if_pos ((nN_lt (by omega) (by omega)).mpr c1), if_neg (by omega)]
    rw [if_neg (fun e => c1 ((nN_lt (by omega) (by omega)).mp e))]
    by_cases c2 : hi < tV t
    · rw [if_pos ((nN_lt (by omega) (by omega)).mpr c2), if_neg (by omega)]
    rw [if_neg (fun e => c2 ((nN_lt (by omega) (by omega)).mp e)), if_pos (by omega)]
  · rw [if_neg (mt a3.2.2.1.2.1.mp k2), if_neg (fun e => k2 e.1)]
theorem hasCX_loop {M : Mem} {V : FV} {wt y : Nat} (hF : BX M f V wt) (hV : VOk V) (hy : y ≤ 1000) : ∀ (c k fu : Nat), k + c = vC V → c < fu → (∀ j, j < k → vY V j ≠ y) → lX2_hasCurrentFrom_2 fu M f (nN y) (nN k) = some (M, if newY V y then 0 else 1) := by
  intro c
  have hc := hV.2.1
  induction c with
  | zero =>
    intro k fu hk hf h
    obtain ⟨fu, rfl⟩ := fu1 hf
    show sX2_hasCurrentFrom_2 _ M f (nN y) (nN k) = _
    unfold sX2_hasCurrentFrom_2
    rw [hF.2.2.1, if_pos ((nN_le (by omega) (by omega)).mpr (by omega)), if_pos (show newY V y from fun j hj => h j (by omega))]
  | succ c ih =>
    intro k fu hk hf h
    obtain ⟨fu, rfl⟩ := fu1 hf
    show sX2_hasCurrentFrom_2 (lX2_hasCurrentFrom_2 fu) M f (nN y) (nN k) = _
    unfold sX2_hasCurrentFrom_2
    have hy2 := (hV.2.2.2.2 k (by omega)).1
    rw [hF.2.2.1, if_neg (by rw [nN_le (by omega) (by omega)]; omega), if_neg (show ¬ (4 : Int32) ≤ nN k from fun e => by have := (nN_le (a := 4) (by decide) (by omega)).mp e; omega), if_pos ((nN_inB (by omega)).mpr (by omega)), nN_cl (by omega), (hF.2.2.2.2.2 k (by omega)).1, nN_succ]
    by_cases e : vY V k = y
    · rw [if_pos (by rw [e]), if_neg (show ¬ newY V y from fun h => h k (by omega) e)]
    · rw [if_neg (fun h => e ((nN_eq (by omega) (by omega)).mp h))]
      exact ih (k + 1) fu (by omega) (by omega) (fun j hj => by
        rcases Nat.lt_or_ge j k with h1 | h1
        · exact h j h1
        · have : j = k := by omega
          rw [this]; exact e)
theorem hasCX {M : Mem} {V : FV} {wt y : Nat} (hF : BX M f V wt) (hV : VOk V) (hy : y ≤ 1000) : fX2_hasCurrentFrom M f (nN y) = some (M, if newY V y then 0 else 1) :=
  hasCX_loop hF hV hy (vC V) 0 fuel (by omega) (fuel_ge (by have := hV.2.1; omega)) (fun j hj => absurd hj (Nat.not_lt_zero _))
theorem addCX {M : Mem} {V : FV} {wt y g : Nat} (hf3 : 3 ≤ f) (hF : BX M f V wt) (hc : vC V < 4) : ∃ M1, fX2_addCurrent M f (nN y) (nN g) = some M1 ∧ FrF f M M1 ∧ gM M1 1 = gM M 1 ∧ BX M1 f (addC V y g) wt := by
  unfold fX2_addCurrent
  rw [hF.2.2.1, if_neg (show ¬ (4 : Int32) ≤ nN (vC V) from fun e => by have := (nN_le (a := 4) (by decide) (by omega)).mp e; omega), if_pos ((nN_inB (by omega)).mpr (by omega)), nN_cl (by omega), g_si (show f ≠ f + 4 by omega), hF.2.2.1, if_pos ((nN_inB (by omega)).mpr (by omega)), nN_cl (by omega), g_si (show f ≠ f + 5 by omega), g_si (show f ≠ f + 4 by omega), hF.2.2.1, nN_succ]
  refine ⟨sM (sM (sM M (f + 4) (vC V) (nN y)) (f + 5) (vC V) (nN g)) f 4 (nN (vC V + 1)), rfl, ((FrF.s hf3 (by omega) (by omega)).tr (FrF.s hf3 (by omega) (by omega))).tr (FrF.s hf3 (by omega) (by omega)), ?_, ?_, ?_, row_h, ?_, fun p hp => ?_, fun k hk => ⟨?_, ?_⟩⟩
  · rw [(sM_other _ f _ _ 1 (by omega)).1, (sM_other _ (f + 5) _ _ 1 (by omega)).1, (sM_other _ (f + 4) _ _ 1 (by omega)).1]
  · rw [row_o (by decide), g_si (by omega), g_si (by omega)]; exact hF.1
  · rw [row_o (by decide), g_si (by omega), g_si (by omega)]; exact hF.2.1
  · rw [row_o (by decide), g_si (by omega), g_si (by omega)]; exact hF.2.2.2.1
  · rw [g_si (by omega), g_si (by omega), g_si (by omega), g_si (by omega), g_si (by omega), g_si (by omega), g_si (by omega), g_si (by omega), g_si (by omega)]
    exact hF.2.2.2.2.1 p hp
  · exact upd_s (g := gM M (f + 4)) (g' := gM (sM (sM (sM M (f + 4) (vC V) (nN y)) (f + 5) (vC V) (nN g)) f 4 (nN (vC V + 1))) (f + 4)) (fun j hj => (hF.2.2.2.2.2 j hj).1) (by rw [g_si (by omega), g_si (by omega), row_h]) (fun j hj => by rw [g_si (by omega), g_si (by omega), row_o hj]) hk
  · exact upd_s (g := gM M (f + 5)) (g' := gM (sM (sM (sM M (f + 4) (vC V) (nN y)) (f + 5) (vC V) (nN g)) f 4 (nN (vC V + 1))) (f + 5)) (fun j hj => (hF.2.2.2.2.2 j hj).2) (by rw [g_si (by omega), row_h]) (fun j hj => by rw [g_si (by omega), row_o hj, g_si (by omega)]) hk
theorem addPX {M : Mem} {V : FV} {wt a b c : Nat} (hf3 : 3 ≤ f) (hF : BX M f V wt) (hn : vN V < 6) : ∃ M1, fX2_addPassenger M f (nN a) (nN b) (nN c) = some M1 ∧ FrF f M M1 ∧ gM M1 1 = gM M 1 ∧ BX M1 f (addP V a b c) wt := by
  unfold fX2_addPassenger
  rw [hF.1, if_neg (show ¬ (6 : Int32) ≤ nN (vN V) from fun e => by have := (nN_le (a := 6) (by decide) (by omega)).mp e; omega), if_pos ((nN_inB (by omega)).mpr (by omega)), nN_cl (by omega), g_si (show f ≠ f + 1 by omega), hF.1, if_pos ((nN_inB (by omega)).mpr (by omega)), nN_cl (by omega), g_si (show f ≠ f + 2 by omega), g_si (show f ≠ f + 1 by omega), hF.1, if_pos ((nN_inB (by omega)).mpr (by omega)), nN_cl (by omega), g_si (show f ≠ f + 3 by omega), g_si (show f ≠ f + 2 by omega), g_si (show f ≠ f + 1 by omega), hF.1, nN_succ]
  refine ⟨sM (sM (sM (sM M (f + 1) (vN V) (nN a)) (f + 2) (vN V) (nN b)) (f + 3) (vN V) (nN c)) f 0 (nN (vN V + 1)), rfl, (((FrF.s hf3 (by omega) (by omega)).tr (FrF.s hf3 (by omega) (by omega))).tr (FrF.s hf3 (by omega) (by omega))).tr (FrF.s hf3 (by omega) (by omega)), ?_, row_h, ?_, ?_, ?_, fun p hp => ⟨?_, ?_, ?_⟩, fun k hk => ?_⟩
  · rw [(sM_other _ f _ _ 1 (by omega)).1, (sM_other _ (f + 3) _ _ 1 (by omega)).1, (sM_other _ (f + 2) _ _ 1 (by omega)).1, (sM_other _ (f + 1) _ _ 1 (by omega)).1]
  · rw [row_o (by decide), g_si (by omega), g_si (by omega), g_si (by omega)]; exact hF.2.1
  · rw [row_o (by decide), g_si (by omega), g_si (by omega), g_si (by omega)]; exact hF.2.2.1
  · rw [row_o (by decide), g_si (by omega), g_si (by omega), g_si (by omega)]; exact hF.2.2.2.1
  · exact upd_s (g := gM M (f + 1)) (g' := gM (sM (sM (sM (sM M (f + 1) (vN V) (nN a)) (f + 2) (vN V) (nN b)) (f + 3) (vN V) (nN c)) f 0 (nN (vN V + 1))) (f + 1)) (fun j hj => (hF.2.2.2.2.1 j hj).1) (by rw [g_si (by omega), g_si (by omega), g_si (by omega), row_h]) (fun j hj => by rw [g_si (by omega), g_si (by omega), g_si (by omega), row_o hj]) hp
  · exact upd_s (g := gM M (f + 2)) (g' := gM (sM (sM (sM (sM M (f + 1) (vN V) (nN a)) (f + 2) (vN V) (nN b)) (f + 3) (vN V) (nN c)) f 0 (nN (vN V + 1))) (f + 2)) (fun j hj => (hF.2.2.2.2.1 j hj).2.1) (by rw [g_si (by omega), g_si (by omega), row_h]) (fun j hj => by rw [g_si (by omega), g_si (by omega), row_o hj, g_si (by omega)]) hp
  · exact upd_s (g := gM M (f + 3)) (g' := gM (sM (sM (sM (sM M (f + 1) (vN V) (nN a)) (f + 2) (vN V) (nN b)) (f + 3) (vN V) (nN c)) f 0 (nN (vN V + 1))) (f + 3)) (fun j hj => (hF.2.2.2.2.1 j hj).2.2) (by rw [g_si (by omega), row_h]) (fun j hj => by rw [g_si (by omega), row_o hj, g_si (by omega), g_si (by omega)]) hp
  · rw [g_si (by omega), g_si (by omega), g_si (by omega), g_si (by omega), g_si (by omega), g_si (by omega), g_si (by omega), g_si (by omega)]
    exact hF.2.2.2.2.2 k hk
def OutX (f : Nat) (M1 : Mem) (r : Int32) : OT → Prop
  | .inl s => r = 0 ∧ gM M1 1 4 = nN s
  | .inr q => r = 1 ∧ gM M1 1 2 = nN q.2.2 ∧ BX M1 f q.1 q.2.1
theorem out01 {M1 : Mem} {r : Int32} {o : OT} (h : OutX f M1 r o) : (if r = 0 then some (M1, (0 : Int32)) else some (M1, 1)) = some (M1, r) := by
  cases o with
  | inl s => rw [if_pos h.1, h.1]
  | inr q => rw [if_neg (by rw [h.1]; decide), h.1]
theorem BX.t {M M' : Mem} {V : FV} {wt : Nat} (h : BX M f V wt) (hf3 : 3 ≤ f) (e : FrT M M') : BX M' f V wt := h.mv (fun i h1 _ => e.1 i (by omega))
theorem curX {M : Mem} {V : FV} {wt p : Nat} (hl : l ≤ 200) (hx : ∀ i, i < l → x i ≤ 255) (hf3 : 3 ≤ f) (hT : TX M l x) (hp : p ≤ l) (h2 : gM M 1 2 = nN p) (hF : BX M f V wt) (hV : VOk V) (hc : vC V < 4) : ∃ M1 r, fX10_readCurrent M f = some (M1, r) ∧ FrF f M M1 ∧ OutX f M1 r (curS V wt (tk l x p) (nx l x (tk l x p))) := by
  unfold fX10_readCurrent curS
  obtain ⟨M1, a1, a2, a3⟩ := numX hl hx hT hp h2 0 199 (by decide) (by decide)
  rw [show fX10_readNumber M 0 199 = _ from a1, bI_some]
  have b1 := tk_b l x p hp
  generalize tk l x p = t1 at a3 b1 ⊢
  by_cases o1 : okN t1 0 199
  · have e5 := (a3.2.2.2 o1.1).1
    have hF1 := hF.t hf3 a2
    rw [if_pos o1, if_neg (by decide), e5, hasCX hF1 hV (by omega), bI_some]
    by_cases ny : newY V (tV t1)
    · rw [if_pos ny, if_pos rfl, if_pos ⟨o1, ny⟩]
      obtain ⟨M2, c1, c2, c3⟩ := numX hl hx (hT.t a2) (p := tN t1) b1.2.2.1 a3.2.1 0 8 (by decide) (by decide)
      rw [show fX10_readNumber M1 0 8 = _ from c1, bI_some, show nx l x t1 = tk l x (tN t1) from rfl]
      generalize tk l x (tN t1) = t2 at c3 ⊢
      by_cases o2 : okN t2 0 8
      · rw [if_pos o2, if_neg (by decide), if_pos o2, (c3.2.2.2 o2.1).1, e5]
        obtain ⟨M3, d1, d2, d3, d4⟩ := addCX (y := tV t1) (g := tV t2) hf3 (hF1.t hf3 c2) hc
        rw [d1, bV_some]
        exact ⟨M3, 1, rfl, (a2.tr c2).f.tr d2, rfl, by rw [d3]; exact c3.2.1, d4⟩
      · rw [if_neg o2, if_pos rfl, if_neg o2]
        exact ⟨M2, 0, rfl, (a2.tr c2).f, rfl, c3.1⟩
    · rw [if_neg ny, if_neg (by decide), if_neg (fun e => ny e.2)]
      exact ⟨M1, 0, rfl, a2.f, rfl, a3.1⟩
  · rw [if_neg o1, if_pos rfl, if_neg (fun e => o1 e.1)]
    exact ⟨M1, 0, rfl, a2.f, rfl, a3.1⟩
theorem pasX {M : Mem} {V : FV} {wt p : Nat} (hl : l ≤ 200) (hx : ∀ i, i < l → x i ≤ 255) (hf3 : 3 ≤ f) (hT : TX M l x) (hp : p ≤ l) (h2 : gM M 1 2 = nN p) (hF : BX M f V wt) (hn : vN V < 6) : ∃ M1 r, fX10_readPassenger M f = some (M1, r) ∧ FrF f M M1 ∧ OutX f M1 r (pasS V wt (tk l x p) (nx l x (tk l x p)) (nx l x (nx l x (tk l x p)))) := by
  unfold fX10_readPassenger pasS
  obtain ⟨M1, a1, a2, a3⟩ := numX hl hx hT hp h2 1 9 (by decide) (by decide)
  rw [show fX10_readNumber M 1 9 = _ from a1, bI_some]
  have b1 := tk_b l x p hp
  generalize tk l x p = t1 at a3 b1 ⊢
  by_cases o1 : okN t1 1 9
  · rw [if_pos o1, if_neg (by decide), if_pos o1]
    obtain ⟨M2, c1, c2, c3⟩ := numX hl hx (hT.t a2) (p := tN t1) b1.2.2.1 a3.2.1 1 30 (by decide) (by decide)
    rw [show fX10_readNumber M1 1 30 = _ from c1, bI_some, show nx l x t1 = tk l x (tN t1) from rfl]
    have b2 := tk_b l x (tN t1) b1.2.2.1
    generalize tk l x (tN t1) = t2 at c3 b2 ⊢
    by_cases o2 : okN t2 1 30
    · rw [if_pos o2, if_neg (by decide), if_pos o2]
      obtain ⟨M3, d1, d2, d3⟩ := numX hl hx ((hT.t a2).t c2) (p := tN t2) b2.2.2.1 c3.2.1 0 3 (by decide) (by decide)
      rw [show fX10_readNumber M2 0 3 = _ from d1, bI_some, show nx l x t2 = tk l x (tN t2) from rfl]
      generalize tk l x (tN t2) = t3 at d3 ⊢
      by_cases o3 : okN t3 0 3
      · rw [if_pos o3, if_neg (by decide), if_pos o3, (a3.2.2.2 o1.1).1, (c3.2.2.2 o2.1).1, (d3.2.2.2 o3.1).1]
        obtain ⟨M4, e1, e2, e3, e4⟩ := addPX (a := tV t1) (b := tV t2) (c := tV t3) hf3 (((hF.t hf3 a2).t hf3 c2).t hf3 d2) hn
        rw [e1, bV_some]
        exact ⟨M4, 1, rfl, ((a2.tr c2).tr d2).f.tr e2, rfl, by rw [e3]; exact d3.2.1, e4⟩
      · rw [if_neg o3, if_pos rfl, if_neg o3]
        exact ⟨M3, 0, rfl, ((a2.tr c2).tr d2).f, rfl, d3.1⟩
    · rw [if_neg o2, if_pos rfl, if_neg o2]
      exact ⟨M2, 0, rfl, (a2.tr c2).f, rfl, c3.1⟩
  · rw [if_neg o1, if_pos rfl, if_neg o1]
    exact ⟨M1, 0, rfl, a2.f, rfl, a3.1⟩
theorem widX {M : Mem} {V : FV} {wt p : Nat} (hl : l ≤ 200) (hx : ∀ i, i < l → x i ≤ 255) (hf3 : 3 ≤ f) (hT : TX M l x) (hp : p ≤ l) (h2 : gM M 1 2 = nN p) (hF : BX M f V wt) : ∃ M1 r, fX10_readWide M f = some (M1, r) ∧ FrF f M M1 ∧ OutX f M1 r (widS V (tk l x p)) := by
  unfold fX10_readWide widS
  obtain ⟨M1, a1, a2, a3⟩ := numX hl hx hT hp h2 10 200 (by decide) (by decide)
  rw [show fX10_readNumber M 10 200 = _ from a1, bI_some]
  generalize tk l x p = t1 at a3 ⊢
  by_cases o1 : okN t1 10 200
  · rw [if_pos o1, if_neg (by decide), if_pos o1, (a3.2.2.2 o1.1).1]
    have hF1 := hF.t hf3 a2
    refine ⟨_, 1, rfl, (a2.f.tr (FrF.s hf3 (by omega) (by omega))).tr (FrF.s hf3 (by omega) (by omega)), rfl, ?_, ?_, ?_, ?_, row_h, fun p hp => ?_, fun k hk => ?_⟩
    · rw [g_si (by omega), g_si (by omega)]; exact a3.2.1
    · rw [row_o (by decide), row_o (by decide)]; exact hF1.1
    · rw [row_o (by decide), row_h]; rfl
    · rw [row_o (by decide), row_o (by decide)]; exact hF1.2.2.1
    · rw [g_si (by omega), g_si (by omega), g_si (by omega), g_si (by omega), g_si (by omega), g_si (by omega)]; exact hF1.2.2.2.2.1 p hp
    · rw [g_si (by omega), g_si (by omega), g_si (by omega), g_si (by omega)]; exact hF1.2.2.2.2.2 k hk
  · rw [if_neg o1, if_pos rfl, if_neg o1]
    exact ⟨M1, 0, rfl, a2.f, rfl, a3.1⟩
theorem itemX {M : Mem} {V : FV} {wt : Nat} {t : TK} (hl : l ≤ 200) (hx : ∀ i, i < l → x i ≤ 255) (hf3 : 3 ≤ f) (hT : TX M l x) (ht : TB l t) (h1 : tK t = 1 → tV t = 112 ∨ tV t = 99 ∨ tV t = 119) (hK : TKX M t) (hF : BX M f V wt) (hV : VOk V) (hw : wt ≤ 1) : ∃ M1 r, fX10_readItem M f = some (M1, r) ∧ FrF f M M1 ∧ OutX f M1 r (itemS l x V wt t) := by
  have hc := hK.2.2.1
  have hn := hV.1
  have hcc := hV.2.1
  have h0 : OutX f M 0 (.inl (tS t)) := ⟨rfl, hK.1⟩
  unfold fX10_readItem itemS
  by_cases k1 : tK t = 1
  · rw [if_pos k1]
    by_cases v1 : tV t = 112
    · have e112 := hc.2.2.2.1.mpr ⟨k1, v1⟩
      rw [if_neg (show ¬ gM M 1 3 = 99 by rw [e112]; decide), if_pos e112, if_pos v1, hF.1]
      by_cases n6 : 6 ≤ vN V
      · rw [if_pos (show (6 : Int32) ≤ nN (vN V) from (nN_le (a := 6) (by decide) (by omega)).mpr n6), if_pos n6]; exact ⟨M, 0, rfl, FrF.rfl, h0⟩
      · rw [if_neg (show ¬ (6 : Int32) ≤ nN (vN V) from fun e => n6 ((nN_le (a := 6) (by decide) (by omega)).mp e)), if_neg n6]
        obtain ⟨M1, r, a1, a2, a3⟩ := pasX hl hx hf3 hT ht.2 hK.2.1 hF (by omega)
        rw [a1, bI_some, out01 a3]
        exact ⟨M1, r, rfl, a2, a3⟩
    · rw [if_neg v1]
      by_cases v2 : tV t = 99
      · rw [if_pos (hc.2.2.2.2.1.mpr ⟨k1, v2⟩), if_pos v2, hF.2.2.1]
        by_cases n4 : 4 ≤ vC V
        · rw [if_pos (show (4 : Int32) ≤ nN (vC V) from (nN_le (a := 4) (by decide) (by omega)).mpr n4), if_pos n4]; exact ⟨M, 0, rfl, FrF.rfl, h0⟩
        · rw [if_neg (show ¬ (4 : Int32) ≤ nN (vC V) from fun e => n4 ((nN_le (a := 4) (by decide) (by omega)).mp e)), if_neg n4]
          obtain ⟨M1, r, a1, a2, a3⟩ := curX hl hx hf3 hT ht.2 hK.2.1 hF hV (by omega)
          rw [a1, bI_some, out01 a3]
          exact ⟨M1, r, rfl, a2, a3⟩
      · have v3 : tV t = 119 := by have := h1 k1; omega
        have e119 := hc.2.2.2.2.2.mpr ⟨k1, v3⟩
        rw [if_neg (show ¬ gM M 1 3 = 99 by rw [e119]; decide), if_neg (show ¬ gM M 1 3 = 112 by rw [e119]; decide), if_pos e119, if_neg v2, hF.2.2.2.1]
        by_cases w0 : wt = 0
        · rw [if_pos (by rw [w0]; rfl), if_pos w0]
          obtain ⟨M1, r, a1, a2, a3⟩ := widX hl hx hf3 hT ht.2 hK.2.1 hF
          rw [a1, bI_some, out01 a3]
          exact ⟨M1, r, rfl, a2, a3⟩
        · rw [if_neg (show ¬ nN wt = 0 from fun e => w0 ((nN_eq (b := 0) (by omega) (by decide)).mp e)), if_neg w0]; exact ⟨M, 0, rfl, FrF.rfl, h0⟩
  · rw [if_neg k1, if_neg (fun e => k1 (hc.2.2.2.2.1.mp e).1), if_neg (fun e => k1 (hc.2.2.2.1.mp e).1), if_neg (fun e => k1 (hc.2.2.2.2.2.mp e).1)]
    exact ⟨M, 0, rfl, FrF.rfl, h0⟩
def OutP (f : Nat) (M1 : Mem) (r : Int32) : Sum Nat (FV × Nat) → Prop
  | .inl s => r = -10 - nN s
  | .inr q => r = nN q.2 ∧ FX M1 f q.1
theorem TX.ff {M M' : Mem} (h : TX M l x) (hf3 : 3 ≤ f) (e : FrF f M M') : TX M' l x := h.mv e.2.1 (e.1 2 (by decide) (by omega))
theorem parX (hl : l ≤ 200) (hx : ∀ i, i < l → x i ≤ 255) (hf3 : 3 ≤ f) : ∀ (c n fu : Nat) (V : FV) (wt : Nat) (t : TK) (M : Mem), c + n = 200 → c < fu → TX M l x → TB l t → (tK t = 1 → tV t = 112 ∨ tV t = 99 ∨ tV t = 119) → (tK t ≠ 0 → 2 * n + 1 ≤ tN t) → 2 * n ≤ tN t → TKX M t → BX M f V wt → VOk V → wt ≤ 1 → ∃ M1 r, lX10_readInto_15 fu M f (nN n) = some (M1, r) ∧ FrF f M M1 ∧ OutP f M1 r (parS l x c V wt t n) := by
  intro c
  induction c with
  | zero =>
    intro n fu V wt t M hn hf hT ht h1 hb hb2
    have := ht.2
    omega
  | succ c ih =>
    intro n fu V wt t M hn hf hT ht h1 hb hb2 hK hF hV hw
    obtain ⟨fu, rfl⟩ := fu1 hf
    show ∃ M1 r, sX10_readInto_15 (lX10_readInto_15 fu) M f (nN n) = some (M1, r) ∧ _
    unfold sX10_readInto_15 parS sX10_readInto_63 sX10_readInto_45
    rw [if_neg (show ¬ (200 : Int32) ≤ nN n from fun e => by have := (nN_le (a := 200) (by decide) (by omega)).mp e; omega)]
    by_cases k0 : tK t = 0
    · rw [if_pos (hK.2.2.1.1.mpr k0), if_pos k0]
      obtain ⟨M1, a1, a2, a3⟩ := settleX hf3 hV hF
      rw [a1, bV_some]
      exact ⟨M1, _, rfl, a2, rfl, a3⟩
    · rw [if_neg (mt hK.2.2.1.1.mp k0), if_neg k0]
      obtain ⟨M1, r, a1, a2, a3⟩ := itemX hl hx hf3 hT ht h1 hK hF hV hw
      have hI := item_ok (x := x) hV hw ht
      rw [a1, bI_some]
      have hT1 := hT.ff hf3 a2
      cases hi : itemS l x V wt t with
      | inl s =>
        rw [hi] at a3
        rw [if_pos a3.1]
        exact ⟨M1, _, rfl, a2, by rw [a3.2]; rfl⟩
      | inr q =>
        rw [hi] at a3 hI
        rw [if_neg (by rw [a3.1]; decide)]
        unfold fX10_readSemicolon
        obtain ⟨M2, b1, b2, b3⟩ := tokX hl hx hT1 (p := q.2.2) hI.2.2.2 a3.2.1
        have bb := tk_b l x q.2.2 hI.2.2.2
        rw [b1, bV_some]
        show ∃ M1 r, _ ∧ _ ∧ OutP f M1 r (if tK (tk l x q.2.2) = 3 then parS l x c q.1 q.2.1 (nx l x (tk l x q.2.2)) (n + 1) else .inl (tS (tk l x q.2.2)))
        generalize tk l x q.2.2 = t2 at b3 bb ⊢
        by_cases k3 : tK t2 = 3
        · rw [if_pos (b3.2.2.1.2.2.1.mpr k3), bI_some, if_neg (by decide), if_pos k3]
          obtain ⟨M3, d1, d2, d3⟩ := tokX hl hx (hT1.t b2) (p := tN t2) bb.2.2.1 b3.2.1
          have bd := tk_b l x (tN t2) bb.2.2.1
          rw [d1, bV_some, nN_succ]
          have hlt := bb.2.2.2.1 (by omega)
          have hb' := hb k0
          have hq := hI.2.2.1
          obtain ⟨M4, r4, e1, e2, e3⟩ := ih (n + 1) fu q.1 q.2.1 (nx l x t2) M3 (by omega) (by omega) ((hT1.t b2).t d2) ⟨bd.2.1, bd.2.2.1⟩ bd.2.2.2.2.2 (fun e => by have := bd.2.2.2.1 e; show 2 * (n + 1) + 1 ≤ tN (tk l x (tN t2)); omega) (by show 2 * (n + 1) ≤ tN (tk l x (tN t2)); omega) d3 ((a3.2.2.t hf3 b2).t hf3 d2) hI.1 hI.2.1
          exact ⟨M4, r4, e1, ((a2.tr b2.f).tr d2.f).tr e2, e3⟩
        · rw [if_neg (mt b3.2.2.1.2.2.1.mp k3), bI_some, if_pos rfl, if_neg k3]
          exact ⟨M2, _, rfl, a2.tr b2.f, by rw [b3.1]; rfl⟩
def V0 : FV := (0, 60, 0, fun _ => 0, fun _ => 0, fun _ => 0, fun _ => 0, fun _ => 0)
theorem V0_ok : VOk V0 := ⟨by decide, by decide, by decide, fun p hp => absurd hp (Nat.not_lt_zero _), fun p hp => absurd hp (Nat.not_lt_zero _)⟩
def ferS (l : Nat) (x : Nat → Nat) : Sum Nat (FV × Nat) := parS l x 200 V0 0 (tk l x 0) 0
theorem readX {M : Mem} (hl : l ≤ 200) (hx : ∀ i, i < l → x i ≤ 255) (hf3 : 3 ≤ f) (hT : TX M l x) : ∃ M1 r, fX10_readInto M f = some (M1, r) ∧ FrF f M M1 ∧ OutP f M1 r (ferS l x) := by
  unfold fX10_readInto fX2_empty
  rw [bV_some]
  have fr : FrF f M (sM (sM (sM (sM M f 0 0) f 4 0) f 7 60) f 8 0) := (((FrF.s hf3 (by omega) (by omega)).tr (FrF.s hf3 (by omega) (by omega))).tr (FrF.s hf3 (by omega) (by omega))).tr (FrF.s hf3 (by omega) (by omega))
  have hB : BX (sM (sM (sM (sM M f 0 0) f 4 0) f 7 60) f 8 0) f V0 0 := by
    refine ⟨?_, ?_, ?_, row_h, fun p hp => absurd hp (Nat.not_lt_zero _), fun p hp => absurd hp (Nat.not_lt_zero _)⟩
    · rw [row_o (by decide), row_o (by decide), row_o (by decide), row_h]; rfl
    · rw [row_o (by decide), row_h]; rfl
    · rw [row_o (by decide), row_o (by decide), row_h]; rfl
  generalize sM (sM (sM (sM M f 0 0) f 4 0) f 7 60) f 8 0 = N at fr hB ⊢
  have f2 : FrT N (sM N 1 2 0) := FrT.s (by decide)
  obtain ⟨M1, a1, a2, a3⟩ := tokX hl hx ((hT.ff hf3 fr).t f2) (Nat.zero_le _) (show gM (sM N 1 2 0) 1 2 = nN 0 from row_h)
  rw [a1, bV_some]
  have b := tk_b l x 0 (Nat.zero_le _)
  obtain ⟨M2, r, c1, c2, c3⟩ := parX hl hx hf3 200 0 fuel V0 0 (tk l x 0) M1 rfl (fuel_ge (by decide)) (((hT.ff hf3 fr).t f2).t a2) ⟨b.2.1, b.2.2.1⟩ b.2.2.2.2.2 (fun e => by have := b.2.2.2.1 e; omega) (Nat.zero_le _) a3 ((hB.t hf3 f2).t hf3 a2) V0_ok (Nat.zero_le _)
  exact ⟨M2, r, c1, (fr.tr (f2.tr a2).f).tr c2, c3⟩
end READ
