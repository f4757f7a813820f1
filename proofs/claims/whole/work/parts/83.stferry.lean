/-! ferry, as a step of both -/
def ferRes (S : ST) : Int32 := match ferS (sY S) (sX S) with
  | .inl s => -10 - nN s
  | .inr q => nN q.2
def newS (S : ST) (V : FV) : ST := (V, A0, 0, sH S, 0, sI S, (0, sK S, sO S), (0, sX S), sT S)
def ferNx (S : ST) : ST := match ferS (sY S) (sX S) with
  | .inl _ => S
  | .inr q => newS S q.1
theorem neg10 {s : Nat} (h : s ≤ 200) : ¬ 0 ≤ (-10 : Int32) - nN s := (show ∀ s, s < 201 → ¬ 0 ≤ (-10 : Int32) - nN s by decide +kernel) s (by omega)
theorem st_ferry : Step fX11_ferry fX12_ferry := by
  refine step_c ferRes ferNx (fun M S h0 h => ?_) (fun M S h0 h => ?_) (fun S h0 => ?_)
  · have hl := h0.2.2.2.2.2.2.2.1
    have hx := h0.2.2.2.2.2.2.2.2
    have hP := fer_ok (x := sX S) hl
    have hfe := isFe_feB (gM M 0 2)
    have hfb := fe_b hfe
    have hfn := fe_b (isFe_feB (gM M 0 1))
    obtain ⟨M1, r, a1, a2, a3⟩ := readX (f := feB (gM M 0 2)) hl hx hfb.2 h.2.2.2.2.2.1
    have hne : feB (gM M 0 1) + 8 ≤ feB (gM M 0 2) ∨ feB (gM M 0 2) + 8 ≤ feB (gM M 0 1) := by
      rcases h.1 with e | e <;> rw [e.1, e.2] <;> decide
    unfold fX11_ferry ferRes ferNx
    rw [a1, bI_some]
    have e0 : gM M1 0 = gM M 0 := a2.1 0 (by decide) (by omega)
    have eh : ∀ i, 19 ≤ i → gM M1 i = gM M i := fun i hi => a2.1 i (by omega) (by omega)
    cases hi : ferS (sY S) (sX S) with
    | inl s =>
      rw [hi] at a3 hP
      have a3 : r = -10 - nN s := a3
      subst a3
      rw [if_neg (neg10 hP)]
      refine ⟨M1, rfl, fun i hi => ⟨eh i (by omega), a2.2.2 i⟩, told_mv h.1 (by rw [e0]) (by rw [e0]), ⟨?_, h.2.1.2.mv (eh 19 (by decide)) (eh 20 (by decide)) (eh 21 (by decide))⟩, h.2.2.1.mv (fun i hi => eh i (by omega)), h.2.2.2.1.mv (by rw [e0]) (fun i h1 h2 => eh i (by omega)), h.2.2.2.2.1.mv (by rw [e0]) (eh 55 (by decide)) (eh 56 (by decide)), h.2.2.2.2.2.1.mv a2.2.1 (a2.1 2 (by decide) (by omega)), (a2.2.2 75).trans h.2.2.2.2.2.2⟩
      rw [e0]
      exact h.2.1.1.mv (fun i h1 h2 => a2.1 i (by omega) (by omega))
    | inr q =>
      rw [hi] at a3 hP
      obtain ⟨a3, hF⟩ := a3
      subst a3
      rw [if_pos (nN_nn (by have := hP.2; omega)), e0]
      have g01 : gM (sM (sM (sM M1 0 1 (gM M 0 2)) 0 2 (gM M 0 1)) 1 1 0) 0 1 = gM M 0 2 := by rw [g_si (by decide), row_o (by decide), row_h]
      have g02 : gM (sM (sM (sM M1 0 1 (gM M 0 2)) 0 2 (gM M 0 1)) 1 1 0) 0 2 = gM M 0 1 := by rw [g_si (by decide), row_h]
      have g11 : gM (sM (sM (sM M1 0 1 (gM M 0 2)) 0 2 (gM M 0 1)) 1 1 0) 1 1 = nN 0 := row_h
      have gO : ∀ i, 2 ≤ i → gM (sM (sM (sM M1 0 1 (gM M 0 2)) 0 2 (gM M 0 1)) 1 1 0) i = gM M1 i := fun i hi => by rw [(sM_other _ 1 _ _ i (by omega)).1, (sM_other _ 0 _ _ i (by omega)).1, (sM_other _ 0 _ _ i (by omega)).1]
      have gL0 : ∀ i, gL (sM (sM (sM M1 0 1 (gM M 0 2)) 0 2 (gM M 0 1)) 1 1 0) i = gL M i := fun i => a2.2.2 i
      generalize sM (sM (sM M1 0 1 (gM M 0 2)) 0 2 (gM M 0 1)) 1 1 0 = N at g01 g02 g11 gO gL0 ⊢
      rw [g01]
      have hFN : FX N (feB (gM M 0 2)) q.1 := hF.mv (fun i h1 h2 => gO i (by omega))
      obtain ⟨M4, b1, b2, b3⟩ := startX hfe hP.1 hFN
      rw [b1, bV_some]
      unfold fX8_lose
      rw [bV_some]
      have gP : ∀ i, i ≠ 0 → i ≠ 22 → gM (sM (sM (sM M4 22 2 0) 0 6 0) 0 9 0) i = gM M4 i := fun i h1 h2 => by rw [(sM_other _ 0 _ _ i h1).1, (sM_other _ 0 _ _ i h1).1, (sM_other _ 22 _ _ i h2).1]
      have p0 : ∀ k, k ≠ 6 → k ≠ 9 → gM (sM (sM (sM M4 22 2 0) 0 6 0) 0 9 0) 0 k = gM N 0 k := fun k h1 h2 => by rw [row_o h2, row_o h1, g_si (by decide), b2.1 0 (by decide) (by decide) (by decide)]
      have p01 := (p0 1 (by decide) (by decide)).trans g01
      have p02 := (p0 2 (by decide) (by decide)).trans g02
      have p06 : gM (sM (sM (sM M4 22 2 0) 0 6 0) 0 9 0) 0 6 = nN 0 := by rw [row_o (by decide), row_h]; rfl
      have p09 : gM (sM (sM (sM M4 22 2 0) 0 6 0) 0 9 0) 0 9 = nN 0 := row_h
      have p22 : gM (sM (sM (sM M4 22 2 0) 0 6 0) 0 9 0) 22 2 = nN 0 := by rw [g_si (by decide), g_si (by decide), row_h]; rfl
      have p21 : gM (sM (sM (sM M4 22 2 0) 0 6 0) 0 9 0) 22 1 = gM M 22 1 := by rw [g_si (by decide), g_si (by decide), row_o (by decide), b2.1 22 (by decide) (by decide) (by decide), gO 22 (by decide), eh 22 (by decide)]
      have pL : ∀ i, gL (sM (sM (sM M4 22 2 0) 0 6 0) 0 9 0) i = gL M i := fun i => (b2.2 i).trans (gL0 i)
      generalize sM (sM (sM M4 22 2 0) 0 6 0) 0 9 0 = W at gP p0 p01 p02 p06 p09 p22 p21 pL ⊢
      obtain ⟨w, w1, w2, w3, w4⟩ := h.2.2.1
      refine ⟨W, rfl, fun i hi => ⟨by rw [gP i (by omega) (by omega), b2.1 i (by omega) (by omega) (by omega), gO i (by omega), eh i (by omega)], pL i⟩, ?_, ⟨?_, b3.mv (gP 19 (by decide) (by decide)) (gP 20 (by decide) (by decide)) (gP 21 (by decide) (by decide))⟩, ⟨w, w1, p21.trans w2, p22, fun j hj => absurd hj (Nat.not_lt_zero _)⟩, ⟨p06, fun i hi hb => absurd hb (by show ¬ (0 : Nat).testBit i = true; simp)⟩, ⟨p09, fun j hj => absurd hj (Nat.not_lt_zero _)⟩, ⟨?_, fun j hj => absurd hj (Nat.not_lt_zero _)⟩, (pL 75).trans h.2.2.2.2.2.2⟩
      · unfold toldOk
        rw [p01, p02]
        rcases h.1 with e | e
        · exact Or.inr ⟨e.2, e.1⟩
        · exact Or.inl ⟨e.2, e.1⟩
      · rw [p01]
        exact hFN.mv (fun i h1 h2 => by rw [gP i (by omega) (by omega), b2.1 i (by omega) (by omega) (by omega)])
      · rw [gP 1 (by decide) (by decide), b2.1 1 (by decide) (by decide) (by decide)]; exact g11
  · have hl := h0.2.2.2.2.2.2.2.1
    have hx := h0.2.2.2.2.2.2.2.2
    have q0 := QR.t M 0
    have h' := h.q q0
    have hn := h0.1.1
    have hc := h0.1.2.1
    obtain ⟨M1, r, a1, a2⟩ := readR hl hx h'.2.2.2.2.1
    unfold ferRes ferNx
    rw [a1]
    generalize sM M 109 0 0 = N at q0 h' a2
    cases hi : ferS (sY S) (sX S) with
    | inl s =>
      rw [hi] at a2
      obtain ⟨a2, fv⟩ := a2
      subst a2
      refine ⟨M1, rfl, q0.d.tr fv.d, ⟨?_, ?_⟩, h'.2.1.mv (fv.2.1 21 (by decide)) (fv.1 121 (by decide) (by decide)), h'.2.2.1.mv (fv.1 119 (by decide) (by decide)) (fv.1 120 (by decide) (by decide)), h'.2.2.2.1.mv (fv.2.1 24 (by decide)) (fv.1 122 (by decide) (by decide)) (fv.1 123 (by decide) (by decide)), h'.2.2.2.2.1.v fv, (fv.2.2.1 109).trans h'.2.2.2.2.2⟩
      · have hF := h'.1.1
        refine ⟨(fv.2.2.2.1 0 (by decide)).trans hF.1, (fv.2.2.2.1 1 (by decide)).trans hF.2.1, (fv.2.2.2.1 2 (by decide)).trans hF.2.2.1, fun p hp => ?_, fun k hk => ?_⟩
        · have hp : p < vN (sV S) := hp
          have e := fv.2.2.2.2.1 p (by omega); rw [e.1, e.2.1, e.2.2]; exact hF.2.2.2.1 p hp
        · have hk : k < vC (sV S) := hk
          have e := fv.2.2.2.2.2 k (by omega); rw [e.1, e.2]; exact hF.2.2.2.2 k hk
      · rw [fv.1 117 (by decide) (by decide)]; exact h'.1.2
    | inr q =>
      rw [hi] at a2
      obtain ⟨a2, s1, s2, s3, s4, s5, s6, s7, s8, s9⟩ := a2
      subst a2
      refine ⟨M1, rfl, q0.d.tr s1, ⟨s3, s4⟩, ⟨s7, fun j hj => absurd hj (Nat.not_lt_zero _)⟩, ⟨fun i hi => ?_, fun i hi hb => absurd hb (by show ¬ (0 : Nat).testBit i = true; simp)⟩, ⟨s6, fun j hj => absurd hj (Nat.not_lt_zero _)⟩, ⟨s5, fun j hj => absurd hj (Nat.not_lt_zero _)⟩, s2.trans h'.2.2.2.2.2⟩
      rcases (show i = 0 ∨ i = 1 by omega) with rfl | rfl
      · show gM M1 120 0 = if (0 : Nat).testBit 0 = true then 1 else 0
        rw [s8]; rfl
      · show gM M1 120 1 = if (0 : Nat).testBit 1 = true then 1 else 0
        rw [s9]; rfl
  · have hl := h0.2.2.2.2.2.2.2.1
    have hP := fer_ok (x := sX S) hl
    unfold ferNx
    cases hi : ferS (sY S) (sX S) with
    | inl s => exact h0
    | inr q =>
      rw [hi] at hP
      exact ⟨hP.1, A0_ok hP.1, Nat.zero_le _, fun j hj => absurd hj (Nat.not_lt_zero _), by show (0 : Nat) < 4; decide, fun i hi hb => absurd hb (by show ¬ (0 : Nat).testBit i = true; simp), ⟨Nat.zero_le _, fun j hj => absurd hj (Nat.not_lt_zero _)⟩, Nat.zero_le _, fun j hj => absurd hj (Nat.not_lt_zero _)⟩
