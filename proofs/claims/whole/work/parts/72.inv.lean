/-! the state of both, and the calls that ask -/
abbrev ST : Type := FV × AM × Nat × (Nat → AM) × Nat × (Nat → AM) × (Nat × (Nat → Nat) × (Nat → Nat)) × (Nat × (Nat → Nat)) × Int64
def sV (S : ST) : FV := S.1
def sA (S : ST) : AM := S.2.1
def sU (S : ST) : Nat := S.2.2.1
def sH (S : ST) : Nat → AM := S.2.2.2.1
def sB (S : ST) : Nat := S.2.2.2.2.1
def sI (S : ST) : Nat → AM := S.2.2.2.2.2.1
def sN (S : ST) : Nat := S.2.2.2.2.2.2.1.1
def sK (S : ST) : Nat → Nat := S.2.2.2.2.2.2.1.2.1
def sO (S : ST) : Nat → Nat := S.2.2.2.2.2.2.1.2.2
def sY (S : ST) : Nat := S.2.2.2.2.2.2.2.1.1
def sX (S : ST) : Nat → Nat := S.2.2.2.2.2.2.2.1.2
def sT (S : ST) : Int64 := S.2.2.2.2.2.2.2.2
def SOkS (S : ST) : Prop := VOk (sV S) ∧ AOk (sV S) 9999 (sA S) ∧ sU S ≤ 10 ∧ (∀ j, j < sU S → AOk (sV S) 9999 (sH S j)) ∧ sB S < 4 ∧ (∀ i, i < 2 → (sB S).testBit i = true → AOk (sV S) 9999 (sI S i)) ∧ SOk (sN S) (sK S) (sO S) ∧ sY S ≤ 200 ∧ (∀ i, i < sY S → sX S i ≤ 255)
def PX (M : Mem) (V : FV) (u : Nat) (H : Nat → AM) : Prop := ∃ w, w < 10 ∧ gM M 22 1 = nN w ∧ gM M 22 2 = nN u ∧ ∀ j, j < u → RX V (H j) M (24 + 3 * ((w + 10 - j) % 10))
def PR (M : Mem) (u : Nat) (H : Nat → AM) : Prop := gM M 109 21 = nN u ∧ ∀ j, j < u → RR (H j) (fun i => gM M 121 (15 * (u - 1 - j) + i))
def KX (M : Mem) (V : FV) (kb : Nat) (I : Nat → AM) : Prop := gM M 0 6 = nN kb ∧ ∀ i, i < 2 → kb.testBit i = true → RX V (I i) M (76 + 3 * i)
def KR (M : Mem) (kb : Nat) (I : Nat → AM) : Prop := (∀ i, i < 2 → gM M 120 i = if kb.testBit i = true then 1 else 0) ∧ ∀ i, i < 2 → kb.testBit i = true → RR (I i) (fun k => gM M 119 (15 * i + k))
def TX (M : Mem) (l : Nat) (x : Nat → Nat) : Prop := gM M 1 1 = nN l ∧ ∀ i, i < l → gM M 2 i = nN (x i)
def TR (M : Mem) (l : Nat) (x : Nat → Nat) : Prop := gM M 109 3 = nN l ∧ ∀ i, i < l → gM M 110 i = nN (x i)
def toldOk (M : Mem) : Prop := (gM M 0 1 = 3 ∧ gM M 0 2 = 11) ∨ (gM M 0 1 = 11 ∧ gM M 0 2 = 3)
def IX (M : Mem) (S : ST) : Prop := toldOk M ∧ NX M (sV S) (sA S) ∧ PX M (sV S) (sU S) (sH S) ∧ KX M (sV S) (sB S) (sI S) ∧ SX M (sN S) (sK S) (sO S) ∧ TX M (sY S) (sX S) ∧ gL M 75 = sT S
def IR (M : Mem) (S : ST) : Prop := NR M (sV S) (sA S) ∧ PR M (sU S) (sH S) ∧ KR M (sB S) (sI S) ∧ SR M (sN S) (sK S) (sO S) ∧ TR M (sY S) (sX S) ∧ gL M 109 = sT S
theorem mo_Pn {n : Nat} (h : n < 10) : isMo (24 + 3 * n) := (show ∀ n, n < 10 → isMo (24 + 3 * n) by unfold isMo; decide) n h
theorem mo_In {n : Nat} (h : n < 2) : isMo (76 + 3 * n) := (show ∀ n, n < 2 → isMo (76 + 3 * n) by unfold isMo; decide) n h
/-- by cells: each piece of the class's state lies where it lies -/
theorem PX.mv {M M' : Mem} {V : FV} {u : Nat} {H : Nat → AM} (h : PX M V u H) (e : ∀ i, i = 22 ∨ (24 ≤ i ∧ i < 54) → gM M' i = gM M i) : PX M' V u H := by
  obtain ⟨w, h1, h2, h3, h4⟩ := h
  refine ⟨w, h1, by rw [e 22 (Or.inl rfl)]; exact h2, by rw [e 22 (Or.inl rfl)]; exact h3, fun j hj => ?_⟩
  have : (w + 10 - j) % 10 < 10 := Nat.mod_lt _ (by decide)
  exact (h4 j hj).mv (e _ (Or.inr ⟨by omega, by omega⟩)) (e _ (Or.inr ⟨by omega, by omega⟩)) (e _ (Or.inr ⟨by omega, by omega⟩))
theorem KX.mv {M M' : Mem} {V : FV} {kb : Nat} {I : Nat → AM} (h : KX M V kb I) (e0 : gM M' 0 6 = gM M 0 6) (e : ∀ i, 76 ≤ i → i < 82 → gM M' i = gM M i) : KX M' V kb I :=
  ⟨e0.trans h.1, fun i hi hb => (h.2 i hi hb).mv (e _ (by omega) (by omega)) (e _ (by omega) (by omega)) (e _ (by omega) (by omega))⟩
theorem SX.mv {M M' : Mem} {sn : Nat} {sk so : Nat → Nat} (h : SX M sn sk so) (e0 : gM M' 0 9 = gM M 0 9) (e1 : gM M' 55 = gM M 55) (e2 : gM M' 56 = gM M 56) : SX M' sn sk so := by
  unfold SX; rw [e0, e1, e2]; exact h
theorem TX.mv {M M' : Mem} {l : Nat} {x : Nat → Nat} (h : TX M l x) (e0 : gM M' 1 1 = gM M 1 1) (e1 : gM M' 2 = gM M 2) : TX M' l x := by
  unfold TX; rw [e0, e1]; exact h
theorem NX.mv {M M' : Mem} {V : FV} {A : AM} (h : NX M V A) (e0 : gM M' 0 1 = gM M 0 1) (e : ∀ i, 3 ≤ i → i < 22 → gM M' i = gM M i) : NX M' V A := by
  unfold NX
  rw [e0]
  have hf := fe_b (isFe_feB (gM M 0 1))
  exact ⟨h.1.mv (fun i h1 h2 => e i (by omega) (by omega)), h.2.mv (e 19 (by decide) (by decide)) (e 20 (by decide) (by decide)) (e 21 (by decide) (by decide))⟩
theorem told_mv {M M' : Mem} (h : toldOk M) (e1 : gM M' 0 1 = gM M 0 1) (e2 : gM M' 0 2 = gM M 0 2) : toldOk M' := by
  unfold toldOk; rw [e1, e2]; exact h
theorem IX.mv {M M' : Mem} {S : ST} (h : IX M S) (e : ∀ i, i < 58 ∨ (74 ≤ i ∧ i < 82) → gM M' i = gM M i) (eL : gL M' 75 = gL M 75) : IX M' S := by
  have e0 := e 0 (by decide)
  exact ⟨told_mv h.1 (by rw [e0]) (by rw [e0]), h.2.1.mv (by rw [e0]) (fun i h1 h2 => e i (by omega)), h.2.2.1.mv (fun i hi => e i (by omega)), h.2.2.2.1.mv (by rw [e0]) (fun i h1 h2 => e i (by omega)), h.2.2.2.2.1.mv (by rw [e0]) (e 55 (by decide)) (e 56 (by decide)), h.2.2.2.2.2.1.mv (by rw [e 1 (by decide)]) (e 2 (by decide)), eL.trans h.2.2.2.2.2.2⟩
theorem IX.q {M M' : Mem} {S : ST} (h : IX M S) (q : QX M M') : IX M' S := h.mv (fun i hi => q.1 i (by omega)) (q.2 75)
theorem PR.mv {M M' : Mem} {u : Nat} {H : Nat → AM} (h : PR M u H) (e0 : gM M' 109 21 = gM M 109 21) (e1 : gM M' 121 = gM M 121) : PR M' u H := by
  unfold PR; rw [e0, e1]; exact h
theorem KR.mv {M M' : Mem} {kb : Nat} {I : Nat → AM} (h : KR M kb I) (e0 : gM M' 119 = gM M 119) (e1 : gM M' 120 = gM M 120) : KR M' kb I := by
  unfold KR; rw [e0, e1]; exact h
theorem SR.mv {M M' : Mem} {sn : Nat} {sk so : Nat → Nat} (h : SR M sn sk so) (e0 : gM M' 109 24 = gM M 109 24) (e1 : gM M' 122 = gM M 122) (e2 : gM M' 123 = gM M 123) : SR M' sn sk so := by
  unfold SR; rw [e0, e1, e2]; exact h
theorem TR.mv {M M' : Mem} {l : Nat} {x : Nat → Nat} (h : TR M l x) (e0 : gM M' 109 3 = gM M 109 3) (e1 : gM M' 110 = gM M 110) : TR M' l x := by
  unfold TR; rw [e0, e1]; exact h
theorem NR.mv {M M' : Mem} {V : FV} {A : AM} (h : NR M V A) (e : ∀ i, 111 ≤ i → i ≤ 117 → gM M' i = gM M i) : NR M' V A := by
  refine ⟨h.1.mv (fun i h1 h2 => e i h1 (by omega)), ?_⟩
  rw [e 117 (by decide) (by decide)]
  exact h.2
theorem IR.mv {M M' : Mem} {S : ST} (h : IR M S) (e : ∀ i, 110 ≤ i → i ≠ 118 → i ≠ 124 → i ≠ 125 → gM M' i = gM M i) (e3 : gM M' 109 3 = gM M 109 3) (e21 : gM M' 109 21 = gM M 109 21) (e24 : gM M' 109 24 = gM M 109 24) (eL : gL M' 109 = gL M 109) : IR M' S :=
  ⟨h.1.mv (fun i h1 h2 => e i (by omega) (by omega) (by omega) (by omega)), h.2.1.mv e21 (e 121 (by decide) (by decide) (by decide) (by decide)), h.2.2.1.mv (e 119 (by decide) (by decide) (by decide) (by decide)) (e 120 (by decide) (by decide) (by decide) (by decide)), h.2.2.2.1.mv e24 (e 122 (by decide) (by decide) (by decide) (by decide)) (e 123 (by decide) (by decide) (by decide) (by decide)), h.2.2.2.2.1.mv e3 (e 110 (by decide) (by decide) (by decide) (by decide)), eL.trans h.2.2.2.2.2⟩
theorem IR.q {M M' : Mem} {S : ST} (h : IR M S) (q : QR M M') : IR M' S := h.mv (fun i h1 h2 h3 h4 => q.1 i h2 h3 h4 (by omega)) (q.2.1 3 (by decide)) (q.2.1 21 (by decide)) (q.2.1 24 (by decide)) (q.2.2 109)
/-- the class leaves the reference's cells alone, and the reference the class's -/
def FC (M M' : Mem) : Prop := ∀ i, 109 ≤ i → gM M' i = gM M i ∧ gL M' i = gL M i
def FD (M M' : Mem) : Prop := ∀ i, i < 109 → gM M' i = gM M i ∧ gL M' i = gL M i
theorem IR.c {M M' : Mem} {S : ST} (h : IR M S) (f : FC M M') : IR M' S := h.mv (fun i h1 _ _ _ => (f i (by omega)).1) (by rw [(f 109 (by decide)).1]) (by rw [(f 109 (by decide)).1]) (by rw [(f 109 (by decide)).1]) (f 109 (by decide)).2
theorem IX.d {M M' : Mem} {S : ST} (h : IX M S) (f : FD M M') : IX M' S := h.mv (fun i hi => (f i (by omega)).1) (f 75 (by decide)).2
theorem QX.c {M M' : Mem} (h : QX M M') : FC M M' := fun i hi => ⟨h.1 i (by omega), h.2 i⟩
theorem QR.d {M M' : Mem} (h : QR M M') : FD M M' := fun i hi => ⟨h.1 i (by omega) (by omega) (by omega) (by omega), h.2.2 i⟩
def Step (fx fr : Mem → Option (Mem × Int32)) : Prop := ∀ M S, SOkS S → IX M S → IR M S → ∃ M1 M2 r S', fx M = some (M1, r) ∧ fr M1 = some (M2, r) ∧ SOkS S' ∧ IX M2 S' ∧ IR M2 S'
theorem step_of {fx fr : Mem → Option (Mem × Int32)} (res : ST → Int32) (nx : ST → ST) (hx : ∀ M S, SOkS S → IX M S → ∃ M1, fx M = some (M1, res S) ∧ FC M M1 ∧ IX M1 (nx S)) (hr : ∀ M S, SOkS S → IR M S → ∃ M1, fr M = some (M1, res S) ∧ FD M M1 ∧ IR M1 (nx S)) (ho : ∀ S, SOkS S → SOkS (nx S)) : Step fx fr := by
  intro M S h0 h1 h2
  obtain ⟨M1, a1, a2, a3⟩ := hx M S h0 h1
  obtain ⟨M2, b1, b2, b3⟩ := hr M1 S h0 (h2.c a2)
  exact ⟨M1, M2, res S, nx S, a1, b1, ho S h0, a3.d b2, b3⟩
theorem step_q {fx fr : Mem → Option (Mem × Int32)} (res : ST → Int32) (hx : ∀ M S, SOkS S → IX M S → ∃ M1, fx M = some (M1, res S) ∧ QX M M1) (hr : ∀ M S, SOkS S → IR M S → ∃ M1, fr M = some (M1, res S) ∧ QR M M1) : Step fx fr :=
  step_of res (fun S => S) (fun M S h0 h1 => by obtain ⟨M1, a, b⟩ := hx M S h0 h1; exact ⟨M1, a, b.c, h1.q b⟩) (fun M S h0 h1 => by obtain ⟨M1, a, b⟩ := hr M S h0 h1; exact ⟨M1, a, b.d, h1.q b⟩) (fun _ h => h)
theorem st_inBeats (x1 x2 : Int32) : Step (fun M => fX11_inBeats M x1 x2) (fun M => fX12_inBeats M x1 x2) := step_q (fun S => inBeatsS (sV S) (sA S) x1 x2) (fun M S h0 h => X_inBeats h0.1 h0.2.1 h.2.1 x1 x2) (fun M S h0 h => R_inBeats h0.1 h0.2.1 h.1 x1 x2)
theorem st_ends : Step fX11_ends fX12_ends := step_q (fun S => tOI 0 (tO (sV S) 400 (sA S))) (fun M S h0 h => X_ends h0.1 h0.2.1 h.2.1) (fun M S h0 h => R_ends h0.1 h0.2.1 h.1)
theorem st_last : Step fX11_last fX12_last := step_q (fun S => lastS (sV S) (sA S)) (fun M S h0 h => X_last h0.1 h0.2.1 h.2.1) (fun M S h0 h => R_last h0.1 h0.2.1 h.1)
theorem st_drift : Step fX11_drift fX12_drift := step_q (fun S => drS (sV S) (aW (sA S)) 400 1 (sA S)) (fun M S h0 h => X_drift h0.1 h0.2.1 h.2.1) (fun M S h0 h => R_drift h0.1 h0.2.1 h.1)
theorem st_mute (x1 : Int32) : Step (fun M => fX11_mute M x1) (fun M => fX12_mute M x1) := step_q (fun S => muteS (sV S) (sA S) x1) (fun M S h0 h => X_mute h0.1 h0.2.1 h.2.1 x1) (fun M S h0 h => R_mute h0.1 h0.2.1 h.1 x1)
theorem st_ring : Step fX11_ring fX12_ring := step_q (fun S => riS (sV S) (sA S) 400 1 (sA S)) (fun M S h0 h => X_ring h0.1 h0.2.1 h.2.1) (fun M S h0 h => R_ring h0.1 h0.2.1 h.1)
theorem st_first (x1 : Int32) : Step (fun M => fX11_first M x1) (fun M => fX12_first M x1) := step_q (fun S => firstS (sV S) (sA S) x1) (fun M S h0 h => ⟨M, X_first h0.1 h0.2.1 h.2.1 x1, QX.rfl⟩) (fun M S h0 h => R_first h0.1 h0.2.1 h.1 x1)
theorem st_best : Step fX11_best fX12_best := step_q (fun S => bestS (sV S) (sA S)) (fun M S h0 h => X_best h0.1 h0.2.1 h.2.1) (fun M S h0 h => R_best h0.1 h0.2.1 h.1)
theorem st_who : Step fX11_who fX12_who := step_q (fun S => whoS (sV S) (sA S) (sN S) (sK S) (sO S)) (fun M S h0 h => X_who h0.1 h0.2.1 h0.2.2.2.2.2.2.1 h.2.1 h.2.2.2.2.1) (fun M S h0 h => R_who h0.1 h0.2.1 h0.2.2.2.2.2.2.1 h.1 h.2.2.2.1)
theorem st_odds (x1 x2 x3 x4 : Int32) : Step (fun M => fX11_odds M x1 x2 x3 x4) (fun M => fX12_odds M x1 x2 x3 x4) := step_q (fun S => oddsS (sV S) (sA S) x1 x2 x3 x4) (fun M S h0 h => X_odds h0.1 h0.2.1 h.2.1 x1 x2 x3 x4) (fun M S h0 h => R_odds h0.1 h0.2.1 h.1 x1 x2 x3 x4)
theorem st_plan (x1 x2 x3 : Int32) : Step (fun M => fX11_plan M x1 x2 x3) (fun M => fX12_plan M x1 x2 x3) := step_q (fun S => planS (sV S) (sA S) x1 x2 x3) (fun M S h0 h => X_plan h0.1 h0.2.1 h.2.1 x1 x2 x3) (fun M S h0 h => R_plan h0.1 h0.2.1 h.1 x1 x2 x3)
/-! current, passenger, now, count -/
theorem flow_199 {V : FV} (hV : VOk V) {y : Nat} (hy : 199 ≤ y) : flowS V y = flowS V 199 := by
  unfold flowS
  refine congrArg Prod.snd (fol_congr _ _ _ (fun k _ hk q => ?_))
  have := (hV.2.2.2.2 k (by omega)).1
  unfold flowG
  have : (vY V k ≤ y ∧ q.1 ≤ vY V k) ↔ (vY V k ≤ 199 ∧ q.1 ≤ vY V k) := by omega
  simp only [this]
def currentS (V : FV) (x1 : Int32) : Int32 := if 0 ≤ x1 ∧ x1 ≤ 400 then nN (flowS V x1.toNatClampNeg) else -1
theorem st_current (x1 : Int32) : Step (fun M => fX11_current M x1) (fun M => fX12_current M x1) := by
  refine step_q (fun S => currentS (sV S) x1) (fun M S h0 h => ?_) (fun M S h0 h => ?_)
  · refine ⟨M, ?_, QX.rfl⟩
    unfold fX11_current currentS
    by_cases h1 : x1 < 0
    · rw [if_pos h1, if_neg (fun e => Int32.not_lt.mpr e.1 h1)]
    rw [if_neg h1]
    by_cases h2 : x1 ≤ 400
    · rw [if_pos h2, if_pos (show 0 ≤ x1 ∧ x1 ≤ 400 from ⟨Int32.not_lt.mp h1, h2⟩)]
      obtain ⟨y, hy, rfl⟩ := to_nN_le (m := 400) (by decide) (Int32.not_lt.mp h1) h2
      rw [nN_cl (by omega)]
      rcases Nat.lt_or_ge y 200 with h3 | h3
      · rw [flowX h.2.1.1 (by omega), bI_some]
      · have := flowX (y := 199) h.2.1.1 (by decide)
        unfold fX2_flowAt at this ⊢
        rw [if_pos (Int32.not_lt.mp h1), if_pos (show (199 : Int32) < nN y from (nN_lt (a := 199) (by decide) (by omega)).mpr (by omega)), flow_199 h0.1 (by omega)]
        rw [if_pos (by decide), if_neg (show ¬ (199 : Int32) < nN 199 by decide)] at this
        exact congrArg (fun o => bI o (fun M3 r4 => some (M3, r4))) this
    · rw [if_neg h2, if_neg (fun e => h2 e.2)]
  · unfold fX12_current currentS
    have q0 := QR.t M 0
    by_cases h1 : 0 ≤ x1 ∧ x1 ≤ 400
    · rw [in_y h1.1 h1.2, bI_some, if_neg (by decide), if_pos h1]
      obtain ⟨y, hy, rfl⟩ := to_nN_le (m := 400) (by decide) h1.1 h1.2
      rw [nN_cl (by omega), flowR (h.1.q q0).1 h0.1 (by omega), bI_some]
      exact ⟨_, rfl, q0⟩
    · rw [in_n h1, bI_some, if_pos rfl, if_neg h1]; exact ⟨_, rfl, q0⟩
def passS (V : FV) (A : AM) (x1 x2 : Int32) : Int32 := if 0 ≤ x1 ∧ x1 < nN (vN V) then (if x2 = 0 then nN (vS V x1.toNatClampNeg) else if x2 = 1 then nN (vK V x1.toNatClampNeg) else if x2 = 2 then nN (vH V x1.toNatClampNeg) else if x2 = 3 then nN (aS A x1.toNatClampNeg) else if x2 = 4 then nN (aD A x1.toNatClampNeg) else if x2 = 5 then ((nN (aO A)) >>> (x1 &&& 31)) &&& 1 else -1) else -1
theorem st_passenger (x1 x2 : Int32) : Step (fun M => fX11_passenger M x1 x2) (fun M => fX12_passenger M x1 x2) := by
  refine step_q (fun S => passS (sV S) (sA S) x1 x2) (fun M S h0 h => ?_) (fun M S h0 h => ?_)
  · refine ⟨M, ?_, QX.rfl⟩
    have hn := h0.1.1
    unfold fX11_passenger passS
    rw [hasX h0.1 h.2.1.1, bI_some]
    by_cases h1 : 0 ≤ x1 ∧ x1 < nN (vN (sV S))
    · rw [if_pos h1, if_pos h1, if_neg (by decide)]
      obtain ⟨p, hp, rfl⟩ := to_nN_lt (by omega) h1.1 h1.2
      have e := h.2.1.1.2.2.2.1 p hp
      have eb := h.2.1.2.1
      rw [nN_cl (by omega), e.1, e.2.1, e.2.2, silX h0.2.1 h0.1 h.2.1.2 hp, bI_some, eb.2.2.2.2 p (by omega), eb.2.2.1]
      have hin : inB (nN p) 6 := (nN_inB (by omega)).mpr (by omega)
      simp only [if_pos hin]
      split
      · rfl
      split
      · rfl
      split
      · rfl
      split
      · rfl
      split
      · rfl
      split <;> rfl
    · rw [if_neg h1, if_neg h1, if_pos rfl]
  · have q0 := QR.t M 0
    refine ⟨sM M 109 0 0, ?_, q0⟩
    have hn := h0.1.1
    have h' := h.1.q q0
    unfold fX12_passenger passS
    rw [hasR h0.1 h'.1, bI_some]
    by_cases h1 : 0 ≤ x1 ∧ x1 < nN (vN (sV S))
    · rw [if_pos h1, if_pos h1, if_neg (by decide)]
      obtain ⟨p, hp, rfl⟩ := to_nN_lt (by omega) h1.1 h1.2
      have e := h'.1.2.2.2.1 p hp
      have er := h'.2.2.2.2 p (by omega)
      have hin : inB (nN p) 12 := (nN_inB (by omega)).mpr (by omega)
      have hi3 : inB (nN (3 + p)) 15 := (nN_inB (by omega)).mpr (by omega)
      have hi9 : inB (nN (9 + p)) 15 := (nN_inB (by omega)).mpr (by omega)
      by_cases h2 : 0 ≤ x2 ∧ x2 ≤ 5
      · rw [in_y h2.1 h2.2, bI_some, if_neg (by decide)]
        obtain ⟨k, hk, rfl⟩ := to_nN_le (m := 5) (by decide) h2.1 h2.2
        rw [show (3 : Int32) + nN p = nN (3 + p) from nN_add 3 p, show (9 : Int32) + nN p = nN (9 + p) from nN_add 9 p, nN_cl (by omega), nN_cl (by omega), nN_cl (by omega), e.1, e.2.1, e.2.2, er.1, er.2, h'.2.2.2.1]
        simp only [if_pos hin, if_pos hi3, if_pos hi9]
        rcases (show k = 0 ∨ k = 1 ∨ k = 2 ∨ k = 3 ∨ k = 4 ∨ k = 5 by omega) with rfl | rfl | rfl | rfl | rfl | rfl <;> rfl
      · rw [in_n h2, bI_some, if_pos rfl]
        have n0 : ¬ x2 = 0 := fun e => h2 (by rw [e]; decide)
        have n1 : ¬ x2 = 1 := fun e => h2 (by rw [e]; decide)
        have n2 : ¬ x2 = 2 := fun e => h2 (by rw [e]; decide)
        have n3 : ¬ x2 = 3 := fun e => h2 (by rw [e]; decide)
        have n4 : ¬ x2 = 4 := fun e => h2 (by rw [e]; decide)
        have n5 : ¬ x2 = 5 := fun e => h2 (by rw [e]; decide)
        rw [if_neg n0, if_neg n1, if_neg n2, if_neg n3, if_neg n4, if_neg n5]
    · rw [if_neg h1, if_neg h1, if_pos rfl]
def nowS (V : FV) (A : AM) (u : Nat) (x1 : Int32) : Int32 := if x1 = 0 then nN (aT A) else if x1 = 1 then nN (aW A) else if x1 = 2 then nN (aO A) else if x1 = 3 then pI (pullS V (aO A)) else if x1 = 4 then (if vW V ≤ aW A then 1 else 0) else if x1 = 5 then nN (wsum V A) else if x1 = 6 then nN u else -1
theorem st_now (x1 : Int32) : Step (fun M => fX11_now M x1) (fun M => fX12_now M x1) := by
  refine step_q (fun S => nowS (sV S) (sA S) (sU S) x1) (fun M S h0 h => ?_) (fun M S h0 h => ?_)
  · refine ⟨M, ?_, QX.rfl⟩
    have eb := h.2.1.2.1
    obtain ⟨w, -, -, hu, -⟩ := h.2.2.1
    unfold fX11_now nowS
    rw [eb.1, eb.2.1, eb.2.2.1, pullX h.2.1.1 (lt64 h0.1 h0.2.1.2.2.1), bI_some, overNow h0.1 h0.2.1 h.2.1, bI_some, wordsX h0.1 h0.2.1 h.2.1.2, bI_some, hu]
    have e4 : (if (if vW (sV S) ≤ aW (sA S) then (1 : Int32) else 0) = 0 then some (M, (0 : Int32)) else some (M, 1)) = some (M, if vW (sV S) ≤ aW (sA S) then 1 else 0) := by
      split
      · rw [if_neg (by decide)]
      · rw [if_pos rfl]
    rw [e4]
    split
    · rfl
    split
    · rfl
    split
    · rfl
    split
    · rfl
    split
    · rfl
    split
    · rfl
    split <;> rfl
  · have q0 := QR.t M 0
    refine ⟨sM M 109 0 0, ?_, q0⟩
    have h' := h.1.q q0
    have hu : gM (sM M 109 0 0) 109 21 = nN (sU S) := by rw [row_o (by decide)]; exact h.2.1.1
    unfold fX12_now nowS
    by_cases h2 : 0 ≤ x1 ∧ x1 ≤ 6
    · rw [in_y h2.1 h2.2, bI_some, if_neg (by decide), h'.2.2.2.1, pullR h'.1 h0.1 (lt64 h0.1 h0.2.1.2.2.1), bI_some, overR h'.1 h0.1 h'.2.2.1 h0.2.1.2.1, bI_some, wordsR h'.1 h0.1 h'.2.2, bI_some, hu]
      have e4 : (if (if vW (sV S) ≤ aW (sA S) then (1 : Int32) else 0) = 0 then some (sM M 109 0 0, (0 : Int32)) else some (sM M 109 0 0, 1)) = some (sM M 109 0 0, if vW (sV S) ≤ aW (sA S) then 1 else 0) := by
        split
        · rw [if_neg (by decide)]
        · rw [if_pos rfl]
      rw [e4]
      obtain ⟨k, hk, rfl⟩ := to_nN_le (m := 6) (by decide) h2.1 h2.2
      have hin : inB (nN k) 15 := (nN_inB (by omega)).mpr (by omega)
      rw [nN_cl (by omega)]
      simp only [if_pos hin]
      rcases (show k = 0 ∨ k = 1 ∨ k = 2 ∨ k = 3 ∨ k = 4 ∨ k = 5 ∨ k = 6 by omega) with rfl | rfl | rfl | rfl | rfl | rfl | rfl
      · show some (_, gM (sM M 109 0 0) 117 0) = some (_, nN (aT (sA S))); rw [h'.2.1]
      · show some (_, gM (sM M 109 0 0) 117 1) = some (_, nN (aW (sA S))); rw [h'.2.2.1]
      · show some (_, gM (sM M 109 0 0) 117 2) = some (_, nN (aO (sA S))); rw [h'.2.2.2.1]
      · rfl
      · rfl
      · rfl
      · rfl
    · rw [in_n h2, bI_some, if_pos rfl]
      have n0 : ¬ x1 = 0 := fun e => h2 (by rw [e]; decide)
      have n1 : ¬ x1 = 1 := fun e => h2 (by rw [e]; decide)
      have n2 : ¬ x1 = 2 := fun e => h2 (by rw [e]; decide)
      have n3 : ¬ x1 = 3 := fun e => h2 (by rw [e]; decide)
      have n4 : ¬ x1 = 4 := fun e => h2 (by rw [e]; decide)
      have n5 : ¬ x1 = 5 := fun e => h2 (by rw [e]; decide)
      have n6 : ¬ x1 = 6 := fun e => h2 (by rw [e]; decide)
      rw [if_neg n0, if_neg n1, if_neg n2, if_neg n3, if_neg n4, if_neg n5, if_neg n6]
def countS (S : ST) (x1 : Int32) : Int32 := if x1 = 0 then nN (vN (sV S)) else if x1 = 1 then nN (vW (sV S)) else if x1 = 2 then nN (vC (sV S)) else if x1 = 3 then nN (sN S) else if x1 = 4 then nN (sY S) else -1
theorem st_count (x1 : Int32) : Step (fun M => fX11_count M x1) (fun M => fX12_count M x1) := by
  refine step_q (fun S => countS S x1) (fun M S h0 h => ?_) (fun M S h0 h => ?_)
  · refine ⟨M, ?_, QX.rfl⟩
    unfold fX11_count countS
    rw [h.2.1.1.1, h.2.1.1.2.1, h.2.1.1.2.2.1, h.2.2.2.2.1.1, h.2.2.2.2.2.1.1]
    split
    · rfl
    split
    · rfl
    split
    · rfl
    split
    · rfl
    split <;> rfl
  · have q0 := QR.t M 0
    refine ⟨sM M 109 0 0, ?_, q0⟩
    have h' := h.1.q q0
    have e24 : gM (sM M 109 0 0) 109 24 = nN (sN S) := by rw [row_o (by decide)]; exact h.2.2.2.1.1
    have e3 : gM (sM M 109 0 0) 109 3 = nN (sY S) := by rw [row_o (by decide)]; exact h.2.2.2.2.1.1
    unfold fX12_count countS
    by_cases h2 : 0 ≤ x1 ∧ x1 ≤ 2
    · rw [in_y h2.1 h2.2, bI_some, if_neg (by decide)]
      obtain ⟨k, hk, rfl⟩ := to_nN_le (m := 2) (by decide) h2.1 h2.2
      rw [if_pos ((nN_inB (by omega)).mpr (by omega)), nN_cl (by omega)]
      rcases (show k = 0 ∨ k = 1 ∨ k = 2 by omega) with rfl | rfl | rfl
      · rw [h'.1.1]; rfl
      · rw [h'.1.2.1]; rfl
      · rw [h'.1.2.2.1]; rfl
    · rw [in_n h2, bI_some, if_pos rfl, e24, e3]
      have n0 : ¬ x1 = 0 := fun e => h2 (by rw [e]; decide)
      have n1 : ¬ x1 = 1 := fun e => h2 (by rw [e]; decide)
      have n2 : ¬ x1 = 2 := fun e => h2 (by rw [e]; decide)
      rw [if_neg n0, if_neg n1, if_neg n2]
      split
      · rfl
      split <;> rfl
