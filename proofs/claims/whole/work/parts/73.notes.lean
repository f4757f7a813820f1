/-! what may be undone -/
def cons (A : AM) (H : Nat → AM) : Nat → AM := fun j => if j = 0 then A else H (j - 1)
def up10 (u : Nat) : Nat := if u = 10 then 10 else u + 1
theorem addX {M : Mem} {V : FV} {A : AM} {u : Nat} {H : Nat → AM} (hn : vN V ≤ 6) (hu : u ≤ 10) (h : PX M V u H) (hA : RX V A M 19) : ∃ M1, fX8_add M 19 = some M1 ∧ PX M1 V (up10 u) (cons A H) ∧ (∀ i, i ≠ 22 → (i < 24 ∨ 54 ≤ i) → gM M1 i = gM M i) ∧ ∀ i, gL M1 i = gL M i := by
  obtain ⟨w, h1, h2, h3, h4⟩ := h
  unfold fX8_add
  have hm : (w + 1) % 10 < 10 := Nat.mod_lt _ (by decide)
  rw [h2, nN_succ, show (nN (w + 1) - nN (w + 1) / 10 * 10) = nN ((w + 1) % 10) from nN_rem (b := 10) (by omega) (by decide), row_h, if_pos ((nN_inB (by omega)).mpr hm), nN_cl (by omega)]
  have hb := mo_Pn hm
  obtain ⟨M1, a1, a2, a3⟩ := copyX (M := sM M 22 1 (nN ((w + 1) % 10))) hb mo_19 (by omega)
  rw [a1, bV_some]
  have e22 : gM M1 22 = gM (sM M 22 1 (nN ((w + 1) % 10))) 22 := a2.1 22 (by omega) (by omega) (by omega)
  have hA' : RX V A (sM M 22 1 (nN ((w + 1) % 10))) 19 := hA.mv (funext fun j => g_si (by decide)) (funext fun j => g_si (by decide)) (funext fun j => g_si (by decide))
  have eu : gM M1 22 2 = nN u := by rw [e22, row_o (by decide)]; exact h3
  rw [eu, nN_succ]
  have emin : (if (10 : Int32) < nN (u + 1) then 10 else nN (u + 1)) = nN (up10 u) := by
    unfold up10
    by_cases h10 : u = 10
    · rw [if_pos h10, h10]; rfl
    · rw [if_neg h10, if_neg (show ¬ (10 : Int32) < nN (u + 1) from fun e => by have := (nN_lt (a := 10) (by decide) (by omega)).mp e; omega)]
  rw [emin]
  have fr : ∀ i, i ≠ 22 → gM (sM M1 22 2 (nN (up10 u))) i = gM M1 i := fun i hi => (sM_other M1 22 2 _ i hi).1
  refine ⟨_, rfl, ⟨(w + 1) % 10, hm, ?_, row_h, fun j hj => ?_⟩, fun i hi hr => ?_, fun i => ?_⟩
  · rw [row_o (by decide), e22, row_h]
  · have hu10 : up10 u ≤ 10 := by unfold up10; split <;> omega
    by_cases hj0 : j = 0
    · subst hj0
      rw [show ((w + 1) % 10 + 10 - 0) % 10 = (w + 1) % 10 by omega]
      exact (a3 V A hA' hn).mv (fr _ (by omega)) (fr _ (by omega)) (fr _ (by omega))
    · have hju : j - 1 < u := by unfold up10 at hj; split at hj <;> omega
      have hpos : ((w + 1) % 10 + 10 - j) % 10 = (w + 10 - (j - 1)) % 10 := by omega
      rw [hpos, show cons A H j = H (j - 1) by unfold cons; rw [if_neg hj0]]
      have hne : (w + 10 - (j - 1)) % 10 ≠ (w + 1) % 10 := by omega
      have hlt : (w + 10 - (j - 1)) % 10 < 10 := Nat.mod_lt _ (by decide)
      have hx := h4 (j - 1) hju
      have hx1 : RX V (H (j - 1)) (sM M 22 1 (nN ((w + 1) % 10))) (24 + 3 * ((w + 10 - (j - 1)) % 10)) := hx.mv (funext fun j => g_si (by omega)) (funext fun j => g_si (by omega)) (funext fun j => g_si (by omega))
      exact (hx1.fr (mo_Pn hlt) hb (by omega) a2).mv (fr _ (by omega)) (fr _ (by omega)) (fr _ (by omega))
  · rw [fr i hi, a2.1 i (by omega) (by omega) (by omega)]
    exact funext fun j => g_si hi
  · exact a2.2 i
theorem notes47 {u : Nat} (hu : u ≤ 9) : ∀ (c k fu : Nat) (M : Mem), k + c = 15 → c < fu → gM M 109 21 = nN u → ∃ M1, lX12_notes_47 fu M (nN k) = some M1 ∧ (∀ i, i ≠ 121 → i ≠ 109 → gM M1 i = gM M i) ∧ (∀ j, j ≠ 21 → gM M1 109 j = gM M 109 j) ∧ gM M1 109 21 = nN (u + 1) ∧ (∀ i, gL M1 i = gL M i) ∧ ∀ e, gM M1 121 e = if 15 * u + k ≤ e ∧ e < 15 * u + 15 then gM M 117 (e - 15 * u) else gM M 121 e := by
  intro c
  induction c with
  | zero =>
    intro k fu M hk hf h
    obtain ⟨fu, rfl⟩ := fu1 hf
    have hk : k = 15 := by omega
    subst hk
    refine ⟨sM M 109 21 (nN (u + 1)), ?_, fun i h1 h2 => (sM_other M 109 21 _ i h2).1, fun j hj => row_o hj, row_h, fun _ => rfl, fun e => ?_⟩
    · show sX12_notes_47 (lX12_notes_47 fu) M 15 = _
      unfold sX12_notes_47 sX12_notes_79
      rw [if_pos (by decide), h, nN_succ]
    · rw [g_si (by decide), if_neg (by omega)]
  | succ c ih =>
    intro k fu M hk hf h
    obtain ⟨fu, rfl⟩ := fu1 hf
    show ∃ M1, sX12_notes_47 (lX12_notes_47 fu) M (nN k) = some M1 ∧ _
    unfold sX12_notes_47
    rw [if_neg (show ¬ (15 : Int32) ≤ nN k from fun h => by have := (nN_le (a := 15) (by decide) (by omega)).mp h; omega), if_pos ((nN_inB (by omega)).mpr (by omega)), h, show (15 : Int32) * nN u = nN (15 * u) from nN_mul 15 u, nN_add, if_pos ((nN_inB (by omega)).mpr (by omega)), nN_cl (by omega), nN_cl (by omega), nN_succ]
    obtain ⟨M1, a1, a2, a3, a4, a5, a6⟩ := ih (k + 1) fu (sM M 121 (15 * u + k) (gM M 117 k)) (by omega) (by omega) (by rw [g_si (by decide)]; exact h)
    refine ⟨M1, a1, fun i h1 h2 => (a2 i h1 h2).trans (sM_other M 121 _ _ i h1).1, fun j hj => by rw [a3 j hj, g_si (by decide)], a4, a5, fun e => ?_⟩
    rw [a6 e, (sM_other M 121 (15 * u + k) (gM M 117 k) 117 (by decide)).1]
    by_cases h1 : e = 15 * u + k
    · rw [if_neg (by omega), if_pos (by omega), h1, row_h, show 15 * u + k - 15 * u = k by omega]
    · rw [row_o h1]
      by_cases h2 : 15 * u + (k + 1) ≤ e ∧ e < 15 * u + 15
      · rw [if_pos h2, if_pos (by omega)]
      · rw [if_neg h2, if_neg (by omega)]
theorem notes11 : ∀ (c k fu : Nat) (M : Mem), k + c = 135 → c < fu → ∃ M1, lX12_notes_11 fu M (nN k) = sX12_notes_39 M1 ∧ Fr1 121 M M1 ∧ ∀ e, gM M1 121 e = if k ≤ e ∧ e < 135 then gM M 121 (e + 15) else gM M 121 e := by
  intro c
  induction c with
  | zero =>
    intro k fu M hk hf
    obtain ⟨fu, rfl⟩ := fu1 hf
    refine ⟨M, ?_, Fr1.rfl, fun e => by rw [if_neg (by omega)]⟩
    show sX12_notes_11 (lX12_notes_11 fu) M (nN k) = _
    unfold sX12_notes_11
    rw [if_pos (show (135 : Int32) ≤ nN k from (nN_le (a := 135) (by decide) (by omega)).mpr (by omega))]
  | succ c ih =>
    intro k fu M hk hf
    obtain ⟨fu, rfl⟩ := fu1 hf
    show ∃ M1, sX12_notes_11 (lX12_notes_11 fu) M (nN k) = _ ∧ _
    unfold sX12_notes_11
    rw [if_neg (show ¬ (135 : Int32) ≤ nN k from fun h => by have := (nN_le (a := 135) (by decide) (by omega)).mp h; omega), show nN k + 15 = nN (k + 15) from nN_add k 15, if_pos ((nN_inB (by omega)).mpr (by omega)), if_pos ((nN_inB (by omega)).mpr (by omega)), nN_cl (by omega), nN_cl (by omega), nN_succ]
    obtain ⟨M1, a1, a2, a3⟩ := ih (k + 1) fu (sM M 121 k (gM M 121 (k + 15))) (by omega) (by omega)
    refine ⟨M1, a1, (Fr1.s 121 k _ M).tr a2, fun e => ?_⟩
    rw [a3 e]
    by_cases h1 : e = k
    · subst h1; rw [if_neg (by omega), row_h, if_pos (by omega)]
    · by_cases h2 : k + 1 ≤ e ∧ e < 135
      · rw [if_pos h2, row_o (by omega), if_pos (by omega)]
      · rw [if_neg h2, row_o h1, if_neg (by omega)]
theorem notesR {M : Mem} {A : AM} {u : Nat} {H : Nat → AM} (hu : u ≤ 10) (h : PR M u H) (hA : RR A (gM M 117)) : ∃ M1, fX12_notes M = some M1 ∧ PR M1 (up10 u) (cons A H) ∧ (∀ i, i ≠ 121 → i ≠ 109 → gM M1 i = gM M i) ∧ (∀ j, j ≠ 21 → gM M1 109 j = gM M 109 j) ∧ ∀ i, gL M1 i = gL M i := by
  unfold fX12_notes
  rw [h.1]
  by_cases h10 : u = 10
  · subst h10
    rw [if_pos (by decide)]
    obtain ⟨M1, a1, a2, a3⟩ := notes11 135 0 fuel M rfl (fuel_ge (by decide))
    obtain ⟨M2, b1, b2, b3, b4, b5, b6⟩ := notes47 (u := 9) (by decide) 15 0 fuel (sM M1 109 21 9) rfl (fuel_ge (by decide)) row_h
    refine ⟨M2, ?_, ⟨b4, fun j hj => ?_⟩, fun i h1 h2 => ?_, fun j hj => ?_, fun i => (b5 i).trans (a2.2 i)⟩
    · rw [show (0 : Int32) = nN 0 from rfl, a1]
      unfold sX12_notes_39
      exact b1
    · have hj : j < 10 := hj
      have e117 : gM (sM M1 109 21 9) 117 = gM M 117 := ((sM_other M1 109 21 9 117 (by decide)).1).trans (a2.1 117 (by decide))
      have e121 : ∀ e, gM (sM M1 109 21 9) 121 e = if e < 135 then gM M 121 (e + 15) else gM M 121 e := fun e => by
        rw [g_si (by decide), a3 e]
        by_cases he : e < 135
        · rw [if_pos he, if_pos ⟨Nat.zero_le _, he⟩]
        · rw [if_neg he, if_neg (fun hh => he hh.2)]
      by_cases hj0 : j = 0
      · subst hj0
        refine RR.of (r := gM M 117) hA (fun i hi => ?_)
        show gM M2 121 (15 * (10 - 1 - 0) + i) = gM M 117 i
        rw [b6, if_pos (by omega), e117, show 15 * (10 - 1 - 0) + i - 15 * 9 = i by omega]
      · rw [show cons A H j = H (j - 1) by unfold cons; rw [if_neg hj0]]
        refine RR.of (h.2 (j - 1) (by omega)) (fun i hi => ?_)
        show gM M2 121 (15 * (10 - 1 - j) + i) = gM M 121 (15 * (10 - 1 - (j - 1)) + i)
        rw [b6, if_neg (by omega), e121, if_pos (by omega), show 15 * (10 - 1 - j) + i + 15 = 15 * (10 - 1 - (j - 1)) + i by omega]
    · rw [b2 i h1 h2, (sM_other M1 109 21 9 i h2).1, a2.1 i h1]
    · rw [b3 j hj, row_o hj, a2.1 109 (by decide)]
  · rw [if_neg (show ¬ nN u = 10 from fun e => h10 ((nN_eq (b := 10) (by omega) (by decide)).mp e))]
    obtain ⟨M2, b1, b2, b3, b4, b5, b6⟩ := notes47 (u := u) (by omega) 15 0 fuel M rfl (fuel_ge (by decide)) h.1
    refine ⟨M2, b1, ?_, b2, b3, b5⟩
    unfold up10
    rw [if_neg h10]
    refine ⟨b4, fun j hj => ?_⟩
    by_cases hj0 : j = 0
    · subst hj0
      refine RR.of (r := gM M 117) hA (fun i hi => ?_)
      show gM M2 121 (15 * (u + 1 - 1 - 0) + i) = gM M 117 i
      rw [b6, if_pos (by omega)]
      congr 1; omega
    · rw [show cons A H j = H (j - 1) by unfold cons; rw [if_neg hj0]]
      refine RR.of (h.2 (j - 1) (by omega)) (fun i hi => ?_)
      show gM M2 121 (15 * (u + 1 - 1 - j) + i) = gM M 121 (15 * (u - 1 - (j - 1)) + i)
      rw [b6, if_neg (by omega)]
      congr 1; omega
/-! a new now -/
def setA (S : ST) (A : AM) (u : Nat) (H : Nat → AM) : ST := (sV S, A, u, H, S.2.2.2.2)
theorem IX.setA {M M' : Mem} {S : ST} {A : AM} {u : Nat} {H : Nat → AM} (h : IX M S) (e : ∀ i, i < 19 ∨ (54 ≤ i ∧ i < 58) ∨ (74 ≤ i ∧ i < 82) → gM M' i = gM M i) (eL : gL M' 75 = gL M 75) (hA : RX (sV S) A M' 19) (hP : PX M' (sV S) u H) : IX M' (setA S A u H) := by
  have e0 := e 0 (by decide)
  have hf := fe_b (isFe_feB (gM M 0 1))
  refine ⟨told_mv h.1 (by rw [e0]) (by rw [e0]), ⟨?_, hA⟩, hP, h.2.2.2.1.mv (by rw [e0]) (fun i h1 h2 => e i (by omega)), h.2.2.2.2.1.mv (by rw [e0]) (e 55 (by decide)) (e 56 (by decide)), h.2.2.2.2.2.1.mv (by rw [e 1 (by decide)]) (e 2 (by decide)), eL.trans h.2.2.2.2.2.2⟩
  rw [e0]
  exact h.2.1.1.mv (fun i h1 h2 => e i (by omega))
theorem IR.setA {M M' : Mem} {S : ST} {A : AM} {u : Nat} {H : Nat → AM} (h : IR M S) (e : ∀ i, 110 ≤ i → i ≠ 117 → i ≠ 118 → i ≠ 121 → gM M' i = gM M i) (e3 : gM M' 109 3 = gM M 109 3) (e24 : gM M' 109 24 = gM M 109 24) (eL : gL M' 109 = gL M 109) (hA : RR A (gM M' 117)) (hP : PR M' u H) : IR M' (setA S A u H) :=
  ⟨⟨h.1.1.mv (fun i h1 h2 => e i (by omega) (by omega) (by omega) (by omega)), hA⟩, hP, h.2.2.1.mv (e 119 (by decide) (by decide) (by decide) (by decide)) (e 120 (by decide) (by decide) (by decide) (by decide)), h.2.2.2.1.mv e24 (e 122 (by decide) (by decide) (by decide) (by decide)) (e 123 (by decide) (by decide) (by decide) (by decide)), h.2.2.2.2.1.mv e3 (e 110 (by decide) (by decide) (by decide) (by decide)), eL.trans h.2.2.2.2.2⟩
theorem SOkS.setA {S : ST} {A : AM} (h : SOkS S) (hA : AOk (sV S) 9999 A) : SOkS (setA S A (up10 (sU S)) (cons (sA S) (sH S))) := by
  refine ⟨h.1, hA, ?_, fun j hj => ?_, h.2.2.2.2⟩
  · show up10 (sU S) ≤ 10
    have := h.2.2.1
    unfold up10; split <;> omega
  · have hj : j < up10 (sU S) := hj
    show AOk (sV S) 9999 (cons (sA S) (sH S) j)
    unfold cons
    by_cases hj0 : j = 0
    · rw [if_pos hj0]; exact h.2.1
    · rw [if_neg hj0]
      exact h.2.2.2.1 (j - 1) (by unfold up10 at hj; split at hj <;> omega)
/-- to speak, noted -/
theorem utterX {M : Mem} {S : ST} {m : Nat} (h0 : SOkS S) (h : IX M S) (hm : m < 2 ^ vN (sV S)) : ∃ M1, fX11_utter M (nN m) = some M1 ∧ FC M M1 ∧ IX M1 (setA S (speakS (sV S) (sA S) m) (up10 (sU S)) (cons (sA S) (sH S))) := by
  unfold fX11_utter
  obtain ⟨M1, a1, a2, a3, a4⟩ := addX h0.1.1 h0.2.2.1 h.2.2.1 h.2.1.2
  have n1 : NX M1 (sV S) (sA S) := h.2.1.mv (by rw [a3 0 (by decide) (by decide)]) (fun i h1 h2 => a3 i (by omega) (by omega))
  obtain ⟨M2, b1, b2, b3⟩ := speakX n1.1 h0.1 (isFe_feB _) mo_19 hm (by have := h0.2.1.1; omega) n1.2.1
  rw [a1, bV_some, b1, bV_some]
  refine ⟨M2, rfl, fun i hi => ⟨?_, ?_⟩, h.setA (fun i hi => ?_) ?_ b3 (a2.mv (fun i hi => ?_))⟩
  · rw [b2.1 i (by omega) (by omega) (by omega), a3 i (by omega) (by omega)]
  · rw [b2.2, a4]
  · rw [b2.1 i (by omega) (by omega) (by omega), a3 i (by omega) (by omega)]
  · rw [b2.2, a4]
  · exact b2.1 i (by omega) (by omega) (by omega)
theorem utterR {M : Mem} {S : ST} {m : Nat} (h0 : SOkS S) (h : IR M S) (hm : m < 2 ^ vN (sV S)) {α : Type} (k : Mem → Option α) : ∃ M1, bV (fX12_notes M) (fun M7 => bV (fX12_speak M7 117 (nN m)) k) = k M1 ∧ FD M M1 ∧ IR M1 (setA S (speakS (sV S) (sA S) m) (up10 (sU S)) (cons (sA S) (sH S))) := by
  obtain ⟨M1, a1, a2, a3, a4, a5⟩ := notesR h0.2.2.1 h.2.1 h.1.2
  have n1 : NR M1 (sV S) (sA S) := h.1.mv (fun i h1 h2 => a3 i (by omega) (by omega))
  obtain ⟨M2, b1, b2, b3, b4⟩ := speakR n1.1 h0.1 (lt64 h0.1 hm) r_117 n1.2.2
  rw [a1, bV_some, b1, bV_some]
  refine ⟨M2, rfl, fun i hi => ⟨?_, ?_⟩, h.setA (fun i h1 h2 h3 h4 => ?_) ?_ ?_ ?_ ⟨b3.trans n1.2.1, b4⟩ (a2.mv ?_ ?_)⟩
  · rw [b2.1 i (by omega), a3 i (by omega) (by omega)]
  · rw [b2.2, a5]
  · rw [b2.1 i h2, a3 i h4 (by omega)]
  · rw [b2.1 109 (by decide), a4 3 (by decide)]
  · rw [b2.1 109 (by decide), a4 24 (by decide)]
  · rw [b2.2, a5]
  · rw [b2.1 109 (by decide)]
  · exact b2.1 121 (by decide)
theorem FD.tr {M M1 M2 : Mem} (h : FD M M1) (h2 : FD M1 M2) : FD M M2 := fun i hi => ⟨(h2 i hi).1.trans (h i hi).1, (h2 i hi).2.trans (h i hi).2⟩
theorem FC.tr {M M1 M2 : Mem} (h : FC M M1) (h2 : FC M1 M2) : FC M M2 := fun i hi => ⟨(h2 i hi).1.trans (h i hi).1, (h2 i hi).2.trans (h i hi).2⟩
theorem FD.rfl {M : Mem} : FD M M := fun _ _ => ⟨Eq.refl _, Eq.refl _⟩
theorem FC.rfl {M : Mem} : FC M M := fun _ _ => ⟨Eq.refl _, Eq.refl _⟩
/-- a state that a call may change or leave -/
theorem step_c {fx fr : Mem → Option (Mem × Int32)} (res : ST → Int32) (nx : ST → ST) (hx : ∀ M S, SOkS S → IX M S → ∃ M1, fx M = some (M1, res S) ∧ FC M M1 ∧ IX M1 (nx S)) (hr : ∀ M S, SOkS S → IR M S → ∃ M1, fr M = some (M1, res S) ∧ FD M M1 ∧ IR M1 (nx S)) (ho : ∀ S, SOkS S → SOkS (nx S)) : Step fx fr := step_of res nx hx hr ho
def noted (S : ST) (A : AM) : ST := setA S A (up10 (sU S)) (cons (sA S) (sH S))
abbrev hasS (S : ST) (x : Int32) : Prop := 0 ≤ x ∧ x < nN (vN (sV S))
abbrev ovS (S : ST) : Prop := vW (sV S) ≤ aW (sA S)
/-! pinches -/
def pinRes (x1 : Int32) (S : ST) : Int32 := if hasS S x1 then (if ovS S then -2 else nN (aD (speakS (sV S) (sA S) (2 ^ x1.toNatClampNeg)) x1.toNatClampNeg)) else -1
def pinNx (x1 : Int32) (S : ST) : ST := if hasS S x1 then (if ovS S then S else noted S (speakS (sV S) (sA S) (2 ^ x1.toNatClampNeg))) else S
theorem st_pinches (x1 : Int32) : Step (fun M => fX11_pinches M x1) (fun M => fX12_pinches M x1) := by
  refine step_c (pinRes x1) (pinNx x1) (fun M S h0 h => ?_) (fun M S h0 h => ?_) (fun S h0 => ?_)
  · have hn := h0.1.1
    show ∃ M1, fX11_pinches M x1 = _ ∧ _
    unfold fX11_pinches pinRes pinNx
    rw [hasX h0.1 h.2.1.1, bI_some]
    by_cases h1 : hasS S x1
    · rw [if_pos h1, if_pos h1, if_pos h1, if_neg (by decide), overNow h0.1 h0.2.1 h.2.1, bI_some]
      by_cases ho : ovS S
      · rw [if_pos ho, if_pos ho, if_pos ho, if_neg (by decide)]; exact ⟨M, rfl, FC.rfl, h⟩
      · rw [if_neg ho, if_neg ho, if_neg ho, if_pos rfl]
        obtain ⟨p, hp, rfl⟩ := to_nN_lt (by omega) h1.1 h1.2
        rw [sh1 (by omega), nN_cl (by omega)]
        obtain ⟨M1, a1, a2, a3⟩ := utterX h0 h (pw_lt hp)
        rw [a1, bV_some, if_pos ((nN_inB (by omega)).mpr (by omega))]
        refine ⟨M1, ?_, a2, a3⟩
        rw [show gM M1 21 p = _ from a3.2.1.2.1.2.2.2.2 p (by omega)]
        rfl
    · rw [if_neg h1, if_neg h1, if_neg h1, if_pos rfl]; exact ⟨M, rfl, FC.rfl, h⟩
  · have hn := h0.1.1
    have q0 := QR.t M 0
    have h' := h.q q0
    show ∃ M1, fX12_pinches M x1 = _ ∧ _
    unfold fX12_pinches pinRes pinNx
    rw [hasR h0.1 h'.1.1, bI_some]
    by_cases h1 : hasS S x1
    · rw [if_pos h1, if_pos h1, if_pos h1, if_neg (by decide), overR h'.1.1 h0.1 h'.1.2.2.1 h0.2.1.2.1, bI_some]
      by_cases ho : ovS S
      · rw [if_pos ho, if_pos ho, if_pos ho, if_neg (by decide)]; exact ⟨_, rfl, q0.d, h'⟩
      · rw [if_neg ho, if_neg ho, if_neg ho, if_pos rfl]
        obtain ⟨p, hp, rfl⟩ := to_nN_lt (by omega) h1.1 h1.2
        rw [sh1 (by omega), nN_cl (by omega), show (9 : Int32) + nN p = nN (9 + p) from nN_add 9 p, nN_cl (by omega)]
        obtain ⟨M1, a1, a2, a3⟩ := utterR h0 h' (pw_lt hp) (fun M8 => if inB (nN (9 + p)) 15 then some (M8, gM M8 117 (9 + p)) else none)
        rw [a1, if_pos ((nN_inB (by omega)).mpr (by omega))]
        refine ⟨M1, ?_, q0.d.tr a2, a3⟩
        rw [(a3.1.2.2.2.2 p (by omega)).2]
        rfl
    · rw [if_neg h1, if_neg h1, if_neg h1, if_pos rfl]; exact ⟨_, rfl, q0.d, h'⟩
  · unfold pinNx
    split
    · rename_i h1
      split
      · exact h0
      · have hn := h0.1.1
        obtain ⟨p, hp, rfl⟩ := to_nN_lt (by omega) h1.1 h1.2
        rw [nN_cl (by omega)]
        exact h0.setA (speak_ok h0.1 h0.2.1 (pw_lt hp))
    · exact h0
/-! quarrels -/
def qSet (x1 x2 : Int32) : Nat := 2 ^ x1.toNatClampNeg ||| 2 ^ x2.toNatClampNeg
def quaRes (x1 x2 : Int32) (S : ST) : Int32 := if hasS S x1 ∧ hasS S x2 ∧ x1 ≠ x2 then (if ovS S then -2 else pI (pullS (sV S) (qSet x1 x2))) else -1
def quaNx (x1 x2 : Int32) (S : ST) : ST := if hasS S x1 ∧ hasS S x2 ∧ x1 ≠ x2 then (if ovS S then S else noted S (speakS (sV S) (sA S) (qSet x1 x2))) else S
theorem st_quarrels (x1 x2 : Int32) : Step (fun M => fX11_quarrels M x1 x2) (fun M => fX12_quarrels M x1 x2) := by
  refine step_c (quaRes x1 x2) (quaNx x1 x2) (fun M S h0 h => ?_) (fun M S h0 h => ?_) (fun S h0 => ?_)
  · have hn := h0.1.1
    show ∃ M1, fX11_quarrels M x1 x2 = _ ∧ _
    unfold fX11_quarrels quaRes quaNx
    rw [hasX h0.1 h.2.1.1, bI_some, hasX h0.1 h.2.1.1, bI_some]
    by_cases h1 : ¬ hasS S x1
    · rw [if_neg h1, if_pos rfl, if_neg (fun e => h1 e.1), if_neg (fun e => h1 e.1)]; exact ⟨M, rfl, FC.rfl, h⟩
    have h1 := Classical.not_not.mp h1
    rw [if_pos h1, if_neg (by decide)]
    by_cases h2 : ¬ hasS S x2
    · rw [if_neg h2, if_pos rfl, if_neg (fun e => h2 e.2.1), if_neg (fun e => h2 e.2.1)]; exact ⟨M, rfl, FC.rfl, h⟩
    have h2 := Classical.not_not.mp h2
    rw [if_pos h2, if_neg (by decide)]
    by_cases h3 : x1 = x2
    · rw [if_pos h3, if_neg (fun e => e.2.2 h3), if_neg (fun e => e.2.2 h3)]; exact ⟨M, rfl, FC.rfl, h⟩
    rw [if_neg h3, if_pos (show hasS S x1 ∧ hasS S x2 ∧ x1 ≠ x2 from ⟨h1, h2, h3⟩), if_pos (show hasS S x1 ∧ hasS S x2 ∧ x1 ≠ x2 from ⟨h1, h2, h3⟩), overNow h0.1 h0.2.1 h.2.1, bI_some]
    by_cases ho : ovS S
    · rw [if_pos ho, if_pos ho, if_pos ho, if_neg (by decide)]; exact ⟨M, rfl, FC.rfl, h⟩
    · rw [if_neg ho, if_neg ho, if_neg ho, if_pos rfl]
      obtain ⟨p, hp, rfl⟩ := to_nN_lt (by omega) h1.1 h1.2
      obtain ⟨q, hq, rfl⟩ := to_nN_lt (by omega) h2.1 h2.2
      unfold qSet
      rw [sh1 (by omega), sh1 (by omega), nN_or, nN_cl (by omega), nN_cl (by omega)]
      have hm : 2 ^ p ||| 2 ^ q < 2 ^ vN (sV S) := Nat.or_lt_two_pow (pw_lt hp) (pw_lt hq)
      obtain ⟨M1, a1, a2, a3⟩ := utterX h0 h hm
      rw [a1, bV_some, a3.2.1.2.1.2.2.1]
      rw [show fX2_pullOf M1 (feB (gM M1 0 1)) (nN (aO (sA (setA S (speakS (sV S) (sA S) (2 ^ p ||| 2 ^ q)) (up10 (sU S)) (cons (sA S) (sH S)))))) = some (M1, pI (pullS (sV S) (2 ^ p ||| 2 ^ q))) from pullX a3.2.1.1 (lt64 h0.1 hm), bI_some]
      exact ⟨M1, rfl, a2, a3⟩
  · have hn := h0.1.1
    have q0 := QR.t M 0
    have h' := h.q q0
    show ∃ M1, fX12_quarrels M x1 x2 = _ ∧ _
    unfold fX12_quarrels quaRes quaNx
    rw [hasR h0.1 h'.1.1, bI_some, hasR h0.1 h'.1.1, bI_some]
    by_cases h1 : ¬ hasS S x1
    · rw [if_neg h1, if_pos rfl, if_neg (fun e => h1 e.1), if_neg (fun e => h1 e.1)]; exact ⟨_, rfl, q0.d, h'⟩
    have h1 := Classical.not_not.mp h1
    rw [if_pos h1, if_neg (by decide)]
    by_cases h2 : ¬ hasS S x2
    · rw [if_neg h2, if_pos rfl, if_neg (fun e => h2 e.2.1), if_neg (fun e => h2 e.2.1)]; exact ⟨_, rfl, q0.d, h'⟩
    have h2 := Classical.not_not.mp h2
    rw [if_pos h2, if_neg (by decide)]
    by_cases h3 : x1 = x2
    · rw [if_pos h3, if_neg (fun e => e.2.2 h3), if_neg (fun e => e.2.2 h3)]; exact ⟨_, rfl, q0.d, h'⟩
    rw [if_neg h3, if_pos (show hasS S x1 ∧ hasS S x2 ∧ x1 ≠ x2 from ⟨h1, h2, h3⟩), if_pos (show hasS S x1 ∧ hasS S x2 ∧ x1 ≠ x2 from ⟨h1, h2, h3⟩), overR h'.1.1 h0.1 h'.1.2.2.1 h0.2.1.2.1, bI_some]
    by_cases ho : ovS S
    · rw [if_pos ho, if_pos ho, if_pos ho, if_neg (by decide)]; exact ⟨_, rfl, q0.d, h'⟩
    · rw [if_neg ho, if_neg ho, if_neg ho, if_pos rfl]
      obtain ⟨p, hp, rfl⟩ := to_nN_lt (by omega) h1.1 h1.2
      obtain ⟨q, hq, rfl⟩ := to_nN_lt (by omega) h2.1 h2.2
      unfold qSet
      rw [sh1 (by omega), sh1 (by omega), nN_or, nN_cl (by omega), nN_cl (by omega)]
      have hm : 2 ^ p ||| 2 ^ q < 2 ^ vN (sV S) := Nat.or_lt_two_pow (pw_lt hp) (pw_lt hq)
      obtain ⟨M1, a1, a2, a3⟩ := utterR h0 h' hm (fun M12 => bI (fX12_pullOf M12 (gM M12 117 2)) fun M13 r14 => some (M13, r14))
      rw [a1, a3.1.2.2.2.1]
      rw [show fX12_pullOf M1 (nN (aO (sA (setA S (speakS (sV S) (sA S) (2 ^ p ||| 2 ^ q)) (up10 (sU S)) (cons (sA S) (sH S)))))) = some (M1, pI (pullS (sV S) (2 ^ p ||| 2 ^ q))) from pullR a3.1.1 h0.1 (lt64 h0.1 hm), bI_some]
      exact ⟨M1, rfl, q0.d.tr a2, a3⟩
  · unfold quaNx
    split
    · rename_i h1
      split
      · exact h0
      · have hn := h0.1.1
        obtain ⟨p, hp, e1⟩ := to_nN_lt (by omega) h1.1.1 h1.1.2
        obtain ⟨q, hq, e2⟩ := to_nN_lt (by omega) h1.2.1.1 h1.2.1.2
        unfold qSet
        rw [e1, e2, nN_cl (by omega), nN_cl (by omega)]
        exact h0.setA (speak_ok h0.1 h0.2.1 (Nat.or_lt_two_pow (pw_lt hp) (pw_lt hq)))
    · exact h0
