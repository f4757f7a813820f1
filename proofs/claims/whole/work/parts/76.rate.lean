/-! rate, trace -/
theorem sLL (M : Mem) (i : Nat) (a b : Int64) : sL (sL M i a) i b = sL M i b := mem_ext (fun _ _ => rfl) (fun j => by rw [l_sL, l_sL, l_sL]; split <;> rfl)
theorem lLL (M : Mem) (i : Nat) (a : Int64) : gL (sL M i a) i = a := by rw [l_sL, if_pos rfl]
theorem IX.setR {M : Mem} {S : ST} {t : Int64} (h : IX M S) : IX (sL M 75 t) (setR S t) := ⟨h.1, h.2.1, h.2.2.1, h.2.2.2.1, h.2.2.2.2.1, h.2.2.2.2.2.1, lLL M 75 t⟩
theorem IR.setR {M : Mem} {S : ST} {t : Int64} (h : IR M S) : IR (sL M 109 t) (setR S t) := ⟨h.1, h.2.1, h.2.2.1, h.2.2.2.1, h.2.2.2.2.1, lLL M 109 t⟩
theorem a64 (x a b c : Int64) (h : a + b = c) : x + a + b = x + c := by rw [Int64.add_assoc, h]
abbrev rateC (x1 x2 : Int32) (S : ST) : Prop := (0 ≤ x1 ∧ x1 ≤ 5) ∧ (0 ≤ x2 ∧ x2 < nN (vN (sV S)))
def rateV (V : FV) (A : AM) (k p : Nat) : Int32 := if k = 0 then nN (vS V p) else if k = 1 then nN (vS V p) + nN (aS A p) else if k = 2 then nN (vS V p) - nN (vK V p) else if k = 3 then 2 * (nN (vS V p) + nN (aS A p)) else if k = 4 then nN (vS V p) - nN (vK V p) + nN p else nN (vS V p) + nN (aD A p)
def rateI (k : Nat) : Int64 := if k = 0 then 1 else if k = 1 then 11 else if k = 2 then 101 else if k = 3 then 1011 else if k = 4 then 10101 else 100001
def rateRes (x1 x2 : Int32) (S : ST) : Int32 := if rateC x1 x2 S then rateV (sV S) (sA S) x1.toNatClampNeg x2.toNatClampNeg else -1000000
def rateNx (x1 x2 : Int32) (S : ST) : ST := if rateC x1 x2 S then setR S (sT S + rateI x1.toNatClampNeg) else S
theorem worthX {M : Mem} {V : FV} {A : AM} {f p k : Nat} (hV : VOk V) (hA : AOk V 9999 A) (hF : FX M f V) (hM : RX V A M 19) (hp : p < vN V) (hk : k ≤ 5) : fworth (nN k) M f 19 (nN p) = some (sL M 75 (gL M 75 + rateI k), rateV V A k p) := by
  have hn := hV.1
  have e := hF.2.2.2.1 p hp
  have hin : inB (nN p) 6 := (nN_inB (by omega)).mpr (by omega)
  have h7 : ∀ t, fX7_worth (sL M 75 t) f 19 (nN p) = some (sL M 75 (t + 1), nN (vS V p)) := fun t => by
    unfold fX7_worth
    rw [if_pos hin, lLL, sLL, nN_cl (by omega), show gM (sL M 75 (t + 1)) (f + 1) p = gM M (f + 1) p from rfl, e.1]
  have hs : ∀ t, fX4_silenceOf (sL M 75 t) 19 (nN p) = some (sL M 75 t, nN (aS A p)) := fun t => silX (M := sL M 75 t) hA hV hM hp
  have h5 : ∀ t, fX5_worth (sL M 75 t) f 19 (nN p) = some (sL M 75 (t + 11), nN (vS V p) + nN (aS A p)) := fun t => by
    unfold fX5_worth
    rw [lLL, sLL, h7, bI_some, hs, bI_some, a64 t 10 1 11 rfl]
  have h1 : ∀ t, fX1_worth (sL M 75 t) f 19 (nN p) = some (sL M 75 (t + 101), nN (vS V p) - nN (vK V p)) := fun t => by
    unfold fX1_worth
    rw [lLL, sLL, h7, bI_some, if_pos hin, nN_cl (by omega), a64 t 100 1 101 rfl, show gM (sL M 75 (t + 101)) (f + 2) p = gM M (f + 2) p from rfl, e.2.1]
  have hM0 : M = sL M 75 (gL M 75) := mem_ext (fun _ _ => rfl) (fun j => by rw [l_sL]; split <;> simp_all)
  generalize ht : gL M 75 = t
  have hM1 : ∀ g : Mem → Option (Mem × Int32), g M = g (sL M 75 t) := fun g => by rw [← ht, ← hM0]
  rw [hM1 (fun M => fworth (nN k) M f 19 (nN p))]
  unfold fworth rateI rateV
  rcases (show k = 0 ∨ k = 1 ∨ k = 2 ∨ k = 3 ∨ k = 4 ∨ k = 5 by omega) with rfl | rfl | rfl | rfl | rfl | rfl
  · exact h7 t
  · exact h5 t
  · exact h1 t
  · show fX3_worth (sL M 75 t) f 19 (nN p) = some (sL M 75 (t + 1011), 2 * (nN (vS V p) + nN (aS A p)))
    unfold fX3_worth
    rw [lLL, sLL, h5, bI_some, a64 t 1000 11 1011 rfl]
  · show fX6_worth (sL M 75 t) f 19 (nN p) = some (sL M 75 (t + 10101), nN (vS V p) - nN (vK V p) + nN p)
    unfold fX6_worth
    rw [lLL, sLL, h1, bI_some, a64 t 10000 101 10101 rfl]
  · show fX0_worth (sL M 75 t) f 19 (nN p) = some (sL M 75 (t + 100001), nN (vS V p) + nN (aD A p))
    unfold fX0_worth
    rw [lLL, sLL, h7, bI_some, if_pos hin, nN_cl (by omega), a64 t 100000 1 100001 rfl, show gM (sL M 75 (t + 100001)) (19 + 2) p = gM M (19 + 2) p from rfl, hM.1.2.2.2.2 p (by omega)]
theorem st_rate (x1 x2 : Int32) : Step (fun M => fX11_rate M x1 x2) (fun M => fX12_rate M x1 x2) := by
  refine step_c (rateRes x1 x2) (rateNx x1 x2) (fun M S h0 h => ?_) (fun M S h0 h => ?_) (fun S h0 => ?_)
  · show ∃ M1, fX11_rate M x1 x2 = _ ∧ _
    have hn := h0.1.1
    unfold fX11_rate rateRes rateNx
    rw [hasX h0.1 h.2.1.1, bI_some]
    by_cases hc : rateC x1 x2 S
    · obtain ⟨⟨c1, c2⟩, c3⟩ := hc
      have hc : rateC x1 x2 S := ⟨⟨c1, c2⟩, c3⟩
      obtain ⟨k, hk, rfl⟩ := to_nN_le (m := 5) (by decide) c1 c2
      obtain ⟨p, hp, rfl⟩ := to_nN_lt (by omega) c3.1 c3.2
      rw [if_pos hc, if_pos hc, if_neg (Int32.not_lt.mpr c1), if_neg (show ¬ (6 : Int32) ≤ nN k from fun e => by have := (nN_le (a := 6) (by decide) (by omega)).mp e; omega), if_pos c3, if_neg (by decide), if_pos ((nN_inB (by omega)).mpr (by omega)), worthX h0.1 h0.2.1 h.2.1.1 h.2.1.2 hp hk, bI_some, h.2.2.2.2.2.2, nN_cl (by omega), nN_cl (by omega)]
      exact ⟨_, rfl, fun i hi => ⟨rfl, by rw [l_sL, if_neg (by omega)]⟩, h.setR⟩
    · rw [if_neg hc, if_neg hc]
      refine ⟨M, ?_, FC.rfl, h⟩
      by_cases c1 : x1 < 0
      · rw [if_pos c1]
      rw [if_neg c1]
      by_cases c2 : 6 ≤ x1
      · rw [if_pos c2]
      have c2' : x1 ≤ 5 := by
        obtain ⟨k, hk, rfl⟩ := to_nN (Int32.not_lt.mp c1)
        exact (nN_le (b := 5) hk (by decide)).mpr (Nat.not_lt.mp (fun e : 5 < k => c2 ((nN_le (a := 6) (by decide) hk).mpr e)))
      rw [if_neg c2, if_neg (fun e => hc ⟨⟨Int32.not_lt.mp c1, c2'⟩, e⟩), if_pos rfl]
  · show ∃ M1, fX12_rate M x1 x2 = _ ∧ _
    have hn := h0.1.1
    have q0 := QR.t M 0
    have h' := h.q q0
    unfold fX12_rate rateRes rateNx
    generalize sM M 109 0 0 = N at q0 h' ⊢
    by_cases hc : rateC x1 x2 S
    · obtain ⟨⟨c1, c2⟩, c3⟩ := hc
      have hc : rateC x1 x2 S := ⟨⟨c1, c2⟩, c3⟩
      rw [if_pos hc, if_pos hc, in_y c1 c2, bI_some, if_neg (by decide), hasR h0.1 h'.1.1, bI_some, if_pos c3, if_neg (by decide)]
      obtain ⟨k, hk, rfl⟩ := to_nN_le (m := 5) (by decide) c1 c2
      obtain ⟨p, hp, rfl⟩ := to_nN_lt (by omega) c3.1 c3.2
      have e := h'.1.1.2.2.2.1 p hp
      have er := h'.1.2.2.2.2 p (by omega)
      have hin : inB (nN p) 12 := (nN_inB (by omega)).mpr (by omega)
      have hi3 : inB (nN (3 + p)) 15 := (nN_inB (by omega)).mpr (by omega)
      have hi9 : inB (nN (9 + p)) 15 := (nN_inB (by omega)).mpr (by omega)
      have eL := h'.2.2.2.2.2
      have hx : ∀ t, IR (sL N 109 t) (setR S t) := fun t => h'.setR
      have hf : ∀ t, FD M (sL N 109 t) := fun t => q0.d.tr (fun i hi => ⟨rfl, by rw [l_sL, if_neg (by omega)]⟩)
      unfold sX12_rate_116
      have g2 : ∀ t, gM (sL N 109 t) 112 p = nN (vS (sV S) p) := fun t => e.1
      have g9 : ∀ t, gM (sL N 109 t) 117 (9 + p) = nN (aD (sA S) p) := fun t => er.2
      rw [show (3 : Int32) + nN p = nN (3 + p) from nN_add 3 p, show (9 : Int32) + nN p = nN (9 + p) from nN_add 9 p, if_pos hin, if_pos hi3, nN_cl (show p < 2147483648 by omega), nN_cl (show 3 + p < 2147483648 by omega), nN_cl (show 9 + p < 2147483648 by omega), e.1, e.2.1, er.1, eL, nN_cl (show k < 2147483648 by omega)]
      simp only [if_pos hin, if_pos hi9, g2, g9]
      rcases (show k = 0 ∨ k = 1 ∨ k = 2 ∨ k = 3 ∨ k = 4 ∨ k = 5 by omega) with rfl | rfl | rfl | rfl | rfl | rfl <;> exact ⟨_, rfl, hf _, hx _⟩
    · rw [if_neg hc, if_neg hc]
      refine ⟨N, ?_, q0.d, h'⟩
      by_cases c1 : 0 ≤ x1 ∧ x1 ≤ 5
      · rw [in_y c1.1 c1.2, bI_some, if_neg (by decide), hasR h0.1 h'.1.1, bI_some, if_neg (fun e => hc ⟨c1, e⟩), if_pos rfl]
      · rw [in_n c1, bI_some, if_pos rfl]
  · unfold rateNx
    split
    · exact h0
    · exact h0
theorem st_trace {M : Mem} {S : ST} (h0 : SOkS S) (h : IX M S) (h' : IR M S) : fX11_trace M = some (M, sT S) ∧ fX12_trace M = some (sM M 109 0 0, sT S) ∧ IX (sM M 109 0 0) S ∧ IR (sM M 109 0 0) S := by
  refine ⟨?_, ?_, h.d (QR.t M 0).d, h'.q (QR.t M 0)⟩
  · unfold fX11_trace; rw [h.2.2.2.2.2.2]
  · unfold fX12_trace; rw [l_sM, h'.2.2.2.2.2]
