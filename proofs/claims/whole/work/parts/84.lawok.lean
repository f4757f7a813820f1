/-! the start, the law's loop -/
def S0 : ST := (V0, A0, 0, fun _ => A0, 0, fun _ => A0, (0, fun _ => 0, fun _ => 0), (0, fun _ => 0), 0)
theorem S0_ok : SOkS S0 := ⟨V0_ok, A0_ok V0_ok, Nat.zero_le _, fun j hj => absurd hj (Nat.not_lt_zero _), by show (0 : Nat) < 4; decide, fun i hi hb => absurd hb (by show ¬ (0 : Nat).testBit i = true; simp), ⟨Nat.zero_le _, fun j hj => absurd hj (Nat.not_lt_zero _)⟩, Nat.zero_le _, fun j hj => absurd hj (Nat.not_lt_zero _)⟩
theorem M0_z (i k : Nat) (a : ¬ shK i = 21) (b : ¬ shK i = 12) (c : ¬ shK i = 14) (d : ¬ i = 111) : gM M0 i k = nN 0 := by
  show (if shK i = 21 then m0L else if shK i = 12 then m0F else if shK i = 14 then m0M else if i = 111 then upd (fun _ => 0) (1 : Int32).toNatClampNeg 60 else (fun _ => 0)) k = nN 0
  rw [if_neg a, if_neg b, if_neg c, if_neg d]
  rfl
theorem IX0 : IX M0 S0 := by
  have h01 : gM M0 0 1 = 3 := by decide +kernel
  refine ⟨Or.inl ⟨h01, by decide +kernel⟩, ⟨?_, ⟨by decide +kernel, by decide +kernel, by decide +kernel, fun p hp => absurd hp (Nat.not_lt_zero _), fun p hp => M0_z 21 p (by decide) (by decide) (by decide) (by decide)⟩, by decide +kernel⟩, ⟨0, by decide, M0_z 22 1 (by decide) (by decide) (by decide) (by decide), M0_z 22 2 (by decide) (by decide) (by decide) (by decide), fun j hj => absurd hj (Nat.not_lt_zero _)⟩, ⟨by decide +kernel, fun i hi hb => absurd hb (by show ¬ (0 : Nat).testBit i = true; simp)⟩, ⟨by decide +kernel, fun j hj => absurd hj (Nat.not_lt_zero _)⟩, ⟨M0_z 1 1 (by decide) (by decide) (by decide) (by decide), fun j hj => absurd hj (Nat.not_lt_zero _)⟩, rfl⟩
  rw [h01, show feB 3 = 3 by decide]
  refine ⟨by decide +kernel, by decide +kernel, by decide +kernel, fun p hp => absurd hp (Nat.not_lt_zero _), fun o ho => ?_, fun y hy => ?_⟩
  · rw [M0_z (3 + 6) o (by decide) (by decide) (by decide) (by decide)]; rfl
  · rw [M0_z (3 + 7) y (by decide) (by decide) (by decide) (by decide)]; rfl
theorem IR0 : IR M0 S0 := by
  have z : ∀ i k, 112 ≤ i → i ≤ 123 → gM M0 i k = nN 0 := fun i k h1 h2 => by
    have h : ∀ i, i < 124 → 112 ≤ i → ¬ shK i = 21 ∧ ¬ shK i = 12 ∧ ¬ shK i = 14 := by decide +kernel
    obtain ⟨a, b, c⟩ := h i (by omega) h1
    exact M0_z i k a b c (by omega)
  have z9 : ∀ k, gM M0 109 k = nN 0 := fun k => M0_z 109 k (by decide) (by decide) (by decide) (by decide)
  refine ⟨⟨⟨by decide +kernel, by decide +kernel, by decide +kernel, fun p hp => absurd hp (Nat.not_lt_zero _), fun p hp => absurd hp (Nat.not_lt_zero _)⟩, z 117 0 (by decide) (by decide), z 117 1 (by decide) (by decide), z 117 2 (by decide) (by decide), fun p hp => ⟨z 117 _ (by decide) (by decide), z 117 _ (by decide) (by decide)⟩⟩, ⟨z9 21, fun j hj => absurd hj (Nat.not_lt_zero _)⟩, ⟨fun i hi => ?_, fun i hi hb => absurd hb (by show ¬ (0 : Nat).testBit i = true; simp)⟩, ⟨z9 24, fun j hj => absurd hj (Nat.not_lt_zero _)⟩, ⟨z9 3, fun j hj => absurd hj (Nat.not_lt_zero _)⟩, rfl⟩
  rw [z 120 i (by decide) (by decide)]
  show nN 0 = if (0 : Nat).testBit i = true then 1 else 0
  rw [if_neg (by simp)]
  rfl
theorem ite_some {c : Prop} [Decidable c] {a b : Option Unit} (h1 : c → a = some ()) (h2 : ¬ c → b = some ()) : (if c then a else b) = some () := by
  split
  · rename_i h; exact h1 h
  · rename_i h; exact h2 h
theorem step_run {fx fr : Mem → Option (Mem × Int32)} (h : Step fx fr) {rc : Mem → Option Unit} {M : Mem} {S : ST} (h0 : SOkS S) (h1 : IX M S) (h2 : IR M S) (hr : ∀ M2 S', SOkS S' → IX M2 S' → IR M2 S' → rc M2 = some ()) : (bI (fx M) fun M5 r6 => bI (fr M5) fun M7 r8 => if r6 = r8 then rc M7 else none) = some () := by
  obtain ⟨M1, M2, r, S', a1, a2, a3, a4, a5⟩ := h M S h0 h1 h2
  rw [a1, bI_some, a2, bI_some, if_pos rfl]
  exact hr M2 S' a3 a4 a5
theorem lg_self (x : Int64) : lg_cmp x x = 0 := by unfold lg_cmp; simp
theorem stop5 {L i : Nat} (hL : L ≤ 320) (hi : i ≤ 1000) : (Int32.ofNat L) - 5 < nN i ↔ L < i + 5 := by
  rcases Nat.lt_or_ge L 5 with h | h
  · have h1 : Int32.ofNat L - 5 < 0 := (show ∀ L, L < 5 → Int32.ofNat L - 5 < 0 by decide +kernel) L h
    exact ⟨fun _ => by omega, fun _ => Int32.lt_of_lt_of_le h1 (nN_nn (by omega))⟩
  · rw [show Int32.ofNat L - 5 = nN (L - 5) from nN_sub (b := 5) h, nN_lt (by omega) (by omega)]
    omega
theorem law_loop (xs : Nat → Int32) (L : Nat) (hL : L ≤ 320) : ∀ (c i fu : Nat) (M : Mem) (S : ST), L < i + 5 * c + 5 → i ≤ 320 → c < fu → SOkS S → IX M S → IR M S → lL_law xs L fu M (nN i) = some () := by
  intro c
  induction c with
  | zero =>
    intro i fu M S hc hi hf h0 h1 h2
    obtain ⟨fu, rfl⟩ := fu1 hf
    show sL_law xs L (lL_law xs L fu) M (nN i) = _
    unfold sL_law
    rw [if_pos ((stop5 hL (by omega)).mpr (by omega))]
  | succ c ih =>
    intro i fu M S hc hi hf h0 h1 h2
    obtain ⟨fu, rfl⟩ := fu1 hf
    show sL_law xs L (lL_law xs L fu) M (nN i) = _
    unfold sL_law
    by_cases hs : L < i + 5
    · rw [if_pos ((stop5 hL (by omega)).mpr hs)]
    rw [if_neg (mt (stop5 hL (by omega)).mp hs), if_pos ((nN_inB (by omega)).mpr (by omega))]
    have i1 : inB (nN i + 1) L := by rw [show nN i + 1 = nN (i + 1) from nN_add i 1]; exact (nN_inB (by omega)).mpr (by omega)
    have i2 : inB (nN i + 2) L := by rw [show nN i + 2 = nN (i + 2) from nN_add i 2]; exact (nN_inB (by omega)).mpr (by omega)
    have i3 : inB (nN i + 3) L := by rw [show nN i + 3 = nN (i + 3) from nN_add i 3]; exact (nN_inB (by omega)).mpr (by omega)
    have i4 : inB (nN i + 4) L := by rw [show nN i + 4 = nN (i + 4) from nN_add i 4]; exact (nN_inB (by omega)).mpr (by omega)
    have hr : ∀ M2 S', SOkS S' → IX M2 S' → IR M2 S' → lL_law xs L fu M2 (nN i + 5) = some () := fun M2 S' a b d => by
      rw [show nN i + 5 = nN (i + 5) from nN_add i 5]
      exact ih (i + 5) fu M2 S' (by omega) (by omega) (by omega) a b d
    simp only [if_pos i1, if_pos i2, if_pos i3, if_pos i4]
    refine ite_some (fun _ => step_run (st_type _) h0 h1 h2 hr) (fun _ => ?_)
    refine ite_some (fun _ => step_run st_clear h0 h1 h2 hr) (fun _ => ?_)
    refine ite_some (fun _ => step_run st_ferry h0 h1 h2 hr) (fun _ => ?_)
    refine ite_some (fun _ => step_run (st_passenger _ _) h0 h1 h2 hr) (fun _ => ?_)
    refine ite_some (fun _ => step_run (st_current _) h0 h1 h2 hr) (fun _ => ?_)
    refine ite_some (fun _ => step_run (st_now _) h0 h1 h2 hr) (fun _ => ?_)
    refine ite_some (fun _ => step_run st_beat h0 h1 h2 hr) (fun _ => ?_)
    refine ite_some (fun _ => step_run (st_pinches _) h0 h1 h2 hr) (fun _ => ?_)
    refine ite_some (fun _ => step_run (st_quarrels _ _) h0 h1 h2 hr) (fun _ => ?_)
    refine ite_some (fun _ => step_run (st_sings _) h0 h1 h2 hr) (fun _ => ?_)
    refine ite_some (fun _ => step_run st_undo h0 h1 h2 hr) (fun _ => ?_)
    refine ite_some (fun _ => step_run (st_inBeats _ _) h0 h1 h2 hr) (fun _ => ?_)
    refine ite_some (fun _ => step_run st_ends h0 h1 h2 hr) (fun _ => ?_)
    refine ite_some (fun _ => step_run st_last h0 h1 h2 hr) (fun _ => ?_)
    refine ite_some (fun _ => step_run (st_first _) h0 h1 h2 hr) (fun _ => ?_)
    refine ite_some (fun _ => step_run st_ring h0 h1 h2 hr) (fun _ => ?_)
    refine ite_some (fun _ => step_run st_drift h0 h1 h2 hr) (fun _ => ?_)
    refine ite_some (fun _ => step_run (st_plan _ _ _) h0 h1 h2 hr) (fun _ => ?_)
    refine ite_some (fun _ => step_run st_best h0 h1 h2 hr) (fun _ => ?_)
    refine ite_some (fun _ => step_run (st_mute _) h0 h1 h2 hr) (fun _ => ?_)
    refine ite_some (fun _ => step_run (st_seen _ _) h0 h1 h2 hr) (fun _ => ?_)
    refine ite_some (fun _ => step_run st_forget h0 h1 h2 hr) (fun _ => ?_)
    refine ite_some (fun _ => step_run st_who h0 h1 h2 hr) (fun _ => ?_)
    refine ite_some (fun _ => step_run (st_odds _ _ _ _) h0 h1 h2 hr) (fun _ => ?_)
    refine ite_some (fun _ => step_run (st_rate _ _) h0 h1 h2 hr) (fun _ => ?_)
    refine ite_some (fun _ => step_run (st_keep _) h0 h1 h2 hr) (fun _ => ?_)
    refine ite_some (fun _ => step_run (st_back _) h0 h1 h2 hr) (fun _ => ?_)
    refine ite_some (fun _ => step_run (st_count _) h0 h1 h2 hr) (fun _ => ?_)
    refine ite_some (fun _ => ?_) (fun _ => hr M S h0 h1 h2)
    obtain ⟨a, b, c, d⟩ := st_trace h0 h1 h2
    rw [a, bL_some, b, bL_some, lg_self, if_pos rfl]
    exact hr _ S h0 c d
theorem lawOk (xs : Nat → Int32) (L : Nat) (hL : L ≤ 320) : lL_law xs L fuel M0 0 = some () := law_loop xs L hL 64 0 fuel M0 S0 (by omega) (by omega) (fuel_ge (by decide)) S0_ok IX0 IR0
