/-! LastRowerModel.gcd(II)I -/
set_option maxRecDepth 20000 in
set_option maxHeartbeats 4000000 in
theorem tsX12_gcd_4 {X : Cx} {ad : Nat → Nat} {cid : Nat → ClassId} (hC : Ok X ad cid cX12_gcd RX12 5 (some .int) 0 0)  {rec4 : Mem → Int32 → Int32 → Option (Mem × Int32)} (hrec4 : ∀ (M : Mem) (x2 : Int32) (x3 : Int32), Jp X ad cid 5 (qm X ad (qI ad cid)) M 4 [none, none, some (.int x2), some (.int x3), none] [] (rec4 M x2 x3)) (M : Mem) (x2 : Int32) (x3 : Int32)  : Jp X ad cid 5 (qm X ad (qI ad cid)) M 4 [none, none, some (.int x2), some (.int x3), none] [] (sX12_gcd_4  rec4 M x2 x3) := by
  unfold sX12_gcd_4
  refine j_iload_n (pc := 4) hC dX12_gcd_4 rfl ?_
  refine j_if_eq (pc := 5) hC dX12_gcd_5 (tgt := 21) (by decide) (fun hb1 => ?_) (fun hb1 => ?_)
  · refine j_iload_n (pc := 21) hC dX12_gcd_21 rfl ?_
    exact j_iret (pc := 22) hC dX12_gcd_22
  · refine j_iload_n (pc := 8) hC dX12_gcd_8 rfl ?_
    refine j_iload_n (pc := 9) hC dX12_gcd_9 rfl ?_
    refine j_ck (fun hz2 => ?_)
    refine j_irem (pc := 10) hC dX12_gcd_10 hz2 ?_
    refine j_istore (pc := 11) hC (lv' := [none, none, some (.int x2), some (.int x3), some (.int (x2 - x2 / x3 * x3))]) dX12_gcd_11 (by decide) rfl rfl ?_
    refine j_iload_n (pc := 13) hC dX12_gcd_13 rfl ?_
    refine j_istore_n (pc := 14) hC (lv' := [none, none, some (.int x3), some (.int x3), some (.int (x2 - x2 / x3 * x3))]) dX12_gcd_14 (by decide) rfl rfl ?_
    refine j_iload (pc := 15) hC dX12_gcd_15 rfl ?_
    refine j_istore_n (pc := 17) hC (lv' := [none, none, some (.int x3), some (.int (x2 - x2 / x3 * x3)), some (.int (x2 - x2 / x3 * x3))]) dX12_gcd_17 (by decide) rfl rfl ?_
    refine j_goto (pc := 18) hC dX12_gcd_18 (tgt := 4) (by decide) ?_
    refine j_mask [false, false, true, true, false] (lv' := [none, none, some (.int x3), some (.int (x2 - x2 / x3 * x3)), none]) rfl ?_
    exact hrec4 M x3 (x2 - x2 / x3 * x3)
theorem tlX12_gcd_4 {X : Cx} {ad : Nat → Nat} {cid : Nat → ClassId} (hC : Ok X ad cid cX12_gcd RX12 5 (some .int) 0 0)   : ∀ (n : Nat) (M : Mem) (x2 : Int32) (x3 : Int32), Jp X ad cid 5 (qm X ad (qI ad cid)) M 4 [none, none, some (.int x2), some (.int x3), none] [] (lX12_gcd_4  n M x2 x3) := by
  intro n
  induction n with
  | zero => intros; exact j_none
  | succ n ih => exact tsX12_gcd_4 hC   ih
set_option maxRecDepth 20000 in
set_option maxHeartbeats 4000000 in
theorem kt_X12_gcd {l : Launch} {ad : Nat → Nat} {cid : Nat → ClassId} {D : va_G} (hL : lyOk ad)  (M : Mem) (x0 : Int32) (x1 : Int32) : Ct (qI ad cid) l ad cid D yX12_gcd cX12_gcd 5 (some .int) 0 0 [.int x0, .int x1] M (fX12_gcd M x0 x1) := by
  refine ct_of (own := RX12) (lv := [some (.int x0), some (.int x1), none, none, none]) hL (by decide +kernel) rfl rfl (Nat.le_of_ble_eq_true rfl) (fun X hC => ?_)
  unfold fX12_gcd
  refine j_iload_n (pc := 0) hC dX12_gcd_0 rfl ?_
  refine j_istore_n (pc := 1) hC (lv' := [some (.int x0), some (.int x1), some (.int x0), none, none]) dX12_gcd_1 (by decide) rfl rfl ?_
  refine j_iload_n (pc := 2) hC dX12_gcd_2 rfl ?_
  refine j_istore_n (pc := 3) hC (lv' := [some (.int x0), some (.int x1), some (.int x0), some (.int x1), none]) dX12_gcd_3 (by decide) rfl rfl ?_
  refine j_mask [false, false, true, true, false] (lv' := [none, none, some (.int x0), some (.int x1), none]) rfl ?_
  exact tlX12_gcd_4 hC fuel M x0 x1
/-! LastRowerModel.wordsOf([I)I -/
set_option maxRecDepth 20000 in
set_option maxHeartbeats 4000000 in
theorem tsX12_wordsOf_4 {X : Cx} {ad : Nat → Nat} {cid : Nat → ClassId} (hC : Ok X ad cid cX12_wordsOf RX12 4 (some .int) 0 0)  {rec4 : Mem → Nat → Int32 → Int32 → Option (Mem × Int32)} (hrec4 : ∀ (M : Mem) (n1 : Nat) (x2 : Int32) (x3 : Int32), isR n1 → Jp X ad cid 4 (qm X ad (qI ad cid)) M 4 [some (.ref (ad 109)), some (.ref (ad n1)), some (.int x2), some (.int x3)] [] (rec4 M n1 x2 x3)) (M : Mem) (n1 : Nat) (x2 : Int32) (x3 : Int32) (h1 : isR n1) : Jp X ad cid 4 (qm X ad (qI ad cid)) M 4 [some (.ref (ad 109)), some (.ref (ad n1)), some (.int x2), some (.int x3)] [] (sX12_wordsOf_4  rec4 M n1 x2 x3) := by
  unfold sX12_wordsOf_4
  refine j_iload_n (pc := 4) hC dX12_wordsOf_4 rfl ?_
  refine j_aload_n (pc := 5) hC dX12_wordsOf_5 rfl ?_
  refine gX12_13 (pc := 6) hC dX12_wordsOf_6 ?_
  refine j_iconst (pc := 9) hC dX12_wordsOf_9 (v := 0) (by decide) ?_
  refine j_ialdC (pc := 10) hC (n := 6) (e := 0) (by decide) rfl rfl (by decide) dX12_wordsOf_10 ?_
  refine j_icmp_ge (pc := 11) hC dX12_wordsOf_11 (tgt := 29) (by decide) (fun hb1 => ?_) (fun hb1 => ?_)
  · refine j_iload_n (pc := 29) hC dX12_wordsOf_29 rfl ?_
    exact j_iret (pc := 30) hC dX12_wordsOf_30
  · refine j_iload_n (pc := 14) hC dX12_wordsOf_14 rfl ?_
    refine j_aload_n (pc := 15) hC dX12_wordsOf_15 rfl ?_
    refine j_bipush (pc := 16) hC dX12_wordsOf_16 (v := 9) (by decide) ?_
    refine j_iload_n (pc := 18) hC dX12_wordsOf_18 rfl ?_
    refine j_iadd (pc := 19) hC dX12_wordsOf_19 ?_
    refine j_ck (fun hi2 => ?_)
    refine j_iald (pc := 20) hC (n := 15) (r_k h1) (r_n h1) hi2 dX12_wordsOf_20 ?_
    refine j_iadd (pc := 21) hC dX12_wordsOf_21 ?_
    refine j_istore_n (pc := 22) hC (lv' := [some (.ref (ad 109)), some (.ref (ad n1)), some (.int (x2 + (gM M n1 ((9 : Int32) + x3).toNatClampNeg))), some (.int x3)]) dX12_wordsOf_22 (by decide) rfl rfl ?_
    refine j_iinc (pc := 23) hC (lv' := [some (.ref (ad 109)), some (.ref (ad n1)), some (.int (x2 + (gM M n1 ((9 : Int32) + x3).toNatClampNeg))), some (.int (x3 + 1))]) dX12_wordsOf_23 rfl (v := 1) (by decide) (by decide) rfl rfl ?_
    refine j_goto (pc := 26) hC dX12_wordsOf_26 (tgt := 4) (by decide) ?_
    exact hrec4 M n1 (x2 + (gM M n1 ((9 : Int32) + x3).toNatClampNeg)) (x3 + 1) h1
theorem tlX12_wordsOf_4 {X : Cx} {ad : Nat → Nat} {cid : Nat → ClassId} (hC : Ok X ad cid cX12_wordsOf RX12 4 (some .int) 0 0)   : ∀ (n : Nat) (M : Mem) (n1 : Nat) (x2 : Int32) (x3 : Int32), isR n1 → Jp X ad cid 4 (qm X ad (qI ad cid)) M 4 [some (.ref (ad 109)), some (.ref (ad n1)), some (.int x2), some (.int x3)] [] (lX12_wordsOf_4  n M n1 x2 x3) := by
  intro n
  induction n with
  | zero => intros; exact j_none
  | succ n ih => exact tsX12_wordsOf_4 hC   ih
set_option maxRecDepth 20000 in
set_option maxHeartbeats 4000000 in
theorem kt_X12_wordsOf {l : Launch} {ad : Nat → Nat} {cid : Nat → ClassId} {D : va_G} (hL : lyOk ad) {n1 : Nat} (h1 : isR n1) (M : Mem)  : Ct (qI ad cid) l ad cid D yX12_wordsOf cX12_wordsOf 4 (some .int) 0 0 [.ref (ad 109), .ref (ad n1)] M (fX12_wordsOf M n1) := by
  refine ct_of (own := RX12) (lv := [some (.ref (ad 109)), some (.ref (ad n1)), none, none]) hL (by decide +kernel) rfl rfl (Nat.le_of_ble_eq_true rfl) (fun X hC => ?_)
  unfold fX12_wordsOf
  refine j_iconst (pc := 0) hC dX12_wordsOf_0 (v := 0) (by decide) ?_
  refine j_istore_n (pc := 1) hC (lv' := [some (.ref (ad 109)), some (.ref (ad n1)), some (.int (0 : Int32)), none]) dX12_wordsOf_1 (by decide) rfl rfl ?_
  refine j_iconst (pc := 2) hC dX12_wordsOf_2 (v := 0) (by decide) ?_
  refine j_istore_n (pc := 3) hC (lv' := [some (.ref (ad 109)), some (.ref (ad n1)), some (.int (0 : Int32)), some (.int (0 : Int32))]) dX12_wordsOf_3 (by decide) rfl rfl ?_
  exact tlX12_wordsOf_4 hC fuel M n1 (0 : Int32) (0 : Int32) h1
/-! LastRowerModel.inBeats(II)I -/
set_option maxRecDepth 20000 in
set_option maxHeartbeats 4000000 in
theorem tsX12_inBeats_52 {X : Cx} {ad : Nat → Nat} {cid : Nat → ClassId} (hC : Ok X ad cid cX12_inBeats RX12 4 (some .int) 3 69)   (M : Mem) (x2 : Int32)  : Jp X ad cid 4 (qm X ad (qI ad cid)) M 52 [some (.ref (ad 109)), none, some (.int x2), none] [] (sX12_inBeats_52  M x2) := by
  unfold sX12_inBeats_52
  refine j_iload_n (pc := 52) hC dX12_inBeats_52 rfl ?_
  refine j_if_ne (pc := 53) hC dX12_inBeats_53 (tgt := 65) (by decide) (fun hb10 => ?_) (fun hb10 => ?_)
  · refine j_iload_n (pc := 65) hC dX12_inBeats_65 rfl ?_
    refine j_iconst (pc := 66) hC dX12_inBeats_66 (v := 1) (by decide) ?_
    refine j_icmp_ne (pc := 67) hC dX12_inBeats_67 (tgt := 79) (by decide) (fun hb11 => ?_) (fun hb11 => ?_)
    · refine j_aload_n (pc := 79) hC dX12_inBeats_79 rfl ?_
      refine j_aload_n (pc := 80) hC dX12_inBeats_80 rfl ?_
      refine gX12_34 (pc := 81) hC dX12_inBeats_81 ?_
      refine j_bI (pc := 84) (run_V hC (st := []) (kt_X12_wordsOf hC.ly r_118 M) vv_X12_wordsOf qw860 (by decide) sh_X12 rfl ⟨(Nat.le_of_ble_eq_true rfl), (Nat.le_of_ble_eq_true rfl)⟩ rfl rfl (Nat.le_of_ble_eq_true rfl) dX12_inBeats_84) (fun M12 r13 => ?_)
      refine j_aload_n (pc := 87) hC dX12_inBeats_87 rfl ?_
      refine j_aload_n (pc := 88) hC dX12_inBeats_88 rfl ?_
      refine gX12_31 (pc := 89) hC dX12_inBeats_89 ?_
      refine j_bI (pc := 92) (run_V hC (st := [.int r13]) (kt_X12_wordsOf hC.ly r_117 M12) vv_X12_wordsOf qw860 (by decide) sh_X12 rfl ⟨(Nat.le_of_ble_eq_true rfl), (Nat.le_of_ble_eq_true rfl)⟩ rfl rfl (Nat.le_of_ble_eq_true rfl) dX12_inBeats_92) (fun M14 r15 => ?_)
      refine j_isub (pc := 95) hC dX12_inBeats_95 ?_
      exact j_iret (pc := 96) hC dX12_inBeats_96
    · refine j_aload_n (pc := 70) hC dX12_inBeats_70 rfl ?_
      refine gX12_34 (pc := 71) hC dX12_inBeats_71 ?_
      refine j_iconst (pc := 74) hC dX12_inBeats_74 (v := 2) (by decide) ?_
      refine j_ialdC (pc := 75) hC (n := 15) (e := 2) (by decide) rfl rfl (by decide) dX12_inBeats_75 ?_
      refine j_goto (pc := 76) hC dX12_inBeats_76 (tgt := 96) (by decide) ?_
      exact j_iret (pc := 96) hC dX12_inBeats_96
  · refine j_aload_n (pc := 56) hC dX12_inBeats_56 rfl ?_
    refine gX12_34 (pc := 57) hC dX12_inBeats_57 ?_
    refine j_iconst (pc := 60) hC dX12_inBeats_60 (v := 1) (by decide) ?_
    refine j_ialdC (pc := 61) hC (n := 15) (e := 1) (by decide) rfl rfl (by decide) dX12_inBeats_61 ?_
    refine j_goto (pc := 62) hC dX12_inBeats_62 (tgt := 96) (by decide) ?_
    exact j_iret (pc := 96) hC dX12_inBeats_96
set_option maxRecDepth 20000 in
set_option maxHeartbeats 4000000 in
theorem tsX12_inBeats_33 {X : Cx} {ad : Nat → Nat} {cid : Nat → ClassId} (hC : Ok X ad cid cX12_inBeats RX12 4 (some .int) 3 69)  {rec33 : Mem → Int32 → Int32 → Int32 → Option (Mem × Int32)} (hrec33 : ∀ (M : Mem) (x1 : Int32) (x2 : Int32) (x3 : Int32), Jp X ad cid 4 (qm X ad (qI ad cid)) M 33 [some (.ref (ad 109)), some (.int x1), some (.int x2), some (.int x3)] [] (rec33 M x1 x2 x3)) (M : Mem) (x1 : Int32) (x2 : Int32) (x3 : Int32)  : Jp X ad cid 4 (qm X ad (qI ad cid)) M 33 [some (.ref (ad 109)), some (.int x1), some (.int x2), some (.int x3)] [] (sX12_inBeats_33  rec33 M x1 x2 x3) := by
  unfold sX12_inBeats_33
  refine j_iload_n (pc := 33) hC dX12_inBeats_33 rfl ?_
  refine j_iload_n (pc := 34) hC dX12_inBeats_34 rfl ?_
  refine j_icmp_ge (pc := 35) hC dX12_inBeats_35 (tgt := 52) (by decide) (fun hb8 => ?_) (fun hb8 => ?_)
  · refine j_mask [true, false, true, false] (lv' := [some (.ref (ad 109)), none, some (.int x2), none]) rfl ?_
    exact tsX12_inBeats_52 hC M x2
  · refine j_aload_n (pc := 38) hC dX12_inBeats_38 rfl ?_
    refine j_aload_n (pc := 39) hC dX12_inBeats_39 rfl ?_
    refine gX12_34 (pc := 40) hC dX12_inBeats_40 ?_
    refine j_bV (pc := 43) (run_V hC (st := []) (kt_X12_goes hC.ly r_118 M) vv_X12_goes qw872 (by decide) sh_X12 rfl ⟨(Nat.le_of_ble_eq_true rfl), (Nat.le_of_ble_eq_true rfl)⟩ rfl rfl (Nat.le_of_ble_eq_true rfl) dX12_inBeats_43) (fun M9 => ?_)
    refine j_iinc (pc := 46) hC (lv' := [some (.ref (ad 109)), some (.int x1), some (.int x2), some (.int (x3 + 1))]) dX12_inBeats_46 rfl (v := 1) (by decide) (by decide) rfl rfl ?_
    refine j_goto (pc := 49) hC dX12_inBeats_49 (tgt := 33) (by decide) ?_
    exact hrec33 M9 x1 x2 (x3 + 1)
theorem tlX12_inBeats_33 {X : Cx} {ad : Nat → Nat} {cid : Nat → ClassId} (hC : Ok X ad cid cX12_inBeats RX12 4 (some .int) 3 69)   : ∀ (n : Nat) (M : Mem) (x1 : Int32) (x2 : Int32) (x3 : Int32), Jp X ad cid 4 (qm X ad (qI ad cid)) M 33 [some (.ref (ad 109)), some (.int x1), some (.int x2), some (.int x3)] [] (lX12_inBeats_33  n M x1 x2 x3) := by
  intro n
  induction n with
  | zero => intros; exact j_none
  | succ n ih => exact tsX12_inBeats_33 hC   ih
set_option maxRecDepth 20000 in
set_option maxHeartbeats 4000000 in
theorem kt_X12_inBeats {l : Launch} {ad : Nat → Nat} {cid : Nat → ClassId} {D : va_G} (hL : lyOk ad)  (M : Mem) (x1 : Int32) (x2 : Int32) : Ct (qI ad cid) l ad cid D yX12_inBeats cX12_inBeats 4 (some .int) 3 69 [.ref (ad 109), .int x1, .int x2] M (fX12_inBeats M x1 x2) := by
  refine ct_of (own := RX12) (lv := [some (.ref (ad 109)), some (.int x1), some (.int x2), none]) hL (by decide +kernel) rfl rfl (Nat.le_of_ble_eq_true rfl) (fun X hC => ?_)
  unfold fX12_inBeats
  refine j_aload_n (pc := 0) hC dX12_inBeats_0 rfl ?_
  refine j_iconst (pc := 1) hC dX12_inBeats_1 (v := 0) (by decide) ?_
  refine pX12_59 (pc := 2) hC dX12_inBeats_2 ?_
  refine j_iload_n (pc := 5) hC dX12_inBeats_5 rfl ?_
  refine j_iconst (pc := 6) hC dX12_inBeats_6 (v := 0) (by decide) ?_
  refine j_sipush (pc := 7) hC dX12_inBeats_7 (v := 200) (by decide) ?_
  refine j_bI (pc := 10) (run_S hC (st := []) (kt_X12_in hC.ly (sM M 109 0 (0 : Int32)) x1 (0 : Int32) (200 : Int32)) vs_X12_in qw789 ⟨(Nat.le_of_ble_eq_true rfl), (Nat.le_of_ble_eq_true rfl)⟩ rfl rfl (Nat.le_of_ble_eq_true rfl) dX12_inBeats_10) (fun M1 r2 => ?_)
  refine j_if_eq (pc := 13) hC dX12_inBeats_13 (tgt := 25) (by decide) (fun hb3 => ?_) (fun hb3 => ?_)
  · refine j_iconst (pc := 25) hC dX12_inBeats_25 (v := (-1)) (by decide) ?_
    exact j_iret (pc := 26) hC dX12_inBeats_26
  · refine j_iload_n (pc := 16) hC dX12_inBeats_16 rfl ?_
    refine j_iconst (pc := 17) hC dX12_inBeats_17 (v := 0) (by decide) ?_
    refine j_iconst (pc := 18) hC dX12_inBeats_18 (v := 2) (by decide) ?_
    refine j_bI (pc := 19) (run_S hC (st := []) (kt_X12_in hC.ly M1 x2 (0 : Int32) (2 : Int32)) vs_X12_in qw789 ⟨(Nat.le_of_ble_eq_true rfl), (Nat.le_of_ble_eq_true rfl)⟩ rfl rfl (Nat.le_of_ble_eq_true rfl) dX12_inBeats_19) (fun M4 r5 => ?_)
    refine j_if_ne (pc := 22) hC dX12_inBeats_22 (tgt := 27) (by decide) (fun hb6 => ?_) (fun hb6 => ?_)
    · refine j_aload_n (pc := 27) hC dX12_inBeats_27 rfl ?_
      refine j_bV (pc := 28) (run_V hC (st := []) (kt_X12_asNow hC.ly M4) vv_X12_asNow qw904 (by decide) sh_X12 rfl ⟨(Nat.le_of_ble_eq_true rfl), (Nat.le_of_ble_eq_true rfl)⟩ rfl rfl (Nat.le_of_ble_eq_true rfl) dX12_inBeats_28) (fun M7 => ?_)
      refine j_iconst (pc := 31) hC dX12_inBeats_31 (v := 0) (by decide) ?_
      refine j_istore_n (pc := 32) hC (lv' := [some (.ref (ad 109)), some (.int x1), some (.int x2), some (.int (0 : Int32))]) dX12_inBeats_32 (by decide) rfl rfl ?_
      exact tlX12_inBeats_33 hC fuel M7 x1 x2 (0 : Int32)
    · refine j_iconst (pc := 25) hC dX12_inBeats_25 (v := (-1)) (by decide) ?_
      exact j_iret (pc := 26) hC dX12_inBeats_26
/-! LastRowerModel.isAsSeen()Z -/
set_option maxRecDepth 20000 in
set_option maxHeartbeats 4000000 in
theorem tsX12_isAsSeen_61 {X : Cx} {ad : Nat → Nat} {cid : Nat → ClassId} (hC : Ok X ad cid cX12_isAsSeen RX12 4 (some .boolean) 3 69) {rec4 : Mem → Int32 → Int32 → Option (Mem × Int32)} (hrec4 : ∀ (M : Mem) (x1 : Int32) (x2 : Int32), Jp X ad cid 4 (qm X ad (qI ad cid)) M 4 [some (.ref (ad 109)), some (.int x1), some (.int x2), none] [] (rec4 M x1 x2))  (M : Mem) (x1 : Int32) (x2 : Int32)  : Jp X ad cid 4 (qm X ad (qI ad cid)) M 61 [some (.ref (ad 109)), some (.int x1), some (.int x2), none] [] (sX12_isAsSeen_61 rec4 M x1 x2) := by
  unfold sX12_isAsSeen_61
  refine j_aload_n (pc := 61) hC dX12_isAsSeen_61 rfl ?_
  refine j_aload_n (pc := 62) hC dX12_isAsSeen_62 rfl ?_
  refine gX12_34 (pc := 63) hC dX12_isAsSeen_63 ?_
  refine j_bV (pc := 66) (run_V hC (st := []) (kt_X12_goes hC.ly r_118 M) vv_X12_goes qw872 (by decide) sh_X12 rfl ⟨(Nat.le_of_ble_eq_true rfl), (Nat.le_of_ble_eq_true rfl)⟩ rfl rfl (Nat.le_of_ble_eq_true rfl) dX12_isAsSeen_66) (fun M7 => ?_)
  refine j_iinc (pc := 69) hC (lv' := [some (.ref (ad 109)), some (.int x1), some (.int (x2 + 1)), none]) dX12_isAsSeen_69 rfl (v := 1) (by decide) (by decide) rfl rfl ?_
  refine j_goto (pc := 72) hC dX12_isAsSeen_72 (tgt := 4) (by decide) ?_
  exact hrec4 M7 x1 (x2 + 1)
set_option maxRecDepth 20000 in
set_option maxHeartbeats 4000000 in
theorem tsX12_isAsSeen_53 {X : Cx} {ad : Nat → Nat} {cid : Nat → ClassId} (hC : Ok X ad cid cX12_isAsSeen RX12 4 (some .boolean) 3 69) {rec12 : Mem → Int32 → Int32 → Int32 → Option (Mem × Int32)} (hrec12 : ∀ (M : Mem) (x1 : Int32) (x2 : Int32) (x3 : Int32), Jp X ad cid 4 (qm X ad (qI ad cid)) M 12 [some (.ref (ad 109)), some (.int x1), some (.int x2), some (.int x3)] [] (rec12 M x1 x2 x3))  (M : Mem) (x2 : Int32) (x3 : Int32)  : Jp X ad cid 4 (qm X ad (qI ad cid)) M 53 [some (.ref (ad 109)), none, some (.int x2), some (.int x3)] [] (sX12_isAsSeen_53 rec12 M x2 x3) := by
  unfold sX12_isAsSeen_53
  refine j_iconst (pc := 53) hC dX12_isAsSeen_53 (v := 0) (by decide) ?_
  refine j_istore_n (pc := 54) hC (lv' := [some (.ref (ad 109)), some (.int (0 : Int32)), some (.int x2), some (.int x3)]) dX12_isAsSeen_54 (by decide) rfl rfl ?_
  refine j_iinc (pc := 55) hC (lv' := [some (.ref (ad 109)), some (.int (0 : Int32)), some (.int x2), some (.int (x3 + 1))]) dX12_isAsSeen_55 rfl (v := 1) (by decide) (by decide) rfl rfl ?_
  refine j_goto (pc := 58) hC dX12_isAsSeen_58 (tgt := 12) (by decide) ?_
  exact hrec12 M (0 : Int32) x2 (x3 + 1)
set_option maxRecDepth 20000 in
set_option maxHeartbeats 4000000 in
theorem tsX12_isAsSeen_12 {X : Cx} {ad : Nat → Nat} {cid : Nat → ClassId} (hC : Ok X ad cid cX12_isAsSeen RX12 4 (some .boolean) 3 69) {rec4 : Mem → Int32 → Int32 → Option (Mem × Int32)} (hrec4 : ∀ (M : Mem) (x1 : Int32) (x2 : Int32), Jp X ad cid 4 (qm X ad (qI ad cid)) M 4 [some (.ref (ad 109)), some (.int x1), some (.int x2), none] [] (rec4 M x1 x2)) {rec12 : Mem → Int32 → Int32 → Int32 → Option (Mem × Int32)} (hrec12 : ∀ (M : Mem) (x1 : Int32) (x2 : Int32) (x3 : Int32), Jp X ad cid 4 (qm X ad (qI ad cid)) M 12 [some (.ref (ad 109)), some (.int x1), some (.int x2), some (.int x3)] [] (rec12 M x1 x2 x3)) (M : Mem) (x1 : Int32) (x2 : Int32) (x3 : Int32)  : Jp X ad cid 4 (qm X ad (qI ad cid)) M 12 [some (.ref (ad 109)), some (.int x1), some (.int x2), some (.int x3)] [] (sX12_isAsSeen_12 rec4 rec12 M x1 x2 x3) := by
  unfold sX12_isAsSeen_12
  refine j_iload_n (pc := 12) hC dX12_isAsSeen_12 rfl ?_
  refine j_aload_n (pc := 13) hC dX12_isAsSeen_13 rfl ?_
  refine gX12_118 (pc := 14) hC dX12_isAsSeen_14 ?_
  refine j_icmp_ge (pc := 17) hC dX12_isAsSeen_17 (tgt := 61) (by decide) (fun hb2 => ?_) (fun hb2 => ?_)
  · refine j_mask [true, true, true, false] (lv' := [some (.ref (ad 109)), some (.int x1), some (.int x2), none]) rfl ?_
    exact tsX12_isAsSeen_61 hC hrec4 M x1 x2
  · refine j_iload_n (pc := 20) hC dX12_isAsSeen_20 rfl ?_
    refine j_if_eq (pc := 21) hC dX12_isAsSeen_21 (tgt := 53) (by decide) (fun hb3 => ?_) (fun hb3 => ?_)
    · refine j_mask [true, false, true, true] (lv' := [some (.ref (ad 109)), none, some (.int x2), some (.int x3)]) rfl ?_
      exact tsX12_isAsSeen_53 hC hrec12 M x2 x3
    · refine j_aload_n (pc := 24) hC dX12_isAsSeen_24 rfl ?_
      refine gX12_47 (pc := 25) hC dX12_isAsSeen_25 ?_
      refine j_iload_n (pc := 28) hC dX12_isAsSeen_28 rfl ?_
      refine j_ck (fun hi4 => ?_)
      refine j_iald (pc := 29) hC (n := 5) rfl rfl hi4 dX12_isAsSeen_29 ?_
      refine j_iload_n (pc := 30) hC dX12_isAsSeen_30 rfl ?_
      refine j_icmp_ne (pc := 31) hC dX12_isAsSeen_31 (tgt := 49) (by decide) (fun hb5 => ?_) (fun hb5 => ?_)
      · refine j_iconst (pc := 49) hC dX12_isAsSeen_49 (v := 1) (by decide) ?_
        refine j_goto (pc := 50) hC dX12_isAsSeen_50 (tgt := 54) (by decide) ?_
        refine j_istore_n (pc := 54) hC (lv' := [some (.ref (ad 109)), some (.int (1 : Int32)), some (.int x2), some (.int x3)]) dX12_isAsSeen_54 (by decide) rfl rfl ?_
        refine j_iinc (pc := 55) hC (lv' := [some (.ref (ad 109)), some (.int (1 : Int32)), some (.int x2), some (.int (x3 + 1))]) dX12_isAsSeen_55 rfl (v := 1) (by decide) (by decide) rfl rfl ?_
        refine j_goto (pc := 58) hC dX12_isAsSeen_58 (tgt := 12) (by decide) ?_
        exact hrec12 M (1 : Int32) x2 (x3 + 1)
      · refine j_aload_n (pc := 34) hC dX12_isAsSeen_34 rfl ?_
        refine gX12_50 (pc := 35) hC dX12_isAsSeen_35 ?_
        refine j_iload_n (pc := 38) hC dX12_isAsSeen_38 rfl ?_
        refine j_iald (pc := 39) hC (n := 5) rfl rfl hi4 dX12_isAsSeen_39 ?_
        refine j_aload_n (pc := 40) hC dX12_isAsSeen_40 rfl ?_
        refine gX12_34 (pc := 41) hC dX12_isAsSeen_41 ?_
        refine j_iconst (pc := 44) hC dX12_isAsSeen_44 (v := 2) (by decide) ?_
        refine j_ialdC (pc := 45) hC (n := 15) (e := 2) (by decide) rfl rfl (by decide) dX12_isAsSeen_45 ?_
        refine j_icmp_ne (pc := 46) hC dX12_isAsSeen_46 (tgt := 53) (by decide) (fun hb6 => ?_) (fun hb6 => ?_)
        · refine j_mask [true, false, true, true] (lv' := [some (.ref (ad 109)), none, some (.int x2), some (.int x3)]) rfl ?_
          exact tsX12_isAsSeen_53 hC hrec12 M x2 x3
        · refine j_iconst (pc := 49) hC dX12_isAsSeen_49 (v := 1) (by decide) ?_
          refine j_goto (pc := 50) hC dX12_isAsSeen_50 (tgt := 54) (by decide) ?_
          refine j_istore_n (pc := 54) hC (lv' := [some (.ref (ad 109)), some (.int (1 : Int32)), some (.int x2), some (.int x3)]) dX12_isAsSeen_54 (by decide) rfl rfl ?_
          refine j_iinc (pc := 55) hC (lv' := [some (.ref (ad 109)), some (.int (1 : Int32)), some (.int x2), some (.int (x3 + 1))]) dX12_isAsSeen_55 rfl (v := 1) (by decide) (by decide) rfl rfl ?_
          refine j_goto (pc := 58) hC dX12_isAsSeen_58 (tgt := 12) (by decide) ?_
          exact hrec12 M (1 : Int32) x2 (x3 + 1)
theorem tlX12_isAsSeen_12 {X : Cx} {ad : Nat → Nat} {cid : Nat → ClassId} (hC : Ok X ad cid cX12_isAsSeen RX12 4 (some .boolean) 3 69) {rec4 : Mem → Int32 → Int32 → Option (Mem × Int32)} (hrec4 : ∀ (M : Mem) (x1 : Int32) (x2 : Int32), Jp X ad cid 4 (qm X ad (qI ad cid)) M 4 [some (.ref (ad 109)), some (.int x1), some (.int x2), none] [] (rec4 M x1 x2))  : ∀ (n : Nat) (M : Mem) (x1 : Int32) (x2 : Int32) (x3 : Int32), Jp X ad cid 4 (qm X ad (qI ad cid)) M 12 [some (.ref (ad 109)), some (.int x1), some (.int x2), some (.int x3)] [] (lX12_isAsSeen_12 rec4 n M x1 x2 x3) := by
  intro n
  induction n with
  | zero => intros; exact j_none
  | succ n ih => exact tsX12_isAsSeen_12 hC hrec4  ih
set_option maxRecDepth 20000 in
set_option maxHeartbeats 4000000 in
theorem tsX12_isAsSeen_4 {X : Cx} {ad : Nat → Nat} {cid : Nat → ClassId} (hC : Ok X ad cid cX12_isAsSeen RX12 4 (some .boolean) 3 69)  {rec4 : Mem → Int32 → Int32 → Option (Mem × Int32)} (hrec4 : ∀ (M : Mem) (x1 : Int32) (x2 : Int32), Jp X ad cid 4 (qm X ad (qI ad cid)) M 4 [some (.ref (ad 109)), some (.int x1), some (.int x2), none] [] (rec4 M x1 x2)) (M : Mem) (x1 : Int32) (x2 : Int32)  : Jp X ad cid 4 (qm X ad (qI ad cid)) M 4 [some (.ref (ad 109)), some (.int x1), some (.int x2), none] [] (sX12_isAsSeen_4  rec4 M x1 x2) := by
  unfold sX12_isAsSeen_4
  refine j_iload_n (pc := 4) hC dX12_isAsSeen_4 rfl ?_
  refine j_bipush (pc := 5) hC dX12_isAsSeen_5 (v := 60) (by decide) ?_
  refine j_icmp_gt (pc := 7) hC dX12_isAsSeen_7 (tgt := 75) (by decide) (fun hb1 => ?_) (fun hb1 => ?_)
  · refine j_iload_n (pc := 75) hC dX12_isAsSeen_75 rfl ?_
    refine j_ck (fun hz => ?_)
    exact j_zret (pc := 76) hC dX12_isAsSeen_76 hz
  · refine j_iconst (pc := 10) hC dX12_isAsSeen_10 (v := 0) (by decide) ?_
    refine j_istore_n (pc := 11) hC (lv' := [some (.ref (ad 109)), some (.int x1), some (.int x2), some (.int (0 : Int32))]) dX12_isAsSeen_11 (by decide) rfl rfl ?_
    exact tlX12_isAsSeen_12 hC hrec4 fuel M x1 x2 (0 : Int32)
theorem tlX12_isAsSeen_4 {X : Cx} {ad : Nat → Nat} {cid : Nat → ClassId} (hC : Ok X ad cid cX12_isAsSeen RX12 4 (some .boolean) 3 69)   : ∀ (n : Nat) (M : Mem) (x1 : Int32) (x2 : Int32), Jp X ad cid 4 (qm X ad (qI ad cid)) M 4 [some (.ref (ad 109)), some (.int x1), some (.int x2), none] [] (lX12_isAsSeen_4  n M x1 x2) := by
  intro n
  induction n with
  | zero => intros; exact j_none
  | succ n ih => exact tsX12_isAsSeen_4 hC   ih
set_option maxRecDepth 20000 in
set_option maxHeartbeats 4000000 in
theorem kt_X12_isAsSeen {l : Launch} {ad : Nat → Nat} {cid : Nat → ClassId} {D : va_G} (hL : lyOk ad)  (M : Mem)  : Ct (qI ad cid) l ad cid D yX12_isAsSeen cX12_isAsSeen 4 (some .boolean) 3 69 [.ref (ad 109)] M (fX12_isAsSeen M ) := by
  refine ct_of (own := RX12) (lv := [some (.ref (ad 109)), none, none, none]) hL (by decide +kernel) rfl rfl (Nat.le_of_ble_eq_true rfl) (fun X hC => ?_)
  unfold fX12_isAsSeen
  refine j_iconst (pc := 0) hC dX12_isAsSeen_0 (v := 1) (by decide) ?_
  refine j_istore_n (pc := 1) hC (lv' := [some (.ref (ad 109)), some (.int (1 : Int32)), none, none]) dX12_isAsSeen_1 (by decide) rfl rfl ?_
  refine j_iconst (pc := 2) hC dX12_isAsSeen_2 (v := 0) (by decide) ?_
  refine j_istore_n (pc := 3) hC (lv' := [some (.ref (ad 109)), some (.int (1 : Int32)), some (.int (0 : Int32)), none]) dX12_isAsSeen_3 (by decide) rfl rfl ?_
  exact tlX12_isAsSeen_4 hC fuel M (1 : Int32) (0 : Int32)
/-! LastRowerModel.isPassenger(I)Z -/
set_option maxRecDepth 20000 in
set_option maxHeartbeats 4000000 in
theorem kt_X12_isPassenger {l : Launch} {ad : Nat → Nat} {cid : Nat → ClassId} {D : va_G} (hL : lyOk ad)  (M : Mem) (x1 : Int32) : Ct (qI ad cid) l ad cid D yX12_isPassenger cX12_isPassenger 2 (some .boolean) 1 22 [.ref (ad 109), .int x1] M (fX12_isPassenger M x1) := by
  refine ct_of (own := RX12) (lv := [some (.ref (ad 109)), some (.int x1)]) hL (by decide +kernel) rfl rfl (Nat.le_of_ble_eq_true rfl) (fun X hC => ?_)
  unfold fX12_isPassenger
  refine j_iload_n (pc := 0) hC dX12_isPassenger_0 rfl ?_
  refine j_iconst (pc := 1) hC dX12_isPassenger_1 (v := 0) (by decide) ?_
  refine j_aload_n (pc := 2) hC dX12_isPassenger_2 rfl ?_
  refine gX12_13 (pc := 3) hC dX12_isPassenger_3 ?_
  refine j_iconst (pc := 6) hC dX12_isPassenger_6 (v := 0) (by decide) ?_
  refine j_ialdC (pc := 7) hC (n := 6) (e := 0) (by decide) rfl rfl (by decide) dX12_isPassenger_7 ?_
  refine j_iconst (pc := 8) hC dX12_isPassenger_8 (v := 1) (by decide) ?_
  refine j_isub (pc := 9) hC dX12_isPassenger_9 ?_
  refine j_bI (pc := 10) (run_S hC (st := []) (kt_X12_in hC.ly M x1 (0 : Int32) ((gM M 111 0) - (1 : Int32))) vs_X12_in qw789 ⟨(Nat.le_of_ble_eq_true rfl), (Nat.le_of_ble_eq_true rfl)⟩ rfl rfl (Nat.le_of_ble_eq_true rfl) dX12_isPassenger_10) (fun M1 r2 => ?_)
  refine j_ck (fun hz => ?_)
  exact j_zret (pc := 13) hC dX12_isPassenger_13 hz
/-! LastRowerModel.keep(I)I -/
set_option maxRecDepth 20000 in
set_option maxHeartbeats 4000000 in
theorem tsX12_keep_47 {X : Cx} {ad : Nat → Nat} {cid : Nat → ClassId} (hC : Ok X ad cid cX12_keep RX12 3 (some .int) 1 22)   (M : Mem) (x1 : Int32)  : Jp X ad cid 3 (qm X ad (qI ad cid)) M 47 [some (.ref (ad 109)), some (.int x1), none] [] (sX12_keep_47  M x1) := by
  unfold sX12_keep_47
  refine j_aload_n (pc := 47) hC dX12_keep_47 rfl ?_
  refine gX12_40 (pc := 48) hC dX12_keep_48 ?_
  refine j_iload_n (pc := 51) hC dX12_keep_51 rfl ?_
  refine j_iconst (pc := 52) hC dX12_keep_52 (v := 1) (by decide) ?_
  refine j_ck (fun hi7 => ?_)
  refine j_zast (pc := 53) hC (n := 2) rfl rfl hi7 rfl dX12_keep_53 ?_
  refine j_aload_n (pc := 54) hC dX12_keep_54 rfl ?_
  refine gX12_31 (pc := 55) hC dX12_keep_55 ?_
  refine j_iconst (pc := 58) hC dX12_keep_58 (v := 0) (by decide) ?_
  refine j_ialdC (pc := 59) hC (n := 15) (e := 0) (by decide) rfl rfl (by decide) dX12_keep_59 ?_
  exact j_iret (pc := 60) hC dX12_keep_60
set_option maxRecDepth 20000 in
set_option maxHeartbeats 4000000 in
theorem tsX12_keep_18 {X : Cx} {ad : Nat → Nat} {cid : Nat → ClassId} (hC : Ok X ad cid cX12_keep RX12 3 (some .int) 1 22)  {rec18 : Mem → Int32 → Int32 → Option (Mem × Int32)} (hrec18 : ∀ (M : Mem) (x1 : Int32) (x2 : Int32), Jp X ad cid 3 (qm X ad (qI ad cid)) M 18 [some (.ref (ad 109)), some (.int x1), some (.int x2)] [] (rec18 M x1 x2)) (M : Mem) (x1 : Int32) (x2 : Int32)  : Jp X ad cid 3 (qm X ad (qI ad cid)) M 18 [some (.ref (ad 109)), some (.int x1), some (.int x2)] [] (sX12_keep_18  rec18 M x1 x2) := by
  unfold sX12_keep_18
  refine j_iload_n (pc := 18) hC dX12_keep_18 rfl ?_
  refine j_bipush (pc := 19) hC dX12_keep_19 (v := 15) (by decide) ?_
  refine j_icmp_ge (pc := 21) hC dX12_keep_21 (tgt := 47) (by decide) (fun hb4 => ?_) (fun hb4 => ?_)
  · refine j_mask [true, true, false] (lv' := [some (.ref (ad 109)), some (.int x1), none]) rfl ?_
    exact tsX12_keep_47 hC M x1
  · refine j_aload_n (pc := 24) hC dX12_keep_24 rfl ?_
    refine gX12_37 (pc := 25) hC dX12_keep_25 ?_
    refine j_bipush (pc := 28) hC dX12_keep_28 (v := 15) (by decide) ?_
    refine j_iload_n (pc := 30) hC dX12_keep_30 rfl ?_
    refine j_imul (pc := 31) hC dX12_keep_31 ?_
    refine j_iload_n (pc := 32) hC dX12_keep_32 rfl ?_
    refine j_iadd (pc := 33) hC dX12_keep_33 ?_
    refine j_aload_n (pc := 34) hC dX12_keep_34 rfl ?_
    refine gX12_31 (pc := 35) hC dX12_keep_35 ?_
    refine j_iload_n (pc := 38) hC dX12_keep_38 rfl ?_
    refine j_ck (fun hi5 => ?_)
    refine j_iald (pc := 39) hC (n := 15) rfl rfl hi5 dX12_keep_39 ?_
    refine j_ck (fun hi6 => ?_)
    refine j_iast (pc := 40) hC (n := 30) rfl rfl hi6 dX12_keep_40 ?_
    refine j_iinc (pc := 41) hC (lv' := [some (.ref (ad 109)), some (.int x1), some (.int (x2 + 1))]) dX12_keep_41 rfl (v := 1) (by decide) (by decide) rfl rfl ?_
    refine j_goto (pc := 44) hC dX12_keep_44 (tgt := 18) (by decide) ?_
    exact hrec18 (sM M 119 (((15 : Int32) * x1) + x2).toNatClampNeg (gM M 117 x2.toNatClampNeg)) x1 (x2 + 1)
theorem tlX12_keep_18 {X : Cx} {ad : Nat → Nat} {cid : Nat → ClassId} (hC : Ok X ad cid cX12_keep RX12 3 (some .int) 1 22)   : ∀ (n : Nat) (M : Mem) (x1 : Int32) (x2 : Int32), Jp X ad cid 3 (qm X ad (qI ad cid)) M 18 [some (.ref (ad 109)), some (.int x1), some (.int x2)] [] (lX12_keep_18  n M x1 x2) := by
  intro n
  induction n with
  | zero => intros; exact j_none
  | succ n ih => exact tsX12_keep_18 hC   ih
set_option maxRecDepth 20000 in
set_option maxHeartbeats 4000000 in
theorem kt_X12_keep {l : Launch} {ad : Nat → Nat} {cid : Nat → ClassId} {D : va_G} (hL : lyOk ad)  (M : Mem) (x1 : Int32) : Ct (qI ad cid) l ad cid D yX12_keep cX12_keep 3 (some .int) 1 22 [.ref (ad 109), .int x1] M (fX12_keep M x1) := by
  refine ct_of (own := RX12) (lv := [some (.ref (ad 109)), some (.int x1), none]) hL (by decide +kernel) rfl rfl (Nat.le_of_ble_eq_true rfl) (fun X hC => ?_)
  unfold fX12_keep
  refine j_aload_n (pc := 0) hC dX12_keep_0 rfl ?_
  refine j_iconst (pc := 1) hC dX12_keep_1 (v := 0) (by decide) ?_
  refine pX12_59 (pc := 2) hC dX12_keep_2 ?_
  refine j_iload_n (pc := 5) hC dX12_keep_5 rfl ?_
  refine j_iconst (pc := 6) hC dX12_keep_6 (v := 0) (by decide) ?_
  refine j_iconst (pc := 7) hC dX12_keep_7 (v := 1) (by decide) ?_
  refine j_bI (pc := 8) (run_S hC (st := []) (kt_X12_in hC.ly (sM M 109 0 (0 : Int32)) x1 (0 : Int32) (1 : Int32)) vs_X12_in qw789 ⟨(Nat.le_of_ble_eq_true rfl), (Nat.le_of_ble_eq_true rfl)⟩ rfl rfl (Nat.le_of_ble_eq_true rfl) dX12_keep_8) (fun M1 r2 => ?_)
  refine j_if_ne (pc := 11) hC dX12_keep_11 (tgt := 16) (by decide) (fun hb3 => ?_) (fun hb3 => ?_)
  · refine j_iconst (pc := 16) hC dX12_keep_16 (v := 0) (by decide) ?_
    refine j_istore_n (pc := 17) hC (lv' := [some (.ref (ad 109)), some (.int x1), some (.int (0 : Int32))]) dX12_keep_17 (by decide) rfl rfl ?_
    exact tlX12_keep_18 hC fuel M1 x1 (0 : Int32)
  · refine j_iconst (pc := 14) hC dX12_keep_14 (v := (-1)) (by decide) ?_
    exact j_iret (pc := 15) hC dX12_keep_15
/-! LastRowerModel.last()I -/
set_option maxRecDepth 20000 in
set_option maxHeartbeats 4000000 in
theorem kt_X12_last {l : Launch} {ad : Nat → Nat} {cid : Nat → ClassId} {D : va_G} (hL : lyOk ad)  (M : Mem)  : Ct (qI ad cid) l ad cid D yX12_last cX12_last 1 (some .int) 4 91 [.ref (ad 109)] M (fX12_last M ) := by
  refine ct_of (own := RX12) (lv := [some (.ref (ad 109))]) hL (by decide +kernel) rfl rfl (Nat.le_of_ble_eq_true rfl) (fun X hC => ?_)
  unfold fX12_last
  refine j_aload_n (pc := 0) hC dX12_last_0 rfl ?_
  refine j_iconst (pc := 1) hC dX12_last_1 (v := 0) (by decide) ?_
  refine pX12_59 (pc := 2) hC dX12_last_2 ?_
  refine j_aload_n (pc := 5) hC dX12_last_5 rfl ?_
  refine j_bV (pc := 6) (run_V hC (st := []) (kt_X12_asNow hC.ly (sM M 109 0 (0 : Int32))) vv_X12_asNow qw904 (by decide) sh_X12 rfl ⟨(Nat.le_of_ble_eq_true rfl), (Nat.le_of_ble_eq_true rfl)⟩ rfl rfl (Nat.le_of_ble_eq_true rfl) dX12_last_6) (fun M1 => ?_)
  refine j_aload_n (pc := 9) hC dX12_last_9 rfl ?_
  refine j_iconst (pc := 10) hC dX12_last_10 (v := 0) (by decide) ?_
  refine j_bI (pc := 11) (run_V hC (st := []) (kt_X12_endsBehind hC.ly M1 (0 : Int32)) vv_X12_endsBehind qw912 (by decide) sh_X12 rfl ⟨(Nat.le_of_ble_eq_true rfl), (Nat.le_of_ble_eq_true rfl)⟩ rfl rfl (Nat.le_of_ble_eq_true rfl) dX12_last_11) (fun M2 r3 => ?_)
  refine j_bipush (pc := 14) hC dX12_last_14 (v := (-9)) (by decide) ?_
  refine j_icmp_ne (pc := 16) hC dX12_last_16 (tgt := 24) (by decide) (fun hb4 => ?_) (fun hb4 => ?_)
  · refine j_aload_n (pc := 24) hC dX12_last_24 rfl ?_
    refine gX12_34 (pc := 25) hC dX12_last_25 ?_
    refine j_iconst (pc := 28) hC dX12_last_28 (v := 2) (by decide) ?_
    refine j_ialdC (pc := 29) hC (n := 15) (e := 2) (by decide) rfl rfl (by decide) dX12_last_29 ?_
    exact j_iret (pc := 30) hC dX12_last_30
  · refine j_bipush (pc := 19) hC dX12_last_19 (v := (-9)) (by decide) ?_
    refine j_goto (pc := 21) hC dX12_last_21 (tgt := 30) (by decide) ?_
    exact j_iret (pc := 30) hC dX12_last_30
/-! LastRowerModel.mute(I)I -/
set_option maxRecDepth 20000 in
set_option maxHeartbeats 4000000 in
theorem tsX12_mute_59 {X : Cx} {ad : Nat → Nat} {cid : Nat → ClassId} (hC : Ok X ad cid cX12_mute RX12 4 (some .int) 3 69)   (M : Mem) (x2 : Int32)  : Jp X ad cid 4 (qm X ad (qI ad cid)) M 59 [some (.ref (ad 109)), none, some (.int x2), none] [] (sX12_mute_59  M x2) := by
  unfold sX12_mute_59
  refine j_iconst (pc := 59) hC dX12_mute_59 (v := 1) (by decide) ?_
  refine j_aload_n (pc := 60) hC dX12_mute_60 rfl ?_
  refine gX12_13 (pc := 61) hC dX12_mute_61 ?_
  refine j_iconst (pc := 64) hC dX12_mute_64 (v := 0) (by decide) ?_
  refine j_ialdC (pc := 65) hC (n := 6) (e := 0) (by decide) rfl rfl (by decide) dX12_mute_65 ?_
  refine j_ishl (pc := 66) hC dX12_mute_66 ?_
  refine j_iconst (pc := 67) hC dX12_mute_67 (v := 1) (by decide) ?_
  refine j_isub (pc := 68) hC dX12_mute_68 ?_
  refine j_iload_n (pc := 69) hC dX12_mute_69 rfl ?_
  refine j_iconst (pc := 70) hC dX12_mute_70 (v := (-1)) (by decide) ?_
  refine j_ixor (pc := 71) hC dX12_mute_71 ?_
  refine j_iand (pc := 72) hC dX12_mute_72 ?_
  exact j_iret (pc := 73) hC dX12_mute_73
set_option maxRecDepth 20000 in
set_option maxHeartbeats 4000000 in
theorem tsX12_mute_31 {X : Cx} {ad : Nat → Nat} {cid : Nat → ClassId} (hC : Ok X ad cid cX12_mute RX12 4 (some .int) 3 69)  {rec31 : Mem → Int32 → Int32 → Int32 → Option (Mem × Int32)} (hrec31 : ∀ (M : Mem) (x1 : Int32) (x2 : Int32) (x3 : Int32), Jp X ad cid 4 (qm X ad (qI ad cid)) M 31 [some (.ref (ad 109)), some (.int x1), some (.int x2), some (.int x3)] [] (rec31 M x1 x2 x3)) (M : Mem) (x1 : Int32) (x2 : Int32) (x3 : Int32)  : Jp X ad cid 4 (qm X ad (qI ad cid)) M 31 [some (.ref (ad 109)), some (.int x1), some (.int x2), some (.int x3)] [] (sX12_mute_31  rec31 M x1 x2 x3) := by
  unfold sX12_mute_31
  refine j_iload_n (pc := 31) hC dX12_mute_31 rfl ?_
  refine j_iload_n (pc := 32) hC dX12_mute_32 rfl ?_
  refine j_icmp_ge (pc := 33) hC dX12_mute_33 (tgt := 59) (by decide) (fun hb5 => ?_) (fun hb5 => ?_)
  · refine j_mask [true, false, true, false] (lv' := [some (.ref (ad 109)), none, some (.int x2), none]) rfl ?_
    exact tsX12_mute_59 hC M x2
  · refine j_aload_n (pc := 36) hC dX12_mute_36 rfl ?_
    refine j_aload_n (pc := 37) hC dX12_mute_37 rfl ?_
    refine gX12_34 (pc := 38) hC dX12_mute_38 ?_
    refine j_bV (pc := 41) (run_V hC (st := []) (kt_X12_goes hC.ly r_118 M) vv_X12_goes qw872 (by decide) sh_X12 rfl ⟨(Nat.le_of_ble_eq_true rfl), (Nat.le_of_ble_eq_true rfl)⟩ rfl rfl (Nat.le_of_ble_eq_true rfl) dX12_mute_41) (fun M6 => ?_)
    refine j_iload_n (pc := 44) hC dX12_mute_44 rfl ?_
    refine j_aload_n (pc := 45) hC dX12_mute_45 rfl ?_
    refine gX12_34 (pc := 46) hC dX12_mute_46 ?_
    refine j_iconst (pc := 49) hC dX12_mute_49 (v := 2) (by decide) ?_
    refine j_ialdC (pc := 50) hC (n := 15) (e := 2) (by decide) rfl rfl (by decide) dX12_mute_50 ?_
    refine j_ior (pc := 51) hC dX12_mute_51 ?_
    refine j_istore_n (pc := 52) hC (lv' := [some (.ref (ad 109)), some (.int x1), some (.int (x2 ||| (gM M6 118 2))), some (.int x3)]) dX12_mute_52 (by decide) rfl rfl ?_
    refine j_iinc (pc := 53) hC (lv' := [some (.ref (ad 109)), some (.int x1), some (.int (x2 ||| (gM M6 118 2))), some (.int (x3 + 1))]) dX12_mute_53 rfl (v := 1) (by decide) (by decide) rfl rfl ?_
    refine j_goto (pc := 56) hC dX12_mute_56 (tgt := 31) (by decide) ?_
    exact hrec31 M6 x1 (x2 ||| (gM M6 118 2)) (x3 + 1)
theorem tlX12_mute_31 {X : Cx} {ad : Nat → Nat} {cid : Nat → ClassId} (hC : Ok X ad cid cX12_mute RX12 4 (some .int) 3 69)   : ∀ (n : Nat) (M : Mem) (x1 : Int32) (x2 : Int32) (x3 : Int32), Jp X ad cid 4 (qm X ad (qI ad cid)) M 31 [some (.ref (ad 109)), some (.int x1), some (.int x2), some (.int x3)] [] (lX12_mute_31  n M x1 x2 x3) := by
  intro n
  induction n with
  | zero => intros; exact j_none
  | succ n ih => exact tsX12_mute_31 hC   ih
set_option maxRecDepth 20000 in
set_option maxHeartbeats 4000000 in
theorem kt_X12_mute {l : Launch} {ad : Nat → Nat} {cid : Nat → ClassId} {D : va_G} (hL : lyOk ad)  (M : Mem) (x1 : Int32) : Ct (qI ad cid) l ad cid D yX12_mute cX12_mute 4 (some .int) 3 69 [.ref (ad 109), .int x1] M (fX12_mute M x1) := by
  refine ct_of (own := RX12) (lv := [some (.ref (ad 109)), some (.int x1), none, none]) hL (by decide +kernel) rfl rfl (Nat.le_of_ble_eq_true rfl) (fun X hC => ?_)
  unfold fX12_mute
  refine j_aload_n (pc := 0) hC dX12_mute_0 rfl ?_
  refine j_iconst (pc := 1) hC dX12_mute_1 (v := 0) (by decide) ?_
  refine pX12_59 (pc := 2) hC dX12_mute_2 ?_
  refine j_iload_n (pc := 5) hC dX12_mute_5 rfl ?_
  refine j_iconst (pc := 6) hC dX12_mute_6 (v := 0) (by decide) ?_
  refine j_sipush (pc := 7) hC dX12_mute_7 (v := 200) (by decide) ?_
  refine j_bI (pc := 10) (run_S hC (st := []) (kt_X12_in hC.ly (sM M 109 0 (0 : Int32)) x1 (0 : Int32) (200 : Int32)) vs_X12_in qw789 ⟨(Nat.le_of_ble_eq_true rfl), (Nat.le_of_ble_eq_true rfl)⟩ rfl rfl (Nat.le_of_ble_eq_true rfl) dX12_mute_10) (fun M1 r2 => ?_)
  refine j_if_ne (pc := 13) hC dX12_mute_13 (tgt := 18) (by decide) (fun hb3 => ?_) (fun hb3 => ?_)
  · refine j_aload_n (pc := 18) hC dX12_mute_18 rfl ?_
    refine j_bV (pc := 19) (run_V hC (st := []) (kt_X12_asNow hC.ly M1) vv_X12_asNow qw904 (by decide) sh_X12 rfl ⟨(Nat.le_of_ble_eq_true rfl), (Nat.le_of_ble_eq_true rfl)⟩ rfl rfl (Nat.le_of_ble_eq_true rfl) dX12_mute_19) (fun M4 => ?_)
    refine j_aload_n (pc := 22) hC dX12_mute_22 rfl ?_
    refine gX12_34 (pc := 23) hC dX12_mute_23 ?_
    refine j_iconst (pc := 26) hC dX12_mute_26 (v := 2) (by decide) ?_
    refine j_ialdC (pc := 27) hC (n := 15) (e := 2) (by decide) rfl rfl (by decide) dX12_mute_27 ?_
    refine j_istore_n (pc := 28) hC (lv' := [some (.ref (ad 109)), some (.int x1), some (.int (gM M4 118 2)), none]) dX12_mute_28 (by decide) rfl rfl ?_
    refine j_iconst (pc := 29) hC dX12_mute_29 (v := 0) (by decide) ?_
    refine j_istore_n (pc := 30) hC (lv' := [some (.ref (ad 109)), some (.int x1), some (.int (gM M4 118 2)), some (.int (0 : Int32))]) dX12_mute_30 (by decide) rfl rfl ?_
    exact tlX12_mute_31 hC fuel M4 x1 (gM M4 118 2) (0 : Int32)
  · refine j_iconst (pc := 16) hC dX12_mute_16 (v := (-1)) (by decide) ?_
    exact j_iret (pc := 17) hC dX12_mute_17
/-! LastRowerModel.now(I)I -/
set_option maxRecDepth 20000 in
set_option maxHeartbeats 4000000 in
theorem kt_X12_now {l : Launch} {ad : Nat → Nat} {cid : Nat → ClassId} {D : va_G} (hL : lyOk ad)  (M : Mem) (x1 : Int32) : Ct (qI ad cid) l ad cid D yX12_now cX12_now 2 (some .int) 1 26 [.ref (ad 109), .int x1] M (fX12_now M x1) := by
  refine ct_of (own := RX12) (lv := [some (.ref (ad 109)), some (.int x1)]) hL (by decide +kernel) rfl rfl (Nat.le_of_ble_eq_true rfl) (fun X hC => ?_)
  unfold fX12_now
  refine j_aload_n (pc := 0) hC dX12_now_0 rfl ?_
  refine j_iconst (pc := 1) hC dX12_now_1 (v := 0) (by decide) ?_
  refine pX12_59 (pc := 2) hC dX12_now_2 ?_
  refine j_iload_n (pc := 5) hC dX12_now_5 rfl ?_
  refine j_iconst (pc := 6) hC dX12_now_6 (v := 0) (by decide) ?_
  refine j_bipush (pc := 7) hC dX12_now_7 (v := 6) (by decide) ?_
  refine j_bI (pc := 9) (run_S hC (st := []) (kt_X12_in hC.ly (sM M 109 0 (0 : Int32)) x1 (0 : Int32) (6 : Int32)) vs_X12_in qw789 ⟨(Nat.le_of_ble_eq_true rfl), (Nat.le_of_ble_eq_true rfl)⟩ rfl rfl (Nat.le_of_ble_eq_true rfl) dX12_now_9) (fun M1 r2 => ?_)
  refine j_if_ne (pc := 12) hC dX12_now_12 (tgt := 17) (by decide) (fun hb3 => ?_) (fun hb3 => ?_)
  · refine j_iload_n (pc := 17) hC dX12_now_17 rfl ?_
    refine j_iconst (pc := 18) hC dX12_now_18 (v := 3) (by decide) ?_
    refine j_icmp_ge (pc := 19) hC dX12_now_19 (tgt := 29) (by decide) (fun hb4 => ?_) (fun hb4 => ?_)
    · refine j_iload_n (pc := 29) hC dX12_now_29 rfl ?_
      refine j_iconst (pc := 30) hC dX12_now_30 (v := 3) (by decide) ?_
      refine j_icmp_ne (pc := 31) hC dX12_now_31 (tgt := 47) (by decide) (fun hb5 => ?_) (fun hb5 => ?_)
      · refine j_iload_n (pc := 47) hC dX12_now_47 rfl ?_
        refine j_iconst (pc := 48) hC dX12_now_48 (v := 4) (by decide) ?_
        refine j_icmp_ne (pc := 49) hC dX12_now_49 (tgt := 71) (by decide) (fun hb6 => ?_) (fun hb6 => ?_)
        · refine j_iload_n (pc := 71) hC dX12_now_71 rfl ?_
          refine j_iconst (pc := 72) hC dX12_now_72 (v := 5) (by decide) ?_
          refine j_icmp_ne (pc := 73) hC dX12_now_73 (tgt := 87) (by decide) (fun hb7 => ?_) (fun hb7 => ?_)
          · refine j_aload_n (pc := 87) hC dX12_now_87 rfl ?_
            refine gX12_121 (pc := 88) hC dX12_now_88 ?_
            exact j_iret (pc := 91) hC dX12_now_91
          · refine j_aload_n (pc := 76) hC dX12_now_76 rfl ?_
            refine j_aload_n (pc := 77) hC dX12_now_77 rfl ?_
            refine gX12_31 (pc := 78) hC dX12_now_78 ?_
            refine j_bI (pc := 81) (run_V hC (st := []) (kt_X12_wordsOf hC.ly r_117 M1) vv_X12_wordsOf qw860 (by decide) sh_X12 rfl ⟨(Nat.le_of_ble_eq_true rfl), (Nat.le_of_ble_eq_true rfl)⟩ rfl rfl (Nat.le_of_ble_eq_true rfl) dX12_now_81) (fun M8 r9 => ?_)
            refine j_goto (pc := 84) hC dX12_now_84 (tgt := 91) (by decide) ?_
            exact j_iret (pc := 91) hC dX12_now_91
        · refine j_aload_n (pc := 52) hC dX12_now_52 rfl ?_
          refine j_aload_n (pc := 53) hC dX12_now_53 rfl ?_
          refine gX12_31 (pc := 54) hC dX12_now_54 ?_
          refine j_bI (pc := 57) (run_V hC (st := []) (kt_X12_isOver hC.ly r_117 M1) vv_X12_isOver qw856 (by decide) sh_X12 rfl ⟨(Nat.le_of_ble_eq_true rfl), (Nat.le_of_ble_eq_true rfl)⟩ rfl rfl (Nat.le_of_ble_eq_true rfl) dX12_now_57) (fun M10 r11 => ?_)
          refine j_if_eq (pc := 60) hC dX12_now_60 (tgt := 67) (by decide) (fun hb12 => ?_) (fun hb12 => ?_)
          · refine j_iconst (pc := 67) hC dX12_now_67 (v := 0) (by decide) ?_
            refine j_goto (pc := 68) hC dX12_now_68 (tgt := 91) (by decide) ?_
            exact j_iret (pc := 91) hC dX12_now_91
          · refine j_iconst (pc := 63) hC dX12_now_63 (v := 1) (by decide) ?_
            refine j_goto (pc := 64) hC dX12_now_64 (tgt := 91) (by decide) ?_
            exact j_iret (pc := 91) hC dX12_now_91
      · refine j_aload_n (pc := 34) hC dX12_now_34 rfl ?_
        refine j_aload_n (pc := 35) hC dX12_now_35 rfl ?_
        refine gX12_31 (pc := 36) hC dX12_now_36 ?_
        refine j_iconst (pc := 39) hC dX12_now_39 (v := 2) (by decide) ?_
        refine j_ialdC (pc := 40) hC (n := 15) (e := 2) (by decide) rfl rfl (by decide) dX12_now_40 ?_
        refine j_bI (pc := 41) (run_V hC (st := []) (kt_X12_pullOf hC.ly M1 (gM M1 117 2)) vv_X12_pullOf qw852 (by decide) sh_X12 rfl ⟨(Nat.le_of_ble_eq_true rfl), (Nat.le_of_ble_eq_true rfl)⟩ rfl rfl (Nat.le_of_ble_eq_true rfl) dX12_now_41) (fun M13 r14 => ?_)
        refine j_goto (pc := 44) hC dX12_now_44 (tgt := 91) (by decide) ?_
        exact j_iret (pc := 91) hC dX12_now_91
    · refine j_aload_n (pc := 22) hC dX12_now_22 rfl ?_
      refine gX12_31 (pc := 23) hC dX12_now_23 ?_
      refine j_iload_n (pc := 26) hC dX12_now_26 rfl ?_
      refine j_ck (fun hi15 => ?_)
      refine j_iald (pc := 27) hC (n := 15) rfl rfl hi15 dX12_now_27 ?_
      exact j_iret (pc := 28) hC dX12_now_28
  · refine j_iconst (pc := 15) hC dX12_now_15 (v := (-1)) (by decide) ?_
    exact j_iret (pc := 16) hC dX12_now_16
/-! LastRowerModel.power(II)I -/
set_option maxRecDepth 20000 in
set_option maxHeartbeats 4000000 in
theorem tsX12_power_4 {X : Cx} {ad : Nat → Nat} {cid : Nat → ClassId} (hC : Ok X ad cid cX12_power RX12 4 (some .int) 0 0)  {rec4 : Mem → Int32 → Int32 → Int32 → Int32 → Option (Mem × Int32)} (hrec4 : ∀ (M : Mem) (x0 : Int32) (x1 : Int32) (x2 : Int32) (x3 : Int32), Jp X ad cid 4 (qm X ad (qI ad cid)) M 4 [some (.int x0), some (.int x1), some (.int x2), some (.int x3)] [] (rec4 M x0 x1 x2 x3)) (M : Mem) (x0 : Int32) (x1 : Int32) (x2 : Int32) (x3 : Int32)  : Jp X ad cid 4 (qm X ad (qI ad cid)) M 4 [some (.int x0), some (.int x1), some (.int x2), some (.int x3)] [] (sX12_power_4  rec4 M x0 x1 x2 x3) := by
  unfold sX12_power_4
  refine j_iload_n (pc := 4) hC dX12_power_4 rfl ?_
  refine j_iload_n (pc := 5) hC dX12_power_5 rfl ?_
  refine j_icmp_ge (pc := 6) hC dX12_power_6 (tgt := 19) (by decide) (fun hb1 => ?_) (fun hb1 => ?_)
  · refine j_iload_n (pc := 19) hC dX12_power_19 rfl ?_
    exact j_iret (pc := 20) hC dX12_power_20
  · refine j_iload_n (pc := 9) hC dX12_power_9 rfl ?_
    refine j_iload_n (pc := 10) hC dX12_power_10 rfl ?_
    refine j_imul (pc := 11) hC dX12_power_11 ?_
    refine j_istore_n (pc := 12) hC (lv' := [some (.int x0), some (.int x1), some (.int (x2 * x0)), some (.int x3)]) dX12_power_12 (by decide) rfl rfl ?_
    refine j_iinc (pc := 13) hC (lv' := [some (.int x0), some (.int x1), some (.int (x2 * x0)), some (.int (x3 + 1))]) dX12_power_13 rfl (v := 1) (by decide) (by decide) rfl rfl ?_
    refine j_goto (pc := 16) hC dX12_power_16 (tgt := 4) (by decide) ?_
    exact hrec4 M x0 x1 (x2 * x0) (x3 + 1)
theorem tlX12_power_4 {X : Cx} {ad : Nat → Nat} {cid : Nat → ClassId} (hC : Ok X ad cid cX12_power RX12 4 (some .int) 0 0)   : ∀ (n : Nat) (M : Mem) (x0 : Int32) (x1 : Int32) (x2 : Int32) (x3 : Int32), Jp X ad cid 4 (qm X ad (qI ad cid)) M 4 [some (.int x0), some (.int x1), some (.int x2), some (.int x3)] [] (lX12_power_4  n M x0 x1 x2 x3) := by
  intro n
  induction n with
  | zero => intros; exact j_none
  | succ n ih => exact tsX12_power_4 hC   ih
set_option maxRecDepth 20000 in
set_option maxHeartbeats 4000000 in
theorem kt_X12_power {l : Launch} {ad : Nat → Nat} {cid : Nat → ClassId} {D : va_G} (hL : lyOk ad)  (M : Mem) (x0 : Int32) (x1 : Int32) : Ct (qI ad cid) l ad cid D yX12_power cX12_power 4 (some .int) 0 0 [.int x0, .int x1] M (fX12_power M x0 x1) := by
  refine ct_of (own := RX12) (lv := [some (.int x0), some (.int x1), none, none]) hL (by decide +kernel) rfl rfl (Nat.le_of_ble_eq_true rfl) (fun X hC => ?_)
  unfold fX12_power
  refine j_iconst (pc := 0) hC dX12_power_0 (v := 1) (by decide) ?_
  refine j_istore_n (pc := 1) hC (lv' := [some (.int x0), some (.int x1), some (.int (1 : Int32)), none]) dX12_power_1 (by decide) rfl rfl ?_
  refine j_iconst (pc := 2) hC dX12_power_2 (v := 0) (by decide) ?_
  refine j_istore_n (pc := 3) hC (lv' := [some (.int x0), some (.int x1), some (.int (1 : Int32)), some (.int (0 : Int32))]) dX12_power_3 (by decide) rfl rfl ?_
  exact tlX12_power_4 hC fuel M x0 x1 (1 : Int32) (0 : Int32)
/-! LastRowerModel.odds(IIII)I -/
set_option maxRecDepth 20000 in
set_option maxHeartbeats 4000000 in
theorem tsX12_odds_180 {X : Cx} {ad : Nat → Nat} {cid : Nat → ClassId} (hC : Ok X ad cid cX12_odds RX12 10 (some .int) 3 69)   (M : Mem) (x3 : Int32) (x4 : Int32) (x5 : Int32)  : Jp X ad cid 10 (qm X ad (qI ad cid)) M 180 [none, none, none, some (.int x3), some (.int x4), some (.int x5), none, none, none, none] [] (sX12_odds_180  M x3 x4 x5) := by
  unfold sX12_odds_180
  refine j_bipush (pc := 180) hC dX12_odds_180 (v := 10) (by decide) ?_
  refine j_iload_n (pc := 182) hC dX12_odds_182 rfl ?_
  refine j_bI (pc := 183) (run_S hC (st := []) (kt_X12_power hC.ly M (10 : Int32) x3) vs_X12_power qw968 ⟨(Nat.le_of_ble_eq_true rfl), (Nat.le_of_ble_eq_true rfl)⟩ rfl rfl (Nat.le_of_ble_eq_true rfl) dX12_odds_183) (fun M27 r28 => ?_)
  refine j_istore (pc := 186) hC (lv' := [none, none, none, some (.int x3), some (.int x4), some (.int x5), some (.int r28), none, none, none]) dX12_odds_186 (by decide) rfl rfl ?_
  refine j_iload (pc := 188) hC dX12_odds_188 rfl ?_
  refine j_iload (pc := 190) hC dX12_odds_190 rfl ?_
  refine j_bI (pc := 192) (run_S hC (st := []) (kt_X12_gcd hC.ly M27 x5 r28) vs_X12_gcd qw971 ⟨(Nat.le_of_ble_eq_true rfl), (Nat.le_of_ble_eq_true rfl)⟩ rfl rfl (Nat.le_of_ble_eq_true rfl) dX12_odds_192) (fun M29 r30 => ?_)
  refine j_istore (pc := 195) hC (lv' := [none, none, none, some (.int x3), some (.int x4), some (.int x5), some (.int r28), some (.int r30), none, none]) dX12_odds_195 (by decide) rfl rfl ?_
  refine j_iload (pc := 197) hC dX12_odds_197 rfl ?_
  refine j_if_ne (pc := 199) hC dX12_odds_199 (tgt := 210) (by decide) (fun hb31 => ?_) (fun hb31 => ?_)
  · refine j_iload (pc := 210) hC dX12_odds_210 rfl ?_
    refine j_iload (pc := 212) hC dX12_odds_212 rfl ?_
    refine j_ck (fun hz32 => ?_)
    refine j_idiv (pc := 214) hC dX12_odds_214 hz32 ?_
    exact j_iret (pc := 215) hC dX12_odds_215
  · refine j_iload (pc := 202) hC dX12_odds_202 rfl ?_
    refine j_iload (pc := 204) hC dX12_odds_204 rfl ?_
    refine j_ck (fun hz33 => ?_)
    refine j_idiv (pc := 206) hC dX12_odds_206 hz33 ?_
    refine j_goto (pc := 207) hC dX12_odds_207 (tgt := 215) (by decide) ?_
    exact j_iret (pc := 215) hC dX12_odds_215
set_option maxRecDepth 20000 in
set_option maxHeartbeats 4000000 in
theorem tsX12_odds_171 {X : Cx} {ad : Nat → Nat} {cid : Nat → ClassId} (hC : Ok X ad cid cX12_odds RX12 10 (some .int) 3 69) {rec51 : Mem → Int32 → Int32 → Int32 → Int32 → Int32 → Int32 → Option (Mem × Int32)} (hrec51 : ∀ (M : Mem) (x1 : Int32) (x2 : Int32) (x3 : Int32) (x4 : Int32) (x5 : Int32) (x6 : Int32), Jp X ad cid 10 (qm X ad (qI ad cid)) M 51 [some (.ref (ad 109)), some (.int x1), some (.int x2), some (.int x3), some (.int x4), some (.int x5), some (.int x6), none, none, none] [] (rec51 M x1 x2 x3 x4 x5 x6))  (M : Mem) (x1 : Int32) (x2 : Int32) (x3 : Int32) (x4 : Int32) (x6 : Int32) (s0 : Int32) (s1 : Int32)  : Jp X ad cid 10 (qm X ad (qI ad cid)) M 171 [some (.ref (ad 109)), some (.int x1), some (.int x2), some (.int x3), some (.int x4), none, some (.int x6), none, none, none] [.int s1, .int s0] (sX12_odds_171 rec51 M x1 x2 x3 x4 x6 s0 s1) := by
  unfold sX12_odds_171
  refine j_iadd (pc := 171) hC dX12_odds_171 ?_
  refine j_istore (pc := 172) hC (lv' := [some (.ref (ad 109)), some (.int x1), some (.int x2), some (.int x3), some (.int x4), some (.int (s0 + s1)), some (.int x6), none, none, none]) dX12_odds_172 (by decide) rfl rfl ?_
  refine j_iinc (pc := 174) hC (lv' := [some (.ref (ad 109)), some (.int x1), some (.int x2), some (.int x3), some (.int x4), some (.int (s0 + s1)), some (.int (x6 + 1)), none, none, none]) dX12_odds_174 rfl (v := 1) (by decide) (by decide) rfl rfl ?_
  refine j_goto (pc := 177) hC dX12_odds_177 (tgt := 51) (by decide) ?_
  exact hrec51 M x1 x2 x3 x4 (s0 + s1) (x6 + 1)
set_option maxRecDepth 20000 in
set_option maxHeartbeats 4000000 in
theorem tsX12_odds_152 {X : Cx} {ad : Nat → Nat} {cid : Nat → ClassId} (hC : Ok X ad cid cX12_odds RX12 10 (some .int) 3 69) {rec51 : Mem → Int32 → Int32 → Int32 → Int32 → Int32 → Int32 → Option (Mem × Int32)} (hrec51 : ∀ (M : Mem) (x1 : Int32) (x2 : Int32) (x3 : Int32) (x4 : Int32) (x5 : Int32) (x6 : Int32), Jp X ad cid 10 (qm X ad (qI ad cid)) M 51 [some (.ref (ad 109)), some (.int x1), some (.int x2), some (.int x3), some (.int x4), some (.int x5), some (.int x6), none, none, none] [] (rec51 M x1 x2 x3 x4 x5 x6))  (M : Mem) (x1 : Int32) (x2 : Int32) (x3 : Int32) (x4 : Int32) (x5 : Int32) (x6 : Int32) (x7 : Int32)  : Jp X ad cid 10 (qm X ad (qI ad cid)) M 152 [some (.ref (ad 109)), some (.int x1), some (.int x2), some (.int x3), some (.int x4), some (.int x5), some (.int x6), some (.int x7), none, none] [] (sX12_odds_152 rec51 M x1 x2 x3 x4 x5 x6 x7) := by
  unfold sX12_odds_152
  refine j_iload (pc := 152) hC dX12_odds_152 rfl ?_
  refine j_aload_n (pc := 154) hC dX12_odds_154 rfl ?_
  refine j_aload_n (pc := 155) hC dX12_odds_155 rfl ?_
  refine gX12_34 (pc := 156) hC dX12_odds_156 ?_
  refine j_bI (pc := 159) (run_V hC (st := [.int x5]) (kt_X12_isOver hC.ly r_118 M) vv_X12_isOver qw856 (by decide) sh_X12 rfl ⟨(Nat.le_of_ble_eq_true rfl), (Nat.le_of_ble_eq_true rfl)⟩ rfl rfl (Nat.le_of_ble_eq_true rfl) dX12_odds_159) (fun M24 r25 => ?_)
  refine j_if_eq (pc := 162) hC dX12_odds_162 (tgt := 170) (by decide) (fun hb26 => ?_) (fun hb26 => ?_)
  · refine j_iconst (pc := 170) hC dX12_odds_170 (v := 0) (by decide) ?_
    refine j_mask [true, true, true, true, true, false, true, false, false, false] (lv' := [some (.ref (ad 109)), some (.int x1), some (.int x2), some (.int x3), some (.int x4), none, some (.int x6), none, none, none]) rfl ?_
    exact tsX12_odds_171 hC hrec51 M24 x1 x2 x3 x4 x6 x5 (0 : Int32)
  · refine j_iload (pc := 165) hC dX12_odds_165 rfl ?_
    refine j_goto (pc := 167) hC dX12_odds_167 (tgt := 171) (by decide) ?_
    refine j_mask [true, true, true, true, true, false, true, false, false, false] (lv' := [some (.ref (ad 109)), some (.int x1), some (.int x2), some (.int x3), some (.int x4), none, some (.int x6), none, none, none]) rfl ?_
    exact tsX12_odds_171 hC hrec51 M24 x1 x2 x3 x4 x6 x5 x7
set_option maxRecDepth 20000 in
set_option maxHeartbeats 4000000 in
theorem tsX12_odds_138 {X : Cx} {ad : Nat → Nat} {cid : Nat → ClassId} (hC : Ok X ad cid cX12_odds RX12 10 (some .int) 3 69) {rec69 : Mem → Int32 → Int32 → Int32 → Int32 → Int32 → Int32 → Int32 → Int32 → Option (Mem × Int32)} (hrec69 : ∀ (M : Mem) (x1 : Int32) (x2 : Int32) (x3 : Int32) (x4 : Int32) (x5 : Int32) (x6 : Int32) (x7 : Int32) (x8 : Int32), Jp X ad cid 10 (qm X ad (qI ad cid)) M 69 [some (.ref (ad 109)), some (.int x1), some (.int x2), some (.int x3), some (.int x4), some (.int x5), some (.int x6), some (.int x7), some (.int x8), none] [] (rec69 M x1 x2 x3 x4 x5 x6 x7 x8))  (M : Mem) (x1 : Int32) (x2 : Int32) (x3 : Int32) (x4 : Int32) (x5 : Int32) (x6 : Int32) (x7 : Int32) (x8 : Int32)  : Jp X ad cid 10 (qm X ad (qI ad cid)) M 138 [some (.ref (ad 109)), some (.int x1), some (.int x2), some (.int x3), some (.int x4), some (.int x5), some (.int x6), some (.int x7), some (.int x8), none] [] (sX12_odds_138 rec69 M x1 x2 x3 x4 x5 x6 x7 x8) := by
  unfold sX12_odds_138
  refine j_aload_n (pc := 138) hC dX12_odds_138 rfl ?_
  refine j_aload_n (pc := 139) hC dX12_odds_139 rfl ?_
  refine gX12_34 (pc := 140) hC dX12_odds_140 ?_
  refine j_bV (pc := 143) (run_V hC (st := []) (kt_X12_goes hC.ly r_118 M) vv_X12_goes qw872 (by decide) sh_X12 rfl ⟨(Nat.le_of_ble_eq_true rfl), (Nat.le_of_ble_eq_true rfl)⟩ rfl rfl (Nat.le_of_ble_eq_true rfl) dX12_odds_143) (fun M23 => ?_)
  refine j_iinc (pc := 146) hC (lv' := [some (.ref (ad 109)), some (.int x1), some (.int x2), some (.int x3), some (.int x4), some (.int x5), some (.int x6), some (.int x7), some (.int (x8 + 1)), none]) dX12_odds_146 rfl (v := 1) (by decide) (by decide) rfl rfl ?_
  refine j_goto (pc := 149) hC dX12_odds_149 (tgt := 69) (by decide) ?_
  exact hrec69 M23 x1 x2 x3 x4 x5 x6 x7 (x8 + 1)
set_option maxRecDepth 20000 in
set_option maxHeartbeats 4000000 in
theorem tsX12_odds_108 {X : Cx} {ad : Nat → Nat} {cid : Nat → ClassId} (hC : Ok X ad cid cX12_odds RX12 10 (some .int) 3 69) {rec69 : Mem → Int32 → Int32 → Int32 → Int32 → Int32 → Int32 → Int32 → Int32 → Option (Mem × Int32)} (hrec69 : ∀ (M : Mem) (x1 : Int32) (x2 : Int32) (x3 : Int32) (x4 : Int32) (x5 : Int32) (x6 : Int32) (x7 : Int32) (x8 : Int32), Jp X ad cid 10 (qm X ad (qI ad cid)) M 69 [some (.ref (ad 109)), some (.int x1), some (.int x2), some (.int x3), some (.int x4), some (.int x5), some (.int x6), some (.int x7), some (.int x8), none] [] (rec69 M x1 x2 x3 x4 x5 x6 x7 x8))  (M : Mem) (x1 : Int32) (x2 : Int32) (x3 : Int32) (x4 : Int32) (x5 : Int32) (x6 : Int32) (x8 : Int32) (x9 : Int32) (s0 : Int32) (s1 : Int32)  : Jp X ad cid 10 (qm X ad (qI ad cid)) M 108 [some (.ref (ad 109)), some (.int x1), some (.int x2), some (.int x3), some (.int x4), some (.int x5), some (.int x6), none, some (.int x8), some (.int x9)] [.int s1, .int s0] (sX12_odds_108 rec69 M x1 x2 x3 x4 x5 x6 x8 x9 s0 s1) := by
  unfold sX12_odds_108
  refine j_imul (pc := 108) hC dX12_odds_108 ?_
  refine j_istore (pc := 109) hC (lv' := [some (.ref (ad 109)), some (.int x1), some (.int x2), some (.int x3), some (.int x4), some (.int x5), some (.int x6), some (.int (s0 * s1)), some (.int x8), some (.int x9)]) dX12_odds_109 (by decide) rfl rfl ?_
  refine j_iload (pc := 111) hC dX12_odds_111 rfl ?_
  refine j_if_eq (pc := 113) hC dX12_odds_113 (tgt := 138) (by decide) (fun hb18 => ?_) (fun hb18 => ?_)
  · refine j_mask [true, true, true, true, true, true, true, true, true, false] (lv' := [some (.ref (ad 109)), some (.int x1), some (.int x2), some (.int x3), some (.int x4), some (.int x5), some (.int x6), some (.int (s0 * s1)), some (.int x8), none]) rfl ?_
    exact tsX12_odds_138 hC hrec69 M x1 x2 x3 x4 x5 x6 (s0 * s1) x8
  · refine j_aload_n (pc := 116) hC dX12_odds_116 rfl ?_
    refine j_aload_n (pc := 117) hC dX12_odds_117 rfl ?_
    refine gX12_34 (pc := 118) hC dX12_odds_118 ?_
    refine j_bI (pc := 121) (run_V hC (st := []) (kt_X12_isOver hC.ly r_118 M) vv_X12_isOver qw856 (by decide) sh_X12 rfl ⟨(Nat.le_of_ble_eq_true rfl), (Nat.le_of_ble_eq_true rfl)⟩ rfl rfl (Nat.le_of_ble_eq_true rfl) dX12_odds_121) (fun M19 r20 => ?_)
    refine j_if_ne (pc := 124) hC dX12_odds_124 (tgt := 138) (by decide) (fun hb21 => ?_) (fun hb21 => ?_)
    · refine j_mask [true, true, true, true, true, true, true, true, true, false] (lv' := [some (.ref (ad 109)), some (.int x1), some (.int x2), some (.int x3), some (.int x4), some (.int x5), some (.int x6), some (.int (s0 * s1)), some (.int x8), none]) rfl ?_
      exact tsX12_odds_138 hC hrec69 M19 x1 x2 x3 x4 x5 x6 (s0 * s1) x8
    · refine j_aload_n (pc := 127) hC dX12_odds_127 rfl ?_
      refine j_aload_n (pc := 128) hC dX12_odds_128 rfl ?_
      refine gX12_34 (pc := 129) hC dX12_odds_129 ?_
      refine j_iconst (pc := 132) hC dX12_odds_132 (v := 1) (by decide) ?_
      refine j_iload_n (pc := 133) hC dX12_odds_133 rfl ?_
      refine j_ishl (pc := 134) hC dX12_odds_134 ?_
      refine j_bV (pc := 135) (run_V hC (st := []) (kt_X12_speak hC.ly r_118 M19 ((1 : Int32) <<< (x1 &&& 31))) vv_X12_speak qw880 (by decide) sh_X12 rfl ⟨(Nat.le_of_ble_eq_true rfl), (Nat.le_of_ble_eq_true rfl)⟩ rfl rfl (Nat.le_of_ble_eq_true rfl) dX12_odds_135) (fun M22 => ?_)
      refine j_mask [true, true, true, true, true, true, true, true, true, false] (lv' := [some (.ref (ad 109)), some (.int x1), some (.int x2), some (.int x3), some (.int x4), some (.int x5), some (.int x6), some (.int (s0 * s1)), some (.int x8), none]) rfl ?_
      exact tsX12_odds_138 hC hrec69 M22 x1 x2 x3 x4 x5 x6 (s0 * s1) x8
set_option maxRecDepth 20000 in
set_option maxHeartbeats 4000000 in
theorem tsX12_odds_91 {X : Cx} {ad : Nat → Nat} {cid : Nat → ClassId} (hC : Ok X ad cid cX12_odds RX12 10 (some .int) 3 69) {rec69 : Mem → Int32 → Int32 → Int32 → Int32 → Int32 → Int32 → Int32 → Int32 → Option (Mem × Int32)} (hrec69 : ∀ (M : Mem) (x1 : Int32) (x2 : Int32) (x3 : Int32) (x4 : Int32) (x5 : Int32) (x6 : Int32) (x7 : Int32) (x8 : Int32), Jp X ad cid 10 (qm X ad (qI ad cid)) M 69 [some (.ref (ad 109)), some (.int x1), some (.int x2), some (.int x3), some (.int x4), some (.int x5), some (.int x6), some (.int x7), some (.int x8), none] [] (rec69 M x1 x2 x3 x4 x5 x6 x7 x8))  (M : Mem) (x1 : Int32) (x2 : Int32) (x3 : Int32) (x4 : Int32) (x5 : Int32) (x6 : Int32) (x7 : Int32) (x8 : Int32) (s0 : Int32)  : Jp X ad cid 10 (qm X ad (qI ad cid)) M 91 [some (.ref (ad 109)), some (.int x1), some (.int x2), some (.int x3), some (.int x4), some (.int x5), some (.int x6), some (.int x7), some (.int x8), none] [.int s0] (sX12_odds_91 rec69 M x1 x2 x3 x4 x5 x6 x7 x8 s0) := by
  unfold sX12_odds_91
  refine j_istore (pc := 91) hC (lv' := [some (.ref (ad 109)), some (.int x1), some (.int x2), some (.int x3), some (.int x4), some (.int x5), some (.int x6), some (.int x7), some (.int x8), some (.int s0)]) dX12_odds_91 (by decide) rfl rfl ?_
  refine j_iload (pc := 93) hC dX12_odds_93 rfl ?_
  refine j_iload (pc := 95) hC dX12_odds_95 rfl ?_
  refine j_if_eq (pc := 97) hC dX12_odds_97 (tgt := 104) (by decide) (fun hb17 => ?_) (fun hb17 => ?_)
  · refine j_bipush (pc := 104) hC dX12_odds_104 (v := 10) (by decide) ?_
    refine j_iload_n (pc := 106) hC dX12_odds_106 rfl ?_
    refine j_isub (pc := 107) hC dX12_odds_107 ?_
    refine j_mask [true, true, true, true, true, true, true, false, true, true] (lv' := [some (.ref (ad 109)), some (.int x1), some (.int x2), some (.int x3), some (.int x4), some (.int x5), some (.int x6), none, some (.int x8), some (.int s0)]) rfl ?_
    exact tsX12_odds_108 hC hrec69 M x1 x2 x3 x4 x5 x6 x8 s0 x7 ((10 : Int32) - x2)
  · refine j_iload_n (pc := 100) hC dX12_odds_100 rfl ?_
    refine j_goto (pc := 101) hC dX12_odds_101 (tgt := 108) (by decide) ?_
    refine j_mask [true, true, true, true, true, true, true, false, true, true] (lv' := [some (.ref (ad 109)), some (.int x1), some (.int x2), some (.int x3), some (.int x4), some (.int x5), some (.int x6), none, some (.int x8), some (.int s0)]) rfl ?_
    exact tsX12_odds_108 hC hrec69 M x1 x2 x3 x4 x5 x6 x8 s0 x7 x2
set_option maxRecDepth 20000 in
set_option maxHeartbeats 4000000 in
theorem tsX12_odds_69 {X : Cx} {ad : Nat → Nat} {cid : Nat → ClassId} (hC : Ok X ad cid cX12_odds RX12 10 (some .int) 3 69) {rec51 : Mem → Int32 → Int32 → Int32 → Int32 → Int32 → Int32 → Option (Mem × Int32)} (hrec51 : ∀ (M : Mem) (x1 : Int32) (x2 : Int32) (x3 : Int32) (x4 : Int32) (x5 : Int32) (x6 : Int32), Jp X ad cid 10 (qm X ad (qI ad cid)) M 51 [some (.ref (ad 109)), some (.int x1), some (.int x2), some (.int x3), some (.int x4), some (.int x5), some (.int x6), none, none, none] [] (rec51 M x1 x2 x3 x4 x5 x6)) {rec69 : Mem → Int32 → Int32 → Int32 → Int32 → Int32 → Int32 → Int32 → Int32 → Option (Mem × Int32)} (hrec69 : ∀ (M : Mem) (x1 : Int32) (x2 : Int32) (x3 : Int32) (x4 : Int32) (x5 : Int32) (x6 : Int32) (x7 : Int32) (x8 : Int32), Jp X ad cid 10 (qm X ad (qI ad cid)) M 69 [some (.ref (ad 109)), some (.int x1), some (.int x2), some (.int x3), some (.int x4), some (.int x5), some (.int x6), some (.int x7), some (.int x8), none] [] (rec69 M x1 x2 x3 x4 x5 x6 x7 x8)) (M : Mem) (x1 : Int32) (x2 : Int32) (x3 : Int32) (x4 : Int32) (x5 : Int32) (x6 : Int32) (x7 : Int32) (x8 : Int32)  : Jp X ad cid 10 (qm X ad (qI ad cid)) M 69 [some (.ref (ad 109)), some (.int x1), some (.int x2), some (.int x3), some (.int x4), some (.int x5), some (.int x6), some (.int x7), some (.int x8), none] [] (sX12_odds_69 rec51 rec69 M x1 x2 x3 x4 x5 x6 x7 x8) := by
  unfold sX12_odds_69
  refine j_iload (pc := 69) hC dX12_odds_69 rfl ?_
  refine j_iload_n (pc := 71) hC dX12_odds_71 rfl ?_
  refine j_icmp_ge (pc := 72) hC dX12_odds_72 (tgt := 152) (by decide) (fun hb15 => ?_) (fun hb15 => ?_)
  · refine j_mask [true, true, true, true, true, true, true, true, false, false] (lv' := [some (.ref (ad 109)), some (.int x1), some (.int x2), some (.int x3), some (.int x4), some (.int x5), some (.int x6), some (.int x7), none, none]) rfl ?_
    exact tsX12_odds_152 hC hrec51 M x1 x2 x3 x4 x5 x6 x7
  · refine j_iload (pc := 75) hC dX12_odds_75 rfl ?_
    refine j_iload (pc := 77) hC dX12_odds_77 rfl ?_
    refine j_ishr (pc := 79) hC dX12_odds_79 ?_
    refine j_iconst (pc := 80) hC dX12_odds_80 (v := 1) (by decide) ?_
    refine j_iand (pc := 81) hC dX12_odds_81 ?_
    refine j_iconst (pc := 82) hC dX12_odds_82 (v := 1) (by decide) ?_
    refine j_icmp_ne (pc := 83) hC dX12_odds_83 (tgt := 90) (by decide) (fun hb16 => ?_) (fun hb16 => ?_)
    · refine j_iconst (pc := 90) hC dX12_odds_90 (v := 0) (by decide) ?_
      exact tsX12_odds_91 hC hrec69 M x1 x2 x3 x4 x5 x6 x7 x8 (0 : Int32)
    · refine j_iconst (pc := 86) hC dX12_odds_86 (v := 1) (by decide) ?_
      refine j_goto (pc := 87) hC dX12_odds_87 (tgt := 91) (by decide) ?_
      exact tsX12_odds_91 hC hrec69 M x1 x2 x3 x4 x5 x6 x7 x8 (1 : Int32)
theorem tlX12_odds_69 {X : Cx} {ad : Nat → Nat} {cid : Nat → ClassId} (hC : Ok X ad cid cX12_odds RX12 10 (some .int) 3 69) {rec51 : Mem → Int32 → Int32 → Int32 → Int32 → Int32 → Int32 → Option (Mem × Int32)} (hrec51 : ∀ (M : Mem) (x1 : Int32) (x2 : Int32) (x3 : Int32) (x4 : Int32) (x5 : Int32) (x6 : Int32), Jp X ad cid 10 (qm X ad (qI ad cid)) M 51 [some (.ref (ad 109)), some (.int x1), some (.int x2), some (.int x3), some (.int x4), some (.int x5), some (.int x6), none, none, none] [] (rec51 M x1 x2 x3 x4 x5 x6))  : ∀ (n : Nat) (M : Mem) (x1 : Int32) (x2 : Int32) (x3 : Int32) (x4 : Int32) (x5 : Int32) (x6 : Int32) (x7 : Int32) (x8 : Int32), Jp X ad cid 10 (qm X ad (qI ad cid)) M 69 [some (.ref (ad 109)), some (.int x1), some (.int x2), some (.int x3), some (.int x4), some (.int x5), some (.int x6), some (.int x7), some (.int x8), none] [] (lX12_odds_69 rec51 n M x1 x2 x3 x4 x5 x6 x7 x8) := by
  intro n
  induction n with
  | zero => intros; exact j_none
  | succ n ih => exact tsX12_odds_69 hC hrec51  ih
set_option maxRecDepth 20000 in
set_option maxHeartbeats 4000000 in
theorem tsX12_odds_51 {X : Cx} {ad : Nat → Nat} {cid : Nat → ClassId} (hC : Ok X ad cid cX12_odds RX12 10 (some .int) 3 69)  {rec51 : Mem → Int32 → Int32 → Int32 → Int32 → Int32 → Int32 → Option (Mem × Int32)} (hrec51 : ∀ (M : Mem) (x1 : Int32) (x2 : Int32) (x3 : Int32) (x4 : Int32) (x5 : Int32) (x6 : Int32), Jp X ad cid 10 (qm X ad (qI ad cid)) M 51 [some (.ref (ad 109)), some (.int x1), some (.int x2), some (.int x3), some (.int x4), some (.int x5), some (.int x6), none, none, none] [] (rec51 M x1 x2 x3 x4 x5 x6)) (M : Mem) (x1 : Int32) (x2 : Int32) (x3 : Int32) (x4 : Int32) (x5 : Int32) (x6 : Int32)  : Jp X ad cid 10 (qm X ad (qI ad cid)) M 51 [some (.ref (ad 109)), some (.int x1), some (.int x2), some (.int x3), some (.int x4), some (.int x5), some (.int x6), none, none, none] [] (sX12_odds_51  rec51 M x1 x2 x3 x4 x5 x6) := by
  unfold sX12_odds_51
  refine j_iload (pc := 51) hC dX12_odds_51 rfl ?_
  refine j_iconst (pc := 53) hC dX12_odds_53 (v := 1) (by decide) ?_
  refine j_iload_n (pc := 54) hC dX12_odds_54 rfl ?_
  refine j_ishl (pc := 55) hC dX12_odds_55 ?_
  refine j_icmp_ge (pc := 56) hC dX12_odds_56 (tgt := 180) (by decide) (fun hb13 => ?_) (fun hb13 => ?_)
  · refine j_mask [false, false, false, true, true, true, false, false, false, false] (lv' := [none, none, none, some (.int x3), some (.int x4), some (.int x5), none, none, none, none]) rfl ?_
    exact tsX12_odds_180 hC M x3 x4 x5
  · refine j_iconst (pc := 59) hC dX12_odds_59 (v := 1) (by decide) ?_
    refine j_istore (pc := 60) hC (lv' := [some (.ref (ad 109)), some (.int x1), some (.int x2), some (.int x3), some (.int x4), some (.int x5), some (.int x6), some (.int (1 : Int32)), none, none]) dX12_odds_60 (by decide) rfl rfl ?_
    refine j_aload_n (pc := 62) hC dX12_odds_62 rfl ?_
    refine j_bV (pc := 63) (run_V hC (st := []) (kt_X12_asNow hC.ly M) vv_X12_asNow qw904 (by decide) sh_X12 rfl ⟨(Nat.le_of_ble_eq_true rfl), (Nat.le_of_ble_eq_true rfl)⟩ rfl rfl (Nat.le_of_ble_eq_true rfl) dX12_odds_63) (fun M14 => ?_)
    refine j_iconst (pc := 66) hC dX12_odds_66 (v := 0) (by decide) ?_
    refine j_istore (pc := 67) hC (lv' := [some (.ref (ad 109)), some (.int x1), some (.int x2), some (.int x3), some (.int x4), some (.int x5), some (.int x6), some (.int (1 : Int32)), some (.int (0 : Int32)), none]) dX12_odds_67 (by decide) rfl rfl ?_
    exact tlX12_odds_69 hC hrec51 fuel M14 x1 x2 x3 x4 x5 x6 (1 : Int32) (0 : Int32)
theorem tlX12_odds_51 {X : Cx} {ad : Nat → Nat} {cid : Nat → ClassId} (hC : Ok X ad cid cX12_odds RX12 10 (some .int) 3 69)   : ∀ (n : Nat) (M : Mem) (x1 : Int32) (x2 : Int32) (x3 : Int32) (x4 : Int32) (x5 : Int32) (x6 : Int32), Jp X ad cid 10 (qm X ad (qI ad cid)) M 51 [some (.ref (ad 109)), some (.int x1), some (.int x2), some (.int x3), some (.int x4), some (.int x5), some (.int x6), none, none, none] [] (lX12_odds_51  n M x1 x2 x3 x4 x5 x6) := by
  intro n
  induction n with
  | zero => intros; exact j_none
  | succ n ih => exact tsX12_odds_51 hC   ih
set_option maxRecDepth 20000 in
set_option maxHeartbeats 4000000 in
theorem kt_X12_odds {l : Launch} {ad : Nat → Nat} {cid : Nat → ClassId} {D : va_G} (hL : lyOk ad)  (M : Mem) (x1 : Int32) (x2 : Int32) (x3 : Int32) (x4 : Int32) : Ct (qI ad cid) l ad cid D yX12_odds cX12_odds 10 (some .int) 3 69 [.ref (ad 109), .int x1, .int x2, .int x3, .int x4] M (fX12_odds M x1 x2 x3 x4) := by
  refine ct_of (own := RX12) (lv := [some (.ref (ad 109)), some (.int x1), some (.int x2), some (.int x3), some (.int x4), none, none, none, none, none]) hL (by decide +kernel) rfl rfl (Nat.le_of_ble_eq_true rfl) (fun X hC => ?_)
  unfold fX12_odds
  refine j_aload_n (pc := 0) hC dX12_odds_0 rfl ?_
  refine j_iconst (pc := 1) hC dX12_odds_1 (v := 0) (by decide) ?_
  refine pX12_59 (pc := 2) hC dX12_odds_2 ?_
  refine j_aload_n (pc := 5) hC dX12_odds_5 rfl ?_
  refine j_iload_n (pc := 6) hC dX12_odds_6 rfl ?_
  refine j_bI (pc := 7) (run_V hC (st := []) (kt_X12_isPassenger hC.ly (sM M 109 0 (0 : Int32)) x1) vv_X12_isPassenger qw836 (by decide) sh_X12 rfl ⟨(Nat.le_of_ble_eq_true rfl), (Nat.le_of_ble_eq_true rfl)⟩ rfl rfl (Nat.le_of_ble_eq_true rfl) dX12_odds_7) (fun M1 r2 => ?_)
  refine j_if_eq (pc := 10) hC dX12_odds_10 (tgt := 43) (by decide) (fun hb3 => ?_) (fun hb3 => ?_)
  · refine j_iconst (pc := 43) hC dX12_odds_43 (v := (-1)) (by decide) ?_
    exact j_iret (pc := 44) hC dX12_odds_44
  · refine j_iload_n (pc := 13) hC dX12_odds_13 rfl ?_
    refine j_iconst (pc := 14) hC dX12_odds_14 (v := 0) (by decide) ?_
    refine j_bipush (pc := 15) hC dX12_odds_15 (v := 10) (by decide) ?_
    refine j_bI (pc := 17) (run_S hC (st := []) (kt_X12_in hC.ly M1 x2 (0 : Int32) (10 : Int32)) vs_X12_in qw789 ⟨(Nat.le_of_ble_eq_true rfl), (Nat.le_of_ble_eq_true rfl)⟩ rfl rfl (Nat.le_of_ble_eq_true rfl) dX12_odds_17) (fun M4 r5 => ?_)
    refine j_if_eq (pc := 20) hC dX12_odds_20 (tgt := 43) (by decide) (fun hb6 => ?_) (fun hb6 => ?_)
    · refine j_iconst (pc := 43) hC dX12_odds_43 (v := (-1)) (by decide) ?_
      exact j_iret (pc := 44) hC dX12_odds_44
    · refine j_iload_n (pc := 23) hC dX12_odds_23 rfl ?_
      refine j_iconst (pc := 24) hC dX12_odds_24 (v := 0) (by decide) ?_
      refine j_bipush (pc := 25) hC dX12_odds_25 (v := 6) (by decide) ?_
      refine j_bI (pc := 27) (run_S hC (st := []) (kt_X12_in hC.ly M4 x3 (0 : Int32) (6 : Int32)) vs_X12_in qw789 ⟨(Nat.le_of_ble_eq_true rfl), (Nat.le_of_ble_eq_true rfl)⟩ rfl rfl (Nat.le_of_ble_eq_true rfl) dX12_odds_27) (fun M7 r8 => ?_)
      refine j_if_eq (pc := 30) hC dX12_odds_30 (tgt := 43) (by decide) (fun hb9 => ?_) (fun hb9 => ?_)
      · refine j_iconst (pc := 43) hC dX12_odds_43 (v := (-1)) (by decide) ?_
        exact j_iret (pc := 44) hC dX12_odds_44
      · refine j_iload (pc := 33) hC dX12_odds_33 rfl ?_
        refine j_iconst (pc := 35) hC dX12_odds_35 (v := 0) (by decide) ?_
        refine j_iconst (pc := 36) hC dX12_odds_36 (v := 1) (by decide) ?_
        refine j_bI (pc := 37) (run_S hC (st := []) (kt_X12_in hC.ly M7 x4 (0 : Int32) (1 : Int32)) vs_X12_in qw789 ⟨(Nat.le_of_ble_eq_true rfl), (Nat.le_of_ble_eq_true rfl)⟩ rfl rfl (Nat.le_of_ble_eq_true rfl) dX12_odds_37) (fun M10 r11 => ?_)
        refine j_if_ne (pc := 40) hC dX12_odds_40 (tgt := 45) (by decide) (fun hb12 => ?_) (fun hb12 => ?_)
        · refine j_iconst (pc := 45) hC dX12_odds_45 (v := 0) (by decide) ?_
          refine j_istore (pc := 46) hC (lv' := [some (.ref (ad 109)), some (.int x1), some (.int x2), some (.int x3), some (.int x4), some (.int (0 : Int32)), none, none, none, none]) dX12_odds_46 (by decide) rfl rfl ?_
          refine j_iconst (pc := 48) hC dX12_odds_48 (v := 0) (by decide) ?_
          refine j_istore (pc := 49) hC (lv' := [some (.ref (ad 109)), some (.int x1), some (.int x2), some (.int x3), some (.int x4), some (.int (0 : Int32)), some (.int (0 : Int32)), none, none, none]) dX12_odds_49 (by decide) rfl rfl ?_
          exact tlX12_odds_51 hC fuel M10 x1 x2 x3 x4 (0 : Int32) (0 : Int32)
        · refine j_iconst (pc := 43) hC dX12_odds_43 (v := (-1)) (by decide) ?_
          exact j_iret (pc := 44) hC dX12_odds_44
/-! LastRowerModel.passenger(II)I -/
set_option maxRecDepth 20000 in
set_option maxHeartbeats 4000000 in
theorem kt_X12_passenger {l : Launch} {ad : Nat → Nat} {cid : Nat → ClassId} {D : va_G} (hL : lyOk ad)  (M : Mem) (x1 : Int32) (x2 : Int32) : Ct (qI ad cid) l ad cid D yX12_passenger cX12_passenger 3 (some .int) 2 43 [.ref (ad 109), .int x1, .int x2] M (fX12_passenger M x1 x2) := by
  refine ct_of (own := RX12) (lv := [some (.ref (ad 109)), some (.int x1), some (.int x2)]) hL (by decide +kernel) rfl rfl (Nat.le_of_ble_eq_true rfl) (fun X hC => ?_)
  unfold fX12_passenger
  refine j_aload_n (pc := 0) hC dX12_passenger_0 rfl ?_
  refine j_iconst (pc := 1) hC dX12_passenger_1 (v := 0) (by decide) ?_
  refine pX12_59 (pc := 2) hC dX12_passenger_2 ?_
  refine j_aload_n (pc := 5) hC dX12_passenger_5 rfl ?_
  refine j_iload_n (pc := 6) hC dX12_passenger_6 rfl ?_
  refine j_bI (pc := 7) (run_V hC (st := []) (kt_X12_isPassenger hC.ly (sM M 109 0 (0 : Int32)) x1) vv_X12_isPassenger qw836 (by decide) sh_X12 rfl ⟨(Nat.le_of_ble_eq_true rfl), (Nat.le_of_ble_eq_true rfl)⟩ rfl rfl (Nat.le_of_ble_eq_true rfl) dX12_passenger_7) (fun M1 r2 => ?_)
  refine j_if_eq (pc := 10) hC dX12_passenger_10 (tgt := 22) (by decide) (fun hb3 => ?_) (fun hb3 => ?_)
  · refine j_iconst (pc := 22) hC dX12_passenger_22 (v := (-1)) (by decide) ?_
    exact j_iret (pc := 23) hC dX12_passenger_23
  · refine j_iload_n (pc := 13) hC dX12_passenger_13 rfl ?_
    refine j_iconst (pc := 14) hC dX12_passenger_14 (v := 0) (by decide) ?_
    refine j_iconst (pc := 15) hC dX12_passenger_15 (v := 5) (by decide) ?_
    refine j_bI (pc := 16) (run_S hC (st := []) (kt_X12_in hC.ly M1 x2 (0 : Int32) (5 : Int32)) vs_X12_in qw789 ⟨(Nat.le_of_ble_eq_true rfl), (Nat.le_of_ble_eq_true rfl)⟩ rfl rfl (Nat.le_of_ble_eq_true rfl) dX12_passenger_16) (fun M4 r5 => ?_)
    refine j_if_ne (pc := 19) hC dX12_passenger_19 (tgt := 24) (by decide) (fun hb6 => ?_) (fun hb6 => ?_)
    · refine j_iload_n (pc := 24) hC dX12_passenger_24 rfl ?_
      refine j_iconst (pc := 25) hC dX12_passenger_25 (v := 3) (by decide) ?_
      refine j_icmp_ge (pc := 26) hC dX12_passenger_26 (tgt := 63) (by decide) (fun hb7 => ?_) (fun hb7 => ?_)
      · refine j_iload_n (pc := 63) hC dX12_passenger_63 rfl ?_
        refine j_iconst (pc := 64) hC dX12_passenger_64 (v := 3) (by decide) ?_
        refine j_icmp_ne (pc := 65) hC dX12_passenger_65 (tgt := 79) (by decide) (fun hb8 => ?_) (fun hb8 => ?_)
        · refine j_iload_n (pc := 79) hC dX12_passenger_79 rfl ?_
          refine j_iconst (pc := 80) hC dX12_passenger_80 (v := 4) (by decide) ?_
          refine j_icmp_ne (pc := 81) hC dX12_passenger_81 (tgt := 96) (by decide) (fun hb9 => ?_) (fun hb9 => ?_)
          · refine j_aload_n (pc := 96) hC dX12_passenger_96 rfl ?_
            refine gX12_31 (pc := 97) hC dX12_passenger_97 ?_
            refine j_iconst (pc := 100) hC dX12_passenger_100 (v := 2) (by decide) ?_
            refine j_ialdC (pc := 101) hC (n := 15) (e := 2) (by decide) rfl rfl (by decide) dX12_passenger_101 ?_
            refine j_iload_n (pc := 102) hC dX12_passenger_102 rfl ?_
            refine j_ishr (pc := 103) hC dX12_passenger_103 ?_
            refine j_iconst (pc := 104) hC dX12_passenger_104 (v := 1) (by decide) ?_
            refine j_iand (pc := 105) hC dX12_passenger_105 ?_
            exact j_iret (pc := 106) hC dX12_passenger_106
          · refine j_aload_n (pc := 84) hC dX12_passenger_84 rfl ?_
            refine gX12_31 (pc := 85) hC dX12_passenger_85 ?_
            refine j_bipush (pc := 88) hC dX12_passenger_88 (v := 9) (by decide) ?_
            refine j_iload_n (pc := 90) hC dX12_passenger_90 rfl ?_
            refine j_iadd (pc := 91) hC dX12_passenger_91 ?_
            refine j_ck (fun hi10 => ?_)
            refine j_iald (pc := 92) hC (n := 15) rfl rfl hi10 dX12_passenger_92 ?_
            refine j_goto (pc := 93) hC dX12_passenger_93 (tgt := 106) (by decide) ?_
            exact j_iret (pc := 106) hC dX12_passenger_106
        · refine j_aload_n (pc := 68) hC dX12_passenger_68 rfl ?_
          refine gX12_31 (pc := 69) hC dX12_passenger_69 ?_
          refine j_iconst (pc := 72) hC dX12_passenger_72 (v := 3) (by decide) ?_
          refine j_iload_n (pc := 73) hC dX12_passenger_73 rfl ?_
          refine j_iadd (pc := 74) hC dX12_passenger_74 ?_
          refine j_ck (fun hi11 => ?_)
          refine j_iald (pc := 75) hC (n := 15) rfl rfl hi11 dX12_passenger_75 ?_
          refine j_goto (pc := 76) hC dX12_passenger_76 (tgt := 106) (by decide) ?_
          exact j_iret (pc := 106) hC dX12_passenger_106
      · refine j_iload_n (pc := 29) hC dX12_passenger_29 rfl ?_
        refine j_if_ne (pc := 30) hC dX12_passenger_30 (tgt := 42) (by decide) (fun hb12 => ?_) (fun hb12 => ?_)
        · refine j_iload_n (pc := 42) hC dX12_passenger_42 rfl ?_
          refine j_iconst (pc := 43) hC dX12_passenger_43 (v := 1) (by decide) ?_
          refine j_icmp_ne (pc := 44) hC dX12_passenger_44 (tgt := 56) (by decide) (fun hb13 => ?_) (fun hb13 => ?_)
          · refine j_aload_n (pc := 56) hC dX12_passenger_56 rfl ?_
            refine gX12_22 (pc := 57) hC dX12_passenger_57 ?_
            refine j_iload_n (pc := 60) hC dX12_passenger_60 rfl ?_
            refine j_ck (fun hi14 => ?_)
            refine j_iald (pc := 61) hC (n := 12) rfl rfl hi14 dX12_passenger_61 ?_
            exact j_iret (pc := 62) hC dX12_passenger_62
          · refine j_aload_n (pc := 47) hC dX12_passenger_47 rfl ?_
            refine gX12_19 (pc := 48) hC dX12_passenger_48 ?_
            refine j_iload_n (pc := 51) hC dX12_passenger_51 rfl ?_
            refine j_ck (fun hi15 => ?_)
            refine j_iald (pc := 52) hC (n := 12) rfl rfl hi15 dX12_passenger_52 ?_
            refine j_goto (pc := 53) hC dX12_passenger_53 (tgt := 62) (by decide) ?_
            exact j_iret (pc := 62) hC dX12_passenger_62
        · refine j_aload_n (pc := 33) hC dX12_passenger_33 rfl ?_
          refine gX12_16 (pc := 34) hC dX12_passenger_34 ?_
          refine j_iload_n (pc := 37) hC dX12_passenger_37 rfl ?_
          refine j_ck (fun hi16 => ?_)
          refine j_iald (pc := 38) hC (n := 12) rfl rfl hi16 dX12_passenger_38 ?_
          refine j_goto (pc := 39) hC dX12_passenger_39 (tgt := 62) (by decide) ?_
          exact j_iret (pc := 62) hC dX12_passenger_62
    · refine j_iconst (pc := 22) hC dX12_passenger_22 (v := (-1)) (by decide) ?_
      exact j_iret (pc := 23) hC dX12_passenger_23
/-! LastRowerModel.pinches(I)I -/
set_option maxRecDepth 20000 in
set_option maxHeartbeats 4000000 in
theorem kt_X12_pinches {l : Launch} {ad : Nat → Nat} {cid : Nat → ClassId} {D : va_G} (hL : lyOk ad)  (M : Mem) (x1 : Int32) : Ct (qI ad cid) l ad cid D yX12_pinches cX12_pinches 2 (some .int) 2 43 [.ref (ad 109), .int x1] M (fX12_pinches M x1) := by
  refine ct_of (own := RX12) (lv := [some (.ref (ad 109)), some (.int x1)]) hL (by decide +kernel) rfl rfl (Nat.le_of_ble_eq_true rfl) (fun X hC => ?_)
  unfold fX12_pinches
  refine j_aload_n (pc := 0) hC dX12_pinches_0 rfl ?_
  refine j_iconst (pc := 1) hC dX12_pinches_1 (v := 0) (by decide) ?_
  refine pX12_59 (pc := 2) hC dX12_pinches_2 ?_
  refine j_aload_n (pc := 5) hC dX12_pinches_5 rfl ?_
  refine j_iload_n (pc := 6) hC dX12_pinches_6 rfl ?_
  refine j_bI (pc := 7) (run_V hC (st := []) (kt_X12_isPassenger hC.ly (sM M 109 0 (0 : Int32)) x1) vv_X12_isPassenger qw836 (by decide) sh_X12 rfl ⟨(Nat.le_of_ble_eq_true rfl), (Nat.le_of_ble_eq_true rfl)⟩ rfl rfl (Nat.le_of_ble_eq_true rfl) dX12_pinches_7) (fun M1 r2 => ?_)
  refine j_if_ne (pc := 10) hC dX12_pinches_10 (tgt := 15) (by decide) (fun hb3 => ?_) (fun hb3 => ?_)
  · refine j_aload_n (pc := 15) hC dX12_pinches_15 rfl ?_
    refine j_aload_n (pc := 16) hC dX12_pinches_16 rfl ?_
    refine gX12_31 (pc := 17) hC dX12_pinches_17 ?_
    refine j_bI (pc := 20) (run_V hC (st := []) (kt_X12_isOver hC.ly r_117 M1) vv_X12_isOver qw856 (by decide) sh_X12 rfl ⟨(Nat.le_of_ble_eq_true rfl), (Nat.le_of_ble_eq_true rfl)⟩ rfl rfl (Nat.le_of_ble_eq_true rfl) dX12_pinches_20) (fun M4 r5 => ?_)
    refine j_if_eq (pc := 23) hC dX12_pinches_23 (tgt := 29) (by decide) (fun hb6 => ?_) (fun hb6 => ?_)
    · refine j_aload_n (pc := 29) hC dX12_pinches_29 rfl ?_
      refine j_bV (pc := 30) (run_V hC (st := []) (kt_X12_notes hC.ly M4) vv_X12_notes qw868 (by decide) sh_X12 rfl ⟨(Nat.le_of_ble_eq_true rfl), (Nat.le_of_ble_eq_true rfl)⟩ rfl rfl (Nat.le_of_ble_eq_true rfl) dX12_pinches_30) (fun M7 => ?_)
      refine j_aload_n (pc := 33) hC dX12_pinches_33 rfl ?_
      refine j_aload_n (pc := 34) hC dX12_pinches_34 rfl ?_
      refine gX12_31 (pc := 35) hC dX12_pinches_35 ?_
      refine j_iconst (pc := 38) hC dX12_pinches_38 (v := 1) (by decide) ?_
      refine j_iload_n (pc := 39) hC dX12_pinches_39 rfl ?_
      refine j_ishl (pc := 40) hC dX12_pinches_40 ?_
      refine j_bV (pc := 41) (run_V hC (st := []) (kt_X12_speak hC.ly r_117 M7 ((1 : Int32) <<< (x1 &&& 31))) vv_X12_speak qw880 (by decide) sh_X12 rfl ⟨(Nat.le_of_ble_eq_true rfl), (Nat.le_of_ble_eq_true rfl)⟩ rfl rfl (Nat.le_of_ble_eq_true rfl) dX12_pinches_41) (fun M8 => ?_)
      refine j_aload_n (pc := 44) hC dX12_pinches_44 rfl ?_
      refine gX12_31 (pc := 45) hC dX12_pinches_45 ?_
      refine j_bipush (pc := 48) hC dX12_pinches_48 (v := 9) (by decide) ?_
      refine j_iload_n (pc := 50) hC dX12_pinches_50 rfl ?_
      refine j_iadd (pc := 51) hC dX12_pinches_51 ?_
      refine j_ck (fun hi9 => ?_)
      refine j_iald (pc := 52) hC (n := 15) rfl rfl hi9 dX12_pinches_52 ?_
      exact j_iret (pc := 53) hC dX12_pinches_53
    · refine j_bipush (pc := 26) hC dX12_pinches_26 (v := (-2)) (by decide) ?_
      exact j_iret (pc := 28) hC dX12_pinches_28
  · refine j_iconst (pc := 13) hC dX12_pinches_13 (v := (-1)) (by decide) ?_
    exact j_iret (pc := 14) hC dX12_pinches_14
/-! LastRowerModel.plan(III)I -/
set_option maxRecDepth 20000 in
set_option maxHeartbeats 4000000 in
theorem tsX12_plan_199 {X : Cx} {ad : Nat → Nat} {cid : Nat → ClassId} (hC : Ok X ad cid cX12_plan RX12 10 (some .int) 5 116)   (M : Mem) (x1 : Int32) (x3 : Int32) (x5 : Int32)  : Jp X ad cid 10 (qm X ad (qI ad cid)) M 199 [some (.ref (ad 109)), some (.int x1), none, some (.int x3), none, some (.int x5), none, none, none, none] [] (sX12_plan_199  M x1 x3 x5) := by
  unfold sX12_plan_199
  refine j_iload_n (pc := 199) hC dX12_plan_199 rfl ?_
  refine j_iconst (pc := 200) hC dX12_plan_200 (v := (-1)) (by decide) ?_
  refine j_icmp_eq (pc := 201) hC dX12_plan_201 (tgt := 211) (by decide) (fun hb23 => ?_) (fun hb23 => ?_)
  · refine j_iload (pc := 211) hC dX12_plan_211 rfl ?_
    exact j_iret (pc := 213) hC dX12_plan_213
  · refine j_iload (pc := 204) hC dX12_plan_204 rfl ?_
    refine j_bipush (pc := 206) hC dX12_plan_206 (v := (-9)) (by decide) ?_
    refine j_icmp_ne (pc := 208) hC dX12_plan_208 (tgt := 214) (by decide) (fun hb24 => ?_) (fun hb24 => ?_)
    · refine j_iload_n (pc := 214) hC dX12_plan_214 rfl ?_
      refine j_iload_n (pc := 215) hC dX12_plan_215 rfl ?_
      refine j_icmp_lt (pc := 216) hC dX12_plan_216 (tgt := 224) (by decide) (fun hb25 => ?_) (fun hb25 => ?_)
      · refine j_aload_n (pc := 224) hC dX12_plan_224 rfl ?_
        refine gX12_56 (pc := 225) hC dX12_plan_225 ?_
        refine j_iload_n (pc := 228) hC dX12_plan_228 rfl ?_
        refine j_ck (fun hi26 => ?_)
        refine j_iald (pc := 229) hC (n := 3) rfl rfl hi26 dX12_plan_229 ?_
        refine j_if_ne (pc := 230) hC dX12_plan_230 (tgt := 238) (by decide) (fun hb27 => ?_) (fun hb27 => ?_)
        · refine j_aload_n (pc := 238) hC dX12_plan_238 rfl ?_
          refine gX12_56 (pc := 239) hC dX12_plan_239 ?_
          refine j_iload_n (pc := 242) hC dX12_plan_242 rfl ?_
          refine j_iald (pc := 243) hC (n := 3) rfl rfl hi26 dX12_plan_243 ?_
          refine j_iconst (pc := 244) hC dX12_plan_244 (v := 1) (by decide) ?_
          refine j_isub (pc := 245) hC dX12_plan_245 ?_
          exact j_iret (pc := 246) hC dX12_plan_246
        · refine j_bipush (pc := 233) hC dX12_plan_233 (v := (-5)) (by decide) ?_
          refine j_goto (pc := 235) hC dX12_plan_235 (tgt := 246) (by decide) ?_
          exact j_iret (pc := 246) hC dX12_plan_246
      · refine j_bipush (pc := 219) hC dX12_plan_219 (v := (-9)) (by decide) ?_
        refine j_goto (pc := 221) hC dX12_plan_221 (tgt := 246) (by decide) ?_
        exact j_iret (pc := 246) hC dX12_plan_246
    · refine j_iload (pc := 211) hC dX12_plan_211 rfl ?_
      exact j_iret (pc := 213) hC dX12_plan_213
set_option maxRecDepth 20000 in
set_option maxHeartbeats 4000000 in
theorem tsX12_plan_167 {X : Cx} {ad : Nat → Nat} {cid : Nat → ClassId} (hC : Ok X ad cid cX12_plan RX12 10 (some .int) 5 116) {rec73 : Mem → Int32 → Int32 → Int32 → Int32 → Int32 → Int32 → Option (Mem × Int32)} (hrec73 : ∀ (M : Mem) (x1 : Int32) (x2 : Int32) (x3 : Int32) (x4 : Int32) (x5 : Int32) (x6 : Int32), Jp X ad cid 10 (qm X ad (qI ad cid)) M 73 [some (.ref (ad 109)), some (.int x1), some (.int x2), some (.int x3), some (.int x4), some (.int x5), some (.int x6), none, none, none] [] (rec73 M x1 x2 x3 x4 x5 x6)) {rec167 : Mem → Int32 → Int32 → Int32 → Int32 → Int32 → Int32 → Int32 → Option (Mem × Int32)} (hrec167 : ∀ (M : Mem) (x1 : Int32) (x2 : Int32) (x3 : Int32) (x4 : Int32) (x5 : Int32) (x6 : Int32) (x9 : Int32), Jp X ad cid 10 (qm X ad (qI ad cid)) M 167 [some (.ref (ad 109)), some (.int x1), some (.int x2), some (.int x3), some (.int x4), some (.int x5), some (.int x6), none, none, some (.int x9)] [] (rec167 M x1 x2 x3 x4 x5 x6 x9)) (M : Mem) (x1 : Int32) (x2 : Int32) (x3 : Int32) (x4 : Int32) (x5 : Int32) (x6 : Int32) (x9 : Int32)  : Jp X ad cid 10 (qm X ad (qI ad cid)) M 167 [some (.ref (ad 109)), some (.int x1), some (.int x2), some (.int x3), some (.int x4), some (.int x5), some (.int x6), none, none, some (.int x9)] [] (sX12_plan_167 rec73 rec167 M x1 x2 x3 x4 x5 x6 x9) := by
  unfold sX12_plan_167
  refine j_iload (pc := 167) hC dX12_plan_167 rfl ?_
  refine j_iload_n (pc := 169) hC dX12_plan_169 rfl ?_
  refine j_icmp_ge (pc := 170) hC dX12_plan_170 (tgt := 193) (by decide) (fun hb21 => ?_) (fun hb21 => ?_)
  · refine j_iinc (pc := 193) hC (lv' := [some (.ref (ad 109)), some (.int x1), some (.int x2), some (.int x3), some (.int x4), some (.int x5), some (.int (x6 + 1)), none, none, some (.int x9)]) dX12_plan_193 rfl (v := 1) (by decide) (by decide) rfl rfl ?_
    refine j_goto (pc := 196) hC dX12_plan_196 (tgt := 73) (by decide) ?_
    refine j_mask [true, true, true, true, true, true, true, false, false, false] (lv' := [some (.ref (ad 109)), some (.int x1), some (.int x2), some (.int x3), some (.int x4), some (.int x5), some (.int (x6 + 1)), none, none, none]) rfl ?_
    exact hrec73 M x1 x2 x3 x4 x5 (x6 + 1)
  · refine j_aload_n (pc := 173) hC dX12_plan_173 rfl ?_
    refine gX12_56 (pc := 174) hC dX12_plan_174 ?_
    refine j_iload (pc := 177) hC dX12_plan_177 rfl ?_
    refine j_aload_n (pc := 179) hC dX12_plan_179 rfl ?_
    refine gX12_53 (pc := 180) hC dX12_plan_180 ?_
    refine j_iload (pc := 183) hC dX12_plan_183 rfl ?_
    refine j_ck (fun hi22 => ?_)
    refine j_iald (pc := 185) hC (n := 3) rfl rfl hi22 dX12_plan_185 ?_
    refine j_iast (pc := 186) hC (n := 3) rfl rfl hi22 dX12_plan_186 ?_
    refine j_iinc (pc := 187) hC (lv' := [some (.ref (ad 109)), some (.int x1), some (.int x2), some (.int x3), some (.int x4), some (.int x5), some (.int x6), none, none, some (.int (x9 + 1))]) dX12_plan_187 rfl (v := 1) (by decide) (by decide) rfl rfl ?_
    refine j_goto (pc := 190) hC dX12_plan_190 (tgt := 167) (by decide) ?_
    exact hrec167 (sM M 125 x9.toNatClampNeg (gM M 124 x9.toNatClampNeg)) x1 x2 x3 x4 x5 x6 (x9 + 1)
theorem tlX12_plan_167 {X : Cx} {ad : Nat → Nat} {cid : Nat → ClassId} (hC : Ok X ad cid cX12_plan RX12 10 (some .int) 5 116) {rec73 : Mem → Int32 → Int32 → Int32 → Int32 → Int32 → Int32 → Option (Mem × Int32)} (hrec73 : ∀ (M : Mem) (x1 : Int32) (x2 : Int32) (x3 : Int32) (x4 : Int32) (x5 : Int32) (x6 : Int32), Jp X ad cid 10 (qm X ad (qI ad cid)) M 73 [some (.ref (ad 109)), some (.int x1), some (.int x2), some (.int x3), some (.int x4), some (.int x5), some (.int x6), none, none, none] [] (rec73 M x1 x2 x3 x4 x5 x6))  : ∀ (n : Nat) (M : Mem) (x1 : Int32) (x2 : Int32) (x3 : Int32) (x4 : Int32) (x5 : Int32) (x6 : Int32) (x9 : Int32), Jp X ad cid 10 (qm X ad (qI ad cid)) M 167 [some (.ref (ad 109)), some (.int x1), some (.int x2), some (.int x3), some (.int x4), some (.int x5), some (.int x6), none, none, some (.int x9)] [] (lX12_plan_167 rec73 n M x1 x2 x3 x4 x5 x6 x9) := by
  intro n
  induction n with
  | zero => intros; exact j_none
  | succ n ih => exact tsX12_plan_167 hC hrec73  ih
set_option maxRecDepth 20000 in
set_option maxHeartbeats 4000000 in
theorem tsX12_plan_160 {X : Cx} {ad : Nat → Nat} {cid : Nat → ClassId} (hC : Ok X ad cid cX12_plan RX12 10 (some .int) 5 116) {rec73 : Mem → Int32 → Int32 → Int32 → Int32 → Int32 → Int32 → Option (Mem × Int32)} (hrec73 : ∀ (M : Mem) (x1 : Int32) (x2 : Int32) (x3 : Int32) (x4 : Int32) (x5 : Int32) (x6 : Int32), Jp X ad cid 10 (qm X ad (qI ad cid)) M 73 [some (.ref (ad 109)), some (.int x1), some (.int x2), some (.int x3), some (.int x4), some (.int x5), some (.int x6), none, none, none] [] (rec73 M x1 x2 x3 x4 x5 x6))  (M : Mem) (x1 : Int32) (x2 : Int32) (x3 : Int32) (x4 : Int32) (x6 : Int32) (x8 : Int32)  : Jp X ad cid 10 (qm X ad (qI ad cid)) M 160 [some (.ref (ad 109)), some (.int x1), some (.int x2), some (.int x3), some (.int x4), none, some (.int x6), none, some (.int x8), none] [] (sX12_plan_160 rec73 M x1 x2 x3 x4 x6 x8) := by
  unfold sX12_plan_160
  refine j_iload (pc := 160) hC dX12_plan_160 rfl ?_
  refine j_istore (pc := 162) hC (lv' := [some (.ref (ad 109)), some (.int x1), some (.int x2), some (.int x3), some (.int x4), some (.int x8), some (.int x6), none, some (.int x8), none]) dX12_plan_162 (by decide) rfl rfl ?_
  refine j_iconst (pc := 164) hC dX12_plan_164 (v := 0) (by decide) ?_
  refine j_istore (pc := 165) hC (lv' := [some (.ref (ad 109)), some (.int x1), some (.int x2), some (.int x3), some (.int x4), some (.int x8), some (.int x6), none, some (.int x8), some (.int (0 : Int32))]) dX12_plan_165 (by decide) rfl rfl ?_
  refine j_mask [true, true, true, true, true, true, true, false, false, true] (lv' := [some (.ref (ad 109)), some (.int x1), some (.int x2), some (.int x3), some (.int x4), some (.int x8), some (.int x6), none, none, some (.int (0 : Int32))]) rfl ?_
  exact tlX12_plan_167 hC hrec73 fuel M x1 x2 x3 x4 x8 x6 (0 : Int32)
set_option maxRecDepth 20000 in
set_option maxHeartbeats 4000000 in
theorem tsX12_plan_131 {X : Cx} {ad : Nat → Nat} {cid : Nat → ClassId} (hC : Ok X ad cid cX12_plan RX12 10 (some .int) 5 116) {rec73 : Mem → Int32 → Int32 → Int32 → Int32 → Int32 → Int32 → Option (Mem × Int32)} (hrec73 : ∀ (M : Mem) (x1 : Int32) (x2 : Int32) (x3 : Int32) (x4 : Int32) (x5 : Int32) (x6 : Int32), Jp X ad cid 10 (qm X ad (qI ad cid)) M 73 [some (.ref (ad 109)), some (.int x1), some (.int x2), some (.int x3), some (.int x4), some (.int x5), some (.int x6), none, none, none] [] (rec73 M x1 x2 x3 x4 x5 x6))  (M : Mem) (x1 : Int32) (x2 : Int32) (x3 : Int32) (x4 : Int32) (x5 : Int32) (x6 : Int32)  : Jp X ad cid 10 (qm X ad (qI ad cid)) M 131 [some (.ref (ad 109)), some (.int x1), some (.int x2), some (.int x3), some (.int x4), some (.int x5), some (.int x6), none, none, none] [] (sX12_plan_131 rec73 M x1 x2 x3 x4 x5 x6) := by
  unfold sX12_plan_131
  refine j_aload_n (pc := 131) hC dX12_plan_131 rfl ?_
  refine j_iload_n (pc := 132) hC dX12_plan_132 rfl ?_
  refine j_iload_n (pc := 133) hC dX12_plan_133 rfl ?_
  refine j_bI (pc := 134) (run_V hC (st := []) (kt_X12_endsBy hC.ly M x1 x2) vv_X12_endsBy qw936 (by decide) sh_X12 rfl ⟨(Nat.le_of_ble_eq_true rfl), (Nat.le_of_ble_eq_true rfl)⟩ rfl rfl (Nat.le_of_ble_eq_true rfl) dX12_plan_134) (fun M16 r17 => ?_)
  refine j_istore (pc := 137) hC (lv' := [some (.ref (ad 109)), some (.int x1), some (.int x2), some (.int x3), some (.int x4), some (.int x5), some (.int x6), none, some (.int r17), none]) dX12_plan_137 (by decide) rfl rfl ?_
  refine j_iload (pc := 139) hC dX12_plan_139 rfl ?_
  refine j_bipush (pc := 141) hC dX12_plan_141 (v := (-9)) (by decide) ?_
  refine j_icmp_eq (pc := 143) hC dX12_plan_143 (tgt := 193) (by decide) (fun hb18 => ?_) (fun hb18 => ?_)
  · refine j_iinc (pc := 193) hC (lv' := [some (.ref (ad 109)), some (.int x1), some (.int x2), some (.int x3), some (.int x4), some (.int x5), some (.int (x6 + 1)), none, some (.int r17), none]) dX12_plan_193 rfl (v := 1) (by decide) (by decide) rfl rfl ?_
    refine j_goto (pc := 196) hC dX12_plan_196 (tgt := 73) (by decide) ?_
    refine j_mask [true, true, true, true, true, true, true, false, false, false] (lv' := [some (.ref (ad 109)), some (.int x1), some (.int x2), some (.int x3), some (.int x4), some (.int x5), some (.int (x6 + 1)), none, none, none]) rfl ?_
    exact hrec73 M16 x1 x2 x3 x4 x5 (x6 + 1)
  · refine j_iload (pc := 146) hC dX12_plan_146 rfl ?_
    refine j_bipush (pc := 148) hC dX12_plan_148 (v := (-9)) (by decide) ?_
    refine j_icmp_eq (pc := 150) hC dX12_plan_150 (tgt := 160) (by decide) (fun hb19 => ?_) (fun hb19 => ?_)
    · refine j_mask [true, true, true, true, true, false, true, false, true, false] (lv' := [some (.ref (ad 109)), some (.int x1), some (.int x2), some (.int x3), some (.int x4), none, some (.int x6), none, some (.int r17), none]) rfl ?_
      exact tsX12_plan_160 hC hrec73 M16 x1 x2 x3 x4 x6 r17
    · refine j_iload (pc := 153) hC dX12_plan_153 rfl ?_
      refine j_iload (pc := 155) hC dX12_plan_155 rfl ?_
      refine j_icmp_ge (pc := 157) hC dX12_plan_157 (tgt := 193) (by decide) (fun hb20 => ?_) (fun hb20 => ?_)
      · refine j_iinc (pc := 193) hC (lv' := [some (.ref (ad 109)), some (.int x1), some (.int x2), some (.int x3), some (.int x4), some (.int x5), some (.int (x6 + 1)), none, some (.int r17), none]) dX12_plan_193 rfl (v := 1) (by decide) (by decide) rfl rfl ?_
        refine j_goto (pc := 196) hC dX12_plan_196 (tgt := 73) (by decide) ?_
        refine j_mask [true, true, true, true, true, true, true, false, false, false] (lv' := [some (.ref (ad 109)), some (.int x1), some (.int x2), some (.int x3), some (.int x4), some (.int x5), some (.int (x6 + 1)), none, none, none]) rfl ?_
        exact hrec73 M16 x1 x2 x3 x4 x5 (x6 + 1)
      · refine j_mask [true, true, true, true, true, false, true, false, true, false] (lv' := [some (.ref (ad 109)), some (.int x1), some (.int x2), some (.int x3), some (.int x4), none, some (.int x6), none, some (.int r17), none]) rfl ?_
        exact tsX12_plan_160 hC hrec73 M16 x1 x2 x3 x4 x6 r17
set_option maxRecDepth 20000 in
set_option maxHeartbeats 4000000 in
theorem tsX12_plan_89 {X : Cx} {ad : Nat → Nat} {cid : Nat → ClassId} (hC : Ok X ad cid cX12_plan RX12 10 (some .int) 5 116) {rec73 : Mem → Int32 → Int32 → Int32 → Int32 → Int32 → Int32 → Option (Mem × Int32)} (hrec73 : ∀ (M : Mem) (x1 : Int32) (x2 : Int32) (x3 : Int32) (x4 : Int32) (x5 : Int32) (x6 : Int32), Jp X ad cid 10 (qm X ad (qI ad cid)) M 73 [some (.ref (ad 109)), some (.int x1), some (.int x2), some (.int x3), some (.int x4), some (.int x5), some (.int x6), none, none, none] [] (rec73 M x1 x2 x3 x4 x5 x6)) {rec89 : Mem → Int32 → Int32 → Int32 → Int32 → Int32 → Int32 → Int32 → Int32 → Option (Mem × Int32)} (hrec89 : ∀ (M : Mem) (x1 : Int32) (x2 : Int32) (x3 : Int32) (x4 : Int32) (x5 : Int32) (x6 : Int32) (x7 : Int32) (x8 : Int32), Jp X ad cid 10 (qm X ad (qI ad cid)) M 89 [some (.ref (ad 109)), some (.int x1), some (.int x2), some (.int x3), some (.int x4), some (.int x5), some (.int x6), some (.int x7), some (.int x8), none] [] (rec89 M x1 x2 x3 x4 x5 x6 x7 x8)) (M : Mem) (x1 : Int32) (x2 : Int32) (x3 : Int32) (x4 : Int32) (x5 : Int32) (x6 : Int32) (x7 : Int32) (x8 : Int32)  : Jp X ad cid 10 (qm X ad (qI ad cid)) M 89 [some (.ref (ad 109)), some (.int x1), some (.int x2), some (.int x3), some (.int x4), some (.int x5), some (.int x6), some (.int x7), some (.int x8), none] [] (sX12_plan_89 rec73 rec89 M x1 x2 x3 x4 x5 x6 x7 x8) := by
  unfold sX12_plan_89
  refine j_iload (pc := 89) hC dX12_plan_89 rfl ?_
  refine j_if_lt (pc := 91) hC dX12_plan_91 (tgt := 131) (by decide) (fun hb12 => ?_) (fun hb12 => ?_)
  · refine j_mask [true, true, true, true, true, true, true, false, false, false] (lv' := [some (.ref (ad 109)), some (.int x1), some (.int x2), some (.int x3), some (.int x4), some (.int x5), some (.int x6), none, none, none]) rfl ?_
    exact tsX12_plan_131 hC hrec73 M x1 x2 x3 x4 x5 x6
  · refine j_aload_n (pc := 94) hC dX12_plan_94 rfl ?_
    refine gX12_53 (pc := 95) hC dX12_plan_95 ?_
    refine j_iload (pc := 98) hC dX12_plan_98 rfl ?_
    refine j_iload (pc := 100) hC dX12_plan_100 rfl ?_
    refine j_aload_n (pc := 102) hC dX12_plan_102 rfl ?_
    refine gX12_13 (pc := 103) hC dX12_plan_103 ?_
    refine j_iconst (pc := 106) hC dX12_plan_106 (v := 0) (by decide) ?_
    refine j_ialdC (pc := 107) hC (n := 6) (e := 0) (by decide) rfl rfl (by decide) dX12_plan_107 ?_
    refine j_iconst (pc := 108) hC dX12_plan_108 (v := 1) (by decide) ?_
    refine j_iadd (pc := 109) hC dX12_plan_109 ?_
    refine j_ck (fun hz13 => ?_)
    refine j_irem (pc := 110) hC dX12_plan_110 hz13 ?_
    refine j_ck (fun hi14 => ?_)
    refine j_iast (pc := 111) hC (n := 3) rfl rfl hi14 dX12_plan_111 ?_
    refine j_iload (pc := 112) hC dX12_plan_112 rfl ?_
    refine j_aload_n (pc := 114) hC dX12_plan_114 rfl ?_
    refine gX12_13 (pc := 115) hC dX12_plan_115 ?_
    refine j_iconst (pc := 118) hC dX12_plan_118 (v := 0) (by decide) ?_
    refine j_ialdC (pc := 119) hC (n := 6) (e := 0) (by decide) rfl rfl (by decide) dX12_plan_119 ?_
    refine j_iconst (pc := 120) hC dX12_plan_120 (v := 1) (by decide) ?_
    refine j_iadd (pc := 121) hC dX12_plan_121 ?_
    refine j_ck (fun hz15 => ?_)
    refine j_idiv (pc := 122) hC dX12_plan_122 hz15 ?_
    refine j_istore (pc := 123) hC (lv' := [some (.ref (ad 109)), some (.int x1), some (.int x2), some (.int x3), some (.int x4), some (.int x5), some (.int x6), some (.int (x7 / ((gM (sM M 124 x8.toNatClampNeg (x7 - x7 / ((gM M 111 0) + (1 : Int32)) * ((gM M 111 0) + (1 : Int32)))) 111 0) + (1 : Int32)))), some (.int x8), none]) dX12_plan_123 (by decide) rfl rfl ?_
    refine j_iinc (pc := 125) hC (lv' := [some (.ref (ad 109)), some (.int x1), some (.int x2), some (.int x3), some (.int x4), some (.int x5), some (.int x6), some (.int (x7 / ((gM (sM M 124 x8.toNatClampNeg (x7 - x7 / ((gM M 111 0) + (1 : Int32)) * ((gM M 111 0) + (1 : Int32)))) 111 0) + (1 : Int32)))), some (.int (x8 + (-1))), none]) dX12_plan_125 rfl (v := (-1)) (by decide) (by decide) rfl rfl ?_
    refine j_goto (pc := 128) hC dX12_plan_128 (tgt := 89) (by decide) ?_
    exact hrec89 (sM M 124 x8.toNatClampNeg (x7 - x7 / ((gM M 111 0) + (1 : Int32)) * ((gM M 111 0) + (1 : Int32)))) x1 x2 x3 x4 x5 x6 (x7 / ((gM (sM M 124 x8.toNatClampNeg (x7 - x7 / ((gM M 111 0) + (1 : Int32)) * ((gM M 111 0) + (1 : Int32)))) 111 0) + (1 : Int32))) (x8 + (-1))
theorem tlX12_plan_89 {X : Cx} {ad : Nat → Nat} {cid : Nat → ClassId} (hC : Ok X ad cid cX12_plan RX12 10 (some .int) 5 116) {rec73 : Mem → Int32 → Int32 → Int32 → Int32 → Int32 → Int32 → Option (Mem × Int32)} (hrec73 : ∀ (M : Mem) (x1 : Int32) (x2 : Int32) (x3 : Int32) (x4 : Int32) (x5 : Int32) (x6 : Int32), Jp X ad cid 10 (qm X ad (qI ad cid)) M 73 [some (.ref (ad 109)), some (.int x1), some (.int x2), some (.int x3), some (.int x4), some (.int x5), some (.int x6), none, none, none] [] (rec73 M x1 x2 x3 x4 x5 x6))  : ∀ (n : Nat) (M : Mem) (x1 : Int32) (x2 : Int32) (x3 : Int32) (x4 : Int32) (x5 : Int32) (x6 : Int32) (x7 : Int32) (x8 : Int32), Jp X ad cid 10 (qm X ad (qI ad cid)) M 89 [some (.ref (ad 109)), some (.int x1), some (.int x2), some (.int x3), some (.int x4), some (.int x5), some (.int x6), some (.int x7), some (.int x8), none] [] (lX12_plan_89 rec73 n M x1 x2 x3 x4 x5 x6 x7 x8) := by
  intro n
  induction n with
  | zero => intros; exact j_none
  | succ n ih => exact tsX12_plan_89 hC hrec73  ih
set_option maxRecDepth 20000 in
set_option maxHeartbeats 4000000 in
theorem tsX12_plan_73 {X : Cx} {ad : Nat → Nat} {cid : Nat → ClassId} (hC : Ok X ad cid cX12_plan RX12 10 (some .int) 5 116)  {rec73 : Mem → Int32 → Int32 → Int32 → Int32 → Int32 → Int32 → Option (Mem × Int32)} (hrec73 : ∀ (M : Mem) (x1 : Int32) (x2 : Int32) (x3 : Int32) (x4 : Int32) (x5 : Int32) (x6 : Int32), Jp X ad cid 10 (qm X ad (qI ad cid)) M 73 [some (.ref (ad 109)), some (.int x1), some (.int x2), some (.int x3), some (.int x4), some (.int x5), some (.int x6), none, none, none] [] (rec73 M x1 x2 x3 x4 x5 x6)) (M : Mem) (x1 : Int32) (x2 : Int32) (x3 : Int32) (x4 : Int32) (x5 : Int32) (x6 : Int32)  : Jp X ad cid 10 (qm X ad (qI ad cid)) M 73 [some (.ref (ad 109)), some (.int x1), some (.int x2), some (.int x3), some (.int x4), some (.int x5), some (.int x6), none, none, none] [] (sX12_plan_73  rec73 M x1 x2 x3 x4 x5 x6) := by
  unfold sX12_plan_73
  refine j_iload (pc := 73) hC dX12_plan_73 rfl ?_
  refine j_iload (pc := 75) hC dX12_plan_75 rfl ?_
  refine j_icmp_ge (pc := 77) hC dX12_plan_77 (tgt := 199) (by decide) (fun hb11 => ?_) (fun hb11 => ?_)
  · refine j_mask [true, true, false, true, false, true, false, false, false, false] (lv' := [some (.ref (ad 109)), some (.int x1), none, some (.int x3), none, some (.int x5), none, none, none, none]) rfl ?_
    exact tsX12_plan_199 hC M x1 x3 x5
  · refine j_iload (pc := 80) hC dX12_plan_80 rfl ?_
    refine j_istore (pc := 82) hC (lv' := [some (.ref (ad 109)), some (.int x1), some (.int x2), some (.int x3), some (.int x4), some (.int x5), some (.int x6), some (.int x6), none, none]) dX12_plan_82 (by decide) rfl rfl ?_
    refine j_iload_n (pc := 84) hC dX12_plan_84 rfl ?_
    refine j_iconst (pc := 85) hC dX12_plan_85 (v := 1) (by decide) ?_
    refine j_isub (pc := 86) hC dX12_plan_86 ?_
    refine j_istore (pc := 87) hC (lv' := [some (.ref (ad 109)), some (.int x1), some (.int x2), some (.int x3), some (.int x4), some (.int x5), some (.int x6), some (.int x6), some (.int (x1 - (1 : Int32))), none]) dX12_plan_87 (by decide) rfl rfl ?_
    exact tlX12_plan_89 hC hrec73 fuel M x1 x2 x3 x4 x5 x6 x6 (x1 - (1 : Int32))
theorem tlX12_plan_73 {X : Cx} {ad : Nat → Nat} {cid : Nat → ClassId} (hC : Ok X ad cid cX12_plan RX12 10 (some .int) 5 116)   : ∀ (n : Nat) (M : Mem) (x1 : Int32) (x2 : Int32) (x3 : Int32) (x4 : Int32) (x5 : Int32) (x6 : Int32), Jp X ad cid 10 (qm X ad (qI ad cid)) M 73 [some (.ref (ad 109)), some (.int x1), some (.int x2), some (.int x3), some (.int x4), some (.int x5), some (.int x6), none, none, none] [] (lX12_plan_73  n M x1 x2 x3 x4 x5 x6) := by
  intro n
  induction n with
  | zero => intros; exact j_none
  | succ n ih => exact tsX12_plan_73 hC   ih
set_option maxRecDepth 20000 in
set_option maxHeartbeats 4000000 in
theorem tsX12_plan_66 {X : Cx} {ad : Nat → Nat} {cid : Nat → ClassId} (hC : Ok X ad cid cX12_plan RX12 10 (some .int) 5 116)   (M : Mem) (x1 : Int32) (x2 : Int32) (x3 : Int32) (x4 : Int32)  : Jp X ad cid 10 (qm X ad (qI ad cid)) M 66 [some (.ref (ad 109)), some (.int x1), some (.int x2), some (.int x3), some (.int x4), none, none, none, none, none] [] (sX12_plan_66  M x1 x2 x3 x4) := by
  unfold sX12_plan_66
  refine j_bipush (pc := 66) hC dX12_plan_66 (v := (-9)) (by decide) ?_
  refine j_istore (pc := 68) hC (lv' := [some (.ref (ad 109)), some (.int x1), some (.int x2), some (.int x3), some (.int x4), some (.int (-9 : Int32)), none, none, none, none]) dX12_plan_68 (by decide) rfl rfl ?_
  refine j_iconst (pc := 70) hC dX12_plan_70 (v := 0) (by decide) ?_
  refine j_istore (pc := 71) hC (lv' := [some (.ref (ad 109)), some (.int x1), some (.int x2), some (.int x3), some (.int x4), some (.int (-9 : Int32)), some (.int (0 : Int32)), none, none, none]) dX12_plan_71 (by decide) rfl rfl ?_
  exact tlX12_plan_73 hC fuel M x1 x2 x3 x4 (-9 : Int32) (0 : Int32)
set_option maxRecDepth 20000 in
set_option maxHeartbeats 4000000 in
theorem tsX12_plan_41 {X : Cx} {ad : Nat → Nat} {cid : Nat → ClassId} (hC : Ok X ad cid cX12_plan RX12 10 (some .int) 5 116)  {rec41 : Mem → Int32 → Int32 → Int32 → Int32 → Int32 → Option (Mem × Int32)} (hrec41 : ∀ (M : Mem) (x1 : Int32) (x2 : Int32) (x3 : Int32) (x4 : Int32) (x5 : Int32), Jp X ad cid 10 (qm X ad (qI ad cid)) M 41 [some (.ref (ad 109)), some (.int x1), some (.int x2), some (.int x3), some (.int x4), some (.int x5), none, none, none, none] [] (rec41 M x1 x2 x3 x4 x5)) (M : Mem) (x1 : Int32) (x2 : Int32) (x3 : Int32) (x4 : Int32) (x5 : Int32)  : Jp X ad cid 10 (qm X ad (qI ad cid)) M 41 [some (.ref (ad 109)), some (.int x1), some (.int x2), some (.int x3), some (.int x4), some (.int x5), none, none, none, none] [] (sX12_plan_41  rec41 M x1 x2 x3 x4 x5) := by
  unfold sX12_plan_41
  refine j_iload (pc := 41) hC dX12_plan_41 rfl ?_
  refine j_iload_n (pc := 43) hC dX12_plan_43 rfl ?_
  refine j_icmp_ge (pc := 44) hC dX12_plan_44 (tgt := 66) (by decide) (fun hb10 => ?_) (fun hb10 => ?_)
  · refine j_mask [true, true, true, true, true, false, false, false, false, false] (lv' := [some (.ref (ad 109)), some (.int x1), some (.int x2), some (.int x3), some (.int x4), none, none, none, none, none]) rfl ?_
    exact tsX12_plan_66 hC M x1 x2 x3 x4
  · refine j_iload (pc := 47) hC dX12_plan_47 rfl ?_
    refine j_aload_n (pc := 49) hC dX12_plan_49 rfl ?_
    refine gX12_13 (pc := 50) hC dX12_plan_50 ?_
    refine j_iconst (pc := 53) hC dX12_plan_53 (v := 0) (by decide) ?_
    refine j_ialdC (pc := 54) hC (n := 6) (e := 0) (by decide) rfl rfl (by decide) dX12_plan_54 ?_
    refine j_iconst (pc := 55) hC dX12_plan_55 (v := 1) (by decide) ?_
    refine j_iadd (pc := 56) hC dX12_plan_56 ?_
    refine j_imul (pc := 57) hC dX12_plan_57 ?_
    refine j_istore (pc := 58) hC (lv' := [some (.ref (ad 109)), some (.int x1), some (.int x2), some (.int x3), some (.int (x4 * ((gM M 111 0) + (1 : Int32)))), some (.int x5), none, none, none, none]) dX12_plan_58 (by decide) rfl rfl ?_
    refine j_iinc (pc := 60) hC (lv' := [some (.ref (ad 109)), some (.int x1), some (.int x2), some (.int x3), some (.int (x4 * ((gM M 111 0) + (1 : Int32)))), some (.int (x5 + 1)), none, none, none, none]) dX12_plan_60 rfl (v := 1) (by decide) (by decide) rfl rfl ?_
    refine j_goto (pc := 63) hC dX12_plan_63 (tgt := 41) (by decide) ?_
    exact hrec41 M x1 x2 x3 (x4 * ((gM M 111 0) + (1 : Int32))) (x5 + 1)
theorem tlX12_plan_41 {X : Cx} {ad : Nat → Nat} {cid : Nat → ClassId} (hC : Ok X ad cid cX12_plan RX12 10 (some .int) 5 116)   : ∀ (n : Nat) (M : Mem) (x1 : Int32) (x2 : Int32) (x3 : Int32) (x4 : Int32) (x5 : Int32), Jp X ad cid 10 (qm X ad (qI ad cid)) M 41 [some (.ref (ad 109)), some (.int x1), some (.int x2), some (.int x3), some (.int x4), some (.int x5), none, none, none, none] [] (lX12_plan_41  n M x1 x2 x3 x4 x5) := by
  intro n
  induction n with
  | zero => intros; exact j_none
  | succ n ih => exact tsX12_plan_41 hC   ih
set_option maxRecDepth 20000 in
set_option maxHeartbeats 4000000 in
theorem kt_X12_plan {l : Launch} {ad : Nat → Nat} {cid : Nat → ClassId} {D : va_G} (hL : lyOk ad)  (M : Mem) (x1 : Int32) (x2 : Int32) (x3 : Int32) : Ct (qI ad cid) l ad cid D yX12_plan cX12_plan 10 (some .int) 5 116 [.ref (ad 109), .int x1, .int x2, .int x3] M (fX12_plan M x1 x2 x3) := by
  refine ct_of (own := RX12) (lv := [some (.ref (ad 109)), some (.int x1), some (.int x2), some (.int x3), none, none, none, none, none, none]) hL (by decide +kernel) rfl rfl (Nat.le_of_ble_eq_true rfl) (fun X hC => ?_)
  unfold fX12_plan
  refine j_aload_n (pc := 0) hC dX12_plan_0 rfl ?_
  refine j_iconst (pc := 1) hC dX12_plan_1 (v := 0) (by decide) ?_
  refine pX12_59 (pc := 2) hC dX12_plan_2 ?_
  refine j_iload_n (pc := 5) hC dX12_plan_5 rfl ?_
  refine j_iconst (pc := 6) hC dX12_plan_6 (v := 1) (by decide) ?_
  refine j_iconst (pc := 7) hC dX12_plan_7 (v := 3) (by decide) ?_
  refine j_bI (pc := 8) (run_S hC (st := []) (kt_X12_in hC.ly (sM M 109 0 (0 : Int32)) x1 (1 : Int32) (3 : Int32)) vs_X12_in qw789 ⟨(Nat.le_of_ble_eq_true rfl), (Nat.le_of_ble_eq_true rfl)⟩ rfl rfl (Nat.le_of_ble_eq_true rfl) dX12_plan_8) (fun M1 r2 => ?_)
  refine j_if_eq (pc := 11) hC dX12_plan_11 (tgt := 33) (by decide) (fun hb3 => ?_) (fun hb3 => ?_)
  · refine j_iconst (pc := 33) hC dX12_plan_33 (v := (-1)) (by decide) ?_
    exact j_iret (pc := 34) hC dX12_plan_34
  · refine j_iload_n (pc := 14) hC dX12_plan_14 rfl ?_
    refine j_iconst (pc := 15) hC dX12_plan_15 (v := 0) (by decide) ?_
    refine j_bipush (pc := 16) hC dX12_plan_16 (v := 60) (by decide) ?_
    refine j_bI (pc := 18) (run_S hC (st := []) (kt_X12_in hC.ly M1 x2 (0 : Int32) (60 : Int32)) vs_X12_in qw789 ⟨(Nat.le_of_ble_eq_true rfl), (Nat.le_of_ble_eq_true rfl)⟩ rfl rfl (Nat.le_of_ble_eq_true rfl) dX12_plan_18) (fun M4 r5 => ?_)
    refine j_if_eq (pc := 21) hC dX12_plan_21 (tgt := 33) (by decide) (fun hb6 => ?_) (fun hb6 => ?_)
    · refine j_iconst (pc := 33) hC dX12_plan_33 (v := (-1)) (by decide) ?_
      exact j_iret (pc := 34) hC dX12_plan_34
    · refine j_iload_n (pc := 24) hC dX12_plan_24 rfl ?_
      refine j_iconst (pc := 25) hC dX12_plan_25 (v := (-1)) (by decide) ?_
      refine j_iconst (pc := 26) hC dX12_plan_26 (v := 2) (by decide) ?_
      refine j_bI (pc := 27) (run_S hC (st := []) (kt_X12_in hC.ly M4 x3 (-1 : Int32) (2 : Int32)) vs_X12_in qw789 ⟨(Nat.le_of_ble_eq_true rfl), (Nat.le_of_ble_eq_true rfl)⟩ rfl rfl (Nat.le_of_ble_eq_true rfl) dX12_plan_27) (fun M7 r8 => ?_)
      refine j_if_ne (pc := 30) hC dX12_plan_30 (tgt := 35) (by decide) (fun hb9 => ?_) (fun hb9 => ?_)
      · refine j_iconst (pc := 35) hC dX12_plan_35 (v := 1) (by decide) ?_
        refine j_istore (pc := 36) hC (lv' := [some (.ref (ad 109)), some (.int x1), some (.int x2), some (.int x3), some (.int (1 : Int32)), none, none, none, none, none]) dX12_plan_36 (by decide) rfl rfl ?_
        refine j_iconst (pc := 38) hC dX12_plan_38 (v := 0) (by decide) ?_
        refine j_istore (pc := 39) hC (lv' := [some (.ref (ad 109)), some (.int x1), some (.int x2), some (.int x3), some (.int (1 : Int32)), some (.int (0 : Int32)), none, none, none, none]) dX12_plan_39 (by decide) rfl rfl ?_
        exact tlX12_plan_41 hC fuel M7 x1 x2 x3 (1 : Int32) (0 : Int32)
      · refine j_iconst (pc := 33) hC dX12_plan_33 (v := (-1)) (by decide) ?_
        exact j_iret (pc := 34) hC dX12_plan_34
