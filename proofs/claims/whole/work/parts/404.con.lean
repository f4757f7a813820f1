/-! LastRowerModel.asNow()V -/
set_option maxRecDepth 20000 in
set_option maxHeartbeats 4000000 in
theorem tsX12_asNow_2 {X : Cx} {ad : Nat → Nat} {cid : Nat → ClassId} (hC : Ok X ad cid cX12_asNow RX12 2 none 0 0)  {rec2 : Mem → Int32 → Option (Mem)} (hrec2 : ∀ (M : Mem) (x1 : Int32), Jp X ad cid 2 (qm X ad (qV ad cid)) M 2 [some (.ref (ad 109)), some (.int x1)] [] (rec2 M x1)) (M : Mem) (x1 : Int32)  : Jp X ad cid 2 (qm X ad (qV ad cid)) M 2 [some (.ref (ad 109)), some (.int x1)] [] (sX12_asNow_2  rec2 M x1) := by
  unfold sX12_asNow_2
  refine j_iload_n (pc := 2) hC dX12_asNow_2 rfl ?_
  refine j_bipush (pc := 3) hC dX12_asNow_3 (v := 15) (by decide) ?_
  refine j_icmp_ge (pc := 5) hC dX12_asNow_5 (tgt := 26) (by decide) (fun hb1 => ?_) (fun hb1 => ?_)
  · exact j_vret (pc := 26) hC dX12_asNow_26
  · refine j_aload_n (pc := 8) hC dX12_asNow_8 rfl ?_
    refine gX12_34 (pc := 9) hC dX12_asNow_9 ?_
    refine j_iload_n (pc := 12) hC dX12_asNow_12 rfl ?_
    refine j_aload_n (pc := 13) hC dX12_asNow_13 rfl ?_
    refine gX12_31 (pc := 14) hC dX12_asNow_14 ?_
    refine j_iload_n (pc := 17) hC dX12_asNow_17 rfl ?_
    refine j_ck (fun hi2 => ?_)
    refine j_iald (pc := 18) hC (n := 15) rfl rfl hi2 dX12_asNow_18 ?_
    refine j_iast (pc := 19) hC (n := 15) rfl rfl hi2 dX12_asNow_19 ?_
    refine j_iinc (pc := 20) hC (lv' := [some (.ref (ad 109)), some (.int (x1 + 1))]) dX12_asNow_20 rfl (v := 1) (by decide) (by decide) rfl rfl ?_
    refine j_goto (pc := 23) hC dX12_asNow_23 (tgt := 2) (by decide) ?_
    exact hrec2 (sM M 118 x1.toNatClampNeg (gM M 117 x1.toNatClampNeg)) (x1 + 1)
theorem tlX12_asNow_2 {X : Cx} {ad : Nat → Nat} {cid : Nat → ClassId} (hC : Ok X ad cid cX12_asNow RX12 2 none 0 0)   : ∀ (n : Nat) (M : Mem) (x1 : Int32), Jp X ad cid 2 (qm X ad (qV ad cid)) M 2 [some (.ref (ad 109)), some (.int x1)] [] (lX12_asNow_2  n M x1) := by
  intro n
  induction n with
  | zero => intros; exact j_none
  | succ n ih => exact tsX12_asNow_2 hC   ih
set_option maxRecDepth 20000 in
set_option maxHeartbeats 4000000 in
theorem kt_X12_asNow {l : Launch} {ad : Nat → Nat} {cid : Nat → ClassId} {D : va_G} (hL : lyOk ad)  (M : Mem)  : Ct (qV ad cid) l ad cid D yX12_asNow cX12_asNow 2 none 0 0 [.ref (ad 109)] M (fX12_asNow M ) := by
  refine ct_of (own := RX12) (lv := [some (.ref (ad 109)), none]) hL (by decide +kernel) rfl rfl (Nat.le_of_ble_eq_true rfl) (fun X hC => ?_)
  unfold fX12_asNow
  refine j_iconst (pc := 0) hC dX12_asNow_0 (v := 0) (by decide) ?_
  refine j_istore_n (pc := 1) hC (lv' := [some (.ref (ad 109)), some (.int (0 : Int32))]) dX12_asNow_1 (by decide) rfl rfl ?_
  exact tlX12_asNow_2 hC fuel M (0 : Int32)
/-! LastRowerModel.back(I)I -/
set_option maxRecDepth 20000 in
set_option maxHeartbeats 4000000 in
theorem tsX12_back_59 {X : Cx} {ad : Nat → Nat} {cid : Nat → ClassId} (hC : Ok X ad cid cX12_back RX12 3 (some .int) 1 22)   (M : Mem)   : Jp X ad cid 3 (qm X ad (qI ad cid)) M 59 [some (.ref (ad 109)), none, none] [] (sX12_back_59  M) := by
  unfold sX12_back_59
  refine j_aload_n (pc := 59) hC dX12_back_59 rfl ?_
  refine j_iconst (pc := 60) hC dX12_back_60 (v := 0) (by decide) ?_
  refine pX12_121 (pc := 61) hC dX12_back_61 ?_
  refine j_aload_n (pc := 64) hC dX12_back_64 rfl ?_
  refine gX12_31 (pc := 65) hC dX12_back_65 ?_
  refine j_iconst (pc := 68) hC dX12_back_68 (v := 0) (by decide) ?_
  refine j_ialdC (pc := 69) hC (n := 15) (e := 0) (by decide) rfl rfl (by decide) dX12_back_69 ?_
  exact j_iret (pc := 70) hC dX12_back_70
set_option maxRecDepth 20000 in
set_option maxHeartbeats 4000000 in
theorem tsX12_back_30 {X : Cx} {ad : Nat → Nat} {cid : Nat → ClassId} (hC : Ok X ad cid cX12_back RX12 3 (some .int) 1 22)  {rec30 : Mem → Int32 → Int32 → Option (Mem × Int32)} (hrec30 : ∀ (M : Mem) (x1 : Int32) (x2 : Int32), Jp X ad cid 3 (qm X ad (qI ad cid)) M 30 [some (.ref (ad 109)), some (.int x1), some (.int x2)] [] (rec30 M x1 x2)) (M : Mem) (x1 : Int32) (x2 : Int32)  : Jp X ad cid 3 (qm X ad (qI ad cid)) M 30 [some (.ref (ad 109)), some (.int x1), some (.int x2)] [] (sX12_back_30  rec30 M x1 x2) := by
  unfold sX12_back_30
  refine j_iload_n (pc := 30) hC dX12_back_30 rfl ?_
  refine j_bipush (pc := 31) hC dX12_back_31 (v := 15) (by decide) ?_
  refine j_icmp_ge (pc := 33) hC dX12_back_33 (tgt := 59) (by decide) (fun hb6 => ?_) (fun hb6 => ?_)
  · refine j_mask [true, false, false] (lv' := [some (.ref (ad 109)), none, none]) rfl ?_
    exact tsX12_back_59 hC M
  · refine j_aload_n (pc := 36) hC dX12_back_36 rfl ?_
    refine gX12_31 (pc := 37) hC dX12_back_37 ?_
    refine j_iload_n (pc := 40) hC dX12_back_40 rfl ?_
    refine j_aload_n (pc := 41) hC dX12_back_41 rfl ?_
    refine gX12_37 (pc := 42) hC dX12_back_42 ?_
    refine j_bipush (pc := 45) hC dX12_back_45 (v := 15) (by decide) ?_
    refine j_iload_n (pc := 47) hC dX12_back_47 rfl ?_
    refine j_imul (pc := 48) hC dX12_back_48 ?_
    refine j_iload_n (pc := 49) hC dX12_back_49 rfl ?_
    refine j_iadd (pc := 50) hC dX12_back_50 ?_
    refine j_ck (fun hi7 => ?_)
    refine j_iald (pc := 51) hC (n := 30) rfl rfl hi7 dX12_back_51 ?_
    refine j_ck (fun hi8 => ?_)
    refine j_iast (pc := 52) hC (n := 15) rfl rfl hi8 dX12_back_52 ?_
    refine j_iinc (pc := 53) hC (lv' := [some (.ref (ad 109)), some (.int x1), some (.int (x2 + 1))]) dX12_back_53 rfl (v := 1) (by decide) (by decide) rfl rfl ?_
    refine j_goto (pc := 56) hC dX12_back_56 (tgt := 30) (by decide) ?_
    exact hrec30 (sM M 117 x2.toNatClampNeg (gM M 119 (((15 : Int32) * x1) + x2).toNatClampNeg)) x1 (x2 + 1)
theorem tlX12_back_30 {X : Cx} {ad : Nat → Nat} {cid : Nat → ClassId} (hC : Ok X ad cid cX12_back RX12 3 (some .int) 1 22)   : ∀ (n : Nat) (M : Mem) (x1 : Int32) (x2 : Int32), Jp X ad cid 3 (qm X ad (qI ad cid)) M 30 [some (.ref (ad 109)), some (.int x1), some (.int x2)] [] (lX12_back_30  n M x1 x2) := by
  intro n
  induction n with
  | zero => intros; exact j_none
  | succ n ih => exact tsX12_back_30 hC   ih
set_option maxRecDepth 20000 in
set_option maxHeartbeats 4000000 in
theorem kt_X12_back {l : Launch} {ad : Nat → Nat} {cid : Nat → ClassId} {D : va_G} (hL : lyOk ad)  (M : Mem) (x1 : Int32) : Ct (qI ad cid) l ad cid D yX12_back cX12_back 3 (some .int) 1 22 [.ref (ad 109), .int x1] M (fX12_back M x1) := by
  refine ct_of (own := RX12) (lv := [some (.ref (ad 109)), some (.int x1), none]) hL (by decide +kernel) rfl rfl (Nat.le_of_ble_eq_true rfl) (fun X hC => ?_)
  unfold fX12_back
  refine j_aload_n (pc := 0) hC dX12_back_0 rfl ?_
  refine j_iconst (pc := 1) hC dX12_back_1 (v := 0) (by decide) ?_
  refine pX12_59 (pc := 2) hC dX12_back_2 ?_
  refine j_iload_n (pc := 5) hC dX12_back_5 rfl ?_
  refine j_iconst (pc := 6) hC dX12_back_6 (v := 0) (by decide) ?_
  refine j_iconst (pc := 7) hC dX12_back_7 (v := 1) (by decide) ?_
  refine j_bI (pc := 8) (run_S hC (st := []) (kt_X12_in hC.ly (sM M 109 0 (0 : Int32)) x1 (0 : Int32) (1 : Int32)) vs_X12_in qw789 ⟨(Nat.le_of_ble_eq_true rfl), (Nat.le_of_ble_eq_true rfl)⟩ rfl rfl (Nat.le_of_ble_eq_true rfl) dX12_back_8) (fun M1 r2 => ?_)
  refine j_if_ne (pc := 11) hC dX12_back_11 (tgt := 16) (by decide) (fun hb3 => ?_) (fun hb3 => ?_)
  · refine j_aload_n (pc := 16) hC dX12_back_16 rfl ?_
    refine gX12_40 (pc := 17) hC dX12_back_17 ?_
    refine j_iload_n (pc := 20) hC dX12_back_20 rfl ?_
    refine j_ck (fun hi4 => ?_)
    refine j_zald (pc := 21) hC (n := 2) rfl rfl hi4 dX12_back_21 ?_
    refine j_if_ne (pc := 22) hC dX12_back_22 (tgt := 28) (by decide) (fun hb5 => ?_) (fun hb5 => ?_)
    · refine j_iconst (pc := 28) hC dX12_back_28 (v := 0) (by decide) ?_
      refine j_istore_n (pc := 29) hC (lv' := [some (.ref (ad 109)), some (.int x1), some (.int (0 : Int32))]) dX12_back_29 (by decide) rfl rfl ?_
      exact tlX12_back_30 hC fuel M1 x1 (0 : Int32)
    · refine j_bipush (pc := 25) hC dX12_back_25 (v := (-2)) (by decide) ?_
      exact j_iret (pc := 27) hC dX12_back_27
  · refine j_iconst (pc := 14) hC dX12_back_14 (v := (-1)) (by decide) ?_
    exact j_iret (pc := 15) hC dX12_back_15
/-! LastRowerModel.flowAt(I)I -/
set_option maxRecDepth 20000 in
set_option maxHeartbeats 4000000 in
theorem tsX12_flowAt_8 {X : Cx} {ad : Nat → Nat} {cid : Nat → ClassId} (hC : Ok X ad cid cX12_flowAt RX12 5 (some .int) 0 0)  {rec8 : Mem → Int32 → Int32 → Int32 → Int32 → Option (Mem × Int32)} (hrec8 : ∀ (M : Mem) (x1 : Int32) (x2 : Int32) (x3 : Int32) (x4 : Int32), Jp X ad cid 5 (qm X ad (qI ad cid)) M 8 [some (.ref (ad 109)), some (.int x1), some (.int x2), some (.int x3), some (.int x4)] [] (rec8 M x1 x2 x3 x4)) (M : Mem) (x1 : Int32) (x2 : Int32) (x3 : Int32) (x4 : Int32)  : Jp X ad cid 5 (qm X ad (qI ad cid)) M 8 [some (.ref (ad 109)), some (.int x1), some (.int x2), some (.int x3), some (.int x4)] [] (sX12_flowAt_8  rec8 M x1 x2 x3 x4) := by
  unfold sX12_flowAt_8
  refine j_iload (pc := 8) hC dX12_flowAt_8 rfl ?_
  refine j_aload_n (pc := 10) hC dX12_flowAt_10 rfl ?_
  refine gX12_13 (pc := 11) hC dX12_flowAt_11 ?_
  refine j_iconst (pc := 14) hC dX12_flowAt_14 (v := 2) (by decide) ?_
  refine j_ialdC (pc := 15) hC (n := 6) (e := 2) (by decide) rfl rfl (by decide) dX12_flowAt_15 ?_
  refine j_icmp_ge (pc := 16) hC dX12_flowAt_16 (tgt := 63) (by decide) (fun hb1 => ?_) (fun hb1 => ?_)
  · refine j_iload_n (pc := 63) hC dX12_flowAt_63 rfl ?_
    exact j_iret (pc := 64) hC dX12_flowAt_64
  · refine j_aload_n (pc := 19) hC dX12_flowAt_19 rfl ?_
    refine gX12_25 (pc := 20) hC dX12_flowAt_20 ?_
    refine j_iload (pc := 23) hC dX12_flowAt_23 rfl ?_
    refine j_ck (fun hi2 => ?_)
    refine j_iald (pc := 25) hC (n := 8) rfl rfl hi2 dX12_flowAt_25 ?_
    refine j_iload_n (pc := 26) hC dX12_flowAt_26 rfl ?_
    refine j_icmp_gt (pc := 27) hC dX12_flowAt_27 (tgt := 57) (by decide) (fun hb3 => ?_) (fun hb3 => ?_)
    · refine j_iinc (pc := 57) hC (lv' := [some (.ref (ad 109)), some (.int x1), some (.int x2), some (.int x3), some (.int (x4 + 1))]) dX12_flowAt_57 rfl (v := 1) (by decide) (by decide) rfl rfl ?_
      refine j_goto (pc := 60) hC dX12_flowAt_60 (tgt := 8) (by decide) ?_
      exact hrec8 M x1 x2 x3 (x4 + 1)
    · refine j_aload_n (pc := 30) hC dX12_flowAt_30 rfl ?_
      refine gX12_25 (pc := 31) hC dX12_flowAt_31 ?_
      refine j_iload (pc := 34) hC dX12_flowAt_34 rfl ?_
      refine j_iald (pc := 36) hC (n := 8) rfl rfl hi2 dX12_flowAt_36 ?_
      refine j_iload_n (pc := 37) hC dX12_flowAt_37 rfl ?_
      refine j_icmp_le (pc := 38) hC dX12_flowAt_38 (tgt := 57) (by decide) (fun hb4 => ?_) (fun hb4 => ?_)
      · refine j_iinc (pc := 57) hC (lv' := [some (.ref (ad 109)), some (.int x1), some (.int x2), some (.int x3), some (.int (x4 + 1))]) dX12_flowAt_57 rfl (v := 1) (by decide) (by decide) rfl rfl ?_
        refine j_goto (pc := 60) hC dX12_flowAt_60 (tgt := 8) (by decide) ?_
        exact hrec8 M x1 x2 x3 (x4 + 1)
      · refine j_aload_n (pc := 41) hC dX12_flowAt_41 rfl ?_
        refine gX12_25 (pc := 42) hC dX12_flowAt_42 ?_
        refine j_iload (pc := 45) hC dX12_flowAt_45 rfl ?_
        refine j_iald (pc := 47) hC (n := 8) rfl rfl hi2 dX12_flowAt_47 ?_
        refine j_istore_n (pc := 48) hC (lv' := [some (.ref (ad 109)), some (.int x1), some (.int (gM M 115 x4.toNatClampNeg)), some (.int x3), some (.int x4)]) dX12_flowAt_48 (by decide) rfl rfl ?_
        refine j_aload_n (pc := 49) hC dX12_flowAt_49 rfl ?_
        refine gX12_28 (pc := 50) hC dX12_flowAt_50 ?_
        refine j_iload (pc := 53) hC dX12_flowAt_53 rfl ?_
        refine j_iald (pc := 55) hC (n := 8) rfl rfl hi2 dX12_flowAt_55 ?_
        refine j_istore_n (pc := 56) hC (lv' := [some (.ref (ad 109)), some (.int x1), some (.int (gM M 115 x4.toNatClampNeg)), some (.int (gM M 116 x4.toNatClampNeg)), some (.int x4)]) dX12_flowAt_56 (by decide) rfl rfl ?_
        refine j_iinc (pc := 57) hC (lv' := [some (.ref (ad 109)), some (.int x1), some (.int (gM M 115 x4.toNatClampNeg)), some (.int (gM M 116 x4.toNatClampNeg)), some (.int (x4 + 1))]) dX12_flowAt_57 rfl (v := 1) (by decide) (by decide) rfl rfl ?_
        refine j_goto (pc := 60) hC dX12_flowAt_60 (tgt := 8) (by decide) ?_
        exact hrec8 M x1 (gM M 115 x4.toNatClampNeg) (gM M 116 x4.toNatClampNeg) (x4 + 1)
theorem tlX12_flowAt_8 {X : Cx} {ad : Nat → Nat} {cid : Nat → ClassId} (hC : Ok X ad cid cX12_flowAt RX12 5 (some .int) 0 0)   : ∀ (n : Nat) (M : Mem) (x1 : Int32) (x2 : Int32) (x3 : Int32) (x4 : Int32), Jp X ad cid 5 (qm X ad (qI ad cid)) M 8 [some (.ref (ad 109)), some (.int x1), some (.int x2), some (.int x3), some (.int x4)] [] (lX12_flowAt_8  n M x1 x2 x3 x4) := by
  intro n
  induction n with
  | zero => intros; exact j_none
  | succ n ih => exact tsX12_flowAt_8 hC   ih
set_option maxRecDepth 20000 in
set_option maxHeartbeats 4000000 in
theorem kt_X12_flowAt {l : Launch} {ad : Nat → Nat} {cid : Nat → ClassId} {D : va_G} (hL : lyOk ad)  (M : Mem) (x1 : Int32) : Ct (qI ad cid) l ad cid D yX12_flowAt cX12_flowAt 5 (some .int) 0 0 [.ref (ad 109), .int x1] M (fX12_flowAt M x1) := by
  refine ct_of (own := RX12) (lv := [some (.ref (ad 109)), some (.int x1), none, none, none]) hL (by decide +kernel) rfl rfl (Nat.le_of_ble_eq_true rfl) (fun X hC => ?_)
  unfold fX12_flowAt
  refine j_bipush (pc := 0) hC dX12_flowAt_0 (v := (-9)) (by decide) ?_
  refine j_istore_n (pc := 2) hC (lv' := [some (.ref (ad 109)), some (.int x1), some (.int (-9 : Int32)), none, none]) dX12_flowAt_2 (by decide) rfl rfl ?_
  refine j_iconst (pc := 3) hC dX12_flowAt_3 (v := 0) (by decide) ?_
  refine j_istore_n (pc := 4) hC (lv' := [some (.ref (ad 109)), some (.int x1), some (.int (-9 : Int32)), some (.int (0 : Int32)), none]) dX12_flowAt_4 (by decide) rfl rfl ?_
  refine j_iconst (pc := 5) hC dX12_flowAt_5 (v := 0) (by decide) ?_
  refine j_istore (pc := 6) hC (lv' := [some (.ref (ad 109)), some (.int x1), some (.int (-9 : Int32)), some (.int (0 : Int32)), some (.int (0 : Int32))]) dX12_flowAt_6 (by decide) rfl rfl ?_
  exact tlX12_flowAt_8 hC fuel M x1 (-9 : Int32) (0 : Int32) (0 : Int32)
/-! LastRowerModel.speak([II)V -/
set_option maxRecDepth 20000 in
set_option maxHeartbeats 4000000 in
theorem tsX12_speak_38 {X : Cx} {ad : Nat → Nat} {cid : Nat → ClassId} (hC : Ok X ad cid cX12_speak RX12 4 none 0 0) {rec6 : Mem → Nat → Int32 → Int32 → Option (Mem)} (hrec6 : ∀ (M : Mem) (n1 : Nat) (x2 : Int32) (x3 : Int32), isR n1 → Jp X ad cid 4 (qm X ad (qV ad cid)) M 6 [some (.ref (ad 109)), some (.ref (ad n1)), some (.int x2), some (.int x3)] [] (rec6 M n1 x2 x3))  (M : Mem) (n1 : Nat) (x2 : Int32) (x3 : Int32) (ns0 : Nat) (s1 : Int32) (s2 : Int32) (h1 : isR n1) (hs0 : isR ns0) : Jp X ad cid 4 (qm X ad (qV ad cid)) M 38 [some (.ref (ad 109)), some (.ref (ad n1)), some (.int x2), some (.int x3)] [.int s2, .int s1, .ref (ad ns0)] (sX12_speak_38 rec6 M n1 x2 x3 ns0 s1 s2) := by
  unfold sX12_speak_38
  refine j_ck (fun hi4 => ?_)
  refine j_iast (pc := 38) hC (n := 15) (r_k hs0) (r_n hs0) hi4 dX12_speak_38 ?_
  refine j_aload_n (pc := 39) hC dX12_speak_39 rfl ?_
  refine j_bipush (pc := 40) hC dX12_speak_40 (v := 9) (by decide) ?_
  refine j_iload_n (pc := 42) hC dX12_speak_42 rfl ?_
  refine j_iadd (pc := 43) hC dX12_speak_43 ?_
  refine j_dup2 (pc := 44) hC dX12_speak_44 rfl rfl ?_
  refine j_ck (fun hi5 => ?_)
  refine j_iald (pc := 45) hC (n := 15) (r_k h1) (r_n h1) hi5 dX12_speak_45 ?_
  refine j_iload_n (pc := 46) hC dX12_speak_46 rfl ?_
  refine j_iload_n (pc := 47) hC dX12_speak_47 rfl ?_
  refine j_ishr (pc := 48) hC dX12_speak_48 ?_
  refine j_iconst (pc := 49) hC dX12_speak_49 (v := 1) (by decide) ?_
  refine j_iand (pc := 50) hC dX12_speak_50 ?_
  refine j_iadd (pc := 51) hC dX12_speak_51 ?_
  refine j_iast (pc := 52) hC (n := 15) (r_k h1) (r_n h1) hi5 dX12_speak_52 ?_
  refine j_iinc (pc := 53) hC (lv' := [some (.ref (ad 109)), some (.ref (ad n1)), some (.int x2), some (.int (x3 + 1))]) dX12_speak_53 rfl (v := 1) (by decide) (by decide) rfl rfl ?_
  refine j_goto (pc := 56) hC dX12_speak_56 (tgt := 6) (by decide) ?_
  exact hrec6 (sM (sM M ns0 s1.toNatClampNeg s2) n1 ((9 : Int32) + x3).toNatClampNeg ((gM (sM M ns0 s1.toNatClampNeg s2) n1 ((9 : Int32) + x3).toNatClampNeg) + ((x2 >>> (x3 &&& 31)) &&& (1 : Int32)))) n1 x2 (x3 + 1) h1
set_option maxRecDepth 20000 in
set_option maxHeartbeats 4000000 in
theorem tsX12_speak_6 {X : Cx} {ad : Nat → Nat} {cid : Nat → ClassId} (hC : Ok X ad cid cX12_speak RX12 4 none 0 0)  {rec6 : Mem → Nat → Int32 → Int32 → Option (Mem)} (hrec6 : ∀ (M : Mem) (n1 : Nat) (x2 : Int32) (x3 : Int32), isR n1 → Jp X ad cid 4 (qm X ad (qV ad cid)) M 6 [some (.ref (ad 109)), some (.ref (ad n1)), some (.int x2), some (.int x3)] [] (rec6 M n1 x2 x3)) (M : Mem) (n1 : Nat) (x2 : Int32) (x3 : Int32) (h1 : isR n1) : Jp X ad cid 4 (qm X ad (qV ad cid)) M 6 [some (.ref (ad 109)), some (.ref (ad n1)), some (.int x2), some (.int x3)] [] (sX12_speak_6  rec6 M n1 x2 x3) := by
  unfold sX12_speak_6
  refine j_iload_n (pc := 6) hC dX12_speak_6 rfl ?_
  refine j_aload_n (pc := 7) hC dX12_speak_7 rfl ?_
  refine gX12_13 (pc := 8) hC dX12_speak_8 ?_
  refine j_iconst (pc := 11) hC dX12_speak_11 (v := 0) (by decide) ?_
  refine j_ialdC (pc := 12) hC (n := 6) (e := 0) (by decide) rfl rfl (by decide) dX12_speak_12 ?_
  refine j_icmp_ge (pc := 13) hC dX12_speak_13 (tgt := 59) (by decide) (fun hb1 => ?_) (fun hb1 => ?_)
  · exact j_vret (pc := 59) hC dX12_speak_59
  · refine j_aload_n (pc := 16) hC dX12_speak_16 rfl ?_
    refine j_iconst (pc := 17) hC dX12_speak_17 (v := 3) (by decide) ?_
    refine j_iload_n (pc := 18) hC dX12_speak_18 rfl ?_
    refine j_iadd (pc := 19) hC dX12_speak_19 ?_
    refine j_iload_n (pc := 20) hC dX12_speak_20 rfl ?_
    refine j_iload_n (pc := 21) hC dX12_speak_21 rfl ?_
    refine j_ishr (pc := 22) hC dX12_speak_22 ?_
    refine j_iconst (pc := 23) hC dX12_speak_23 (v := 1) (by decide) ?_
    refine j_iand (pc := 24) hC dX12_speak_24 ?_
    refine j_iconst (pc := 25) hC dX12_speak_25 (v := 1) (by decide) ?_
    refine j_icmp_ne (pc := 26) hC dX12_speak_26 (tgt := 33) (by decide) (fun hb2 => ?_) (fun hb2 => ?_)
    · refine j_aload_n (pc := 33) hC dX12_speak_33 rfl ?_
      refine j_iconst (pc := 34) hC dX12_speak_34 (v := 3) (by decide) ?_
      refine j_iload_n (pc := 35) hC dX12_speak_35 rfl ?_
      refine j_iadd (pc := 36) hC dX12_speak_36 ?_
      refine j_ck (fun hi3 => ?_)
      refine j_iald (pc := 37) hC (n := 15) (r_k h1) (r_n h1) hi3 dX12_speak_37 ?_
      exact tsX12_speak_38 hC hrec6 M n1 x2 x3 n1 ((3 : Int32) + x3) (gM M n1 ((3 : Int32) + x3).toNatClampNeg) h1 h1
    · refine j_iconst (pc := 29) hC dX12_speak_29 (v := 0) (by decide) ?_
      refine j_goto (pc := 30) hC dX12_speak_30 (tgt := 38) (by decide) ?_
      exact tsX12_speak_38 hC hrec6 M n1 x2 x3 n1 ((3 : Int32) + x3) (0 : Int32) h1 h1
theorem tlX12_speak_6 {X : Cx} {ad : Nat → Nat} {cid : Nat → ClassId} (hC : Ok X ad cid cX12_speak RX12 4 none 0 0)   : ∀ (n : Nat) (M : Mem) (n1 : Nat) (x2 : Int32) (x3 : Int32), isR n1 → Jp X ad cid 4 (qm X ad (qV ad cid)) M 6 [some (.ref (ad 109)), some (.ref (ad n1)), some (.int x2), some (.int x3)] [] (lX12_speak_6  n M n1 x2 x3) := by
  intro n
  induction n with
  | zero => intros; exact j_none
  | succ n ih => exact tsX12_speak_6 hC   ih
set_option maxRecDepth 20000 in
set_option maxHeartbeats 4000000 in
theorem kt_X12_speak {l : Launch} {ad : Nat → Nat} {cid : Nat → ClassId} {D : va_G} (hL : lyOk ad) {n1 : Nat} (h1 : isR n1) (M : Mem) (x2 : Int32) : Ct (qV ad cid) l ad cid D yX12_speak cX12_speak 4 none 0 0 [.ref (ad 109), .ref (ad n1), .int x2] M (fX12_speak M n1 x2) := by
  refine ct_of (own := RX12) (lv := [some (.ref (ad 109)), some (.ref (ad n1)), some (.int x2), none]) hL (by decide +kernel) rfl rfl (Nat.le_of_ble_eq_true rfl) (fun X hC => ?_)
  unfold fX12_speak
  refine j_aload_n (pc := 0) hC dX12_speak_0 rfl ?_
  refine j_iconst (pc := 1) hC dX12_speak_1 (v := 2) (by decide) ?_
  refine j_iload_n (pc := 2) hC dX12_speak_2 rfl ?_
  refine j_iastC (pc := 3) hC (n := 15) (e := 2) (by decide) (r_k h1) (r_n h1) (by decide) dX12_speak_3 ?_
  refine j_iconst (pc := 4) hC dX12_speak_4 (v := 0) (by decide) ?_
  refine j_istore_n (pc := 5) hC (lv' := [some (.ref (ad 109)), some (.ref (ad n1)), some (.int x2), some (.int (0 : Int32))]) dX12_speak_5 (by decide) rfl rfl ?_
  exact tlX12_speak_6 hC fuel (sM M n1 2 x2) n1 x2 (0 : Int32) h1
/-! LastRowerModel.hushes([I)V -/
set_option maxRecDepth 20000 in
set_option maxHeartbeats 4000000 in
theorem tsX12_hushes_53 {X : Cx} {ad : Nat → Nat} {cid : Nat → ClassId} (hC : Ok X ad cid cX12_hushes RX12 4 none 1 23)   (M : Mem) (n1 : Nat) (x2 : Int32) (h1 : isR n1) : Jp X ad cid 4 (qm X ad (qV ad cid)) M 53 [some (.ref (ad 109)), some (.ref (ad n1)), some (.int x2), none] [] (sX12_hushes_53  M n1 x2) := by
  unfold sX12_hushes_53
  refine j_iload_n (pc := 53) hC dX12_hushes_53 rfl ?_
  refine j_if_eq (pc := 54) hC dX12_hushes_54 (tgt := 63) (by decide) (fun hb5 => ?_) (fun hb5 => ?_)
  · exact j_vret (pc := 63) hC dX12_hushes_63
  · refine j_aload_n (pc := 57) hC dX12_hushes_57 rfl ?_
    refine j_aload_n (pc := 58) hC dX12_hushes_58 rfl ?_
    refine j_iload_n (pc := 59) hC dX12_hushes_59 rfl ?_
    refine j_bV (pc := 60) (run_V hC (st := []) (kt_X12_speak hC.ly h1 M x2) vv_X12_speak qw880 (by decide) sh_X12 rfl ⟨(Nat.le_of_ble_eq_true rfl), (Nat.le_of_ble_eq_true rfl)⟩ rfl rfl (Nat.le_of_ble_eq_true rfl) dX12_hushes_60) (fun M6 => ?_)
    exact j_vret (pc := 63) hC dX12_hushes_63
set_option maxRecDepth 20000 in
set_option maxHeartbeats 4000000 in
theorem tsX12_hushes_45 {X : Cx} {ad : Nat → Nat} {cid : Nat → ClassId} (hC : Ok X ad cid cX12_hushes RX12 4 none 1 23) {rec4 : Mem → Nat → Int32 → Int32 → Option (Mem)} (hrec4 : ∀ (M : Mem) (n1 : Nat) (x2 : Int32) (x3 : Int32), isR n1 → Jp X ad cid 4 (qm X ad (qV ad cid)) M 4 [some (.ref (ad 109)), some (.ref (ad n1)), some (.int x2), some (.int x3)] [] (rec4 M n1 x2 x3))  (M : Mem) (n1 : Nat) (x3 : Int32) (s0 : Int32) (s1 : Int32) (h1 : isR n1) : Jp X ad cid 4 (qm X ad (qV ad cid)) M 45 [some (.ref (ad 109)), some (.ref (ad n1)), none, some (.int x3)] [.int s1, .int s0] (sX12_hushes_45 rec4 M n1 x3 s0 s1) := by
  unfold sX12_hushes_45
  refine j_ior (pc := 45) hC dX12_hushes_45 ?_
  refine j_istore_n (pc := 46) hC (lv' := [some (.ref (ad 109)), some (.ref (ad n1)), some (.int (s0 ||| s1)), some (.int x3)]) dX12_hushes_46 (by decide) rfl rfl ?_
  refine j_iinc (pc := 47) hC (lv' := [some (.ref (ad 109)), some (.ref (ad n1)), some (.int (s0 ||| s1)), some (.int (x3 + 1))]) dX12_hushes_47 rfl (v := 1) (by decide) (by decide) rfl rfl ?_
  refine j_goto (pc := 50) hC dX12_hushes_50 (tgt := 4) (by decide) ?_
  exact hrec4 M n1 (s0 ||| s1) (x3 + 1) h1
set_option maxRecDepth 20000 in
set_option maxHeartbeats 4000000 in
theorem tsX12_hushes_4 {X : Cx} {ad : Nat → Nat} {cid : Nat → ClassId} (hC : Ok X ad cid cX12_hushes RX12 4 none 1 23)  {rec4 : Mem → Nat → Int32 → Int32 → Option (Mem)} (hrec4 : ∀ (M : Mem) (n1 : Nat) (x2 : Int32) (x3 : Int32), isR n1 → Jp X ad cid 4 (qm X ad (qV ad cid)) M 4 [some (.ref (ad 109)), some (.ref (ad n1)), some (.int x2), some (.int x3)] [] (rec4 M n1 x2 x3)) (M : Mem) (n1 : Nat) (x2 : Int32) (x3 : Int32) (h1 : isR n1) : Jp X ad cid 4 (qm X ad (qV ad cid)) M 4 [some (.ref (ad 109)), some (.ref (ad n1)), some (.int x2), some (.int x3)] [] (sX12_hushes_4  rec4 M n1 x2 x3) := by
  unfold sX12_hushes_4
  refine j_iload_n (pc := 4) hC dX12_hushes_4 rfl ?_
  refine j_aload_n (pc := 5) hC dX12_hushes_5 rfl ?_
  refine gX12_13 (pc := 6) hC dX12_hushes_6 ?_
  refine j_iconst (pc := 9) hC dX12_hushes_9 (v := 0) (by decide) ?_
  refine j_ialdC (pc := 10) hC (n := 6) (e := 0) (by decide) rfl rfl (by decide) dX12_hushes_10 ?_
  refine j_icmp_ge (pc := 11) hC dX12_hushes_11 (tgt := 53) (by decide) (fun hb1 => ?_) (fun hb1 => ?_)
  · refine j_mask [true, true, true, false] (lv' := [some (.ref (ad 109)), some (.ref (ad n1)), some (.int x2), none]) rfl ?_
    exact tsX12_hushes_53 hC M n1 x2 h1
  · refine j_aload_n (pc := 14) hC dX12_hushes_14 rfl ?_
    refine j_iconst (pc := 15) hC dX12_hushes_15 (v := 3) (by decide) ?_
    refine j_iload_n (pc := 16) hC dX12_hushes_16 rfl ?_
    refine j_iadd (pc := 17) hC dX12_hushes_17 ?_
    refine j_dup2 (pc := 18) hC dX12_hushes_18 rfl rfl ?_
    refine j_ck (fun hi2 => ?_)
    refine j_iald (pc := 19) hC (n := 15) (r_k h1) (r_n h1) hi2 dX12_hushes_19 ?_
    refine j_iconst (pc := 20) hC dX12_hushes_20 (v := 1) (by decide) ?_
    refine j_iadd (pc := 21) hC dX12_hushes_21 ?_
    refine j_iast (pc := 22) hC (n := 15) (r_k h1) (r_n h1) hi2 dX12_hushes_22 ?_
    refine j_iload_n (pc := 23) hC dX12_hushes_23 rfl ?_
    refine j_aload_n (pc := 24) hC dX12_hushes_24 rfl ?_
    refine j_iconst (pc := 25) hC dX12_hushes_25 (v := 3) (by decide) ?_
    refine j_iload_n (pc := 26) hC dX12_hushes_26 rfl ?_
    refine j_iadd (pc := 27) hC dX12_hushes_27 ?_
    refine j_iald (pc := 28) hC (n := 15) (r_k h1) (r_n h1) hi2 dX12_hushes_28 ?_
    refine j_aload_n (pc := 29) hC dX12_hushes_29 rfl ?_
    refine gX12_19 (pc := 30) hC dX12_hushes_30 ?_
    refine j_iload_n (pc := 33) hC dX12_hushes_33 rfl ?_
    refine j_ck (fun hi3 => ?_)
    refine j_iald (pc := 34) hC (n := 12) rfl rfl hi3 dX12_hushes_34 ?_
    refine j_icmp_ne (pc := 35) hC dX12_hushes_35 (tgt := 44) (by decide) (fun hb4 => ?_) (fun hb4 => ?_)
    · refine j_iconst (pc := 44) hC dX12_hushes_44 (v := 0) (by decide) ?_
      refine j_mask [true, true, false, true] (lv' := [some (.ref (ad 109)), some (.ref (ad n1)), none, some (.int x3)]) rfl ?_
      exact tsX12_hushes_45 hC hrec4 (sM M n1 ((3 : Int32) + x3).toNatClampNeg ((gM M n1 ((3 : Int32) + x3).toNatClampNeg) + (1 : Int32))) n1 x3 x2 (0 : Int32) h1
    · refine j_iconst (pc := 38) hC dX12_hushes_38 (v := 1) (by decide) ?_
      refine j_iload_n (pc := 39) hC dX12_hushes_39 rfl ?_
      refine j_ishl (pc := 40) hC dX12_hushes_40 ?_
      refine j_goto (pc := 41) hC dX12_hushes_41 (tgt := 45) (by decide) ?_
      refine j_mask [true, true, false, true] (lv' := [some (.ref (ad 109)), some (.ref (ad n1)), none, some (.int x3)]) rfl ?_
      exact tsX12_hushes_45 hC hrec4 (sM M n1 ((3 : Int32) + x3).toNatClampNeg ((gM M n1 ((3 : Int32) + x3).toNatClampNeg) + (1 : Int32))) n1 x3 x2 ((1 : Int32) <<< (x3 &&& 31)) h1
theorem tlX12_hushes_4 {X : Cx} {ad : Nat → Nat} {cid : Nat → ClassId} (hC : Ok X ad cid cX12_hushes RX12 4 none 1 23)   : ∀ (n : Nat) (M : Mem) (n1 : Nat) (x2 : Int32) (x3 : Int32), isR n1 → Jp X ad cid 4 (qm X ad (qV ad cid)) M 4 [some (.ref (ad 109)), some (.ref (ad n1)), some (.int x2), some (.int x3)] [] (lX12_hushes_4  n M n1 x2 x3) := by
  intro n
  induction n with
  | zero => intros; exact j_none
  | succ n ih => exact tsX12_hushes_4 hC   ih
set_option maxRecDepth 20000 in
set_option maxHeartbeats 4000000 in
theorem kt_X12_hushes {l : Launch} {ad : Nat → Nat} {cid : Nat → ClassId} {D : va_G} (hL : lyOk ad) {n1 : Nat} (h1 : isR n1) (M : Mem)  : Ct (qV ad cid) l ad cid D yX12_hushes cX12_hushes 4 none 1 23 [.ref (ad 109), .ref (ad n1)] M (fX12_hushes M n1) := by
  refine ct_of (own := RX12) (lv := [some (.ref (ad 109)), some (.ref (ad n1)), none, none]) hL (by decide +kernel) rfl rfl (Nat.le_of_ble_eq_true rfl) (fun X hC => ?_)
  unfold fX12_hushes
  refine j_iconst (pc := 0) hC dX12_hushes_0 (v := 0) (by decide) ?_
  refine j_istore_n (pc := 1) hC (lv' := [some (.ref (ad 109)), some (.ref (ad n1)), some (.int (0 : Int32)), none]) dX12_hushes_1 (by decide) rfl rfl ?_
  refine j_iconst (pc := 2) hC dX12_hushes_2 (v := 0) (by decide) ?_
  refine j_istore_n (pc := 3) hC (lv' := [some (.ref (ad 109)), some (.ref (ad n1)), some (.int (0 : Int32)), some (.int (0 : Int32))]) dX12_hushes_3 (by decide) rfl rfl ?_
  exact tlX12_hushes_4 hC fuel M n1 (0 : Int32) (0 : Int32) h1
/-! LastRowerModel.isOver([I)Z -/
set_option maxRecDepth 20000 in
set_option maxHeartbeats 4000000 in
theorem kt_X12_isOver {l : Launch} {ad : Nat → Nat} {cid : Nat → ClassId} {D : va_G} (hL : lyOk ad) {n1 : Nat} (h1 : isR n1) (M : Mem)  : Ct (qI ad cid) l ad cid D yX12_isOver cX12_isOver 2 (some .boolean) 0 0 [.ref (ad 109), .ref (ad n1)] M (fX12_isOver M n1) := by
  refine ct_of (own := RX12) (lv := [some (.ref (ad 109)), some (.ref (ad n1))]) hL (by decide +kernel) rfl rfl (Nat.le_of_ble_eq_true rfl) (fun X hC => ?_)
  unfold fX12_isOver
  refine j_aload_n (pc := 0) hC dX12_isOver_0 rfl ?_
  refine j_iconst (pc := 1) hC dX12_isOver_1 (v := 1) (by decide) ?_
  refine j_ialdC (pc := 2) hC (n := 15) (e := 1) (by decide) (r_k h1) (r_n h1) (by decide) dX12_isOver_2 ?_
  refine j_aload_n (pc := 3) hC dX12_isOver_3 rfl ?_
  refine gX12_13 (pc := 4) hC dX12_isOver_4 ?_
  refine j_iconst (pc := 7) hC dX12_isOver_7 (v := 1) (by decide) ?_
  refine j_ialdC (pc := 8) hC (n := 6) (e := 1) (by decide) rfl rfl (by decide) dX12_isOver_8 ?_
  refine j_icmp_lt (pc := 9) hC dX12_isOver_9 (tgt := 16) (by decide) (fun hb1 => ?_) (fun hb1 => ?_)
  · refine j_iconst (pc := 16) hC dX12_isOver_16 (v := 0) (by decide) ?_
    exact j_zret (pc := 17) hC dX12_isOver_17 (by decide)
  · refine j_iconst (pc := 12) hC dX12_isOver_12 (v := 1) (by decide) ?_
    refine j_goto (pc := 13) hC dX12_isOver_13 (tgt := 17) (by decide) ?_
    exact j_zret (pc := 17) hC dX12_isOver_17 (by decide)
/-! LastRowerModel.pullOf(I)I -/
set_option maxRecDepth 20000 in
set_option maxHeartbeats 4000000 in
theorem tsX12_pullOf_104 {X : Cx} {ad : Nat → Nat} {cid : Nat → ClassId} (hC : Ok X ad cid cX12_pullOf RX12 7 (some .int) 0 0)   (M : Mem) (x2 : Int32) (x3 : Int32) (x5 : Int32)  : Jp X ad cid 7 (qm X ad (qI ad cid)) M 104 [none, none, some (.int x2), some (.int x3), none, some (.int x5), none] [] (sX12_pullOf_104  M x2 x3 x5) := by
  unfold sX12_pullOf_104
  refine j_iload_n (pc := 104) hC dX12_pullOf_104 rfl ?_
  refine j_iconst (pc := 105) hC dX12_pullOf_105 (v := 2) (by decide) ?_
  refine j_icmp_lt (pc := 106) hC dX12_pullOf_106 (tgt := 114) (by decide) (fun hb9 => ?_) (fun hb9 => ?_)
  · refine j_iload_n (pc := 114) hC dX12_pullOf_114 rfl ?_
    refine j_goto (pc := 115) hC dX12_pullOf_115 (tgt := 120) (by decide) ?_
    exact j_iret (pc := 120) hC dX12_pullOf_120
  · refine j_iload (pc := 109) hC dX12_pullOf_109 rfl ?_
    refine j_if_eq (pc := 111) hC dX12_pullOf_111 (tgt := 118) (by decide) (fun hb10 => ?_) (fun hb10 => ?_)
    · refine j_bipush (pc := 118) hC dX12_pullOf_118 (v := (-9)) (by decide) ?_
      exact j_iret (pc := 120) hC dX12_pullOf_120
    · refine j_iload_n (pc := 114) hC dX12_pullOf_114 rfl ?_
      refine j_goto (pc := 115) hC dX12_pullOf_115 (tgt := 120) (by decide) ?_
      exact j_iret (pc := 120) hC dX12_pullOf_120
set_option maxRecDepth 20000 in
set_option maxHeartbeats 4000000 in
theorem tsX12_pullOf_87 {X : Cx} {ad : Nat → Nat} {cid : Nat → ClassId} (hC : Ok X ad cid cX12_pullOf RX12 7 (some .int) 0 0) {rec14 : Mem → Int32 → Int32 → Int32 → Int32 → Int32 → Int32 → Option (Mem × Int32)} (hrec14 : ∀ (M : Mem) (x1 : Int32) (x2 : Int32) (x3 : Int32) (x4 : Int32) (x5 : Int32) (x6 : Int32), Jp X ad cid 7 (qm X ad (qI ad cid)) M 14 [some (.ref (ad 109)), some (.int x1), some (.int x2), some (.int x3), some (.int x4), some (.int x5), some (.int x6)] [] (rec14 M x1 x2 x3 x4 x5 x6))  (M : Mem) (x1 : Int32) (x2 : Int32) (x3 : Int32) (x6 : Int32) (s0 : Int32)  : Jp X ad cid 7 (qm X ad (qI ad cid)) M 87 [some (.ref (ad 109)), some (.int x1), some (.int x2), some (.int x3), none, none, some (.int x6)] [.int s0] (sX12_pullOf_87 rec14 M x1 x2 x3 x6 s0) := by
  unfold sX12_pullOf_87
  refine j_istore (pc := 87) hC (lv' := [some (.ref (ad 109)), some (.int x1), some (.int x2), some (.int x3), none, some (.int s0), some (.int x6)]) dX12_pullOf_87 (by decide) rfl rfl ?_
  refine j_aload_n (pc := 89) hC dX12_pullOf_89 rfl ?_
  refine gX12_22 (pc := 90) hC dX12_pullOf_90 ?_
  refine j_iload (pc := 93) hC dX12_pullOf_93 rfl ?_
  refine j_ck (fun hi8 => ?_)
  refine j_iald (pc := 95) hC (n := 12) rfl rfl hi8 dX12_pullOf_95 ?_
  refine j_istore (pc := 96) hC (lv' := [some (.ref (ad 109)), some (.int x1), some (.int x2), some (.int x3), some (.int (gM M 114 x6.toNatClampNeg)), some (.int s0), some (.int x6)]) dX12_pullOf_96 (by decide) rfl rfl ?_
  refine j_iinc (pc := 98) hC (lv' := [some (.ref (ad 109)), some (.int x1), some (.int x2), some (.int x3), some (.int (gM M 114 x6.toNatClampNeg)), some (.int s0), some (.int (x6 + 1))]) dX12_pullOf_98 rfl (v := 1) (by decide) (by decide) rfl rfl ?_
  refine j_goto (pc := 101) hC dX12_pullOf_101 (tgt := 14) (by decide) ?_
  exact hrec14 M x1 x2 x3 (gM M 114 x6.toNatClampNeg) s0 (x6 + 1)
set_option maxRecDepth 20000 in
set_option maxHeartbeats 4000000 in
theorem tsX12_pullOf_86 {X : Cx} {ad : Nat → Nat} {cid : Nat → ClassId} (hC : Ok X ad cid cX12_pullOf RX12 7 (some .int) 0 0) {rec14 : Mem → Int32 → Int32 → Int32 → Int32 → Int32 → Int32 → Option (Mem × Int32)} (hrec14 : ∀ (M : Mem) (x1 : Int32) (x2 : Int32) (x3 : Int32) (x4 : Int32) (x5 : Int32) (x6 : Int32), Jp X ad cid 7 (qm X ad (qI ad cid)) M 14 [some (.ref (ad 109)), some (.int x1), some (.int x2), some (.int x3), some (.int x4), some (.int x5), some (.int x6)] [] (rec14 M x1 x2 x3 x4 x5 x6))  (M : Mem) (x1 : Int32) (x2 : Int32) (x3 : Int32) (x6 : Int32)  : Jp X ad cid 7 (qm X ad (qI ad cid)) M 86 [some (.ref (ad 109)), some (.int x1), some (.int x2), some (.int x3), none, none, some (.int x6)] [] (sX12_pullOf_86 rec14 M x1 x2 x3 x6) := by
  unfold sX12_pullOf_86
  refine j_iconst (pc := 86) hC dX12_pullOf_86 (v := 0) (by decide) ?_
  exact tsX12_pullOf_87 hC hrec14 M x1 x2 x3 x6 (0 : Int32)
set_option maxRecDepth 20000 in
set_option maxHeartbeats 4000000 in
theorem tsX12_pullOf_14 {X : Cx} {ad : Nat → Nat} {cid : Nat → ClassId} (hC : Ok X ad cid cX12_pullOf RX12 7 (some .int) 0 0)  {rec14 : Mem → Int32 → Int32 → Int32 → Int32 → Int32 → Int32 → Option (Mem × Int32)} (hrec14 : ∀ (M : Mem) (x1 : Int32) (x2 : Int32) (x3 : Int32) (x4 : Int32) (x5 : Int32) (x6 : Int32), Jp X ad cid 7 (qm X ad (qI ad cid)) M 14 [some (.ref (ad 109)), some (.int x1), some (.int x2), some (.int x3), some (.int x4), some (.int x5), some (.int x6)] [] (rec14 M x1 x2 x3 x4 x5 x6)) (M : Mem) (x1 : Int32) (x2 : Int32) (x3 : Int32) (x4 : Int32) (x5 : Int32) (x6 : Int32)  : Jp X ad cid 7 (qm X ad (qI ad cid)) M 14 [some (.ref (ad 109)), some (.int x1), some (.int x2), some (.int x3), some (.int x4), some (.int x5), some (.int x6)] [] (sX12_pullOf_14  rec14 M x1 x2 x3 x4 x5 x6) := by
  unfold sX12_pullOf_14
  refine j_iload (pc := 14) hC dX12_pullOf_14 rfl ?_
  refine j_aload_n (pc := 16) hC dX12_pullOf_16 rfl ?_
  refine gX12_13 (pc := 17) hC dX12_pullOf_17 ?_
  refine j_iconst (pc := 20) hC dX12_pullOf_20 (v := 0) (by decide) ?_
  refine j_ialdC (pc := 21) hC (n := 6) (e := 0) (by decide) rfl rfl (by decide) dX12_pullOf_21 ?_
  refine j_icmp_ge (pc := 22) hC dX12_pullOf_22 (tgt := 104) (by decide) (fun hb1 => ?_) (fun hb1 => ?_)
  · refine j_mask [false, false, true, true, false, true, false] (lv' := [none, none, some (.int x2), some (.int x3), none, some (.int x5), none]) rfl ?_
    exact tsX12_pullOf_104 hC M x2 x3 x5
  · refine j_iload_n (pc := 25) hC dX12_pullOf_25 rfl ?_
    refine j_iload (pc := 26) hC dX12_pullOf_26 rfl ?_
    refine j_ishr (pc := 28) hC dX12_pullOf_28 ?_
    refine j_iconst (pc := 29) hC dX12_pullOf_29 (v := 1) (by decide) ?_
    refine j_iand (pc := 30) hC dX12_pullOf_30 ?_
    refine j_iconst (pc := 31) hC dX12_pullOf_31 (v := 1) (by decide) ?_
    refine j_icmp_ne (pc := 32) hC dX12_pullOf_32 (tgt := 98) (by decide) (fun hb2 => ?_) (fun hb2 => ?_)
    · refine j_iinc (pc := 98) hC (lv' := [some (.ref (ad 109)), some (.int x1), some (.int x2), some (.int x3), some (.int x4), some (.int x5), some (.int (x6 + 1))]) dX12_pullOf_98 rfl (v := 1) (by decide) (by decide) rfl rfl ?_
      refine j_goto (pc := 101) hC dX12_pullOf_101 (tgt := 14) (by decide) ?_
      exact hrec14 M x1 x2 x3 x4 x5 (x6 + 1)
    · refine j_iinc (pc := 35) hC (lv' := [some (.ref (ad 109)), some (.int x1), some (.int (x2 + 1)), some (.int x3), some (.int x4), some (.int x5), some (.int x6)]) dX12_pullOf_35 rfl (v := 1) (by decide) (by decide) rfl rfl ?_
      refine j_iload_n (pc := 38) hC dX12_pullOf_38 rfl ?_
      refine j_aload_n (pc := 39) hC dX12_pullOf_39 rfl ?_
      refine gX12_16 (pc := 40) hC dX12_pullOf_40 ?_
      refine j_iload (pc := 43) hC dX12_pullOf_43 rfl ?_
      refine j_ck (fun hi3 => ?_)
      refine j_iald (pc := 45) hC (n := 12) rfl rfl hi3 dX12_pullOf_45 ?_
      refine j_iadd (pc := 46) hC dX12_pullOf_46 ?_
      refine j_istore_n (pc := 47) hC (lv' := [some (.ref (ad 109)), some (.int x1), some (.int (x2 + 1)), some (.int (x3 + (gM M 112 x6.toNatClampNeg))), some (.int x4), some (.int x5), some (.int x6)]) dX12_pullOf_47 (by decide) rfl rfl ?_
      refine j_iload (pc := 48) hC dX12_pullOf_48 rfl ?_
      refine j_if_eq (pc := 50) hC dX12_pullOf_50 (tgt := 86) (by decide) (fun hb4 => ?_) (fun hb4 => ?_)
      · refine j_mask [true, true, true, true, false, false, true] (lv' := [some (.ref (ad 109)), some (.int x1), some (.int (x2 + 1)), some (.int (x3 + (gM M 112 x6.toNatClampNeg))), none, none, some (.int x6)]) rfl ?_
        exact tsX12_pullOf_86 hC hrec14 M x1 (x2 + 1) (x3 + (gM M 112 x6.toNatClampNeg)) x6
      · refine j_aload_n (pc := 53) hC dX12_pullOf_53 rfl ?_
        refine gX12_22 (pc := 54) hC dX12_pullOf_54 ?_
        refine j_iload (pc := 57) hC dX12_pullOf_57 rfl ?_
        refine j_iald (pc := 59) hC (n := 12) rfl rfl hi3 dX12_pullOf_59 ?_
        refine j_if_le (pc := 60) hC dX12_pullOf_60 (tgt := 86) (by decide) (fun hb5 => ?_) (fun hb5 => ?_)
        · refine j_mask [true, true, true, true, false, false, true] (lv' := [some (.ref (ad 109)), some (.int x1), some (.int (x2 + 1)), some (.int (x3 + (gM M 112 x6.toNatClampNeg))), none, none, some (.int x6)]) rfl ?_
          exact tsX12_pullOf_86 hC hrec14 M x1 (x2 + 1) (x3 + (gM M 112 x6.toNatClampNeg)) x6
        · refine j_iload (pc := 63) hC dX12_pullOf_63 rfl ?_
          refine j_bipush (pc := 65) hC dX12_pullOf_65 (v := (-9)) (by decide) ?_
          refine j_icmp_eq (pc := 67) hC dX12_pullOf_67 (tgt := 82) (by decide) (fun hb6 => ?_) (fun hb6 => ?_)
          · refine j_iconst (pc := 82) hC dX12_pullOf_82 (v := 1) (by decide) ?_
            refine j_goto (pc := 83) hC dX12_pullOf_83 (tgt := 87) (by decide) ?_
            refine j_mask [true, true, true, true, false, false, true] (lv' := [some (.ref (ad 109)), some (.int x1), some (.int (x2 + 1)), some (.int (x3 + (gM M 112 x6.toNatClampNeg))), none, none, some (.int x6)]) rfl ?_
            exact tsX12_pullOf_87 hC hrec14 M x1 (x2 + 1) (x3 + (gM M 112 x6.toNatClampNeg)) x6 (1 : Int32)
          · refine j_aload_n (pc := 70) hC dX12_pullOf_70 rfl ?_
            refine gX12_22 (pc := 71) hC dX12_pullOf_71 ?_
            refine j_iload (pc := 74) hC dX12_pullOf_74 rfl ?_
            refine j_iald (pc := 76) hC (n := 12) rfl rfl hi3 dX12_pullOf_76 ?_
            refine j_iload (pc := 77) hC dX12_pullOf_77 rfl ?_
            refine j_icmp_ne (pc := 79) hC dX12_pullOf_79 (tgt := 86) (by decide) (fun hb7 => ?_) (fun hb7 => ?_)
            · refine j_mask [true, true, true, true, false, false, true] (lv' := [some (.ref (ad 109)), some (.int x1), some (.int (x2 + 1)), some (.int (x3 + (gM M 112 x6.toNatClampNeg))), none, none, some (.int x6)]) rfl ?_
              exact tsX12_pullOf_86 hC hrec14 M x1 (x2 + 1) (x3 + (gM M 112 x6.toNatClampNeg)) x6
            · refine j_iconst (pc := 82) hC dX12_pullOf_82 (v := 1) (by decide) ?_
              refine j_goto (pc := 83) hC dX12_pullOf_83 (tgt := 87) (by decide) ?_
              refine j_mask [true, true, true, true, false, false, true] (lv' := [some (.ref (ad 109)), some (.int x1), some (.int (x2 + 1)), some (.int (x3 + (gM M 112 x6.toNatClampNeg))), none, none, some (.int x6)]) rfl ?_
              exact tsX12_pullOf_87 hC hrec14 M x1 (x2 + 1) (x3 + (gM M 112 x6.toNatClampNeg)) x6 (1 : Int32)
theorem tlX12_pullOf_14 {X : Cx} {ad : Nat → Nat} {cid : Nat → ClassId} (hC : Ok X ad cid cX12_pullOf RX12 7 (some .int) 0 0)   : ∀ (n : Nat) (M : Mem) (x1 : Int32) (x2 : Int32) (x3 : Int32) (x4 : Int32) (x5 : Int32) (x6 : Int32), Jp X ad cid 7 (qm X ad (qI ad cid)) M 14 [some (.ref (ad 109)), some (.int x1), some (.int x2), some (.int x3), some (.int x4), some (.int x5), some (.int x6)] [] (lX12_pullOf_14  n M x1 x2 x3 x4 x5 x6) := by
  intro n
  induction n with
  | zero => intros; exact j_none
  | succ n ih => exact tsX12_pullOf_14 hC   ih
set_option maxRecDepth 20000 in
set_option maxHeartbeats 4000000 in
theorem kt_X12_pullOf {l : Launch} {ad : Nat → Nat} {cid : Nat → ClassId} {D : va_G} (hL : lyOk ad)  (M : Mem) (x1 : Int32) : Ct (qI ad cid) l ad cid D yX12_pullOf cX12_pullOf 7 (some .int) 0 0 [.ref (ad 109), .int x1] M (fX12_pullOf M x1) := by
  refine ct_of (own := RX12) (lv := [some (.ref (ad 109)), some (.int x1), none, none, none, none, none]) hL (by decide +kernel) rfl rfl (Nat.le_of_ble_eq_true rfl) (fun X hC => ?_)
  unfold fX12_pullOf
  refine j_iconst (pc := 0) hC dX12_pullOf_0 (v := 0) (by decide) ?_
  refine j_istore_n (pc := 1) hC (lv' := [some (.ref (ad 109)), some (.int x1), some (.int (0 : Int32)), none, none, none, none]) dX12_pullOf_1 (by decide) rfl rfl ?_
  refine j_iconst (pc := 2) hC dX12_pullOf_2 (v := 0) (by decide) ?_
  refine j_istore_n (pc := 3) hC (lv' := [some (.ref (ad 109)), some (.int x1), some (.int (0 : Int32)), some (.int (0 : Int32)), none, none, none]) dX12_pullOf_3 (by decide) rfl rfl ?_
  refine j_bipush (pc := 4) hC dX12_pullOf_4 (v := (-9)) (by decide) ?_
  refine j_istore (pc := 6) hC (lv' := [some (.ref (ad 109)), some (.int x1), some (.int (0 : Int32)), some (.int (0 : Int32)), some (.int (-9 : Int32)), none, none]) dX12_pullOf_6 (by decide) rfl rfl ?_
  refine j_iconst (pc := 8) hC dX12_pullOf_8 (v := 1) (by decide) ?_
  refine j_istore (pc := 9) hC (lv' := [some (.ref (ad 109)), some (.int x1), some (.int (0 : Int32)), some (.int (0 : Int32)), some (.int (-9 : Int32)), some (.int (1 : Int32)), none]) dX12_pullOf_9 (by decide) rfl rfl ?_
  refine j_iconst (pc := 11) hC dX12_pullOf_11 (v := 0) (by decide) ?_
  refine j_istore (pc := 12) hC (lv' := [some (.ref (ad 109)), some (.int x1), some (.int (0 : Int32)), some (.int (0 : Int32)), some (.int (-9 : Int32)), some (.int (1 : Int32)), some (.int (0 : Int32))]) dX12_pullOf_12 (by decide) rfl rfl ?_
  exact tlX12_pullOf_14 hC fuel M x1 (0 : Int32) (0 : Int32) (-9 : Int32) (1 : Int32) (0 : Int32)
/-! LastRowerModel.goes([I)V -/
set_option maxRecDepth 20000 in
set_option maxHeartbeats 4000000 in
theorem tsX12_goes_53 {X : Cx} {ad : Nat → Nat} {cid : Nat → ClassId} (hC : Ok X ad cid cX12_goes RX12 4 none 2 46)   (M : Mem) (n1 : Nat) (ns0 : Nat) (s1 : Int32) (s2 : Int32) (h1 : isR n1) (hs0 : isR ns0) : Jp X ad cid 4 (qm X ad (qV ad cid)) M 53 [some (.ref (ad 109)), some (.ref (ad n1)), none, none] [.int s2, .int s1, .ref (ad ns0)] (sX12_goes_53  M n1 ns0 s1 s2) := by
  unfold sX12_goes_53
  refine j_ck (fun hi10 => ?_)
  refine j_iast (pc := 53) hC (n := 15) (r_k hs0) (r_n hs0) hi10 dX12_goes_53 ?_
  refine j_aload_n (pc := 54) hC dX12_goes_54 rfl ?_
  refine j_iconst (pc := 55) hC dX12_goes_55 (v := 0) (by decide) ?_
  refine j_dup2 (pc := 56) hC dX12_goes_56 rfl rfl ?_
  refine j_ialdC (pc := 57) hC (n := 15) (e := 0) (by decide) (r_k h1) (r_n h1) (by decide) dX12_goes_57 ?_
  refine j_iconst (pc := 58) hC dX12_goes_58 (v := 1) (by decide) ?_
  refine j_iadd (pc := 59) hC dX12_goes_59 ?_
  refine j_iastC (pc := 60) hC (n := 15) (e := 0) (by decide) (r_k h1) (r_n h1) (by decide) dX12_goes_60 ?_
  refine j_aload_n (pc := 61) hC dX12_goes_61 rfl ?_
  refine j_aload_n (pc := 62) hC dX12_goes_62 rfl ?_
  refine j_bV (pc := 63) (run_V hC (st := []) (kt_X12_hushes hC.ly h1 (sM (sM M ns0 s1.toNatClampNeg s2) n1 0 ((gM (sM M ns0 s1.toNatClampNeg s2) n1 0) + (1 : Int32)))) vv_X12_hushes qw876 (by decide) sh_X12 rfl ⟨(Nat.le_of_ble_eq_true rfl), (Nat.le_of_ble_eq_true rfl)⟩ rfl rfl (Nat.le_of_ble_eq_true rfl) dX12_goes_63) (fun M11 => ?_)
  exact j_vret (pc := 66) hC dX12_goes_66
set_option maxRecDepth 20000 in
set_option maxHeartbeats 4000000 in
theorem tsX12_goes_41 {X : Cx} {ad : Nat → Nat} {cid : Nat → ClassId} (hC : Ok X ad cid cX12_goes RX12 4 none 2 46)   (M : Mem) (n1 : Nat) (s0 : Int32) (h1 : isR n1) : Jp X ad cid 4 (qm X ad (qV ad cid)) M 41 [some (.ref (ad 109)), some (.ref (ad n1)), none, none] [.int s0] (sX12_goes_41  M n1 s0) := by
  unfold sX12_goes_41
  refine j_istore_n (pc := 41) hC (lv' := [some (.ref (ad 109)), some (.ref (ad n1)), none, some (.int s0)]) dX12_goes_41 (by decide) rfl rfl ?_
  refine j_aload_n (pc := 42) hC dX12_goes_42 rfl ?_
  refine j_iconst (pc := 43) hC dX12_goes_43 (v := 1) (by decide) ?_
  refine j_iload_n (pc := 44) hC dX12_goes_44 rfl ?_
  refine j_if_ge (pc := 45) hC dX12_goes_45 (tgt := 52) (by decide) (fun hb9 => ?_) (fun hb9 => ?_)
  · refine j_iload_n (pc := 52) hC dX12_goes_52 rfl ?_
    refine j_mask [true, true, false, false] (lv' := [some (.ref (ad 109)), some (.ref (ad n1)), none, none]) rfl ?_
    exact tsX12_goes_53 hC M n1 n1 (1 : Int32) s0 h1 h1
  · refine j_iconst (pc := 48) hC dX12_goes_48 (v := 0) (by decide) ?_
    refine j_goto (pc := 49) hC dX12_goes_49 (tgt := 53) (by decide) ?_
    refine j_mask [true, true, false, false] (lv' := [some (.ref (ad 109)), some (.ref (ad n1)), none, none]) rfl ?_
    exact tsX12_goes_53 hC M n1 n1 (1 : Int32) (0 : Int32) h1 h1
set_option maxRecDepth 20000 in
set_option maxHeartbeats 4000000 in
theorem kt_X12_goes {l : Launch} {ad : Nat → Nat} {cid : Nat → ClassId} {D : va_G} (hL : lyOk ad) {n1 : Nat} (h1 : isR n1) (M : Mem)  : Ct (qV ad cid) l ad cid D yX12_goes cX12_goes 4 none 2 46 [.ref (ad 109), .ref (ad n1)] M (fX12_goes M n1) := by
  refine ct_of (own := RX12) (lv := [some (.ref (ad 109)), some (.ref (ad n1)), none, none]) hL (by decide +kernel) rfl rfl (Nat.le_of_ble_eq_true rfl) (fun X hC => ?_)
  unfold fX12_goes
  refine j_aload_n (pc := 0) hC dX12_goes_0 rfl ?_
  refine j_aload_n (pc := 1) hC dX12_goes_1 rfl ?_
  refine j_bI (pc := 2) (run_V hC (st := []) (kt_X12_isOver hC.ly h1 M) vv_X12_isOver qw856 (by decide) sh_X12 rfl ⟨(Nat.le_of_ble_eq_true rfl), (Nat.le_of_ble_eq_true rfl)⟩ rfl rfl (Nat.le_of_ble_eq_true rfl) dX12_goes_2) (fun M1 r2 => ?_)
  refine j_if_ne (pc := 5) hC dX12_goes_5 (tgt := 66) (by decide) (fun hb3 => ?_) (fun hb3 => ?_)
  · exact j_vret (pc := 66) hC dX12_goes_66
  · refine j_aload_n (pc := 8) hC dX12_goes_8 rfl ?_
    refine j_aload_n (pc := 9) hC dX12_goes_9 rfl ?_
    refine j_iconst (pc := 10) hC dX12_goes_10 (v := 2) (by decide) ?_
    refine j_ialdC (pc := 11) hC (n := 15) (e := 2) (by decide) (r_k h1) (r_n h1) (by decide) dX12_goes_11 ?_
    refine j_bI (pc := 12) (run_V hC (st := []) (kt_X12_pullOf hC.ly M1 (gM M1 n1 2)) vv_X12_pullOf qw852 (by decide) sh_X12 rfl ⟨(Nat.le_of_ble_eq_true rfl), (Nat.le_of_ble_eq_true rfl)⟩ rfl rfl (Nat.le_of_ble_eq_true rfl) dX12_goes_12) (fun M4 r5 => ?_)
    refine j_istore_n (pc := 15) hC (lv' := [some (.ref (ad 109)), some (.ref (ad n1)), some (.int r5), none]) dX12_goes_15 (by decide) rfl rfl ?_
    refine j_iload_n (pc := 16) hC dX12_goes_16 rfl ?_
    refine j_bipush (pc := 17) hC dX12_goes_17 (v := (-9)) (by decide) ?_
    refine j_icmp_ne (pc := 19) hC dX12_goes_19 (tgt := 28) (by decide) (fun hb6 => ?_) (fun hb6 => ?_)
    · refine j_aload_n (pc := 28) hC dX12_goes_28 rfl ?_
      refine j_iconst (pc := 29) hC dX12_goes_29 (v := 1) (by decide) ?_
      refine j_ialdC (pc := 30) hC (n := 15) (e := 1) (by decide) (r_k h1) (r_n h1) (by decide) dX12_goes_30 ?_
      refine j_iload_n (pc := 31) hC dX12_goes_31 rfl ?_
      refine j_iadd (pc := 32) hC dX12_goes_32 ?_
      refine j_aload_n (pc := 33) hC dX12_goes_33 rfl ?_
      refine j_aload_n (pc := 34) hC dX12_goes_34 rfl ?_
      refine j_iconst (pc := 35) hC dX12_goes_35 (v := 1) (by decide) ?_
      refine j_ialdC (pc := 36) hC (n := 15) (e := 1) (by decide) (r_k h1) (r_n h1) (by decide) dX12_goes_36 ?_
      refine j_bI (pc := 37) (run_V hC (st := [.int ((gM M4 n1 1) + r5)]) (kt_X12_flowAt hC.ly M4 (gM M4 n1 1)) vv_X12_flowAt qw844 (by decide) sh_X12 rfl ⟨(Nat.le_of_ble_eq_true rfl), (Nat.le_of_ble_eq_true rfl)⟩ rfl rfl (Nat.le_of_ble_eq_true rfl) dX12_goes_37) (fun M7 r8 => ?_)
      refine j_isub (pc := 40) hC dX12_goes_40 ?_
      refine j_mask [true, true, false, false] (lv' := [some (.ref (ad 109)), some (.ref (ad n1)), none, none]) rfl ?_
      exact tsX12_goes_41 hC M7 n1 (((gM M4 n1 1) + r5) - r8) h1
    · refine j_aload_n (pc := 22) hC dX12_goes_22 rfl ?_
      refine j_iconst (pc := 23) hC dX12_goes_23 (v := 1) (by decide) ?_
      refine j_ialdC (pc := 24) hC (n := 15) (e := 1) (by decide) (r_k h1) (r_n h1) (by decide) dX12_goes_24 ?_
      refine j_goto (pc := 25) hC dX12_goes_25 (tgt := 41) (by decide) ?_
      refine j_mask [true, true, false, false] (lv' := [some (.ref (ad 109)), some (.ref (ad n1)), none, none]) rfl ?_
      exact tsX12_goes_41 hC M4 n1 (gM M4 n1 1) h1
/-! LastRowerModel.notes()V -/
set_option maxRecDepth 20000 in
set_option maxHeartbeats 4000000 in
theorem tsX12_notes_79 {X : Cx} {ad : Nat → Nat} {cid : Nat → ClassId} (hC : Ok X ad cid cX12_notes RX12 2 none 0 0)   (M : Mem)   : Jp X ad cid 2 (qm X ad (qV ad cid)) M 79 [some (.ref (ad 109)), none] [] (sX12_notes_79  M) := by
  unfold sX12_notes_79
  refine j_aload_n (pc := 79) hC dX12_notes_79 rfl ?_
  refine j_dup (pc := 80) hC dX12_notes_80 rfl ?_
  refine gX12_121 (pc := 81) hC dX12_notes_81 ?_
  refine j_iconst (pc := 84) hC dX12_notes_84 (v := 1) (by decide) ?_
  refine j_iadd (pc := 85) hC dX12_notes_85 ?_
  refine pX12_121 (pc := 86) hC dX12_notes_86 ?_
  exact j_vret (pc := 89) hC dX12_notes_89
set_option maxRecDepth 20000 in
set_option maxHeartbeats 4000000 in
theorem tsX12_notes_47 {X : Cx} {ad : Nat → Nat} {cid : Nat → ClassId} (hC : Ok X ad cid cX12_notes RX12 2 none 0 0)  {rec47 : Mem → Int32 → Option (Mem)} (hrec47 : ∀ (M : Mem) (x1 : Int32), Jp X ad cid 2 (qm X ad (qV ad cid)) M 47 [some (.ref (ad 109)), some (.int x1)] [] (rec47 M x1)) (M : Mem) (x1 : Int32)  : Jp X ad cid 2 (qm X ad (qV ad cid)) M 47 [some (.ref (ad 109)), some (.int x1)] [] (sX12_notes_47  rec47 M x1) := by
  unfold sX12_notes_47
  refine j_iload_n (pc := 47) hC dX12_notes_47 rfl ?_
  refine j_bipush (pc := 48) hC dX12_notes_48 (v := 15) (by decide) ?_
  refine j_icmp_ge (pc := 50) hC dX12_notes_50 (tgt := 79) (by decide) (fun hb5 => ?_) (fun hb5 => ?_)
  · refine j_mask [true, false] (lv' := [some (.ref (ad 109)), none]) rfl ?_
    exact tsX12_notes_79 hC M
  · refine j_aload_n (pc := 53) hC dX12_notes_53 rfl ?_
    refine gX12_44 (pc := 54) hC dX12_notes_54 ?_
    refine j_bipush (pc := 57) hC dX12_notes_57 (v := 15) (by decide) ?_
    refine j_aload_n (pc := 59) hC dX12_notes_59 rfl ?_
    refine gX12_121 (pc := 60) hC dX12_notes_60 ?_
    refine j_imul (pc := 63) hC dX12_notes_63 ?_
    refine j_iload_n (pc := 64) hC dX12_notes_64 rfl ?_
    refine j_iadd (pc := 65) hC dX12_notes_65 ?_
    refine j_aload_n (pc := 66) hC dX12_notes_66 rfl ?_
    refine gX12_31 (pc := 67) hC dX12_notes_67 ?_
    refine j_iload_n (pc := 70) hC dX12_notes_70 rfl ?_
    refine j_ck (fun hi6 => ?_)
    refine j_iald (pc := 71) hC (n := 15) rfl rfl hi6 dX12_notes_71 ?_
    refine j_ck (fun hi7 => ?_)
    refine j_iast (pc := 72) hC (n := 150) rfl rfl hi7 dX12_notes_72 ?_
    refine j_iinc (pc := 73) hC (lv' := [some (.ref (ad 109)), some (.int (x1 + 1))]) dX12_notes_73 rfl (v := 1) (by decide) (by decide) rfl rfl ?_
    refine j_goto (pc := 76) hC dX12_notes_76 (tgt := 47) (by decide) ?_
    exact hrec47 (sM M 121 (((15 : Int32) * (gM M 109 21)) + x1).toNatClampNeg (gM M 117 x1.toNatClampNeg)) (x1 + 1)
theorem tlX12_notes_47 {X : Cx} {ad : Nat → Nat} {cid : Nat → ClassId} (hC : Ok X ad cid cX12_notes RX12 2 none 0 0)   : ∀ (n : Nat) (M : Mem) (x1 : Int32), Jp X ad cid 2 (qm X ad (qV ad cid)) M 47 [some (.ref (ad 109)), some (.int x1)] [] (lX12_notes_47  n M x1) := by
  intro n
  induction n with
  | zero => intros; exact j_none
  | succ n ih => exact tsX12_notes_47 hC   ih
set_option maxRecDepth 20000 in
set_option maxHeartbeats 4000000 in
theorem tsX12_notes_39 {X : Cx} {ad : Nat → Nat} {cid : Nat → ClassId} (hC : Ok X ad cid cX12_notes RX12 2 none 0 0)   (M : Mem)   : Jp X ad cid 2 (qm X ad (qV ad cid)) M 39 [some (.ref (ad 109)), none] [] (sX12_notes_39  M) := by
  unfold sX12_notes_39
  refine j_aload_n (pc := 39) hC dX12_notes_39 rfl ?_
  refine j_bipush (pc := 40) hC dX12_notes_40 (v := 9) (by decide) ?_
  refine pX12_121 (pc := 42) hC dX12_notes_42 ?_
  refine j_iconst (pc := 45) hC dX12_notes_45 (v := 0) (by decide) ?_
  refine j_istore_n (pc := 46) hC (lv' := [some (.ref (ad 109)), some (.int (0 : Int32))]) dX12_notes_46 (by decide) rfl rfl ?_
  exact tlX12_notes_47 hC fuel (sM M 109 21 (9 : Int32)) (0 : Int32)
set_option maxRecDepth 20000 in
set_option maxHeartbeats 4000000 in
theorem tsX12_notes_11 {X : Cx} {ad : Nat → Nat} {cid : Nat → ClassId} (hC : Ok X ad cid cX12_notes RX12 2 none 0 0)  {rec11 : Mem → Int32 → Option (Mem)} (hrec11 : ∀ (M : Mem) (x1 : Int32), Jp X ad cid 2 (qm X ad (qV ad cid)) M 11 [some (.ref (ad 109)), some (.int x1)] [] (rec11 M x1)) (M : Mem) (x1 : Int32)  : Jp X ad cid 2 (qm X ad (qV ad cid)) M 11 [some (.ref (ad 109)), some (.int x1)] [] (sX12_notes_11  rec11 M x1) := by
  unfold sX12_notes_11
  refine j_iload_n (pc := 11) hC dX12_notes_11 rfl ?_
  refine j_sipush (pc := 12) hC dX12_notes_12 (v := 135) (by decide) ?_
  refine j_icmp_ge (pc := 15) hC dX12_notes_15 (tgt := 39) (by decide) (fun hb2 => ?_) (fun hb2 => ?_)
  · refine j_mask [true, false] (lv' := [some (.ref (ad 109)), none]) rfl ?_
    exact tsX12_notes_39 hC M
  · refine j_aload_n (pc := 18) hC dX12_notes_18 rfl ?_
    refine gX12_44 (pc := 19) hC dX12_notes_19 ?_
    refine j_iload_n (pc := 22) hC dX12_notes_22 rfl ?_
    refine j_aload_n (pc := 23) hC dX12_notes_23 rfl ?_
    refine gX12_44 (pc := 24) hC dX12_notes_24 ?_
    refine j_iload_n (pc := 27) hC dX12_notes_27 rfl ?_
    refine j_bipush (pc := 28) hC dX12_notes_28 (v := 15) (by decide) ?_
    refine j_iadd (pc := 30) hC dX12_notes_30 ?_
    refine j_ck (fun hi3 => ?_)
    refine j_iald (pc := 31) hC (n := 150) rfl rfl hi3 dX12_notes_31 ?_
    refine j_ck (fun hi4 => ?_)
    refine j_iast (pc := 32) hC (n := 150) rfl rfl hi4 dX12_notes_32 ?_
    refine j_iinc (pc := 33) hC (lv' := [some (.ref (ad 109)), some (.int (x1 + 1))]) dX12_notes_33 rfl (v := 1) (by decide) (by decide) rfl rfl ?_
    refine j_goto (pc := 36) hC dX12_notes_36 (tgt := 11) (by decide) ?_
    exact hrec11 (sM M 121 x1.toNatClampNeg (gM M 121 (x1 + (15 : Int32)).toNatClampNeg)) (x1 + 1)
theorem tlX12_notes_11 {X : Cx} {ad : Nat → Nat} {cid : Nat → ClassId} (hC : Ok X ad cid cX12_notes RX12 2 none 0 0)   : ∀ (n : Nat) (M : Mem) (x1 : Int32), Jp X ad cid 2 (qm X ad (qV ad cid)) M 11 [some (.ref (ad 109)), some (.int x1)] [] (lX12_notes_11  n M x1) := by
  intro n
  induction n with
  | zero => intros; exact j_none
  | succ n ih => exact tsX12_notes_11 hC   ih
set_option maxRecDepth 20000 in
set_option maxHeartbeats 4000000 in
theorem kt_X12_notes {l : Launch} {ad : Nat → Nat} {cid : Nat → ClassId} {D : va_G} (hL : lyOk ad)  (M : Mem)  : Ct (qV ad cid) l ad cid D yX12_notes cX12_notes 2 none 0 0 [.ref (ad 109)] M (fX12_notes M ) := by
  refine ct_of (own := RX12) (lv := [some (.ref (ad 109)), none]) hL (by decide +kernel) rfl rfl (Nat.le_of_ble_eq_true rfl) (fun X hC => ?_)
  unfold fX12_notes
  refine j_aload_n (pc := 0) hC dX12_notes_0 rfl ?_
  refine gX12_121 (pc := 1) hC dX12_notes_1 ?_
  refine j_bipush (pc := 4) hC dX12_notes_4 (v := 10) (by decide) ?_
  refine j_icmp_ne (pc := 6) hC dX12_notes_6 (tgt := 45) (by decide) (fun hb1 => ?_) (fun hb1 => ?_)
  · refine j_iconst (pc := 45) hC dX12_notes_45 (v := 0) (by decide) ?_
    refine j_istore_n (pc := 46) hC (lv' := [some (.ref (ad 109)), some (.int (0 : Int32))]) dX12_notes_46 (by decide) rfl rfl ?_
    exact tlX12_notes_47 hC fuel M (0 : Int32)
  · refine j_iconst (pc := 9) hC dX12_notes_9 (v := 0) (by decide) ?_
    refine j_istore_n (pc := 10) hC (lv' := [some (.ref (ad 109)), some (.int (0 : Int32))]) dX12_notes_10 (by decide) rfl rfl ?_
    exact tlX12_notes_11 hC fuel M (0 : Int32)
/-! LastRowerModel.beat()I -/
set_option maxRecDepth 20000 in
set_option maxHeartbeats 4000000 in
theorem kt_X12_beat {l : Launch} {ad : Nat → Nat} {cid : Nat → ClassId} {D : va_G} (hL : lyOk ad)  (M : Mem)  : Ct (qI ad cid) l ad cid D yX12_beat cX12_beat 1 (some .int) 3 69 [.ref (ad 109)] M (fX12_beat M ) := by
  refine ct_of (own := RX12) (lv := [some (.ref (ad 109))]) hL (by decide +kernel) rfl rfl (Nat.le_of_ble_eq_true rfl) (fun X hC => ?_)
  unfold fX12_beat
  refine j_aload_n (pc := 0) hC dX12_beat_0 rfl ?_
  refine j_iconst (pc := 1) hC dX12_beat_1 (v := 0) (by decide) ?_
  refine pX12_59 (pc := 2) hC dX12_beat_2 ?_
  refine j_aload_n (pc := 5) hC dX12_beat_5 rfl ?_
  refine j_aload_n (pc := 6) hC dX12_beat_6 rfl ?_
  refine gX12_31 (pc := 7) hC dX12_beat_7 ?_
  refine j_bI (pc := 10) (run_V hC (st := []) (kt_X12_isOver hC.ly r_117 (sM M 109 0 (0 : Int32))) vv_X12_isOver qw856 (by decide) sh_X12 rfl ⟨(Nat.le_of_ble_eq_true rfl), (Nat.le_of_ble_eq_true rfl)⟩ rfl rfl (Nat.le_of_ble_eq_true rfl) dX12_beat_10) (fun M1 r2 => ?_)
  refine j_if_ne (pc := 13) hC dX12_beat_13 (tgt := 28) (by decide) (fun hb3 => ?_) (fun hb3 => ?_)
  · refine j_bipush (pc := 28) hC dX12_beat_28 (v := (-2)) (by decide) ?_
    exact j_iret (pc := 30) hC dX12_beat_30
  · refine j_aload_n (pc := 16) hC dX12_beat_16 rfl ?_
    refine gX12_31 (pc := 17) hC dX12_beat_17 ?_
    refine j_iconst (pc := 20) hC dX12_beat_20 (v := 0) (by decide) ?_
    refine j_ialdC (pc := 21) hC (n := 15) (e := 0) (by decide) rfl rfl (by decide) dX12_beat_21 ?_
    refine j_sipush (pc := 22) hC dX12_beat_22 (v := 9999) (by decide) ?_
    refine j_icmp_ne (pc := 25) hC dX12_beat_25 (tgt := 31) (by decide) (fun hb4 => ?_) (fun hb4 => ?_)
    · refine j_aload_n (pc := 31) hC dX12_beat_31 rfl ?_
      refine j_bV (pc := 32) (run_V hC (st := []) (kt_X12_notes hC.ly M1) vv_X12_notes qw868 (by decide) sh_X12 rfl ⟨(Nat.le_of_ble_eq_true rfl), (Nat.le_of_ble_eq_true rfl)⟩ rfl rfl (Nat.le_of_ble_eq_true rfl) dX12_beat_32) (fun M5 => ?_)
      refine j_aload_n (pc := 35) hC dX12_beat_35 rfl ?_
      refine j_aload_n (pc := 36) hC dX12_beat_36 rfl ?_
      refine gX12_31 (pc := 37) hC dX12_beat_37 ?_
      refine j_bV (pc := 40) (run_V hC (st := []) (kt_X12_goes hC.ly r_117 M5) vv_X12_goes qw872 (by decide) sh_X12 rfl ⟨(Nat.le_of_ble_eq_true rfl), (Nat.le_of_ble_eq_true rfl)⟩ rfl rfl (Nat.le_of_ble_eq_true rfl) dX12_beat_40) (fun M6 => ?_)
      refine j_aload_n (pc := 43) hC dX12_beat_43 rfl ?_
      refine gX12_31 (pc := 44) hC dX12_beat_44 ?_
      refine j_iconst (pc := 47) hC dX12_beat_47 (v := 1) (by decide) ?_
      refine j_ialdC (pc := 48) hC (n := 15) (e := 1) (by decide) rfl rfl (by decide) dX12_beat_48 ?_
      exact j_iret (pc := 49) hC dX12_beat_49
    · refine j_bipush (pc := 28) hC dX12_beat_28 (v := (-2)) (by decide) ?_
      exact j_iret (pc := 30) hC dX12_beat_30
/-! LastRowerModel.endsBehind(I)I -/
set_option maxRecDepth 20000 in
set_option maxHeartbeats 4000000 in
theorem tsX12_endsBehind_2 {X : Cx} {ad : Nat → Nat} {cid : Nat → ClassId} (hC : Ok X ad cid cX12_endsBehind RX12 3 (some .int) 3 69)  {rec2 : Mem → Int32 → Option (Mem × Int32)} (hrec2 : ∀ (M : Mem) (x2 : Int32), Jp X ad cid 3 (qm X ad (qI ad cid)) M 2 [some (.ref (ad 109)), none, some (.int x2)] [] (rec2 M x2)) (M : Mem) (x2 : Int32)  : Jp X ad cid 3 (qm X ad (qI ad cid)) M 2 [some (.ref (ad 109)), none, some (.int x2)] [] (sX12_endsBehind_2  rec2 M x2) := by
  unfold sX12_endsBehind_2
  refine j_iload_n (pc := 2) hC dX12_endsBehind_2 rfl ?_
  refine j_sipush (pc := 3) hC dX12_endsBehind_3 (v := 400) (by decide) ?_
  refine j_icmp_gt (pc := 6) hC dX12_endsBehind_6 (tgt := 36) (by decide) (fun hb1 => ?_) (fun hb1 => ?_)
  · refine j_bipush (pc := 36) hC dX12_endsBehind_36 (v := (-9)) (by decide) ?_
    exact j_iret (pc := 38) hC dX12_endsBehind_38
  · refine j_aload_n (pc := 9) hC dX12_endsBehind_9 rfl ?_
    refine j_aload_n (pc := 10) hC dX12_endsBehind_10 rfl ?_
    refine gX12_34 (pc := 11) hC dX12_endsBehind_11 ?_
    refine j_bI (pc := 14) (run_V hC (st := []) (kt_X12_isOver hC.ly r_118 M) vv_X12_isOver qw856 (by decide) sh_X12 rfl ⟨(Nat.le_of_ble_eq_true rfl), (Nat.le_of_ble_eq_true rfl)⟩ rfl rfl (Nat.le_of_ble_eq_true rfl) dX12_endsBehind_14) (fun M2 r3 => ?_)
    refine j_if_eq (pc := 17) hC dX12_endsBehind_17 (tgt := 22) (by decide) (fun hb4 => ?_) (fun hb4 => ?_)
    · refine j_aload_n (pc := 22) hC dX12_endsBehind_22 rfl ?_
      refine j_aload_n (pc := 23) hC dX12_endsBehind_23 rfl ?_
      refine gX12_34 (pc := 24) hC dX12_endsBehind_24 ?_
      refine j_bV (pc := 27) (run_V hC (st := []) (kt_X12_goes hC.ly r_118 M2) vv_X12_goes qw872 (by decide) sh_X12 rfl ⟨(Nat.le_of_ble_eq_true rfl), (Nat.le_of_ble_eq_true rfl)⟩ rfl rfl (Nat.le_of_ble_eq_true rfl) dX12_endsBehind_27) (fun M5 => ?_)
      refine j_iinc (pc := 30) hC (lv' := [some (.ref (ad 109)), none, some (.int (x2 + 1))]) dX12_endsBehind_30 rfl (v := 1) (by decide) (by decide) rfl rfl ?_
      refine j_goto (pc := 33) hC dX12_endsBehind_33 (tgt := 2) (by decide) ?_
      exact hrec2 M5 (x2 + 1)
    · refine j_iload_n (pc := 20) hC dX12_endsBehind_20 rfl ?_
      exact j_iret (pc := 21) hC dX12_endsBehind_21
theorem tlX12_endsBehind_2 {X : Cx} {ad : Nat → Nat} {cid : Nat → ClassId} (hC : Ok X ad cid cX12_endsBehind RX12 3 (some .int) 3 69)   : ∀ (n : Nat) (M : Mem) (x2 : Int32), Jp X ad cid 3 (qm X ad (qI ad cid)) M 2 [some (.ref (ad 109)), none, some (.int x2)] [] (lX12_endsBehind_2  n M x2) := by
  intro n
  induction n with
  | zero => intros; exact j_none
  | succ n ih => exact tsX12_endsBehind_2 hC   ih
set_option maxRecDepth 20000 in
set_option maxHeartbeats 4000000 in
theorem kt_X12_endsBehind {l : Launch} {ad : Nat → Nat} {cid : Nat → ClassId} {D : va_G} (hL : lyOk ad)  (M : Mem) (x1 : Int32) : Ct (qI ad cid) l ad cid D yX12_endsBehind cX12_endsBehind 3 (some .int) 3 69 [.ref (ad 109), .int x1] M (fX12_endsBehind M x1) := by
  refine ct_of (own := RX12) (lv := [some (.ref (ad 109)), some (.int x1), none]) hL (by decide +kernel) rfl rfl (Nat.le_of_ble_eq_true rfl) (fun X hC => ?_)
  unfold fX12_endsBehind
  refine j_iload_n (pc := 0) hC dX12_endsBehind_0 rfl ?_
  refine j_istore_n (pc := 1) hC (lv' := [some (.ref (ad 109)), some (.int x1), some (.int x1)]) dX12_endsBehind_1 (by decide) rfl rfl ?_
  refine j_mask [true, false, true] (lv' := [some (.ref (ad 109)), none, some (.int x1)]) rfl ?_
  exact tlX12_endsBehind_2 hC fuel M x1
/-! LastRowerModel.best()I -/
set_option maxRecDepth 20000 in
set_option maxHeartbeats 4000000 in
theorem tsX12_best_75 {X : Cx} {ad : Nat → Nat} {cid : Nat → ClassId} (hC : Ok X ad cid cX12_best RX12 5 (some .int) 4 91) {rec13 : Mem → Int32 → Int32 → Int32 → Option (Mem × Int32)} (hrec13 : ∀ (M : Mem) (x1 : Int32) (x2 : Int32) (x3 : Int32), Jp X ad cid 5 (qm X ad (qI ad cid)) M 13 [some (.ref (ad 109)), some (.int x1), some (.int x2), some (.int x3), none] [] (rec13 M x1 x2 x3))  (M : Mem) (x3 : Int32) (x4 : Int32)  : Jp X ad cid 5 (qm X ad (qI ad cid)) M 75 [some (.ref (ad 109)), none, none, some (.int x3), some (.int x4)] [] (sX12_best_75 rec13 M x3 x4) := by
  unfold sX12_best_75
  refine j_iload_n (pc := 75) hC dX12_best_75 rfl ?_
  refine j_istore_n (pc := 76) hC (lv' := [some (.ref (ad 109)), some (.int x3), none, some (.int x3), some (.int x4)]) dX12_best_76 (by decide) rfl rfl ?_
  refine j_iload (pc := 77) hC dX12_best_77 rfl ?_
  refine j_istore_n (pc := 79) hC (lv' := [some (.ref (ad 109)), some (.int x3), some (.int x4), some (.int x3), some (.int x4)]) dX12_best_79 (by decide) rfl rfl ?_
  refine j_iinc (pc := 80) hC (lv' := [some (.ref (ad 109)), some (.int x3), some (.int x4), some (.int (x3 + 1)), some (.int x4)]) dX12_best_80 rfl (v := 1) (by decide) (by decide) rfl rfl ?_
  refine j_goto (pc := 83) hC dX12_best_83 (tgt := 13) (by decide) ?_
  refine j_mask [true, true, true, true, false] (lv' := [some (.ref (ad 109)), some (.int x3), some (.int x4), some (.int (x3 + 1)), none]) rfl ?_
  exact hrec13 M x3 x4 (x3 + 1)
set_option maxRecDepth 20000 in
set_option maxHeartbeats 4000000 in
theorem tsX12_best_13 {X : Cx} {ad : Nat → Nat} {cid : Nat → ClassId} (hC : Ok X ad cid cX12_best RX12 5 (some .int) 4 91)  {rec13 : Mem → Int32 → Int32 → Int32 → Option (Mem × Int32)} (hrec13 : ∀ (M : Mem) (x1 : Int32) (x2 : Int32) (x3 : Int32), Jp X ad cid 5 (qm X ad (qI ad cid)) M 13 [some (.ref (ad 109)), some (.int x1), some (.int x2), some (.int x3), none] [] (rec13 M x1 x2 x3)) (M : Mem) (x1 : Int32) (x2 : Int32) (x3 : Int32)  : Jp X ad cid 5 (qm X ad (qI ad cid)) M 13 [some (.ref (ad 109)), some (.int x1), some (.int x2), some (.int x3), none] [] (sX12_best_13  rec13 M x1 x2 x3) := by
  unfold sX12_best_13
  refine j_iload_n (pc := 13) hC dX12_best_13 rfl ?_
  refine j_aload_n (pc := 14) hC dX12_best_14 rfl ?_
  refine gX12_13 (pc := 15) hC dX12_best_15 ?_
  refine j_iconst (pc := 18) hC dX12_best_18 (v := 0) (by decide) ?_
  refine j_ialdC (pc := 19) hC (n := 6) (e := 0) (by decide) rfl rfl (by decide) dX12_best_19 ?_
  refine j_icmp_ge (pc := 20) hC dX12_best_20 (tgt := 86) (by decide) (fun hb1 => ?_) (fun hb1 => ?_)
  · refine j_iload_n (pc := 86) hC dX12_best_86 rfl ?_
    exact j_iret (pc := 87) hC dX12_best_87
  · refine j_aload_n (pc := 23) hC dX12_best_23 rfl ?_
    refine j_aload_n (pc := 24) hC dX12_best_24 rfl ?_
    refine gX12_31 (pc := 25) hC dX12_best_25 ?_
    refine j_bI (pc := 28) (run_V hC (st := []) (kt_X12_isOver hC.ly r_117 M) vv_X12_isOver qw856 (by decide) sh_X12 rfl ⟨(Nat.le_of_ble_eq_true rfl), (Nat.le_of_ble_eq_true rfl)⟩ rfl rfl (Nat.le_of_ble_eq_true rfl) dX12_best_28) (fun M2 r3 => ?_)
    refine j_if_ne (pc := 31) hC dX12_best_31 (tgt := 86) (by decide) (fun hb4 => ?_) (fun hb4 => ?_)
    · refine j_iload_n (pc := 86) hC dX12_best_86 rfl ?_
      exact j_iret (pc := 87) hC dX12_best_87
    · refine j_aload_n (pc := 34) hC dX12_best_34 rfl ?_
      refine j_bV (pc := 35) (run_V hC (st := []) (kt_X12_asNow hC.ly M2) vv_X12_asNow qw904 (by decide) sh_X12 rfl ⟨(Nat.le_of_ble_eq_true rfl), (Nat.le_of_ble_eq_true rfl)⟩ rfl rfl (Nat.le_of_ble_eq_true rfl) dX12_best_35) (fun M5 => ?_)
      refine j_aload_n (pc := 38) hC dX12_best_38 rfl ?_
      refine j_aload_n (pc := 39) hC dX12_best_39 rfl ?_
      refine gX12_34 (pc := 40) hC dX12_best_40 ?_
      refine j_iconst (pc := 43) hC dX12_best_43 (v := 1) (by decide) ?_
      refine j_iload_n (pc := 44) hC dX12_best_44 rfl ?_
      refine j_ishl (pc := 45) hC dX12_best_45 ?_
      refine j_bV (pc := 46) (run_V hC (st := []) (kt_X12_speak hC.ly r_118 M5 ((1 : Int32) <<< (x3 &&& 31))) vv_X12_speak qw880 (by decide) sh_X12 rfl ⟨(Nat.le_of_ble_eq_true rfl), (Nat.le_of_ble_eq_true rfl)⟩ rfl rfl (Nat.le_of_ble_eq_true rfl) dX12_best_46) (fun M6 => ?_)
      refine j_aload_n (pc := 49) hC dX12_best_49 rfl ?_
      refine j_iconst (pc := 50) hC dX12_best_50 (v := 0) (by decide) ?_
      refine j_bI (pc := 51) (run_V hC (st := []) (kt_X12_endsBehind hC.ly M6 (0 : Int32)) vv_X12_endsBehind qw912 (by decide) sh_X12 rfl ⟨(Nat.le_of_ble_eq_true rfl), (Nat.le_of_ble_eq_true rfl)⟩ rfl rfl (Nat.le_of_ble_eq_true rfl) dX12_best_51) (fun M7 r8 => ?_)
      refine j_istore (pc := 54) hC (lv' := [some (.ref (ad 109)), some (.int x1), some (.int x2), some (.int x3), some (.int r8)]) dX12_best_54 (by decide) rfl rfl ?_
      refine j_iload (pc := 56) hC dX12_best_56 rfl ?_
      refine j_bipush (pc := 58) hC dX12_best_58 (v := (-9)) (by decide) ?_
      refine j_icmp_eq (pc := 60) hC dX12_best_60 (tgt := 80) (by decide) (fun hb9 => ?_) (fun hb9 => ?_)
      · refine j_iinc (pc := 80) hC (lv' := [some (.ref (ad 109)), some (.int x1), some (.int x2), some (.int (x3 + 1)), some (.int r8)]) dX12_best_80 rfl (v := 1) (by decide) (by decide) rfl rfl ?_
        refine j_goto (pc := 83) hC dX12_best_83 (tgt := 13) (by decide) ?_
        refine j_mask [true, true, true, true, false] (lv' := [some (.ref (ad 109)), some (.int x1), some (.int x2), some (.int (x3 + 1)), none]) rfl ?_
        exact hrec13 M7 x1 x2 (x3 + 1)
      · refine j_iload_n (pc := 63) hC dX12_best_63 rfl ?_
        refine j_bipush (pc := 64) hC dX12_best_64 (v := (-9)) (by decide) ?_
        refine j_icmp_eq (pc := 66) hC dX12_best_66 (tgt := 75) (by decide) (fun hb10 => ?_) (fun hb10 => ?_)
        · refine j_mask [true, false, false, true, true] (lv' := [some (.ref (ad 109)), none, none, some (.int x3), some (.int r8)]) rfl ?_
          exact tsX12_best_75 hC hrec13 M7 x3 r8
        · refine j_iload (pc := 69) hC dX12_best_69 rfl ?_
          refine j_iload_n (pc := 71) hC dX12_best_71 rfl ?_
          refine j_icmp_ge (pc := 72) hC dX12_best_72 (tgt := 80) (by decide) (fun hb11 => ?_) (fun hb11 => ?_)
          · refine j_iinc (pc := 80) hC (lv' := [some (.ref (ad 109)), some (.int x1), some (.int x2), some (.int (x3 + 1)), some (.int r8)]) dX12_best_80 rfl (v := 1) (by decide) (by decide) rfl rfl ?_
            refine j_goto (pc := 83) hC dX12_best_83 (tgt := 13) (by decide) ?_
            refine j_mask [true, true, true, true, false] (lv' := [some (.ref (ad 109)), some (.int x1), some (.int x2), some (.int (x3 + 1)), none]) rfl ?_
            exact hrec13 M7 x1 x2 (x3 + 1)
          · refine j_mask [true, false, false, true, true] (lv' := [some (.ref (ad 109)), none, none, some (.int x3), some (.int r8)]) rfl ?_
            exact tsX12_best_75 hC hrec13 M7 x3 r8
theorem tlX12_best_13 {X : Cx} {ad : Nat → Nat} {cid : Nat → ClassId} (hC : Ok X ad cid cX12_best RX12 5 (some .int) 4 91)   : ∀ (n : Nat) (M : Mem) (x1 : Int32) (x2 : Int32) (x3 : Int32), Jp X ad cid 5 (qm X ad (qI ad cid)) M 13 [some (.ref (ad 109)), some (.int x1), some (.int x2), some (.int x3), none] [] (lX12_best_13  n M x1 x2 x3) := by
  intro n
  induction n with
  | zero => intros; exact j_none
  | succ n ih => exact tsX12_best_13 hC   ih
set_option maxRecDepth 20000 in
set_option maxHeartbeats 4000000 in
theorem kt_X12_best {l : Launch} {ad : Nat → Nat} {cid : Nat → ClassId} {D : va_G} (hL : lyOk ad)  (M : Mem)  : Ct (qI ad cid) l ad cid D yX12_best cX12_best 5 (some .int) 4 91 [.ref (ad 109)] M (fX12_best M ) := by
  refine ct_of (own := RX12) (lv := [some (.ref (ad 109)), none, none, none, none]) hL (by decide +kernel) rfl rfl (Nat.le_of_ble_eq_true rfl) (fun X hC => ?_)
  unfold fX12_best
  refine j_aload_n (pc := 0) hC dX12_best_0 rfl ?_
  refine j_iconst (pc := 1) hC dX12_best_1 (v := 0) (by decide) ?_
  refine pX12_59 (pc := 2) hC dX12_best_2 ?_
  refine j_bipush (pc := 5) hC dX12_best_5 (v := (-9)) (by decide) ?_
  refine j_istore_n (pc := 7) hC (lv' := [some (.ref (ad 109)), some (.int (-9 : Int32)), none, none, none]) dX12_best_7 (by decide) rfl rfl ?_
  refine j_bipush (pc := 8) hC dX12_best_8 (v := (-9)) (by decide) ?_
  refine j_istore_n (pc := 10) hC (lv' := [some (.ref (ad 109)), some (.int (-9 : Int32)), some (.int (-9 : Int32)), none, none]) dX12_best_10 (by decide) rfl rfl ?_
  refine j_iconst (pc := 11) hC dX12_best_11 (v := 0) (by decide) ?_
  refine j_istore_n (pc := 12) hC (lv' := [some (.ref (ad 109)), some (.int (-9 : Int32)), some (.int (-9 : Int32)), some (.int (0 : Int32)), none]) dX12_best_12 (by decide) rfl rfl ?_
  exact tlX12_best_13 hC fuel (sM M 109 0 (0 : Int32)) (-9 : Int32) (-9 : Int32) (0 : Int32)
/-! LastRowerModel.clear()I -/
set_option maxRecDepth 20000 in
set_option maxHeartbeats 4000000 in
theorem kt_X12_clear {l : Launch} {ad : Nat → Nat} {cid : Nat → ClassId} {D : va_G} (hL : lyOk ad)  (M : Mem)  : Ct (qI ad cid) l ad cid D yX12_clear cX12_clear 2 (some .int) 0 0 [.ref (ad 109)] M (fX12_clear M ) := by
  refine ct_of (own := RX12) (lv := [some (.ref (ad 109)), none]) hL (by decide +kernel) rfl rfl (Nat.le_of_ble_eq_true rfl) (fun X hC => ?_)
  unfold fX12_clear
  refine j_aload_n (pc := 0) hC dX12_clear_0 rfl ?_
  refine j_iconst (pc := 1) hC dX12_clear_1 (v := 0) (by decide) ?_
  refine pX12_59 (pc := 2) hC dX12_clear_2 ?_
  refine j_aload_n (pc := 5) hC dX12_clear_5 rfl ?_
  refine gX12_67 (pc := 6) hC dX12_clear_6 ?_
  refine j_istore_n (pc := 9) hC (lv' := [some (.ref (ad 109)), some (.int (gM (sM M 109 0 (0 : Int32)) 109 3))]) dX12_clear_9 (by decide) rfl rfl ?_
  refine j_aload_n (pc := 10) hC dX12_clear_10 rfl ?_
  refine j_iconst (pc := 11) hC dX12_clear_11 (v := 0) (by decide) ?_
  refine pX12_67 (pc := 12) hC dX12_clear_12 ?_
  refine j_iload_n (pc := 15) hC dX12_clear_15 rfl ?_
  exact j_iret (pc := 16) hC dX12_clear_16
/-! LastRowerModel.count(I)I -/
set_option maxRecDepth 20000 in
set_option maxHeartbeats 4000000 in
theorem kt_X12_count {l : Launch} {ad : Nat → Nat} {cid : Nat → ClassId} {D : va_G} (hL : lyOk ad)  (M : Mem) (x1 : Int32) : Ct (qI ad cid) l ad cid D yX12_count cX12_count 2 (some .int) 1 22 [.ref (ad 109), .int x1] M (fX12_count M x1) := by
  refine ct_of (own := RX12) (lv := [some (.ref (ad 109)), some (.int x1)]) hL (by decide +kernel) rfl rfl (Nat.le_of_ble_eq_true rfl) (fun X hC => ?_)
  unfold fX12_count
  refine j_aload_n (pc := 0) hC dX12_count_0 rfl ?_
  refine j_iconst (pc := 1) hC dX12_count_1 (v := 0) (by decide) ?_
  refine pX12_59 (pc := 2) hC dX12_count_2 ?_
  refine j_iload_n (pc := 5) hC dX12_count_5 rfl ?_
  refine j_iconst (pc := 6) hC dX12_count_6 (v := 0) (by decide) ?_
  refine j_iconst (pc := 7) hC dX12_count_7 (v := 2) (by decide) ?_
  refine j_bI (pc := 8) (run_S hC (st := []) (kt_X12_in hC.ly (sM M 109 0 (0 : Int32)) x1 (0 : Int32) (2 : Int32)) vs_X12_in qw789 ⟨(Nat.le_of_ble_eq_true rfl), (Nat.le_of_ble_eq_true rfl)⟩ rfl rfl (Nat.le_of_ble_eq_true rfl) dX12_count_8) (fun M1 r2 => ?_)
  refine j_if_eq (pc := 11) hC dX12_count_11 (tgt := 23) (by decide) (fun hb3 => ?_) (fun hb3 => ?_)
  · refine j_iload_n (pc := 23) hC dX12_count_23 rfl ?_
    refine j_iconst (pc := 24) hC dX12_count_24 (v := 3) (by decide) ?_
    refine j_icmp_ne (pc := 25) hC dX12_count_25 (tgt := 35) (by decide) (fun hb4 => ?_) (fun hb4 => ?_)
    · refine j_iload_n (pc := 35) hC dX12_count_35 rfl ?_
      refine j_iconst (pc := 36) hC dX12_count_36 (v := 4) (by decide) ?_
      refine j_icmp_ne (pc := 37) hC dX12_count_37 (tgt := 47) (by decide) (fun hb5 => ?_) (fun hb5 => ?_)
      · refine j_iconst (pc := 47) hC dX12_count_47 (v := (-1)) (by decide) ?_
        exact j_iret (pc := 48) hC dX12_count_48
      · refine j_aload_n (pc := 40) hC dX12_count_40 rfl ?_
        refine gX12_67 (pc := 41) hC dX12_count_41 ?_
        refine j_goto (pc := 44) hC dX12_count_44 (tgt := 48) (by decide) ?_
        exact j_iret (pc := 48) hC dX12_count_48
    · refine j_aload_n (pc := 28) hC dX12_count_28 rfl ?_
      refine gX12_118 (pc := 29) hC dX12_count_29 ?_
      refine j_goto (pc := 32) hC dX12_count_32 (tgt := 48) (by decide) ?_
      exact j_iret (pc := 48) hC dX12_count_48
  · refine j_aload_n (pc := 14) hC dX12_count_14 rfl ?_
    refine gX12_13 (pc := 15) hC dX12_count_15 ?_
    refine j_iload_n (pc := 18) hC dX12_count_18 rfl ?_
    refine j_ck (fun hi6 => ?_)
    refine j_iald (pc := 19) hC (n := 6) rfl rfl hi6 dX12_count_19 ?_
    refine j_goto (pc := 20) hC dX12_count_20 (tgt := 48) (by decide) ?_
    exact j_iret (pc := 48) hC dX12_count_48
/-! LastRowerModel.current(I)I -/
set_option maxRecDepth 20000 in
set_option maxHeartbeats 4000000 in
theorem kt_X12_current {l : Launch} {ad : Nat → Nat} {cid : Nat → ClassId} {D : va_G} (hL : lyOk ad)  (M : Mem) (x1 : Int32) : Ct (qI ad cid) l ad cid D yX12_current cX12_current 2 (some .int) 1 24 [.ref (ad 109), .int x1] M (fX12_current M x1) := by
  refine ct_of (own := RX12) (lv := [some (.ref (ad 109)), some (.int x1)]) hL (by decide +kernel) rfl rfl (Nat.le_of_ble_eq_true rfl) (fun X hC => ?_)
  unfold fX12_current
  refine j_aload_n (pc := 0) hC dX12_current_0 rfl ?_
  refine j_iconst (pc := 1) hC dX12_current_1 (v := 0) (by decide) ?_
  refine pX12_59 (pc := 2) hC dX12_current_2 ?_
  refine j_iload_n (pc := 5) hC dX12_current_5 rfl ?_
  refine j_iconst (pc := 6) hC dX12_current_6 (v := 0) (by decide) ?_
  refine j_sipush (pc := 7) hC dX12_current_7 (v := 400) (by decide) ?_
  refine j_bI (pc := 10) (run_S hC (st := []) (kt_X12_in hC.ly (sM M 109 0 (0 : Int32)) x1 (0 : Int32) (400 : Int32)) vs_X12_in qw789 ⟨(Nat.le_of_ble_eq_true rfl), (Nat.le_of_ble_eq_true rfl)⟩ rfl rfl (Nat.le_of_ble_eq_true rfl) dX12_current_10) (fun M1 r2 => ?_)
  refine j_if_eq (pc := 13) hC dX12_current_13 (tgt := 24) (by decide) (fun hb3 => ?_) (fun hb3 => ?_)
  · refine j_iconst (pc := 24) hC dX12_current_24 (v := (-1)) (by decide) ?_
    exact j_iret (pc := 25) hC dX12_current_25
  · refine j_aload_n (pc := 16) hC dX12_current_16 rfl ?_
    refine j_iload_n (pc := 17) hC dX12_current_17 rfl ?_
    refine j_bI (pc := 18) (run_V hC (st := []) (kt_X12_flowAt hC.ly M1 x1) vv_X12_flowAt qw844 (by decide) sh_X12 rfl ⟨(Nat.le_of_ble_eq_true rfl), (Nat.le_of_ble_eq_true rfl)⟩ rfl rfl (Nat.le_of_ble_eq_true rfl) dX12_current_18) (fun M4 r5 => ?_)
    refine j_goto (pc := 21) hC dX12_current_21 (tgt := 25) (by decide) ?_
    exact j_iret (pc := 25) hC dX12_current_25
/-! LastRowerModel.drift()I -/
set_option maxRecDepth 20000 in
set_option maxHeartbeats 4000000 in
theorem tsX12_drift_11 {X : Cx} {ad : Nat → Nat} {cid : Nat → ClassId} (hC : Ok X ad cid cX12_drift RX12 2 (some .int) 3 69)  {rec11 : Mem → Int32 → Option (Mem × Int32)} (hrec11 : ∀ (M : Mem) (x1 : Int32), Jp X ad cid 2 (qm X ad (qI ad cid)) M 11 [some (.ref (ad 109)), some (.int x1)] [] (rec11 M x1)) (M : Mem) (x1 : Int32)  : Jp X ad cid 2 (qm X ad (qI ad cid)) M 11 [some (.ref (ad 109)), some (.int x1)] [] (sX12_drift_11  rec11 M x1) := by
  unfold sX12_drift_11
  refine j_iload_n (pc := 11) hC dX12_drift_11 rfl ?_
  refine j_sipush (pc := 12) hC dX12_drift_12 (v := 400) (by decide) ?_
  refine j_icmp_gt (pc := 15) hC dX12_drift_15 (tgt := 60) (by decide) (fun hb2 => ?_) (fun hb2 => ?_)
  · refine j_bipush (pc := 60) hC dX12_drift_60 (v := (-9)) (by decide) ?_
    exact j_iret (pc := 62) hC dX12_drift_62
  · refine j_aload_n (pc := 18) hC dX12_drift_18 rfl ?_
    refine j_aload_n (pc := 19) hC dX12_drift_19 rfl ?_
    refine gX12_34 (pc := 20) hC dX12_drift_20 ?_
    refine j_bI (pc := 23) (run_V hC (st := []) (kt_X12_isOver hC.ly r_118 M) vv_X12_isOver qw856 (by decide) sh_X12 rfl ⟨(Nat.le_of_ble_eq_true rfl), (Nat.le_of_ble_eq_true rfl)⟩ rfl rfl (Nat.le_of_ble_eq_true rfl) dX12_drift_23) (fun M3 r4 => ?_)
    refine j_if_ne (pc := 26) hC dX12_drift_26 (tgt := 60) (by decide) (fun hb5 => ?_) (fun hb5 => ?_)
    · refine j_bipush (pc := 60) hC dX12_drift_60 (v := (-9)) (by decide) ?_
      exact j_iret (pc := 62) hC dX12_drift_62
    · refine j_aload_n (pc := 29) hC dX12_drift_29 rfl ?_
      refine j_aload_n (pc := 30) hC dX12_drift_30 rfl ?_
      refine gX12_34 (pc := 31) hC dX12_drift_31 ?_
      refine j_bV (pc := 34) (run_V hC (st := []) (kt_X12_goes hC.ly r_118 M3) vv_X12_goes qw872 (by decide) sh_X12 rfl ⟨(Nat.le_of_ble_eq_true rfl), (Nat.le_of_ble_eq_true rfl)⟩ rfl rfl (Nat.le_of_ble_eq_true rfl) dX12_drift_34) (fun M6 => ?_)
      refine j_aload_n (pc := 37) hC dX12_drift_37 rfl ?_
      refine gX12_34 (pc := 38) hC dX12_drift_38 ?_
      refine j_iconst (pc := 41) hC dX12_drift_41 (v := 1) (by decide) ?_
      refine j_ialdC (pc := 42) hC (n := 15) (e := 1) (by decide) rfl rfl (by decide) dX12_drift_42 ?_
      refine j_aload_n (pc := 43) hC dX12_drift_43 rfl ?_
      refine gX12_31 (pc := 44) hC dX12_drift_44 ?_
      refine j_iconst (pc := 47) hC dX12_drift_47 (v := 1) (by decide) ?_
      refine j_ialdC (pc := 48) hC (n := 15) (e := 1) (by decide) rfl rfl (by decide) dX12_drift_48 ?_
      refine j_icmp_ge (pc := 49) hC dX12_drift_49 (tgt := 54) (by decide) (fun hb7 => ?_) (fun hb7 => ?_)
      · refine j_iinc (pc := 54) hC (lv' := [some (.ref (ad 109)), some (.int (x1 + 1))]) dX12_drift_54 rfl (v := 1) (by decide) (by decide) rfl rfl ?_
        refine j_goto (pc := 57) hC dX12_drift_57 (tgt := 11) (by decide) ?_
        exact hrec11 M6 (x1 + 1)
      · refine j_iload_n (pc := 52) hC dX12_drift_52 rfl ?_
        exact j_iret (pc := 53) hC dX12_drift_53
theorem tlX12_drift_11 {X : Cx} {ad : Nat → Nat} {cid : Nat → ClassId} (hC : Ok X ad cid cX12_drift RX12 2 (some .int) 3 69)   : ∀ (n : Nat) (M : Mem) (x1 : Int32), Jp X ad cid 2 (qm X ad (qI ad cid)) M 11 [some (.ref (ad 109)), some (.int x1)] [] (lX12_drift_11  n M x1) := by
  intro n
  induction n with
  | zero => intros; exact j_none
  | succ n ih => exact tsX12_drift_11 hC   ih
set_option maxRecDepth 20000 in
set_option maxHeartbeats 4000000 in
theorem kt_X12_drift {l : Launch} {ad : Nat → Nat} {cid : Nat → ClassId} {D : va_G} (hL : lyOk ad)  (M : Mem)  : Ct (qI ad cid) l ad cid D yX12_drift cX12_drift 2 (some .int) 3 69 [.ref (ad 109)] M (fX12_drift M ) := by
  refine ct_of (own := RX12) (lv := [some (.ref (ad 109)), none]) hL (by decide +kernel) rfl rfl (Nat.le_of_ble_eq_true rfl) (fun X hC => ?_)
  unfold fX12_drift
  refine j_aload_n (pc := 0) hC dX12_drift_0 rfl ?_
  refine j_iconst (pc := 1) hC dX12_drift_1 (v := 0) (by decide) ?_
  refine pX12_59 (pc := 2) hC dX12_drift_2 ?_
  refine j_aload_n (pc := 5) hC dX12_drift_5 rfl ?_
  refine j_bV (pc := 6) (run_V hC (st := []) (kt_X12_asNow hC.ly (sM M 109 0 (0 : Int32))) vv_X12_asNow qw904 (by decide) sh_X12 rfl ⟨(Nat.le_of_ble_eq_true rfl), (Nat.le_of_ble_eq_true rfl)⟩ rfl rfl (Nat.le_of_ble_eq_true rfl) dX12_drift_6) (fun M1 => ?_)
  refine j_iconst (pc := 9) hC dX12_drift_9 (v := 1) (by decide) ?_
  refine j_istore_n (pc := 10) hC (lv' := [some (.ref (ad 109)), some (.int (1 : Int32))]) dX12_drift_10 (by decide) rfl rfl ?_
  exact tlX12_drift_11 hC fuel M1 (1 : Int32)
/-! LastRowerModel.ends()I -/
set_option maxRecDepth 20000 in
set_option maxHeartbeats 4000000 in
theorem kt_X12_ends {l : Launch} {ad : Nat → Nat} {cid : Nat → ClassId} {D : va_G} (hL : lyOk ad)  (M : Mem)  : Ct (qI ad cid) l ad cid D yX12_ends cX12_ends 1 (some .int) 4 91 [.ref (ad 109)] M (fX12_ends M ) := by
  refine ct_of (own := RX12) (lv := [some (.ref (ad 109))]) hL (by decide +kernel) rfl rfl (Nat.le_of_ble_eq_true rfl) (fun X hC => ?_)
  unfold fX12_ends
  refine j_aload_n (pc := 0) hC dX12_ends_0 rfl ?_
  refine j_iconst (pc := 1) hC dX12_ends_1 (v := 0) (by decide) ?_
  refine pX12_59 (pc := 2) hC dX12_ends_2 ?_
  refine j_aload_n (pc := 5) hC dX12_ends_5 rfl ?_
  refine j_bV (pc := 6) (run_V hC (st := []) (kt_X12_asNow hC.ly (sM M 109 0 (0 : Int32))) vv_X12_asNow qw904 (by decide) sh_X12 rfl ⟨(Nat.le_of_ble_eq_true rfl), (Nat.le_of_ble_eq_true rfl)⟩ rfl rfl (Nat.le_of_ble_eq_true rfl) dX12_ends_6) (fun M1 => ?_)
  refine j_aload_n (pc := 9) hC dX12_ends_9 rfl ?_
  refine j_iconst (pc := 10) hC dX12_ends_10 (v := 0) (by decide) ?_
  refine j_bI (pc := 11) (run_V hC (st := []) (kt_X12_endsBehind hC.ly M1 (0 : Int32)) vv_X12_endsBehind qw912 (by decide) sh_X12 rfl ⟨(Nat.le_of_ble_eq_true rfl), (Nat.le_of_ble_eq_true rfl)⟩ rfl rfl (Nat.le_of_ble_eq_true rfl) dX12_ends_11) (fun M2 r3 => ?_)
  exact j_iret (pc := 14) hC dX12_ends_14
