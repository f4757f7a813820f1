/-! LastRower$Ferry.empty()V -/
set_option maxRecDepth 20000 in
set_option maxHeartbeats 4000000 in
theorem kt_X2_empty {l : Launch} {ad : Nat → Nat} {cid : Nat → ClassId} {D : va_G} (hL : lyOk ad) {n0 : Nat} (h0 : isFe n0) (M : Mem)  : Ct (qV ad cid) l ad cid D yX2_empty cX2_empty 1 none 0 0 [.ref (ad n0)] M (fX2_empty M n0) := by
  refine ct_of (own := RX2) (lv := [some (.ref (ad n0))]) hL (by decide +kernel) rfl rfl (Nat.le_of_ble_eq_true rfl) (fun X hC => ?_)
  unfold fX2_empty
  refine j_aload_n (pc := 0) hC dX2_empty_0 rfl ?_
  refine j_iconst (pc := 1) hC dX2_empty_1 (v := 0) (by decide) ?_
  refine pX2_37 (pc := 2) hC h0 dX2_empty_2 ?_
  refine j_aload_n (pc := 5) hC dX2_empty_5 rfl ?_
  refine j_iconst (pc := 6) hC dX2_empty_6 (v := 0) (by decide) ?_
  refine pX2_40 (pc := 7) hC h0 dX2_empty_7 ?_
  refine j_aload_n (pc := 10) hC dX2_empty_10 rfl ?_
  refine j_bipush (pc := 11) hC dX2_empty_11 (v := 60) (by decide) ?_
  refine pX2_27 (pc := 13) hC h0 dX2_empty_13 ?_
  refine j_aload_n (pc := 16) hC dX2_empty_16 rfl ?_
  refine j_iconst (pc := 17) hC dX2_empty_17 (v := 0) (by decide) ?_
  refine pX2_43 (pc := 18) hC h0 (by decide) dX2_empty_18 ?_
  exact j_vret (pc := 21) hC dX2_empty_21
/-! LastRower$Ferry.findFlow(I)I -/
set_option maxRecDepth 20000 in
set_option maxHeartbeats 4000000 in
theorem tsX2_findFlow_7 {X : Cx} {ad : Nat → Nat} {cid : Nat → ClassId} (hC : Ok X ad cid cX2_findFlow RX2 5 (some .int) 0 0)  {rec7 : Mem → Nat → Int32 → Int32 → Int32 → Int32 → Option (Mem × Int32)} (hrec7 : ∀ (M : Mem) (n0 : Nat) (x1 : Int32) (x2 : Int32) (x3 : Int32) (x4 : Int32), isFe n0 → Jp X ad cid 5 (qm X ad (qI ad cid)) M 7 [some (.ref (ad n0)), some (.int x1), some (.int x2), some (.int x3), some (.int x4)] [] (rec7 M n0 x1 x2 x3 x4)) (M : Mem) (n0 : Nat) (x1 : Int32) (x2 : Int32) (x3 : Int32) (x4 : Int32) (h0 : isFe n0) : Jp X ad cid 5 (qm X ad (qI ad cid)) M 7 [some (.ref (ad n0)), some (.int x1), some (.int x2), some (.int x3), some (.int x4)] [] (sX2_findFlow_7  rec7 M n0 x1 x2 x3 x4) := by
  unfold sX2_findFlow_7
  refine j_iload (pc := 7) hC dX2_findFlow_7 rfl ?_
  refine j_aload_n (pc := 9) hC dX2_findFlow_9 rfl ?_
  refine gX2_40 (pc := 10) hC h0 dX2_findFlow_10 ?_
  refine j_icmp_ge (pc := 13) hC dX2_findFlow_13 (tgt := 66) (by decide) (fun hb1 => ?_) (fun hb1 => ?_)
  · refine j_iload_n (pc := 66) hC dX2_findFlow_66 rfl ?_
    exact j_iret (pc := 67) hC dX2_findFlow_67
  · refine j_iload (pc := 16) hC dX2_findFlow_16 rfl ?_
    refine j_iconst (pc := 18) hC dX2_findFlow_18 (v := 4) (by decide) ?_
    refine j_icmp_ge (pc := 19) hC dX2_findFlow_19 (tgt := 66) (by decide) (fun hb2 => ?_) (fun hb2 => ?_)
    · refine j_iload_n (pc := 66) hC dX2_findFlow_66 rfl ?_
      exact j_iret (pc := 67) hC dX2_findFlow_67
    · refine j_aload_n (pc := 22) hC dX2_findFlow_22 rfl ?_
      refine gX2_21 (pc := 23) hC h0 dX2_findFlow_23 ?_
      refine j_iload (pc := 26) hC dX2_findFlow_26 rfl ?_
      refine j_ck (fun hi3 => ?_)
      refine j_iald (pc := 28) hC (n := 4) (fe_a h0 4 (by decide) (by decide)) (fe_n h0 4 (by decide) (by decide)) hi3 dX2_findFlow_28 ?_
      refine j_iload_n (pc := 29) hC dX2_findFlow_29 rfl ?_
      refine j_icmp_gt (pc := 30) hC dX2_findFlow_30 (tgt := 60) (by decide) (fun hb4 => ?_) (fun hb4 => ?_)
      · refine j_iinc (pc := 60) hC (lv' := [some (.ref (ad n0)), some (.int x1), some (.int x2), some (.int x3), some (.int (x4 + 1))]) dX2_findFlow_60 rfl (v := 1) (by decide) (by decide) rfl rfl ?_
        refine j_goto (pc := 63) hC dX2_findFlow_63 (tgt := 7) (by decide) ?_
        exact hrec7 M n0 x1 x2 x3 (x4 + 1) h0
      · refine j_aload_n (pc := 33) hC dX2_findFlow_33 rfl ?_
        refine gX2_21 (pc := 34) hC h0 dX2_findFlow_34 ?_
        refine j_iload (pc := 37) hC dX2_findFlow_37 rfl ?_
        refine j_iald (pc := 39) hC (n := 4) (fe_a h0 4 (by decide) (by decide)) (fe_n h0 4 (by decide) (by decide)) hi3 dX2_findFlow_39 ?_
        refine j_iload_n (pc := 40) hC dX2_findFlow_40 rfl ?_
        refine j_icmp_le (pc := 41) hC dX2_findFlow_41 (tgt := 60) (by decide) (fun hb5 => ?_) (fun hb5 => ?_)
        · refine j_iinc (pc := 60) hC (lv' := [some (.ref (ad n0)), some (.int x1), some (.int x2), some (.int x3), some (.int (x4 + 1))]) dX2_findFlow_60 rfl (v := 1) (by decide) (by decide) rfl rfl ?_
          refine j_goto (pc := 63) hC dX2_findFlow_63 (tgt := 7) (by decide) ?_
          exact hrec7 M n0 x1 x2 x3 (x4 + 1) h0
        · refine j_aload_n (pc := 44) hC dX2_findFlow_44 rfl ?_
          refine gX2_21 (pc := 45) hC h0 dX2_findFlow_45 ?_
          refine j_iload (pc := 48) hC dX2_findFlow_48 rfl ?_
          refine j_iald (pc := 50) hC (n := 4) (fe_a h0 4 (by decide) (by decide)) (fe_n h0 4 (by decide) (by decide)) hi3 dX2_findFlow_50 ?_
          refine j_istore_n (pc := 51) hC (lv' := [some (.ref (ad n0)), some (.int x1), some (.int x2), some (.int (gM M (n0 + 4) x4.toNatClampNeg)), some (.int x4)]) dX2_findFlow_51 (by decide) rfl rfl ?_
          refine j_aload_n (pc := 52) hC dX2_findFlow_52 rfl ?_
          refine gX2_24 (pc := 53) hC h0 dX2_findFlow_53 ?_
          refine j_iload (pc := 56) hC dX2_findFlow_56 rfl ?_
          refine j_iald (pc := 58) hC (n := 4) (fe_a h0 5 (by decide) (by decide)) (fe_n h0 5 (by decide) (by decide)) hi3 dX2_findFlow_58 ?_
          refine j_istore_n (pc := 59) hC (lv' := [some (.ref (ad n0)), some (.int x1), some (.int (gM M (n0 + 5) x4.toNatClampNeg)), some (.int (gM M (n0 + 4) x4.toNatClampNeg)), some (.int x4)]) dX2_findFlow_59 (by decide) rfl rfl ?_
          refine j_iinc (pc := 60) hC (lv' := [some (.ref (ad n0)), some (.int x1), some (.int (gM M (n0 + 5) x4.toNatClampNeg)), some (.int (gM M (n0 + 4) x4.toNatClampNeg)), some (.int (x4 + 1))]) dX2_findFlow_60 rfl (v := 1) (by decide) (by decide) rfl rfl ?_
          refine j_goto (pc := 63) hC dX2_findFlow_63 (tgt := 7) (by decide) ?_
          exact hrec7 M n0 x1 (gM M (n0 + 5) x4.toNatClampNeg) (gM M (n0 + 4) x4.toNatClampNeg) (x4 + 1) h0
theorem tlX2_findFlow_7 {X : Cx} {ad : Nat → Nat} {cid : Nat → ClassId} (hC : Ok X ad cid cX2_findFlow RX2 5 (some .int) 0 0)   : ∀ (n : Nat) (M : Mem) (n0 : Nat) (x1 : Int32) (x2 : Int32) (x3 : Int32) (x4 : Int32), isFe n0 → Jp X ad cid 5 (qm X ad (qI ad cid)) M 7 [some (.ref (ad n0)), some (.int x1), some (.int x2), some (.int x3), some (.int x4)] [] (lX2_findFlow_7  n M n0 x1 x2 x3 x4) := by
  intro n
  induction n with
  | zero => intros; exact j_none
  | succ n ih => exact tsX2_findFlow_7 hC   ih
set_option maxRecDepth 20000 in
set_option maxHeartbeats 4000000 in
theorem kt_X2_findFlow {l : Launch} {ad : Nat → Nat} {cid : Nat → ClassId} {D : va_G} (hL : lyOk ad) {n0 : Nat} (h0 : isFe n0) (M : Mem) (x1 : Int32) : Ct (qI ad cid) l ad cid D yX2_findFlow cX2_findFlow 5 (some .int) 0 0 [.ref (ad n0), .int x1] M (fX2_findFlow M n0 x1) := by
  refine ct_of (own := RX2) (lv := [some (.ref (ad n0)), some (.int x1), none, none, none]) hL (by decide +kernel) rfl rfl (Nat.le_of_ble_eq_true rfl) (fun X hC => ?_)
  unfold fX2_findFlow
  refine j_iconst (pc := 0) hC dX2_findFlow_0 (v := 0) (by decide) ?_
  refine j_istore_n (pc := 1) hC (lv' := [some (.ref (ad n0)), some (.int x1), some (.int (0 : Int32)), none, none]) dX2_findFlow_1 (by decide) rfl rfl ?_
  refine j_iconst (pc := 2) hC dX2_findFlow_2 (v := (-1)) (by decide) ?_
  refine j_istore_n (pc := 3) hC (lv' := [some (.ref (ad n0)), some (.int x1), some (.int (0 : Int32)), some (.int (-1 : Int32)), none]) dX2_findFlow_3 (by decide) rfl rfl ?_
  refine j_iconst (pc := 4) hC dX2_findFlow_4 (v := 0) (by decide) ?_
  refine j_istore (pc := 5) hC (lv' := [some (.ref (ad n0)), some (.int x1), some (.int (0 : Int32)), some (.int (-1 : Int32)), some (.int (0 : Int32))]) dX2_findFlow_5 (by decide) rfl rfl ?_
  exact tlX2_findFlow_7 hC fuel M n0 x1 (0 : Int32) (-1 : Int32) (0 : Int32) h0
/-! LastRower$Ferry.findPull(I)I -/
set_option maxRecDepth 20000 in
set_option maxHeartbeats 4000000 in
theorem tsX2_findPull_59 {X : Cx} {ad : Nat → Nat} {cid : Nat → ClassId} (hC : Ok X ad cid cX2_findPull RX2 6 (some .int) 0 0) {rec7 : Mem → Nat → Int32 → Int32 → Int32 → Int32 → Option (Mem × Int32)} (hrec7 : ∀ (M : Mem) (n0 : Nat) (x1 : Int32) (x2 : Int32) (x3 : Int32) (x4 : Int32), isFe n0 → Jp X ad cid 6 (qm X ad (qI ad cid)) M 7 [some (.ref (ad n0)), some (.int x1), some (.int x2), some (.int x3), some (.int x4), none] [] (rec7 M n0 x1 x2 x3 x4))  (M : Mem) (n0 : Nat) (x1 : Int32) (x3 : Int32) (x4 : Int32) (s0 : Int32) (h0 : isFe n0) : Jp X ad cid 6 (qm X ad (qI ad cid)) M 59 [some (.ref (ad n0)), some (.int x1), none, some (.int x3), some (.int x4), none] [.int s0] (sX2_findPull_59 rec7 M n0 x1 x3 x4 s0) := by
  unfold sX2_findPull_59
  refine j_istore (pc := 59) hC (lv' := [some (.ref (ad n0)), some (.int x1), none, some (.int x3), some (.int x4), some (.int s0)]) dX2_findPull_59 (by decide) rfl rfl ?_
  refine j_iload (pc := 61) hC dX2_findPull_61 rfl ?_
  refine j_if_ne (pc := 63) hC dX2_findPull_63 (tgt := 69) (by decide) (fun hb8 => ?_) (fun hb8 => ?_)
  · refine j_aload_n (pc := 69) hC dX2_findPull_69 rfl ?_
    refine gX2_18 (pc := 70) hC h0 dX2_findPull_70 ?_
    refine j_iload (pc := 73) hC dX2_findPull_73 rfl ?_
    refine j_ck (fun hi9 => ?_)
    refine j_iald (pc := 75) hC (n := 6) (fe_a h0 3 (by decide) (by decide)) (fe_n h0 3 (by decide) (by decide)) hi9 dX2_findPull_75 ?_
    refine j_istore_n (pc := 76) hC (lv' := [some (.ref (ad n0)), some (.int x1), some (.int (gM M (n0 + 3) x4.toNatClampNeg)), some (.int x3), some (.int x4), some (.int s0)]) dX2_findPull_76 (by decide) rfl rfl ?_
    refine j_iload_n (pc := 77) hC dX2_findPull_77 rfl ?_
    refine j_aload_n (pc := 78) hC dX2_findPull_78 rfl ?_
    refine gX2_9 (pc := 79) hC h0 dX2_findPull_79 ?_
    refine j_iload (pc := 82) hC dX2_findPull_82 rfl ?_
    refine j_iald (pc := 84) hC (n := 6) (fe_a h0 1 (by decide) (by decide)) (fe_n h0 1 (by decide) (by decide)) hi9 dX2_findPull_84 ?_
    refine j_iadd (pc := 85) hC dX2_findPull_85 ?_
    refine j_istore_n (pc := 86) hC (lv' := [some (.ref (ad n0)), some (.int x1), some (.int (gM M (n0 + 3) x4.toNatClampNeg)), some (.int (x3 + (gM M (n0 + 1) x4.toNatClampNeg))), some (.int x4), some (.int s0)]) dX2_findPull_86 (by decide) rfl rfl ?_
    refine j_iinc (pc := 87) hC (lv' := [some (.ref (ad n0)), some (.int x1), some (.int (gM M (n0 + 3) x4.toNatClampNeg)), some (.int (x3 + (gM M (n0 + 1) x4.toNatClampNeg))), some (.int (x4 + 1)), some (.int s0)]) dX2_findPull_87 rfl (v := 1) (by decide) (by decide) rfl rfl ?_
    refine j_goto (pc := 90) hC dX2_findPull_90 (tgt := 7) (by decide) ?_
    refine j_mask [true, true, true, true, true, false] (lv' := [some (.ref (ad n0)), some (.int x1), some (.int (gM M (n0 + 3) x4.toNatClampNeg)), some (.int (x3 + (gM M (n0 + 1) x4.toNatClampNeg))), some (.int (x4 + 1)), none]) rfl ?_
    exact hrec7 M n0 x1 (gM M (n0 + 3) x4.toNatClampNeg) (x3 + (gM M (n0 + 1) x4.toNatClampNeg)) (x4 + 1) h0
  · refine j_bipush (pc := 66) hC dX2_findPull_66 (v := (-9)) (by decide) ?_
    exact j_iret (pc := 68) hC dX2_findPull_68
set_option maxRecDepth 20000 in
set_option maxHeartbeats 4000000 in
theorem tsX2_findPull_58 {X : Cx} {ad : Nat → Nat} {cid : Nat → ClassId} (hC : Ok X ad cid cX2_findPull RX2 6 (some .int) 0 0) {rec7 : Mem → Nat → Int32 → Int32 → Int32 → Int32 → Option (Mem × Int32)} (hrec7 : ∀ (M : Mem) (n0 : Nat) (x1 : Int32) (x2 : Int32) (x3 : Int32) (x4 : Int32), isFe n0 → Jp X ad cid 6 (qm X ad (qI ad cid)) M 7 [some (.ref (ad n0)), some (.int x1), some (.int x2), some (.int x3), some (.int x4), none] [] (rec7 M n0 x1 x2 x3 x4))  (M : Mem) (n0 : Nat) (x1 : Int32) (x3 : Int32) (x4 : Int32) (h0 : isFe n0) : Jp X ad cid 6 (qm X ad (qI ad cid)) M 58 [some (.ref (ad n0)), some (.int x1), none, some (.int x3), some (.int x4), none] [] (sX2_findPull_58 rec7 M n0 x1 x3 x4) := by
  unfold sX2_findPull_58
  refine j_iconst (pc := 58) hC dX2_findPull_58 (v := 0) (by decide) ?_
  exact tsX2_findPull_59 hC hrec7 M n0 x1 x3 x4 (0 : Int32) h0
set_option maxRecDepth 20000 in
set_option maxHeartbeats 4000000 in
theorem tsX2_findPull_7 {X : Cx} {ad : Nat → Nat} {cid : Nat → ClassId} (hC : Ok X ad cid cX2_findPull RX2 6 (some .int) 0 0)  {rec7 : Mem → Nat → Int32 → Int32 → Int32 → Int32 → Option (Mem × Int32)} (hrec7 : ∀ (M : Mem) (n0 : Nat) (x1 : Int32) (x2 : Int32) (x3 : Int32) (x4 : Int32), isFe n0 → Jp X ad cid 6 (qm X ad (qI ad cid)) M 7 [some (.ref (ad n0)), some (.int x1), some (.int x2), some (.int x3), some (.int x4), none] [] (rec7 M n0 x1 x2 x3 x4)) (M : Mem) (n0 : Nat) (x1 : Int32) (x2 : Int32) (x3 : Int32) (x4 : Int32) (h0 : isFe n0) : Jp X ad cid 6 (qm X ad (qI ad cid)) M 7 [some (.ref (ad n0)), some (.int x1), some (.int x2), some (.int x3), some (.int x4), none] [] (sX2_findPull_7  rec7 M n0 x1 x2 x3 x4) := by
  unfold sX2_findPull_7
  refine j_iload (pc := 7) hC dX2_findPull_7 rfl ?_
  refine j_aload_n (pc := 9) hC dX2_findPull_9 rfl ?_
  refine gX2_37 (pc := 10) hC h0 dX2_findPull_10 ?_
  refine j_icmp_ge (pc := 13) hC dX2_findPull_13 (tgt := 93) (by decide) (fun hb1 => ?_) (fun hb1 => ?_)
  · refine j_iload_n (pc := 93) hC dX2_findPull_93 rfl ?_
    exact j_iret (pc := 94) hC dX2_findPull_94
  · refine j_iload (pc := 16) hC dX2_findPull_16 rfl ?_
    refine j_bipush (pc := 18) hC dX2_findPull_18 (v := 6) (by decide) ?_
    refine j_icmp_ge (pc := 20) hC dX2_findPull_20 (tgt := 93) (by decide) (fun hb2 => ?_) (fun hb2 => ?_)
    · refine j_iload_n (pc := 93) hC dX2_findPull_93 rfl ?_
      exact j_iret (pc := 94) hC dX2_findPull_94
    · refine j_iload_n (pc := 23) hC dX2_findPull_23 rfl ?_
      refine j_iload (pc := 24) hC dX2_findPull_24 rfl ?_
      refine j_ishr (pc := 26) hC dX2_findPull_26 ?_
      refine j_iconst (pc := 27) hC dX2_findPull_27 (v := 1) (by decide) ?_
      refine j_iand (pc := 28) hC dX2_findPull_28 ?_
      refine j_if_ne (pc := 29) hC dX2_findPull_29 (tgt := 35) (by decide) (fun hb3 => ?_) (fun hb3 => ?_)
      · refine j_iload_n (pc := 35) hC dX2_findPull_35 rfl ?_
        refine j_if_lt (pc := 36) hC dX2_findPull_36 (tgt := 54) (by decide) (fun hb4 => ?_) (fun hb4 => ?_)
        · refine j_iconst (pc := 54) hC dX2_findPull_54 (v := 1) (by decide) ?_
          refine j_goto (pc := 55) hC dX2_findPull_55 (tgt := 59) (by decide) ?_
          refine j_mask [true, true, false, true, true, false] (lv' := [some (.ref (ad n0)), some (.int x1), none, some (.int x3), some (.int x4), none]) rfl ?_
          exact tsX2_findPull_59 hC hrec7 M n0 x1 x3 x4 (1 : Int32) h0
        · refine j_iload_n (pc := 39) hC dX2_findPull_39 rfl ?_
          refine j_aload_n (pc := 40) hC dX2_findPull_40 rfl ?_
          refine gX2_18 (pc := 41) hC h0 dX2_findPull_41 ?_
          refine j_iload (pc := 44) hC dX2_findPull_44 rfl ?_
          refine j_ck (fun hi5 => ?_)
          refine j_iald (pc := 46) hC (n := 6) (fe_a h0 3 (by decide) (by decide)) (fe_n h0 3 (by decide) (by decide)) hi5 dX2_findPull_46 ?_
          refine j_icmp_ne (pc := 47) hC dX2_findPull_47 (tgt := 58) (by decide) (fun hb6 => ?_) (fun hb6 => ?_)
          · refine j_mask [true, true, false, true, true, false] (lv' := [some (.ref (ad n0)), some (.int x1), none, some (.int x3), some (.int x4), none]) rfl ?_
            exact tsX2_findPull_58 hC hrec7 M n0 x1 x3 x4 h0
          · refine j_iload_n (pc := 50) hC dX2_findPull_50 rfl ?_
            refine j_if_eq (pc := 51) hC dX2_findPull_51 (tgt := 58) (by decide) (fun hb7 => ?_) (fun hb7 => ?_)
            · refine j_mask [true, true, false, true, true, false] (lv' := [some (.ref (ad n0)), some (.int x1), none, some (.int x3), some (.int x4), none]) rfl ?_
              exact tsX2_findPull_58 hC hrec7 M n0 x1 x3 x4 h0
            · refine j_iconst (pc := 54) hC dX2_findPull_54 (v := 1) (by decide) ?_
              refine j_goto (pc := 55) hC dX2_findPull_55 (tgt := 59) (by decide) ?_
              refine j_mask [true, true, false, true, true, false] (lv' := [some (.ref (ad n0)), some (.int x1), none, some (.int x3), some (.int x4), none]) rfl ?_
              exact tsX2_findPull_59 hC hrec7 M n0 x1 x3 x4 (1 : Int32) h0
      · refine j_goto (pc := 32) hC dX2_findPull_32 (tgt := 87) (by decide) ?_
        refine j_iinc (pc := 87) hC (lv' := [some (.ref (ad n0)), some (.int x1), some (.int x2), some (.int x3), some (.int (x4 + 1)), none]) dX2_findPull_87 rfl (v := 1) (by decide) (by decide) rfl rfl ?_
        refine j_goto (pc := 90) hC dX2_findPull_90 (tgt := 7) (by decide) ?_
        exact hrec7 M n0 x1 x2 x3 (x4 + 1) h0
theorem tlX2_findPull_7 {X : Cx} {ad : Nat → Nat} {cid : Nat → ClassId} (hC : Ok X ad cid cX2_findPull RX2 6 (some .int) 0 0)   : ∀ (n : Nat) (M : Mem) (n0 : Nat) (x1 : Int32) (x2 : Int32) (x3 : Int32) (x4 : Int32), isFe n0 → Jp X ad cid 6 (qm X ad (qI ad cid)) M 7 [some (.ref (ad n0)), some (.int x1), some (.int x2), some (.int x3), some (.int x4), none] [] (lX2_findPull_7  n M n0 x1 x2 x3 x4) := by
  intro n
  induction n with
  | zero => intros; exact j_none
  | succ n ih => exact tsX2_findPull_7 hC   ih
set_option maxRecDepth 20000 in
set_option maxHeartbeats 4000000 in
theorem kt_X2_findPull {l : Launch} {ad : Nat → Nat} {cid : Nat → ClassId} {D : va_G} (hL : lyOk ad) {n0 : Nat} (h0 : isFe n0) (M : Mem) (x1 : Int32) : Ct (qI ad cid) l ad cid D yX2_findPull cX2_findPull 6 (some .int) 0 0 [.ref (ad n0), .int x1] M (fX2_findPull M n0 x1) := by
  refine ct_of (own := RX2) (lv := [some (.ref (ad n0)), some (.int x1), none, none, none, none]) hL (by decide +kernel) rfl rfl (Nat.le_of_ble_eq_true rfl) (fun X hC => ?_)
  unfold fX2_findPull
  refine j_iconst (pc := 0) hC dX2_findPull_0 (v := (-1)) (by decide) ?_
  refine j_istore_n (pc := 1) hC (lv' := [some (.ref (ad n0)), some (.int x1), some (.int (-1 : Int32)), none, none, none]) dX2_findPull_1 (by decide) rfl rfl ?_
  refine j_iconst (pc := 2) hC dX2_findPull_2 (v := 0) (by decide) ?_
  refine j_istore_n (pc := 3) hC (lv' := [some (.ref (ad n0)), some (.int x1), some (.int (-1 : Int32)), some (.int (0 : Int32)), none, none]) dX2_findPull_3 (by decide) rfl rfl ?_
  refine j_iconst (pc := 4) hC dX2_findPull_4 (v := 0) (by decide) ?_
  refine j_istore (pc := 5) hC (lv' := [some (.ref (ad n0)), some (.int x1), some (.int (-1 : Int32)), some (.int (0 : Int32)), some (.int (0 : Int32)), none]) dX2_findPull_5 (by decide) rfl rfl ?_
  exact tlX2_findPull_7 hC fuel M n0 x1 (-1 : Int32) (0 : Int32) (0 : Int32) h0
/-! LastRower$Ferry.settle()V -/
set_option maxRecDepth 20000 in
set_option maxHeartbeats 4000000 in
theorem tsX2_settle_30 {X : Cx} {ad : Nat → Nat} {cid : Nat → ClassId} (hC : Ok X ad cid cX2_settle RX2 2 none 1 25)  {rec30 : Mem → Nat → Int32 → Option (Mem)} (hrec30 : ∀ (M : Mem) (n0 : Nat) (x1 : Int32), isFe n0 → Jp X ad cid 2 (qm X ad (qV ad cid)) M 30 [some (.ref (ad n0)), some (.int x1)] [] (rec30 M n0 x1)) (M : Mem) (n0 : Nat) (x1 : Int32) (h0 : isFe n0) : Jp X ad cid 2 (qm X ad (qV ad cid)) M 30 [some (.ref (ad n0)), some (.int x1)] [] (sX2_settle_30  rec30 M n0 x1) := by
  unfold sX2_settle_30
  refine j_iload_n (pc := 30) hC dX2_settle_30 rfl ?_
  refine j_aload_n (pc := 31) hC dX2_settle_31 rfl ?_
  refine gX2_34 (pc := 32) hC h0 dX2_settle_32 ?_
  refine j_alen0 (pc := 35) hC (v := 200) (fe_a h0 7 (by decide) (by decide)) (by rw [(fe_n h0 7 (by decide) (by decide))]; rfl) dX2_settle_35 ?_
  refine j_icmp_ge (pc := 36) hC dX2_settle_36 (tgt := 56) (by decide) (fun hb5 => ?_) (fun hb5 => ?_)
  · exact j_vret (pc := 56) hC dX2_settle_56
  · refine j_aload_n (pc := 39) hC dX2_settle_39 rfl ?_
    refine gX2_34 (pc := 40) hC h0 dX2_settle_40 ?_
    refine j_iload_n (pc := 43) hC dX2_settle_43 rfl ?_
    refine j_aload_n (pc := 44) hC dX2_settle_44 rfl ?_
    refine j_iload_n (pc := 45) hC dX2_settle_45 rfl ?_
    refine j_bI (pc := 46) (run_V hC (st := [.int x1, .ref (ad (n0 + 7))]) (kt_X2_findFlow hC.ly h0 M x1) vv_X2_findFlow qw400 (fe_lt h0) (sh_X2 h0) rfl ⟨(Nat.le_of_ble_eq_true rfl), (Nat.le_of_ble_eq_true rfl)⟩ rfl rfl (Nat.le_of_ble_eq_true rfl) dX2_settle_46) (fun M6 r7 => ?_)
    refine j_ck (fun hi8 => ?_)
    refine j_iast (pc := 49) hC (n := 200) (fe_a h0 7 (by decide) (by decide)) (fe_n h0 7 (by decide) (by decide)) hi8 dX2_settle_49 ?_
    refine j_iinc (pc := 50) hC (lv' := [some (.ref (ad n0)), some (.int (x1 + 1))]) dX2_settle_50 rfl (v := 1) (by decide) (by decide) rfl rfl ?_
    refine j_goto (pc := 53) hC dX2_settle_53 (tgt := 30) (by decide) ?_
    exact hrec30 (sM M6 (n0 + 7) x1.toNatClampNeg r7) n0 (x1 + 1) h0
theorem tlX2_settle_30 {X : Cx} {ad : Nat → Nat} {cid : Nat → ClassId} (hC : Ok X ad cid cX2_settle RX2 2 none 1 25)   : ∀ (n : Nat) (M : Mem) (n0 : Nat) (x1 : Int32), isFe n0 → Jp X ad cid 2 (qm X ad (qV ad cid)) M 30 [some (.ref (ad n0)), some (.int x1)] [] (lX2_settle_30  n M n0 x1) := by
  intro n
  induction n with
  | zero => intros; exact j_none
  | succ n ih => exact tsX2_settle_30 hC   ih
set_option maxRecDepth 20000 in
set_option maxHeartbeats 4000000 in
theorem tsX2_settle_2 {X : Cx} {ad : Nat → Nat} {cid : Nat → ClassId} (hC : Ok X ad cid cX2_settle RX2 2 none 1 25)  {rec2 : Mem → Nat → Int32 → Option (Mem)} (hrec2 : ∀ (M : Mem) (n0 : Nat) (x1 : Int32), isFe n0 → Jp X ad cid 2 (qm X ad (qV ad cid)) M 2 [some (.ref (ad n0)), some (.int x1)] [] (rec2 M n0 x1)) (M : Mem) (n0 : Nat) (x1 : Int32) (h0 : isFe n0) : Jp X ad cid 2 (qm X ad (qV ad cid)) M 2 [some (.ref (ad n0)), some (.int x1)] [] (sX2_settle_2  rec2 M n0 x1) := by
  unfold sX2_settle_2
  refine j_iload_n (pc := 2) hC dX2_settle_2 rfl ?_
  refine j_aload_n (pc := 3) hC dX2_settle_3 rfl ?_
  refine gX2_31 (pc := 4) hC h0 dX2_settle_4 ?_
  refine j_alen0 (pc := 7) hC (v := 64) (fe_a h0 6 (by decide) (by decide)) (by rw [(fe_n h0 6 (by decide) (by decide))]; rfl) dX2_settle_7 ?_
  refine j_icmp_ge (pc := 8) hC dX2_settle_8 (tgt := 28) (by decide) (fun hb1 => ?_) (fun hb1 => ?_)
  · refine j_iconst (pc := 28) hC dX2_settle_28 (v := 0) (by decide) ?_
    refine j_istore_n (pc := 29) hC (lv' := [some (.ref (ad n0)), some (.int (0 : Int32))]) dX2_settle_29 (by decide) rfl rfl ?_
    exact tlX2_settle_30 hC fuel M n0 (0 : Int32) h0
  · refine j_aload_n (pc := 11) hC dX2_settle_11 rfl ?_
    refine gX2_31 (pc := 12) hC h0 dX2_settle_12 ?_
    refine j_iload_n (pc := 15) hC dX2_settle_15 rfl ?_
    refine j_aload_n (pc := 16) hC dX2_settle_16 rfl ?_
    refine j_iload_n (pc := 17) hC dX2_settle_17 rfl ?_
    refine j_bI (pc := 18) (run_V hC (st := [.int x1, .ref (ad (n0 + 6))]) (kt_X2_findPull hC.ly h0 M x1) vv_X2_findPull qw396 (fe_lt h0) (sh_X2 h0) rfl ⟨(Nat.le_of_ble_eq_true rfl), (Nat.le_of_ble_eq_true rfl)⟩ rfl rfl (Nat.le_of_ble_eq_true rfl) dX2_settle_18) (fun M2 r3 => ?_)
    refine j_ck (fun hi4 => ?_)
    refine j_iast (pc := 21) hC (n := 64) (fe_a h0 6 (by decide) (by decide)) (fe_n h0 6 (by decide) (by decide)) hi4 dX2_settle_21 ?_
    refine j_iinc (pc := 22) hC (lv' := [some (.ref (ad n0)), some (.int (x1 + 1))]) dX2_settle_22 rfl (v := 1) (by decide) (by decide) rfl rfl ?_
    refine j_goto (pc := 25) hC dX2_settle_25 (tgt := 2) (by decide) ?_
    exact hrec2 (sM M2 (n0 + 6) x1.toNatClampNeg r3) n0 (x1 + 1) h0
theorem tlX2_settle_2 {X : Cx} {ad : Nat → Nat} {cid : Nat → ClassId} (hC : Ok X ad cid cX2_settle RX2 2 none 1 25)   : ∀ (n : Nat) (M : Mem) (n0 : Nat) (x1 : Int32), isFe n0 → Jp X ad cid 2 (qm X ad (qV ad cid)) M 2 [some (.ref (ad n0)), some (.int x1)] [] (lX2_settle_2  n M n0 x1) := by
  intro n
  induction n with
  | zero => intros; exact j_none
  | succ n ih => exact tsX2_settle_2 hC   ih
set_option maxRecDepth 20000 in
set_option maxHeartbeats 4000000 in
theorem kt_X2_settle {l : Launch} {ad : Nat → Nat} {cid : Nat → ClassId} {D : va_G} (hL : lyOk ad) {n0 : Nat} (h0 : isFe n0) (M : Mem)  : Ct (qV ad cid) l ad cid D yX2_settle cX2_settle 2 none 1 25 [.ref (ad n0)] M (fX2_settle M n0) := by
  refine ct_of (own := RX2) (lv := [some (.ref (ad n0)), none]) hL (by decide +kernel) rfl rfl (Nat.le_of_ble_eq_true rfl) (fun X hC => ?_)
  unfold fX2_settle
  refine j_iconst (pc := 0) hC dX2_settle_0 (v := 0) (by decide) ?_
  refine j_istore_n (pc := 1) hC (lv' := [some (.ref (ad n0)), some (.int (0 : Int32))]) dX2_settle_1 (by decide) rfl rfl ?_
  exact tlX2_settle_2 hC fuel M n0 (0 : Int32) h0
/-! LastRower$Ferry.addCurrent(II)V -/
set_option maxRecDepth 20000 in
set_option maxHeartbeats 4000000 in
theorem kt_X2_addCurrent {l : Launch} {ad : Nat → Nat} {cid : Nat → ClassId} {D : va_G} (hL : lyOk ad) {n0 : Nat} (h0 : isFe n0) (M : Mem) (x1 : Int32) (x2 : Int32) : Ct (qV ad cid) l ad cid D yX2_addCurrent cX2_addCurrent 3 none 0 0 [.ref (ad n0), .int x1, .int x2] M (fX2_addCurrent M n0 x1 x2) := by
  refine ct_of (own := RX2) (lv := [some (.ref (ad n0)), some (.int x1), some (.int x2)]) hL (by decide +kernel) rfl rfl (Nat.le_of_ble_eq_true rfl) (fun X hC => ?_)
  unfold fX2_addCurrent
  refine j_aload_n (pc := 0) hC dX2_addCurrent_0 rfl ?_
  refine gX2_40 (pc := 1) hC h0 dX2_addCurrent_1 ?_
  refine j_iconst (pc := 4) hC dX2_addCurrent_4 (v := 4) (by decide) ?_
  refine j_icmp_ge (pc := 5) hC dX2_addCurrent_5 (tgt := 38) (by decide) (fun hb1 => ?_) (fun hb1 => ?_)
  · exact j_vret (pc := 38) hC dX2_addCurrent_38
  · refine j_aload_n (pc := 8) hC dX2_addCurrent_8 rfl ?_
    refine gX2_21 (pc := 9) hC h0 dX2_addCurrent_9 ?_
    refine j_aload_n (pc := 12) hC dX2_addCurrent_12 rfl ?_
    refine gX2_40 (pc := 13) hC h0 dX2_addCurrent_13 ?_
    refine j_iload_n (pc := 16) hC dX2_addCurrent_16 rfl ?_
    refine j_ck (fun hi2 => ?_)
    refine j_iast (pc := 17) hC (n := 4) (fe_a h0 4 (by decide) (by decide)) (fe_n h0 4 (by decide) (by decide)) hi2 dX2_addCurrent_17 ?_
    refine j_aload_n (pc := 18) hC dX2_addCurrent_18 rfl ?_
    refine gX2_24 (pc := 19) hC h0 dX2_addCurrent_19 ?_
    refine j_aload_n (pc := 22) hC dX2_addCurrent_22 rfl ?_
    refine gX2_40 (pc := 23) hC h0 dX2_addCurrent_23 ?_
    refine j_iload_n (pc := 26) hC dX2_addCurrent_26 rfl ?_
    refine j_ck (fun hi3 => ?_)
    refine j_iast (pc := 27) hC (n := 4) (fe_a h0 5 (by decide) (by decide)) (fe_n h0 5 (by decide) (by decide)) hi3 dX2_addCurrent_27 ?_
    refine j_aload_n (pc := 28) hC dX2_addCurrent_28 rfl ?_
    refine j_dup (pc := 29) hC dX2_addCurrent_29 rfl ?_
    refine gX2_40 (pc := 30) hC h0 dX2_addCurrent_30 ?_
    refine j_iconst (pc := 33) hC dX2_addCurrent_33 (v := 1) (by decide) ?_
    refine j_iadd (pc := 34) hC dX2_addCurrent_34 ?_
    refine pX2_40 (pc := 35) hC h0 dX2_addCurrent_35 ?_
    exact j_vret (pc := 38) hC dX2_addCurrent_38
/-! LastRower$Ferry.hasCurrentFrom(I)Z -/
set_option maxRecDepth 20000 in
set_option maxHeartbeats 4000000 in
theorem tsX2_hasCurrentFrom_2 {X : Cx} {ad : Nat → Nat} {cid : Nat → ClassId} (hC : Ok X ad cid cX2_hasCurrentFrom RX2 3 (some .boolean) 0 0)  {rec2 : Mem → Nat → Int32 → Int32 → Option (Mem × Int32)} (hrec2 : ∀ (M : Mem) (n0 : Nat) (x1 : Int32) (x2 : Int32), isFe n0 → Jp X ad cid 3 (qm X ad (qI ad cid)) M 2 [some (.ref (ad n0)), some (.int x1), some (.int x2)] [] (rec2 M n0 x1 x2)) (M : Mem) (n0 : Nat) (x1 : Int32) (x2 : Int32) (h0 : isFe n0) : Jp X ad cid 3 (qm X ad (qI ad cid)) M 2 [some (.ref (ad n0)), some (.int x1), some (.int x2)] [] (sX2_hasCurrentFrom_2  rec2 M n0 x1 x2) := by
  unfold sX2_hasCurrentFrom_2
  refine j_iload_n (pc := 2) hC dX2_hasCurrentFrom_2 rfl ?_
  refine j_aload_n (pc := 3) hC dX2_hasCurrentFrom_3 rfl ?_
  refine gX2_40 (pc := 4) hC h0 dX2_hasCurrentFrom_4 ?_
  refine j_icmp_ge (pc := 7) hC dX2_hasCurrentFrom_7 (tgt := 33) (by decide) (fun hb1 => ?_) (fun hb1 => ?_)
  · refine j_iconst (pc := 33) hC dX2_hasCurrentFrom_33 (v := 0) (by decide) ?_
    exact j_zret (pc := 34) hC dX2_hasCurrentFrom_34 (by decide)
  · refine j_iload_n (pc := 10) hC dX2_hasCurrentFrom_10 rfl ?_
    refine j_iconst (pc := 11) hC dX2_hasCurrentFrom_11 (v := 4) (by decide) ?_
    refine j_icmp_ge (pc := 12) hC dX2_hasCurrentFrom_12 (tgt := 33) (by decide) (fun hb2 => ?_) (fun hb2 => ?_)
    · refine j_iconst (pc := 33) hC dX2_hasCurrentFrom_33 (v := 0) (by decide) ?_
      exact j_zret (pc := 34) hC dX2_hasCurrentFrom_34 (by decide)
    · refine j_aload_n (pc := 15) hC dX2_hasCurrentFrom_15 rfl ?_
      refine gX2_21 (pc := 16) hC h0 dX2_hasCurrentFrom_16 ?_
      refine j_iload_n (pc := 19) hC dX2_hasCurrentFrom_19 rfl ?_
      refine j_ck (fun hi3 => ?_)
      refine j_iald (pc := 20) hC (n := 4) (fe_a h0 4 (by decide) (by decide)) (fe_n h0 4 (by decide) (by decide)) hi3 dX2_hasCurrentFrom_20 ?_
      refine j_iload_n (pc := 21) hC dX2_hasCurrentFrom_21 rfl ?_
      refine j_icmp_ne (pc := 22) hC dX2_hasCurrentFrom_22 (tgt := 27) (by decide) (fun hb4 => ?_) (fun hb4 => ?_)
      · refine j_iinc (pc := 27) hC (lv' := [some (.ref (ad n0)), some (.int x1), some (.int (x2 + 1))]) dX2_hasCurrentFrom_27 rfl (v := 1) (by decide) (by decide) rfl rfl ?_
        refine j_goto (pc := 30) hC dX2_hasCurrentFrom_30 (tgt := 2) (by decide) ?_
        exact hrec2 M n0 x1 (x2 + 1) h0
      · refine j_iconst (pc := 25) hC dX2_hasCurrentFrom_25 (v := 1) (by decide) ?_
        exact j_zret (pc := 26) hC dX2_hasCurrentFrom_26 (by decide)
theorem tlX2_hasCurrentFrom_2 {X : Cx} {ad : Nat → Nat} {cid : Nat → ClassId} (hC : Ok X ad cid cX2_hasCurrentFrom RX2 3 (some .boolean) 0 0)   : ∀ (n : Nat) (M : Mem) (n0 : Nat) (x1 : Int32) (x2 : Int32), isFe n0 → Jp X ad cid 3 (qm X ad (qI ad cid)) M 2 [some (.ref (ad n0)), some (.int x1), some (.int x2)] [] (lX2_hasCurrentFrom_2  n M n0 x1 x2) := by
  intro n
  induction n with
  | zero => intros; exact j_none
  | succ n ih => exact tsX2_hasCurrentFrom_2 hC   ih
set_option maxRecDepth 20000 in
set_option maxHeartbeats 4000000 in
theorem kt_X2_hasCurrentFrom {l : Launch} {ad : Nat → Nat} {cid : Nat → ClassId} {D : va_G} (hL : lyOk ad) {n0 : Nat} (h0 : isFe n0) (M : Mem) (x1 : Int32) : Ct (qI ad cid) l ad cid D yX2_hasCurrentFrom cX2_hasCurrentFrom 3 (some .boolean) 0 0 [.ref (ad n0), .int x1] M (fX2_hasCurrentFrom M n0 x1) := by
  refine ct_of (own := RX2) (lv := [some (.ref (ad n0)), some (.int x1), none]) hL (by decide +kernel) rfl rfl (Nat.le_of_ble_eq_true rfl) (fun X hC => ?_)
  unfold fX2_hasCurrentFrom
  refine j_iconst (pc := 0) hC dX2_hasCurrentFrom_0 (v := 0) (by decide) ?_
  refine j_istore_n (pc := 1) hC (lv' := [some (.ref (ad n0)), some (.int x1), some (.int (0 : Int32))]) dX2_hasCurrentFrom_1 (by decide) rfl rfl ?_
  exact tlX2_hasCurrentFrom_2 hC fuel M n0 x1 (0 : Int32) h0
/-! LastRower$Reader.isDigit(I)Z -/
set_option maxRecDepth 20000 in
set_option maxHeartbeats 4000000 in
theorem kt_X10_isDigit {l : Launch} {ad : Nat → Nat} {cid : Nat → ClassId} {D : va_G} (hL : lyOk ad)  (M : Mem) (x0 : Int32) : Ct (qI ad cid) l ad cid D yX10_isDigit cX10_isDigit 1 (some .boolean) 0 0 [.int x0] M (fX10_isDigit M x0) := by
  refine ct_of (own := RX10) (lv := [some (.int x0)]) hL (by decide +kernel) rfl rfl (Nat.le_of_ble_eq_true rfl) (fun X hC => ?_)
  unfold fX10_isDigit
  refine j_iload_n (pc := 0) hC dX10_isDigit_0 rfl ?_
  refine j_bipush (pc := 1) hC dX10_isDigit_1 (v := 48) (by decide) ?_
  refine j_icmp_lt (pc := 3) hC dX10_isDigit_3 (tgt := 16) (by decide) (fun hb1 => ?_) (fun hb1 => ?_)
  · refine j_iconst (pc := 16) hC dX10_isDigit_16 (v := 0) (by decide) ?_
    exact j_zret (pc := 17) hC dX10_isDigit_17 (by decide)
  · refine j_iload_n (pc := 6) hC dX10_isDigit_6 rfl ?_
    refine j_bipush (pc := 7) hC dX10_isDigit_7 (v := 57) (by decide) ?_
    refine j_icmp_gt (pc := 9) hC dX10_isDigit_9 (tgt := 16) (by decide) (fun hb2 => ?_) (fun hb2 => ?_)
    · refine j_iconst (pc := 16) hC dX10_isDigit_16 (v := 0) (by decide) ?_
      exact j_zret (pc := 17) hC dX10_isDigit_17 (by decide)
    · refine j_iconst (pc := 12) hC dX10_isDigit_12 (v := 1) (by decide) ?_
      refine j_goto (pc := 13) hC dX10_isDigit_13 (tgt := 17) (by decide) ?_
      exact j_zret (pc := 17) hC dX10_isDigit_17 (by decide)
/-! LastRower$Reader.readDigits()V -/
set_option maxRecDepth 20000 in
set_option maxHeartbeats 4000000 in
theorem tsX10_readDigits_129 {X : Cx} {ad : Nat → Nat} {cid : Nat → ClassId} (hC : Ok X ad cid cX10_readDigits RX10 2 none 1 20)   (M : Mem) (s1 : Int32)  : Jp X ad cid 2 (qm X ad (qV ad cid)) M 129 [none, none] [.int s1, .ref (ad 1)] (sX10_readDigits_129  M s1) := by
  unfold sX10_readDigits_129
  refine pX10_30 (pc := 129) hC dX10_readDigits_129 ?_
  exact j_vret (pc := 132) hC dX10_readDigits_132
set_option maxRecDepth 20000 in
set_option maxHeartbeats 4000000 in
theorem tsX10_readDigits_106 {X : Cx} {ad : Nat → Nat} {cid : Nat → ClassId} (hC : Ok X ad cid cX10_readDigits RX10 2 none 1 20)   (M : Mem) (s0 : Int32)  : Jp X ad cid 2 (qm X ad (qV ad cid)) M 106 [some (.ref (ad 1)), none] [.int s0] (sX10_readDigits_106  M s0) := by
  unfold sX10_readDigits_106
  refine j_istore_n (pc := 106) hC (lv' := [some (.ref (ad 1)), some (.int s0)]) dX10_readDigits_106 (by decide) rfl rfl ?_
  refine j_aload_n (pc := 107) hC dX10_readDigits_107 rfl ?_
  refine j_iload_n (pc := 108) hC dX10_readDigits_108 rfl ?_
  refine j_if_ne (pc := 109) hC dX10_readDigits_109 (tgt := 122) (by decide) (fun hb10 => ?_) (fun hb10 => ?_)
  · refine j_bipush (pc := 122) hC dX10_readDigits_122 (v := (-3)) (by decide) ?_
    refine j_goto (pc := 124) hC dX10_readDigits_124 (tgt := 129) (by decide) ?_
    refine j_mask [false, false] (lv' := [none, none]) rfl ?_
    exact tsX10_readDigits_129 hC M (-3 : Int32)
  · refine j_aload_n (pc := 112) hC dX10_readDigits_112 rfl ?_
    refine gX10_70 (pc := 113) hC dX10_readDigits_113 ?_
    refine j_sipush (pc := 116) hC dX10_readDigits_116 (v := 200) (by decide) ?_
    refine j_icmp_le (pc := 119) hC dX10_readDigits_119 (tgt := 127) (by decide) (fun hb11 => ?_) (fun hb11 => ?_)
    · refine j_bipush (pc := 127) hC dX10_readDigits_127 (v := (-2)) (by decide) ?_
      refine j_mask [false, false] (lv' := [none, none]) rfl ?_
      exact tsX10_readDigits_129 hC M (-2 : Int32)
    · refine j_bipush (pc := 122) hC dX10_readDigits_122 (v := (-3)) (by decide) ?_
      refine j_goto (pc := 124) hC dX10_readDigits_124 (tgt := 129) (by decide) ?_
      refine j_mask [false, false] (lv' := [none, none]) rfl ?_
      exact tsX10_readDigits_129 hC M (-3 : Int32)
set_option maxRecDepth 20000 in
set_option maxHeartbeats 4000000 in
theorem tsX10_readDigits_105 {X : Cx} {ad : Nat → Nat} {cid : Nat → ClassId} (hC : Ok X ad cid cX10_readDigits RX10 2 none 1 20)   (M : Mem)   : Jp X ad cid 2 (qm X ad (qV ad cid)) M 105 [some (.ref (ad 1)), none] [] (sX10_readDigits_105  M) := by
  unfold sX10_readDigits_105
  refine j_iconst (pc := 105) hC dX10_readDigits_105 (v := 0) (by decide) ?_
  exact tsX10_readDigits_106 hC M (0 : Int32)
set_option maxRecDepth 20000 in
set_option maxHeartbeats 4000000 in
theorem tsX10_readDigits_74 {X : Cx} {ad : Nat → Nat} {cid : Nat → ClassId} (hC : Ok X ad cid cX10_readDigits RX10 2 none 1 20)   (M : Mem)   : Jp X ad cid 2 (qm X ad (qV ad cid)) M 74 [some (.ref (ad 1)), none] [] (sX10_readDigits_74  M) := by
  unfold sX10_readDigits_74
  refine j_aload_n (pc := 74) hC dX10_readDigits_74 rfl ?_
  refine gX10_9 (pc := 75) hC dX10_readDigits_75 ?_
  refine j_aload_n (pc := 78) hC dX10_readDigits_78 rfl ?_
  refine gX10_41 (pc := 79) hC dX10_readDigits_79 ?_
  refine j_ck (fun hi7 => ?_)
  refine j_iald (pc := 82) hC (n := 200) rfl rfl hi7 dX10_readDigits_82 ?_
  refine j_bipush (pc := 83) hC dX10_readDigits_83 (v := 48) (by decide) ?_
  refine j_icmp_ne (pc := 85) hC dX10_readDigits_85 (tgt := 105) (by decide) (fun hb8 => ?_) (fun hb8 => ?_)
  · exact tsX10_readDigits_105 hC M
  · refine j_aload_n (pc := 88) hC dX10_readDigits_88 rfl ?_
    refine gX10_24 (pc := 89) hC dX10_readDigits_89 ?_
    refine j_aload_n (pc := 92) hC dX10_readDigits_92 rfl ?_
    refine gX10_41 (pc := 93) hC dX10_readDigits_93 ?_
    refine j_isub (pc := 96) hC dX10_readDigits_96 ?_
    refine j_iconst (pc := 97) hC dX10_readDigits_97 (v := 1) (by decide) ?_
    refine j_icmp_le (pc := 98) hC dX10_readDigits_98 (tgt := 105) (by decide) (fun hb9 => ?_) (fun hb9 => ?_)
    · exact tsX10_readDigits_105 hC M
    · refine j_iconst (pc := 101) hC dX10_readDigits_101 (v := 1) (by decide) ?_
      refine j_goto (pc := 102) hC dX10_readDigits_102 (tgt := 106) (by decide) ?_
      exact tsX10_readDigits_106 hC M (1 : Int32)
set_option maxRecDepth 20000 in
set_option maxHeartbeats 4000000 in
theorem tsX10_readDigits_5 {X : Cx} {ad : Nat → Nat} {cid : Nat → ClassId} (hC : Ok X ad cid cX10_readDigits RX10 2 none 1 20)  {rec5 : Mem → Option (Mem)} (hrec5 : ∀ (M : Mem) , Jp X ad cid 2 (qm X ad (qV ad cid)) M 5 [some (.ref (ad 1)), none] [] (rec5 M)) (M : Mem)   : Jp X ad cid 2 (qm X ad (qV ad cid)) M 5 [some (.ref (ad 1)), none] [] (sX10_readDigits_5  rec5 M) := by
  unfold sX10_readDigits_5
  refine j_aload_n (pc := 5) hC dX10_readDigits_5 rfl ?_
  refine gX10_24 (pc := 6) hC dX10_readDigits_6 ?_
  refine j_aload_n (pc := 9) hC dX10_readDigits_9 rfl ?_
  refine gX10_15 (pc := 10) hC dX10_readDigits_10 ?_
  refine j_icmp_ge (pc := 13) hC dX10_readDigits_13 (tgt := 74) (by decide) (fun hb1 => ?_) (fun hb1 => ?_)
  · exact tsX10_readDigits_74 hC M
  · refine j_aload_n (pc := 16) hC dX10_readDigits_16 rfl ?_
    refine gX10_9 (pc := 17) hC dX10_readDigits_17 ?_
    refine j_aload_n (pc := 20) hC dX10_readDigits_20 rfl ?_
    refine gX10_24 (pc := 21) hC dX10_readDigits_21 ?_
    refine j_ck (fun hi2 => ?_)
    refine j_iald (pc := 24) hC (n := 200) rfl rfl hi2 dX10_readDigits_24 ?_
    refine j_bI (pc := 25) (run_S hC (st := []) (kt_X10_isDigit hC.ly M (gM M 2 (gM M 1 2).toNatClampNeg)) vs_X10_isDigit qw346 ⟨(Nat.le_of_ble_eq_true rfl), (Nat.le_of_ble_eq_true rfl)⟩ rfl rfl (Nat.le_of_ble_eq_true rfl) dX10_readDigits_25) (fun M3 r4 => ?_)
    refine j_if_eq (pc := 28) hC dX10_readDigits_28 (tgt := 74) (by decide) (fun hb5 => ?_) (fun hb5 => ?_)
    · exact tsX10_readDigits_74 hC M3
    · refine j_aload_n (pc := 31) hC dX10_readDigits_31 rfl ?_
      refine j_aload_n (pc := 32) hC dX10_readDigits_32 rfl ?_
      refine gX10_70 (pc := 33) hC dX10_readDigits_33 ?_
      refine j_bipush (pc := 36) hC dX10_readDigits_36 (v := 10) (by decide) ?_
      refine j_imul (pc := 38) hC dX10_readDigits_38 ?_
      refine j_aload_n (pc := 39) hC dX10_readDigits_39 rfl ?_
      refine gX10_9 (pc := 40) hC dX10_readDigits_40 ?_
      refine j_aload_n (pc := 43) hC dX10_readDigits_43 rfl ?_
      refine gX10_24 (pc := 44) hC dX10_readDigits_44 ?_
      refine j_ck (fun hi6 => ?_)
      refine j_iald (pc := 47) hC (n := 200) rfl rfl hi6 dX10_readDigits_47 ?_
      refine j_iadd (pc := 48) hC dX10_readDigits_48 ?_
      refine j_bipush (pc := 49) hC dX10_readDigits_49 (v := 48) (by decide) ?_
      refine j_isub (pc := 51) hC dX10_readDigits_51 ?_
      refine j_sipush (pc := 52) hC dX10_readDigits_52 (v := 201) (by decide) ?_
      refine j_mmin (pc := 55) hC qw353 qm_min_s qm_i qm_min_c (Nat.le_of_ble_eq_true rfl) (Nat.le_of_ble_eq_true rfl) dX10_readDigits_55 ?_
      refine pX10_70 (pc := 58) hC dX10_readDigits_58 ?_
      refine j_aload_n (pc := 61) hC dX10_readDigits_61 rfl ?_
      refine j_dup (pc := 62) hC dX10_readDigits_62 rfl ?_
      refine gX10_24 (pc := 63) hC dX10_readDigits_63 ?_
      refine j_iconst (pc := 66) hC dX10_readDigits_66 (v := 1) (by decide) ?_
      refine j_iadd (pc := 67) hC dX10_readDigits_67 ?_
      refine pX10_24 (pc := 68) hC dX10_readDigits_68 ?_
      refine j_goto (pc := 71) hC dX10_readDigits_71 (tgt := 5) (by decide) ?_
      exact hrec5 (sM (sM M3 1 5 (if (201 : Int32) < ((((gM M3 1 5) * (10 : Int32)) + (gM M3 2 (gM M3 1 2).toNatClampNeg)) - (48 : Int32)) then (201 : Int32) else ((((gM M3 1 5) * (10 : Int32)) + (gM M3 2 (gM M3 1 2).toNatClampNeg)) - (48 : Int32)))) 1 2 ((gM (sM M3 1 5 (if (201 : Int32) < ((((gM M3 1 5) * (10 : Int32)) + (gM M3 2 (gM M3 1 2).toNatClampNeg)) - (48 : Int32)) then (201 : Int32) else ((((gM M3 1 5) * (10 : Int32)) + (gM M3 2 (gM M3 1 2).toNatClampNeg)) - (48 : Int32)))) 1 2) + (1 : Int32)))
theorem tlX10_readDigits_5 {X : Cx} {ad : Nat → Nat} {cid : Nat → ClassId} (hC : Ok X ad cid cX10_readDigits RX10 2 none 1 20)   : ∀ (n : Nat) (M : Mem) , Jp X ad cid 2 (qm X ad (qV ad cid)) M 5 [some (.ref (ad 1)), none] [] (lX10_readDigits_5  n M) := by
  intro n
  induction n with
  | zero => intros; exact j_none
  | succ n ih => exact tsX10_readDigits_5 hC   ih
set_option maxRecDepth 20000 in
set_option maxHeartbeats 4000000 in
theorem kt_X10_readDigits {l : Launch} {ad : Nat → Nat} {cid : Nat → ClassId} {D : va_G} (hL : lyOk ad)  (M : Mem)  : Ct (qV ad cid) l ad cid D yX10_readDigits cX10_readDigits 2 none 1 20 [.ref (ad 1)] M (fX10_readDigits M ) := by
  refine ct_of (own := RX10) (lv := [some (.ref (ad 1)), none]) hL (by decide +kernel) rfl rfl (Nat.le_of_ble_eq_true rfl) (fun X hC => ?_)
  unfold fX10_readDigits
  refine j_aload_n (pc := 0) hC dX10_readDigits_0 rfl ?_
  refine j_iconst (pc := 1) hC dX10_readDigits_1 (v := 0) (by decide) ?_
  refine pX10_70 (pc := 2) hC dX10_readDigits_2 ?_
  exact tlX10_readDigits_5 hC fuel (sM M 1 5 (0 : Int32))
/-! LastRower$Reader.readToken()V -/
set_option maxRecDepth 20000 in
set_option maxHeartbeats 4000000 in
theorem tsX10_readToken_38 {X : Cx} {ad : Nat → Nat} {cid : Nat → ClassId} (hC : Ok X ad cid cX10_readToken RX10 1 none 2 41)   (M : Mem)   : Jp X ad cid 1 (qm X ad (qV ad cid)) M 38 [some (.ref (ad 1))] [] (sX10_readToken_38  M) := by
  unfold sX10_readToken_38
  refine j_aload_n (pc := 38) hC dX10_readToken_38 rfl ?_
  refine j_aload_n (pc := 39) hC dX10_readToken_39 rfl ?_
  refine gX10_24 (pc := 40) hC dX10_readToken_40 ?_
  refine pX10_41 (pc := 43) hC dX10_readToken_43 ?_
  refine j_aload_n (pc := 46) hC dX10_readToken_46 rfl ?_
  refine gX10_24 (pc := 47) hC dX10_readToken_47 ?_
  refine j_aload_n (pc := 50) hC dX10_readToken_50 rfl ?_
  refine gX10_15 (pc := 51) hC dX10_readToken_51 ?_
  refine j_icmp_lt (pc := 54) hC dX10_readToken_54 (tgt := 65) (by decide) (fun hb4 => ?_) (fun hb4 => ?_)
  · refine j_aload_n (pc := 65) hC dX10_readToken_65 rfl ?_
    refine gX10_9 (pc := 66) hC dX10_readToken_66 ?_
    refine j_aload_n (pc := 69) hC dX10_readToken_69 rfl ?_
    refine gX10_24 (pc := 70) hC dX10_readToken_70 ?_
    refine j_ck (fun hi5 => ?_)
    refine j_iald (pc := 73) hC (n := 200) rfl rfl hi5 dX10_readToken_73 ?_
    refine j_bI (pc := 74) (run_S hC (st := []) (kt_X10_isDigit hC.ly (sM M 1 4 (gM M 1 2)) (gM (sM M 1 4 (gM M 1 2)) 2 (gM (sM M 1 4 (gM M 1 2)) 1 2).toNatClampNeg)) vs_X10_isDigit qw346 ⟨(Nat.le_of_ble_eq_true rfl), (Nat.le_of_ble_eq_true rfl)⟩ rfl rfl (Nat.le_of_ble_eq_true rfl) dX10_readToken_74) (fun M6 r7 => ?_)
    refine j_if_eq (pc := 77) hC dX10_readToken_77 (tgt := 87) (by decide) (fun hb8 => ?_) (fun hb8 => ?_)
    · refine j_aload_n (pc := 87) hC dX10_readToken_87 rfl ?_
      refine j_aload_n (pc := 88) hC dX10_readToken_88 rfl ?_
      refine gX10_9 (pc := 89) hC dX10_readToken_89 ?_
      refine j_aload_n (pc := 92) hC dX10_readToken_92 rfl ?_
      refine gX10_24 (pc := 93) hC dX10_readToken_93 ?_
      refine j_ck (fun hi9 => ?_)
      refine j_iald (pc := 96) hC (n := 200) rfl rfl hi9 dX10_readToken_96 ?_
      refine pX10_30 (pc := 97) hC dX10_readToken_97 ?_
      refine j_aload_n (pc := 100) hC dX10_readToken_100 rfl ?_
      refine j_dup (pc := 101) hC dX10_readToken_101 rfl ?_
      refine gX10_24 (pc := 102) hC dX10_readToken_102 ?_
      refine j_iconst (pc := 105) hC dX10_readToken_105 (v := 1) (by decide) ?_
      refine j_iadd (pc := 106) hC dX10_readToken_106 ?_
      refine pX10_24 (pc := 107) hC dX10_readToken_107 ?_
      exact j_vret (pc := 110) hC dX10_readToken_110
    · refine j_aload_n (pc := 80) hC dX10_readToken_80 rfl ?_
      refine j_bV (pc := 81) (run_V hC (st := []) (kt_X10_readDigits hC.ly M6) vv_X10_readDigits qw349 (by decide) sh_X10 rfl ⟨(Nat.le_of_ble_eq_true rfl), (Nat.le_of_ble_eq_true rfl)⟩ rfl rfl (Nat.le_of_ble_eq_true rfl) dX10_readToken_81) (fun M10 => ?_)
      refine j_goto (pc := 84) hC dX10_readToken_84 (tgt := 110) (by decide) ?_
      exact j_vret (pc := 110) hC dX10_readToken_110
  · refine j_aload_n (pc := 57) hC dX10_readToken_57 rfl ?_
    refine j_iconst (pc := 58) hC dX10_readToken_58 (v := (-1)) (by decide) ?_
    refine pX10_30 (pc := 59) hC dX10_readToken_59 ?_
    refine j_goto (pc := 62) hC dX10_readToken_62 (tgt := 110) (by decide) ?_
    exact j_vret (pc := 110) hC dX10_readToken_110
set_option maxRecDepth 20000 in
set_option maxHeartbeats 4000000 in
theorem tsX10_readToken_0 {X : Cx} {ad : Nat → Nat} {cid : Nat → ClassId} (hC : Ok X ad cid cX10_readToken RX10 1 none 2 41)  {rec0 : Mem → Option (Mem)} (hrec0 : ∀ (M : Mem) , Jp X ad cid 1 (qm X ad (qV ad cid)) M 0 [some (.ref (ad 1))] [] (rec0 M)) (M : Mem)   : Jp X ad cid 1 (qm X ad (qV ad cid)) M 0 [some (.ref (ad 1))] [] (sX10_readToken_0  rec0 M) := by
  unfold sX10_readToken_0
  refine j_aload_n (pc := 0) hC dX10_readToken_0 rfl ?_
  refine gX10_24 (pc := 1) hC dX10_readToken_1 ?_
  refine j_aload_n (pc := 4) hC dX10_readToken_4 rfl ?_
  refine gX10_15 (pc := 5) hC dX10_readToken_5 ?_
  refine j_icmp_ge (pc := 8) hC dX10_readToken_8 (tgt := 38) (by decide) (fun hb1 => ?_) (fun hb1 => ?_)
  · exact tsX10_readToken_38 hC M
  · refine j_aload_n (pc := 11) hC dX10_readToken_11 rfl ?_
    refine gX10_9 (pc := 12) hC dX10_readToken_12 ?_
    refine j_aload_n (pc := 15) hC dX10_readToken_15 rfl ?_
    refine gX10_24 (pc := 16) hC dX10_readToken_16 ?_
    refine j_ck (fun hi2 => ?_)
    refine j_iald (pc := 19) hC (n := 200) rfl rfl hi2 dX10_readToken_19 ?_
    refine j_bipush (pc := 20) hC dX10_readToken_20 (v := 32) (by decide) ?_
    refine j_icmp_ne (pc := 22) hC dX10_readToken_22 (tgt := 38) (by decide) (fun hb3 => ?_) (fun hb3 => ?_)
    · exact tsX10_readToken_38 hC M
    · refine j_aload_n (pc := 25) hC dX10_readToken_25 rfl ?_
      refine j_dup (pc := 26) hC dX10_readToken_26 rfl ?_
      refine gX10_24 (pc := 27) hC dX10_readToken_27 ?_
      refine j_iconst (pc := 30) hC dX10_readToken_30 (v := 1) (by decide) ?_
      refine j_iadd (pc := 31) hC dX10_readToken_31 ?_
      refine pX10_24 (pc := 32) hC dX10_readToken_32 ?_
      refine j_goto (pc := 35) hC dX10_readToken_35 (tgt := 0) (by decide) ?_
      exact hrec0 (sM M 1 2 ((gM M 1 2) + (1 : Int32)))
theorem tlX10_readToken_0 {X : Cx} {ad : Nat → Nat} {cid : Nat → ClassId} (hC : Ok X ad cid cX10_readToken RX10 1 none 2 41)   : ∀ (n : Nat) (M : Mem) , Jp X ad cid 1 (qm X ad (qV ad cid)) M 0 [some (.ref (ad 1))] [] (lX10_readToken_0  n M) := by
  intro n
  induction n with
  | zero => intros; exact j_none
  | succ n ih => exact tsX10_readToken_0 hC   ih
set_option maxRecDepth 20000 in
set_option maxHeartbeats 4000000 in
theorem kt_X10_readToken {l : Launch} {ad : Nat → Nat} {cid : Nat → ClassId} {D : va_G} (hL : lyOk ad)  (M : Mem)  : Ct (qV ad cid) l ad cid D yX10_readToken cX10_readToken 1 none 2 41 [.ref (ad 1)] M (fX10_readToken M ) := by
  refine ct_of (own := RX10) (lv := [some (.ref (ad 1))]) hL (by decide +kernel) rfl rfl (Nat.le_of_ble_eq_true rfl) (fun X hC => ?_)
  unfold fX10_readToken
  exact tlX10_readToken_0 hC fuel M
/-! LastRower$Reader.readNumber(II)Z -/
set_option maxRecDepth 20000 in
set_option maxHeartbeats 4000000 in
theorem kt_X10_readNumber {l : Launch} {ad : Nat → Nat} {cid : Nat → ClassId} {D : va_G} (hL : lyOk ad)  (M : Mem) (x1 : Int32) (x2 : Int32) : Ct (qI ad cid) l ad cid D yX10_readNumber cX10_readNumber 3 (some .boolean) 3 61 [.ref (ad 1), .int x1, .int x2] M (fX10_readNumber M x1 x2) := by
  refine ct_of (own := RX10) (lv := [some (.ref (ad 1)), some (.int x1), some (.int x2)]) hL (by decide +kernel) rfl rfl (Nat.le_of_ble_eq_true rfl) (fun X hC => ?_)
  unfold fX10_readNumber
  refine j_aload_n (pc := 0) hC dX10_readNumber_0 rfl ?_
  refine j_bV (pc := 1) (run_V hC (st := []) (kt_X10_readToken hC.ly M) vv_X10_readToken qw342 (by decide) sh_X10 rfl ⟨(Nat.le_of_ble_eq_true rfl), (Nat.le_of_ble_eq_true rfl)⟩ rfl rfl (Nat.le_of_ble_eq_true rfl) dX10_readNumber_1) (fun M1 => ?_)
  refine j_aload_n (pc := 4) hC dX10_readNumber_4 rfl ?_
  refine gX10_30 (pc := 5) hC dX10_readNumber_5 ?_
  refine j_bipush (pc := 8) hC dX10_readNumber_8 (v := (-2)) (by decide) ?_
  refine j_icmp_ne (pc := 10) hC dX10_readNumber_10 (tgt := 33) (by decide) (fun hb2 => ?_) (fun hb2 => ?_)
  · refine j_iconst (pc := 33) hC dX10_readNumber_33 (v := 0) (by decide) ?_
    exact j_zret (pc := 34) hC dX10_readNumber_34 (by decide)
  · refine j_aload_n (pc := 13) hC dX10_readNumber_13 rfl ?_
    refine gX10_70 (pc := 14) hC dX10_readNumber_14 ?_
    refine j_iload_n (pc := 17) hC dX10_readNumber_17 rfl ?_
    refine j_icmp_lt (pc := 18) hC dX10_readNumber_18 (tgt := 33) (by decide) (fun hb3 => ?_) (fun hb3 => ?_)
    · refine j_iconst (pc := 33) hC dX10_readNumber_33 (v := 0) (by decide) ?_
      exact j_zret (pc := 34) hC dX10_readNumber_34 (by decide)
    · refine j_aload_n (pc := 21) hC dX10_readNumber_21 rfl ?_
      refine gX10_70 (pc := 22) hC dX10_readNumber_22 ?_
      refine j_iload_n (pc := 25) hC dX10_readNumber_25 rfl ?_
      refine j_icmp_gt (pc := 26) hC dX10_readNumber_26 (tgt := 33) (by decide) (fun hb4 => ?_) (fun hb4 => ?_)
      · refine j_iconst (pc := 33) hC dX10_readNumber_33 (v := 0) (by decide) ?_
        exact j_zret (pc := 34) hC dX10_readNumber_34 (by decide)
      · refine j_iconst (pc := 29) hC dX10_readNumber_29 (v := 1) (by decide) ?_
        refine j_goto (pc := 30) hC dX10_readNumber_30 (tgt := 34) (by decide) ?_
        exact j_zret (pc := 34) hC dX10_readNumber_34 (by decide)
/-! LastRower$Reader.readCurrent(LLastRower$Ferry;)Z -/
set_option maxRecDepth 20000 in
set_option maxHeartbeats 4000000 in
theorem kt_X10_readCurrent {l : Launch} {ad : Nat → Nat} {cid : Nat → ClassId} {D : va_G} (hL : lyOk ad) {n1 : Nat} (h1 : isFe n1) (M : Mem)  : Ct (qI ad cid) l ad cid D yX10_readCurrent cX10_readCurrent 3 (some .boolean) 4 83 [.ref (ad 1), .ref (ad n1)] M (fX10_readCurrent M n1) := by
  refine ct_of (own := RX10) (lv := [some (.ref (ad 1)), some (.ref (ad n1)), none]) hL (by decide +kernel) rfl rfl (Nat.le_of_ble_eq_true rfl) (fun X hC => ?_)
  unfold fX10_readCurrent
  refine j_aload_n (pc := 0) hC dX10_readCurrent_0 rfl ?_
  refine j_iconst (pc := 1) hC dX10_readCurrent_1 (v := 0) (by decide) ?_
  refine j_sipush (pc := 2) hC dX10_readCurrent_2 (v := 199) (by decide) ?_
  refine j_bI (pc := 5) (run_V hC (st := []) (kt_X10_readNumber hC.ly M (0 : Int32) (199 : Int32)) vv_X10_readNumber qw364 (by decide) sh_X10 rfl ⟨(Nat.le_of_ble_eq_true rfl), (Nat.le_of_ble_eq_true rfl)⟩ rfl rfl (Nat.le_of_ble_eq_true rfl) dX10_readCurrent_5) (fun M1 r2 => ?_)
  refine j_if_eq (pc := 8) hC dX10_readCurrent_8 (tgt := 22) (by decide) (fun hb3 => ?_) (fun hb3 => ?_)
  · refine j_iconst (pc := 22) hC dX10_readCurrent_22 (v := 0) (by decide) ?_
    exact j_zret (pc := 23) hC dX10_readCurrent_23 (by decide)
  · refine j_aload_n (pc := 11) hC dX10_readCurrent_11 rfl ?_
    refine j_aload_n (pc := 12) hC dX10_readCurrent_12 rfl ?_
    refine gX10_70 (pc := 13) hC dX10_readCurrent_13 ?_
    refine j_bI (pc := 16) (run_V hC (st := []) (kt_X2_hasCurrentFrom hC.ly h1 M1 (gM M1 1 5)) vv_X2_hasCurrentFrom qw376 (fe_lt h1) (sh_X2 h1) rfl ⟨(Nat.le_of_ble_eq_true rfl), (Nat.le_of_ble_eq_true rfl)⟩ rfl rfl (Nat.le_of_ble_eq_true rfl) dX10_readCurrent_16) (fun M4 r5 => ?_)
    refine j_if_eq (pc := 19) hC dX10_readCurrent_19 (tgt := 24) (by decide) (fun hb6 => ?_) (fun hb6 => ?_)
    · refine j_aload_n (pc := 24) hC dX10_readCurrent_24 rfl ?_
      refine gX10_70 (pc := 25) hC dX10_readCurrent_25 ?_
      refine j_istore_n (pc := 28) hC (lv' := [some (.ref (ad 1)), some (.ref (ad n1)), some (.int (gM M4 1 5))]) dX10_readCurrent_28 (by decide) rfl rfl ?_
      refine j_aload_n (pc := 29) hC dX10_readCurrent_29 rfl ?_
      refine j_iconst (pc := 30) hC dX10_readCurrent_30 (v := 0) (by decide) ?_
      refine j_bipush (pc := 31) hC dX10_readCurrent_31 (v := 8) (by decide) ?_
      refine j_bI (pc := 33) (run_V hC (st := []) (kt_X10_readNumber hC.ly M4 (0 : Int32) (8 : Int32)) vv_X10_readNumber qw364 (by decide) sh_X10 rfl ⟨(Nat.le_of_ble_eq_true rfl), (Nat.le_of_ble_eq_true rfl)⟩ rfl rfl (Nat.le_of_ble_eq_true rfl) dX10_readCurrent_33) (fun M7 r8 => ?_)
      refine j_if_ne (pc := 36) hC dX10_readCurrent_36 (tgt := 41) (by decide) (fun hb9 => ?_) (fun hb9 => ?_)
      · refine j_aload_n (pc := 41) hC dX10_readCurrent_41 rfl ?_
        refine j_iload_n (pc := 42) hC dX10_readCurrent_42 rfl ?_
        refine j_aload_n (pc := 43) hC dX10_readCurrent_43 rfl ?_
        refine gX10_70 (pc := 44) hC dX10_readCurrent_44 ?_
        refine j_bV (pc := 47) (run_V hC (st := []) (kt_X2_addCurrent hC.ly h1 M7 (gM M4 1 5) (gM M7 1 5)) vv_X2_addCurrent qw380 (fe_lt h1) (sh_X2 h1) rfl ⟨(Nat.le_of_ble_eq_true rfl), (Nat.le_of_ble_eq_true rfl)⟩ rfl rfl (Nat.le_of_ble_eq_true rfl) dX10_readCurrent_47) (fun M10 => ?_)
        refine j_iconst (pc := 50) hC dX10_readCurrent_50 (v := 1) (by decide) ?_
        exact j_zret (pc := 51) hC dX10_readCurrent_51 (by decide)
      · refine j_iconst (pc := 39) hC dX10_readCurrent_39 (v := 0) (by decide) ?_
        exact j_zret (pc := 40) hC dX10_readCurrent_40 (by decide)
    · refine j_iconst (pc := 22) hC dX10_readCurrent_22 (v := 0) (by decide) ?_
      exact j_zret (pc := 23) hC dX10_readCurrent_23 (by decide)
/-! LastRower$Ferry.addPassenger(III)V -/
set_option maxRecDepth 20000 in
set_option maxHeartbeats 4000000 in
theorem kt_X2_addPassenger {l : Launch} {ad : Nat → Nat} {cid : Nat → ClassId} {D : va_G} (hL : lyOk ad) {n0 : Nat} (h0 : isFe n0) (M : Mem) (x1 : Int32) (x2 : Int32) (x3 : Int32) : Ct (qV ad cid) l ad cid D yX2_addPassenger cX2_addPassenger 4 none 0 0 [.ref (ad n0), .int x1, .int x2, .int x3] M (fX2_addPassenger M n0 x1 x2 x3) := by
  refine ct_of (own := RX2) (lv := [some (.ref (ad n0)), some (.int x1), some (.int x2), some (.int x3)]) hL (by decide +kernel) rfl rfl (Nat.le_of_ble_eq_true rfl) (fun X hC => ?_)
  unfold fX2_addPassenger
  refine j_aload_n (pc := 0) hC dX2_addPassenger_0 rfl ?_
  refine gX2_37 (pc := 1) hC h0 dX2_addPassenger_1 ?_
  refine j_bipush (pc := 4) hC dX2_addPassenger_4 (v := 6) (by decide) ?_
  refine j_icmp_ge (pc := 6) hC dX2_addPassenger_6 (tgt := 49) (by decide) (fun hb1 => ?_) (fun hb1 => ?_)
  · exact j_vret (pc := 49) hC dX2_addPassenger_49
  · refine j_aload_n (pc := 9) hC dX2_addPassenger_9 rfl ?_
    refine gX2_9 (pc := 10) hC h0 dX2_addPassenger_10 ?_
    refine j_aload_n (pc := 13) hC dX2_addPassenger_13 rfl ?_
    refine gX2_37 (pc := 14) hC h0 dX2_addPassenger_14 ?_
    refine j_iload_n (pc := 17) hC dX2_addPassenger_17 rfl ?_
    refine j_ck (fun hi2 => ?_)
    refine j_iast (pc := 18) hC (n := 6) (fe_a h0 1 (by decide) (by decide)) (fe_n h0 1 (by decide) (by decide)) hi2 dX2_addPassenger_18 ?_
    refine j_aload_n (pc := 19) hC dX2_addPassenger_19 rfl ?_
    refine gX2_15 (pc := 20) hC h0 dX2_addPassenger_20 ?_
    refine j_aload_n (pc := 23) hC dX2_addPassenger_23 rfl ?_
    refine gX2_37 (pc := 24) hC h0 dX2_addPassenger_24 ?_
    refine j_iload_n (pc := 27) hC dX2_addPassenger_27 rfl ?_
    refine j_ck (fun hi3 => ?_)
    refine j_iast (pc := 28) hC (n := 6) (fe_a h0 2 (by decide) (by decide)) (fe_n h0 2 (by decide) (by decide)) hi3 dX2_addPassenger_28 ?_
    refine j_aload_n (pc := 29) hC dX2_addPassenger_29 rfl ?_
    refine gX2_18 (pc := 30) hC h0 dX2_addPassenger_30 ?_
    refine j_aload_n (pc := 33) hC dX2_addPassenger_33 rfl ?_
    refine gX2_37 (pc := 34) hC h0 dX2_addPassenger_34 ?_
    refine j_iload_n (pc := 37) hC dX2_addPassenger_37 rfl ?_
    refine j_ck (fun hi4 => ?_)
    refine j_iast (pc := 38) hC (n := 6) (fe_a h0 3 (by decide) (by decide)) (fe_n h0 3 (by decide) (by decide)) hi4 dX2_addPassenger_38 ?_
    refine j_aload_n (pc := 39) hC dX2_addPassenger_39 rfl ?_
    refine j_dup (pc := 40) hC dX2_addPassenger_40 rfl ?_
    refine gX2_37 (pc := 41) hC h0 dX2_addPassenger_41 ?_
    refine j_iconst (pc := 44) hC dX2_addPassenger_44 (v := 1) (by decide) ?_
    refine j_iadd (pc := 45) hC dX2_addPassenger_45 ?_
    refine pX2_37 (pc := 46) hC h0 dX2_addPassenger_46 ?_
    exact j_vret (pc := 49) hC dX2_addPassenger_49
/-! LastRower$Reader.readPassenger(LLastRower$Ferry;)Z -/
set_option maxRecDepth 20000 in
set_option maxHeartbeats 4000000 in
theorem kt_X10_readPassenger {l : Launch} {ad : Nat → Nat} {cid : Nat → ClassId} {D : va_G} (hL : lyOk ad) {n1 : Nat} (h1 : isFe n1) (M : Mem)  : Ct (qI ad cid) l ad cid D yX10_readPassenger cX10_readPassenger 4 (some .boolean) 4 83 [.ref (ad 1), .ref (ad n1)] M (fX10_readPassenger M n1) := by
  refine ct_of (own := RX10) (lv := [some (.ref (ad 1)), some (.ref (ad n1)), none, none]) hL (by decide +kernel) rfl rfl (Nat.le_of_ble_eq_true rfl) (fun X hC => ?_)
  unfold fX10_readPassenger
  refine j_aload_n (pc := 0) hC dX10_readPassenger_0 rfl ?_
  refine j_iconst (pc := 1) hC dX10_readPassenger_1 (v := 1) (by decide) ?_
  refine j_bipush (pc := 2) hC dX10_readPassenger_2 (v := 9) (by decide) ?_
  refine j_bI (pc := 4) (run_V hC (st := []) (kt_X10_readNumber hC.ly M (1 : Int32) (9 : Int32)) vv_X10_readNumber qw364 (by decide) sh_X10 rfl ⟨(Nat.le_of_ble_eq_true rfl), (Nat.le_of_ble_eq_true rfl)⟩ rfl rfl (Nat.le_of_ble_eq_true rfl) dX10_readPassenger_4) (fun M1 r2 => ?_)
  refine j_if_ne (pc := 7) hC dX10_readPassenger_7 (tgt := 12) (by decide) (fun hb3 => ?_) (fun hb3 => ?_)
  · refine j_aload_n (pc := 12) hC dX10_readPassenger_12 rfl ?_
    refine gX10_70 (pc := 13) hC dX10_readPassenger_13 ?_
    refine j_istore_n (pc := 16) hC (lv' := [some (.ref (ad 1)), some (.ref (ad n1)), some (.int (gM M1 1 5)), none]) dX10_readPassenger_16 (by decide) rfl rfl ?_
    refine j_aload_n (pc := 17) hC dX10_readPassenger_17 rfl ?_
    refine j_iconst (pc := 18) hC dX10_readPassenger_18 (v := 1) (by decide) ?_
    refine j_bipush (pc := 19) hC dX10_readPassenger_19 (v := 30) (by decide) ?_
    refine j_bI (pc := 21) (run_V hC (st := []) (kt_X10_readNumber hC.ly M1 (1 : Int32) (30 : Int32)) vv_X10_readNumber qw364 (by decide) sh_X10 rfl ⟨(Nat.le_of_ble_eq_true rfl), (Nat.le_of_ble_eq_true rfl)⟩ rfl rfl (Nat.le_of_ble_eq_true rfl) dX10_readPassenger_21) (fun M4 r5 => ?_)
    refine j_if_ne (pc := 24) hC dX10_readPassenger_24 (tgt := 29) (by decide) (fun hb6 => ?_) (fun hb6 => ?_)
    · refine j_aload_n (pc := 29) hC dX10_readPassenger_29 rfl ?_
      refine gX10_70 (pc := 30) hC dX10_readPassenger_30 ?_
      refine j_istore_n (pc := 33) hC (lv' := [some (.ref (ad 1)), some (.ref (ad n1)), some (.int (gM M1 1 5)), some (.int (gM M4 1 5))]) dX10_readPassenger_33 (by decide) rfl rfl ?_
      refine j_aload_n (pc := 34) hC dX10_readPassenger_34 rfl ?_
      refine j_iconst (pc := 35) hC dX10_readPassenger_35 (v := 0) (by decide) ?_
      refine j_iconst (pc := 36) hC dX10_readPassenger_36 (v := 3) (by decide) ?_
      refine j_bI (pc := 37) (run_V hC (st := []) (kt_X10_readNumber hC.ly M4 (0 : Int32) (3 : Int32)) vv_X10_readNumber qw364 (by decide) sh_X10 rfl ⟨(Nat.le_of_ble_eq_true rfl), (Nat.le_of_ble_eq_true rfl)⟩ rfl rfl (Nat.le_of_ble_eq_true rfl) dX10_readPassenger_37) (fun M7 r8 => ?_)
      refine j_if_ne (pc := 40) hC dX10_readPassenger_40 (tgt := 45) (by decide) (fun hb9 => ?_) (fun hb9 => ?_)
      · refine j_aload_n (pc := 45) hC dX10_readPassenger_45 rfl ?_
        refine j_iload_n (pc := 46) hC dX10_readPassenger_46 rfl ?_
        refine j_iload_n (pc := 47) hC dX10_readPassenger_47 rfl ?_
        refine j_aload_n (pc := 48) hC dX10_readPassenger_48 rfl ?_
        refine gX10_70 (pc := 49) hC dX10_readPassenger_49 ?_
        refine j_bV (pc := 52) (run_V hC (st := []) (kt_X2_addPassenger hC.ly h1 M7 (gM M1 1 5) (gM M4 1 5) (gM M7 1 5)) vv_X2_addPassenger qw368 (fe_lt h1) (sh_X2 h1) rfl ⟨(Nat.le_of_ble_eq_true rfl), (Nat.le_of_ble_eq_true rfl)⟩ rfl rfl (Nat.le_of_ble_eq_true rfl) dX10_readPassenger_52) (fun M10 => ?_)
        refine j_iconst (pc := 55) hC dX10_readPassenger_55 (v := 1) (by decide) ?_
        exact j_zret (pc := 56) hC dX10_readPassenger_56 (by decide)
      · refine j_iconst (pc := 43) hC dX10_readPassenger_43 (v := 0) (by decide) ?_
        exact j_zret (pc := 44) hC dX10_readPassenger_44 (by decide)
    · refine j_iconst (pc := 27) hC dX10_readPassenger_27 (v := 0) (by decide) ?_
      exact j_zret (pc := 28) hC dX10_readPassenger_28 (by decide)
  · refine j_iconst (pc := 10) hC dX10_readPassenger_10 (v := 0) (by decide) ?_
    exact j_zret (pc := 11) hC dX10_readPassenger_11 (by decide)
/-! LastRower$Reader.readWide(LLastRower$Ferry;)Z -/
set_option maxRecDepth 20000 in
set_option maxHeartbeats 4000000 in
theorem kt_X10_readWide {l : Launch} {ad : Nat → Nat} {cid : Nat → ClassId} {D : va_G} (hL : lyOk ad) {n1 : Nat} (h1 : isFe n1) (M : Mem)  : Ct (qI ad cid) l ad cid D yX10_readWide cX10_readWide 2 (some .boolean) 4 83 [.ref (ad 1), .ref (ad n1)] M (fX10_readWide M n1) := by
  refine ct_of (own := RX10) (lv := [some (.ref (ad 1)), some (.ref (ad n1))]) hL (by decide +kernel) rfl rfl (Nat.le_of_ble_eq_true rfl) (fun X hC => ?_)
  unfold fX10_readWide
  refine j_aload_n (pc := 0) hC dX10_readWide_0 rfl ?_
  refine j_bipush (pc := 1) hC dX10_readWide_1 (v := 10) (by decide) ?_
  refine j_sipush (pc := 3) hC dX10_readWide_3 (v := 200) (by decide) ?_
  refine j_bI (pc := 6) (run_V hC (st := []) (kt_X10_readNumber hC.ly M (10 : Int32) (200 : Int32)) vv_X10_readNumber qw364 (by decide) sh_X10 rfl ⟨(Nat.le_of_ble_eq_true rfl), (Nat.le_of_ble_eq_true rfl)⟩ rfl rfl (Nat.le_of_ble_eq_true rfl) dX10_readWide_6) (fun M1 r2 => ?_)
  refine j_if_ne (pc := 9) hC dX10_readWide_9 (tgt := 14) (by decide) (fun hb3 => ?_) (fun hb3 => ?_)
  · refine j_aload_n (pc := 14) hC dX10_readWide_14 rfl ?_
    refine j_aload_n (pc := 15) hC dX10_readWide_15 rfl ?_
    refine gX10_70 (pc := 16) hC dX10_readWide_16 ?_
    refine pX10_85 (pc := 19) hC h1 dX10_readWide_19 ?_
    refine j_aload_n (pc := 22) hC dX10_readWide_22 rfl ?_
    refine j_iconst (pc := 23) hC dX10_readWide_23 (v := 1) (by decide) ?_
    refine pX10_59 (pc := 24) hC h1 (by decide) dX10_readWide_24 ?_
    refine j_iconst (pc := 27) hC dX10_readWide_27 (v := 1) (by decide) ?_
    exact j_zret (pc := 28) hC dX10_readWide_28 (by decide)
  · refine j_iconst (pc := 12) hC dX10_readWide_12 (v := 0) (by decide) ?_
    exact j_zret (pc := 13) hC dX10_readWide_13 (by decide)
/-! LastRower$Reader.readItem(LLastRower$Ferry;)Z -/
set_option maxRecDepth 20000 in
set_option maxHeartbeats 4000000 in
theorem kt_X10_readItem {l : Launch} {ad : Nat → Nat} {cid : Nat → ClassId} {D : va_G} (hL : lyOk ad) {n1 : Nat} (h1 : isFe n1) (M : Mem)  : Ct (qI ad cid) l ad cid D yX10_readItem cX10_readItem 2 (some .boolean) 5 106 [.ref (ad 1), .ref (ad n1)] M (fX10_readItem M n1) := by
  refine ct_of (own := RX10) (lv := [some (.ref (ad 1)), some (.ref (ad n1))]) hL (by decide +kernel) rfl rfl (Nat.le_of_ble_eq_true rfl) (fun X hC => ?_)
  unfold fX10_readItem
  refine j_aload_n (pc := 0) hC dX10_readItem_0 rfl ?_
  refine gX10_30 (pc := 1) hC dX10_readItem_1 ?_
  refine j_ite (fun hb1 => ?_) (fun hb1 => ?_)
  · refine j_look (pc := 4) hC dX10_readItem_4 rfl (by rw [hb1]) (tgt := 63) (by decide) ?_
    refine j_aload_n (pc := 63) hC dX10_readItem_63 rfl ?_
    refine gX10_53 (pc := 64) hC h1 dX10_readItem_64 ?_
    refine j_iconst (pc := 67) hC dX10_readItem_67 (v := 4) (by decide) ?_
    refine j_icmp_ge (pc := 68) hC dX10_readItem_68 (tgt := 83) (by decide) (fun hb2 => ?_) (fun hb2 => ?_)
    · refine j_iconst (pc := 83) hC dX10_readItem_83 (v := 0) (by decide) ?_
      exact j_zret (pc := 84) hC dX10_readItem_84 (by decide)
    · refine j_aload_n (pc := 71) hC dX10_readItem_71 rfl ?_
      refine j_aload_n (pc := 72) hC dX10_readItem_72 rfl ?_
      refine j_bI (pc := 73) (run_V hC (st := []) (kt_X10_readCurrent hC.ly h1 M) vv_X10_readCurrent qw372 (by decide) sh_X10 rfl ⟨(Nat.le_of_ble_eq_true rfl), (Nat.le_of_ble_eq_true rfl)⟩ rfl rfl (Nat.le_of_ble_eq_true rfl) dX10_readItem_73) (fun M3 r4 => ?_)
      refine j_if_eq (pc := 76) hC dX10_readItem_76 (tgt := 83) (by decide) (fun hb5 => ?_) (fun hb5 => ?_)
      · refine j_iconst (pc := 83) hC dX10_readItem_83 (v := 0) (by decide) ?_
        exact j_zret (pc := 84) hC dX10_readItem_84 (by decide)
      · refine j_iconst (pc := 79) hC dX10_readItem_79 (v := 1) (by decide) ?_
        refine j_goto (pc := 80) hC dX10_readItem_80 (tgt := 84) (by decide) ?_
        exact j_zret (pc := 84) hC dX10_readItem_84 (by decide)
  refine j_ite (fun hb6 => ?_) (fun hb6 => ?_)
  · refine j_look (pc := 4) hC dX10_readItem_4 rfl (by rw [hb6]) (tgt := 40) (by decide) ?_
    refine j_aload_n (pc := 40) hC dX10_readItem_40 rfl ?_
    refine gX10_47 (pc := 41) hC h1 dX10_readItem_41 ?_
    refine j_bipush (pc := 44) hC dX10_readItem_44 (v := 6) (by decide) ?_
    refine j_icmp_ge (pc := 46) hC dX10_readItem_46 (tgt := 61) (by decide) (fun hb7 => ?_) (fun hb7 => ?_)
    · refine j_iconst (pc := 61) hC dX10_readItem_61 (v := 0) (by decide) ?_
      exact j_zret (pc := 62) hC dX10_readItem_62 (by decide)
    · refine j_aload_n (pc := 49) hC dX10_readItem_49 rfl ?_
      refine j_aload_n (pc := 50) hC dX10_readItem_50 rfl ?_
      refine j_bI (pc := 51) (run_V hC (st := []) (kt_X10_readPassenger hC.ly h1 M) vv_X10_readPassenger qw360 (by decide) sh_X10 rfl ⟨(Nat.le_of_ble_eq_true rfl), (Nat.le_of_ble_eq_true rfl)⟩ rfl rfl (Nat.le_of_ble_eq_true rfl) dX10_readItem_51) (fun M8 r9 => ?_)
      refine j_if_eq (pc := 54) hC dX10_readItem_54 (tgt := 61) (by decide) (fun hb10 => ?_) (fun hb10 => ?_)
      · refine j_iconst (pc := 61) hC dX10_readItem_61 (v := 0) (by decide) ?_
        exact j_zret (pc := 62) hC dX10_readItem_62 (by decide)
      · refine j_iconst (pc := 57) hC dX10_readItem_57 (v := 1) (by decide) ?_
        refine j_goto (pc := 58) hC dX10_readItem_58 (tgt := 62) (by decide) ?_
        exact j_zret (pc := 62) hC dX10_readItem_62 (by decide)
  refine j_ite (fun hb11 => ?_) (fun hb11 => ?_)
  · refine j_look (pc := 4) hC dX10_readItem_4 rfl (by rw [hb11]) (tgt := 85) (by decide) ?_
    refine j_aload_n (pc := 85) hC dX10_readItem_85 rfl ?_
    refine gX10_59 (pc := 86) hC h1 dX10_readItem_86 ?_
    refine j_if_ne (pc := 89) hC dX10_readItem_89 (tgt := 104) (by decide) (fun hb12 => ?_) (fun hb12 => ?_)
    · refine j_iconst (pc := 104) hC dX10_readItem_104 (v := 0) (by decide) ?_
      exact j_zret (pc := 105) hC dX10_readItem_105 (by decide)
    · refine j_aload_n (pc := 92) hC dX10_readItem_92 rfl ?_
      refine j_aload_n (pc := 93) hC dX10_readItem_93 rfl ?_
      refine j_bI (pc := 94) (run_V hC (st := []) (kt_X10_readWide hC.ly h1 M) vv_X10_readWide qw384 (by decide) sh_X10 rfl ⟨(Nat.le_of_ble_eq_true rfl), (Nat.le_of_ble_eq_true rfl)⟩ rfl rfl (Nat.le_of_ble_eq_true rfl) dX10_readItem_94) (fun M13 r14 => ?_)
      refine j_if_eq (pc := 97) hC dX10_readItem_97 (tgt := 104) (by decide) (fun hb15 => ?_) (fun hb15 => ?_)
      · refine j_iconst (pc := 104) hC dX10_readItem_104 (v := 0) (by decide) ?_
        exact j_zret (pc := 105) hC dX10_readItem_105 (by decide)
      · refine j_iconst (pc := 100) hC dX10_readItem_100 (v := 1) (by decide) ?_
        refine j_goto (pc := 101) hC dX10_readItem_101 (tgt := 105) (by decide) ?_
        exact j_zret (pc := 105) hC dX10_readItem_105 (by decide)
  refine j_look (pc := 4) hC dX10_readItem_4 rfl (off := 102) (by have z99 := ne_i (n := 99) hb1 (by decide); have z112 := ne_i (n := 112) hb6 (by decide); have z119 := ne_i (n := 119) hb11 (by decide); simp only [Op.lookupswitch.offset]; (try simp); intros; omega) (tgt := 106) (by decide) ?_
  refine j_iconst (pc := 106) hC dX10_readItem_106 (v := 0) (by decide) ?_
  exact j_zret (pc := 107) hC dX10_readItem_107 (by decide)
/-! LastRower$Reader.readSemicolon()Z -/
set_option maxRecDepth 20000 in
set_option maxHeartbeats 4000000 in
theorem kt_X10_readSemicolon {l : Launch} {ad : Nat → Nat} {cid : Nat → ClassId} {D : va_G} (hL : lyOk ad)  (M : Mem)  : Ct (qI ad cid) l ad cid D yX10_readSemicolon cX10_readSemicolon 1 (some .boolean) 3 61 [.ref (ad 1)] M (fX10_readSemicolon M ) := by
  refine ct_of (own := RX10) (lv := [some (.ref (ad 1))]) hL (by decide +kernel) rfl rfl (Nat.le_of_ble_eq_true rfl) (fun X hC => ?_)
  unfold fX10_readSemicolon
  refine j_aload_n (pc := 0) hC dX10_readSemicolon_0 rfl ?_
  refine j_bV (pc := 1) (run_V hC (st := []) (kt_X10_readToken hC.ly M) vv_X10_readToken qw342 (by decide) sh_X10 rfl ⟨(Nat.le_of_ble_eq_true rfl), (Nat.le_of_ble_eq_true rfl)⟩ rfl rfl (Nat.le_of_ble_eq_true rfl) dX10_readSemicolon_1) (fun M1 => ?_)
  refine j_aload_n (pc := 4) hC dX10_readSemicolon_4 rfl ?_
  refine gX10_30 (pc := 5) hC dX10_readSemicolon_5 ?_
  refine j_bipush (pc := 8) hC dX10_readSemicolon_8 (v := 59) (by decide) ?_
  refine j_icmp_ne (pc := 10) hC dX10_readSemicolon_10 (tgt := 17) (by decide) (fun hb2 => ?_) (fun hb2 => ?_)
  · refine j_iconst (pc := 17) hC dX10_readSemicolon_17 (v := 0) (by decide) ?_
    exact j_zret (pc := 18) hC dX10_readSemicolon_18 (by decide)
  · refine j_iconst (pc := 13) hC dX10_readSemicolon_13 (v := 1) (by decide) ?_
    refine j_goto (pc := 14) hC dX10_readSemicolon_14 (tgt := 18) (by decide) ?_
    exact j_zret (pc := 18) hC dX10_readSemicolon_18 (by decide)
/-! LastRower$Reader.readInto(LLastRower$Ferry;)I -/
set_option maxRecDepth 20000 in
set_option maxHeartbeats 4000000 in
theorem tsX10_readInto_63 {X : Cx} {ad : Nat → Nat} {cid : Nat → ClassId} (hC : Ok X ad cid cX10_readInto RX10 3 (some .int) 6 127)   (M : Mem) (n1 : Nat) (x2 : Int32) (h1 : isFe n1) : Jp X ad cid 3 (qm X ad (qI ad cid)) M 63 [none, some (.ref (ad n1)), some (.int x2)] [] (sX10_readInto_63  M n1 x2) := by
  unfold sX10_readInto_63
  refine j_aload_n (pc := 63) hC dX10_readInto_63 rfl ?_
  refine j_bV (pc := 64) (run_V hC (st := []) (kt_X2_settle hC.ly h1 M) vv_X2_settle qw392 (fe_lt h1) (sh_X2 h1) rfl ⟨(Nat.le_of_ble_eq_true rfl), (Nat.le_of_ble_eq_true rfl)⟩ rfl rfl (Nat.le_of_ble_eq_true rfl) dX10_readInto_64) (fun M12 => ?_)
  refine j_iload_n (pc := 67) hC dX10_readInto_67 rfl ?_
  exact j_iret (pc := 68) hC dX10_readInto_68
set_option maxRecDepth 20000 in
set_option maxHeartbeats 4000000 in
theorem tsX10_readInto_45 {X : Cx} {ad : Nat → Nat} {cid : Nat → ClassId} (hC : Ok X ad cid cX10_readInto RX10 3 (some .int) 6 127)   (M : Mem)   : Jp X ad cid 3 (qm X ad (qI ad cid)) M 45 [some (.ref (ad 1)), none, none] [] (sX10_readInto_45  M) := by
  unfold sX10_readInto_45
  refine j_bipush (pc := 45) hC dX10_readInto_45 (v := (-10)) (by decide) ?_
  refine j_aload_n (pc := 47) hC dX10_readInto_47 rfl ?_
  refine gX10_41 (pc := 48) hC dX10_readInto_48 ?_
  refine j_isub (pc := 51) hC dX10_readInto_51 ?_
  exact j_iret (pc := 52) hC dX10_readInto_52
set_option maxRecDepth 20000 in
set_option maxHeartbeats 4000000 in
theorem tsX10_readInto_15 {X : Cx} {ad : Nat → Nat} {cid : Nat → ClassId} (hC : Ok X ad cid cX10_readInto RX10 3 (some .int) 6 127)  {rec15 : Mem → Nat → Int32 → Option (Mem × Int32)} (hrec15 : ∀ (M : Mem) (n1 : Nat) (x2 : Int32), isFe n1 → Jp X ad cid 3 (qm X ad (qI ad cid)) M 15 [some (.ref (ad 1)), some (.ref (ad n1)), some (.int x2)] [] (rec15 M n1 x2)) (M : Mem) (n1 : Nat) (x2 : Int32) (h1 : isFe n1) : Jp X ad cid 3 (qm X ad (qI ad cid)) M 15 [some (.ref (ad 1)), some (.ref (ad n1)), some (.int x2)] [] (sX10_readInto_15  rec15 M n1 x2) := by
  unfold sX10_readInto_15
  refine j_iload_n (pc := 15) hC dX10_readInto_15 rfl ?_
  refine j_sipush (pc := 16) hC dX10_readInto_16 (v := 200) (by decide) ?_
  refine j_icmp_ge (pc := 19) hC dX10_readInto_19 (tgt := 63) (by decide) (fun hb3 => ?_) (fun hb3 => ?_)
  · refine j_mask [false, true, true] (lv' := [none, some (.ref (ad n1)), some (.int x2)]) rfl ?_
    exact tsX10_readInto_63 hC M n1 x2 h1
  · refine j_aload_n (pc := 22) hC dX10_readInto_22 rfl ?_
    refine gX10_30 (pc := 23) hC dX10_readInto_23 ?_
    refine j_iconst (pc := 26) hC dX10_readInto_26 (v := (-1)) (by decide) ?_
    refine j_icmp_eq (pc := 27) hC dX10_readInto_27 (tgt := 63) (by decide) (fun hb4 => ?_) (fun hb4 => ?_)
    · refine j_mask [false, true, true] (lv' := [none, some (.ref (ad n1)), some (.int x2)]) rfl ?_
      exact tsX10_readInto_63 hC M n1 x2 h1
    · refine j_aload_n (pc := 30) hC dX10_readInto_30 rfl ?_
      refine j_aload_n (pc := 31) hC dX10_readInto_31 rfl ?_
      refine j_bI (pc := 32) (run_V hC (st := []) (kt_X10_readItem hC.ly h1 M) vv_X10_readItem qw356 (by decide) sh_X10 rfl ⟨(Nat.le_of_ble_eq_true rfl), (Nat.le_of_ble_eq_true rfl)⟩ rfl rfl (Nat.le_of_ble_eq_true rfl) dX10_readInto_32) (fun M5 r6 => ?_)
      refine j_if_eq (pc := 35) hC dX10_readInto_35 (tgt := 45) (by decide) (fun hb7 => ?_) (fun hb7 => ?_)
      · refine j_mask [true, false, false] (lv' := [some (.ref (ad 1)), none, none]) rfl ?_
        exact tsX10_readInto_45 hC M5
      · refine j_aload_n (pc := 38) hC dX10_readInto_38 rfl ?_
        refine j_bI (pc := 39) (run_V hC (st := []) (kt_X10_readSemicolon hC.ly M5) vv_X10_readSemicolon qw388 (by decide) sh_X10 rfl ⟨(Nat.le_of_ble_eq_true rfl), (Nat.le_of_ble_eq_true rfl)⟩ rfl rfl (Nat.le_of_ble_eq_true rfl) dX10_readInto_39) (fun M8 r9 => ?_)
        refine j_if_ne (pc := 42) hC dX10_readInto_42 (tgt := 53) (by decide) (fun hb10 => ?_) (fun hb10 => ?_)
        · refine j_iinc (pc := 53) hC (lv' := [some (.ref (ad 1)), some (.ref (ad n1)), some (.int (x2 + 1))]) dX10_readInto_53 rfl (v := 1) (by decide) (by decide) rfl rfl ?_
          refine j_aload_n (pc := 56) hC dX10_readInto_56 rfl ?_
          refine j_bV (pc := 57) (run_V hC (st := []) (kt_X10_readToken hC.ly M8) vv_X10_readToken qw342 (by decide) sh_X10 rfl ⟨(Nat.le_of_ble_eq_true rfl), (Nat.le_of_ble_eq_true rfl)⟩ rfl rfl (Nat.le_of_ble_eq_true rfl) dX10_readInto_57) (fun M11 => ?_)
          refine j_goto (pc := 60) hC dX10_readInto_60 (tgt := 15) (by decide) ?_
          exact hrec15 M11 n1 (x2 + 1) h1
        · refine j_mask [true, false, false] (lv' := [some (.ref (ad 1)), none, none]) rfl ?_
          exact tsX10_readInto_45 hC M8
theorem tlX10_readInto_15 {X : Cx} {ad : Nat → Nat} {cid : Nat → ClassId} (hC : Ok X ad cid cX10_readInto RX10 3 (some .int) 6 127)   : ∀ (n : Nat) (M : Mem) (n1 : Nat) (x2 : Int32), isFe n1 → Jp X ad cid 3 (qm X ad (qI ad cid)) M 15 [some (.ref (ad 1)), some (.ref (ad n1)), some (.int x2)] [] (lX10_readInto_15  n M n1 x2) := by
  intro n
  induction n with
  | zero => intros; exact j_none
  | succ n ih => exact tsX10_readInto_15 hC   ih
set_option maxRecDepth 20000 in
set_option maxHeartbeats 4000000 in
theorem kt_X10_readInto {l : Launch} {ad : Nat → Nat} {cid : Nat → ClassId} {D : va_G} (hL : lyOk ad) {n1 : Nat} (h1 : isFe n1) (M : Mem)  : Ct (qI ad cid) l ad cid D yX10_readInto cX10_readInto 3 (some .int) 6 127 [.ref (ad 1), .ref (ad n1)] M (fX10_readInto M n1) := by
  refine ct_of (own := RX10) (lv := [some (.ref (ad 1)), some (.ref (ad n1)), none]) hL (by decide +kernel) rfl rfl (Nat.le_of_ble_eq_true rfl) (fun X hC => ?_)
  unfold fX10_readInto
  refine j_aload_n (pc := 0) hC dX10_readInto_0 rfl ?_
  refine j_bV (pc := 1) (run_V hC (st := []) (kt_X2_empty hC.ly h1 M) vv_X2_empty qw338 (fe_lt h1) (sh_X2 h1) rfl ⟨(Nat.le_of_ble_eq_true rfl), (Nat.le_of_ble_eq_true rfl)⟩ rfl rfl (Nat.le_of_ble_eq_true rfl) dX10_readInto_1) (fun M1 => ?_)
  refine j_aload_n (pc := 4) hC dX10_readInto_4 rfl ?_
  refine j_iconst (pc := 5) hC dX10_readInto_5 (v := 0) (by decide) ?_
  refine pX10_24 (pc := 6) hC dX10_readInto_6 ?_
  refine j_iconst (pc := 9) hC dX10_readInto_9 (v := 0) (by decide) ?_
  refine j_istore_n (pc := 10) hC (lv' := [some (.ref (ad 1)), some (.ref (ad n1)), some (.int (0 : Int32))]) dX10_readInto_10 (by decide) rfl rfl ?_
  refine j_aload_n (pc := 11) hC dX10_readInto_11 rfl ?_
  refine j_bV (pc := 12) (run_V hC (st := []) (kt_X10_readToken hC.ly (sM M1 1 2 (0 : Int32))) vv_X10_readToken qw342 (by decide) sh_X10 rfl ⟨(Nat.le_of_ble_eq_true rfl), (Nat.le_of_ble_eq_true rfl)⟩ rfl rfl (Nat.le_of_ble_eq_true rfl) dX10_readInto_12) (fun M2 => ?_)
  exact tlX10_readInto_15 hC fuel M2 n1 (0 : Int32) h1
/-! LastRower.ferry()I -/
set_option maxRecDepth 20000 in
set_option maxHeartbeats 4000000 in
theorem kt_X11_ferry {l : Launch} {ad : Nat → Nat} {cid : Nat → ClassId} {D : va_G} (hL : lyOk ad)  (M : Mem)  : Ct (qI ad cid) l ad cid D yX11_ferry cX11_ferry 3 (some .int) 7 149 [.ref (ad 0)] M (fX11_ferry M ) := by
  refine ct_of (own := RX11) (lv := [some (.ref (ad 0)), none, none]) hL (by decide +kernel) rfl rfl (Nat.le_of_ble_eq_true rfl) (fun X hC => ?_)
  unfold fX11_ferry
  refine j_aload_n (pc := 0) hC dX11_ferry_0 rfl ?_
  refine gX11_10 (pc := 1) hC dX11_ferry_1 ?_
  refine j_aload_n (pc := 4) hC dX11_ferry_4 rfl ?_
  refine gX11_23 (pc := 5) hC dX11_ferry_5 ?_
  refine j_bI (pc := 8) (run_V hC (st := []) (kt_X10_readInto hC.ly (isFe_feB _) M) vv_X10_readInto qw334 (by decide) sh_X10 rfl ⟨(Nat.le_of_ble_eq_true rfl), (Nat.le_of_ble_eq_true rfl)⟩ rfl rfl (Nat.le_of_ble_eq_true rfl) dX11_ferry_8) (fun M1 r2 => ?_)
  refine j_istore_n (pc := 11) hC (lv' := [some (.ref (ad 0)), some (.int r2), none]) dX11_ferry_11 (by decide) rfl rfl ?_
  refine j_iload_n (pc := 12) hC dX11_ferry_12 rfl ?_
  refine j_if_ge (pc := 13) hC dX11_ferry_13 (tgt := 18) (by decide) (fun hb3 => ?_) (fun hb3 => ?_)
  · refine j_aload_n (pc := 18) hC dX11_ferry_18 rfl ?_
    refine gX11_19 (pc := 19) hC dX11_ferry_19 ?_
    refine j_astore_n (pc := 22) hC (lv' := [some (.ref (ad 0)), some (.int r2), some (.ref (ad (feB (gM M1 0 1))))]) dX11_ferry_22 (by decide) rfl rfl ?_
    refine j_aload_n (pc := 23) hC dX11_ferry_23 rfl ?_
    refine j_aload_n (pc := 24) hC dX11_ferry_24 rfl ?_
    refine gX11_23 (pc := 25) hC dX11_ferry_25 ?_
    refine pX11_19 (pc := 28) hC dX11_ferry_28 ?_
    refine j_aload_n (pc := 31) hC dX11_ferry_31 rfl ?_
    refine j_aload_n (pc := 32) hC dX11_ferry_32 rfl ?_
    refine pX11_23 (pc := 33) hC dX11_ferry_33 ?_
    refine j_aload_n (pc := 36) hC dX11_ferry_36 rfl ?_
    refine gX11_10 (pc := 37) hC dX11_ferry_37 ?_
    refine j_iconst (pc := 40) hC dX11_ferry_40 (v := 0) (by decide) ?_
    refine pX11_91 (pc := 41) hC dX11_ferry_41 ?_
    refine j_aload_n (pc := 44) hC dX11_ferry_44 rfl ?_
    refine gX11_29 (pc := 45) hC dX11_ferry_45 ?_
    refine j_aload_n (pc := 48) hC dX11_ferry_48 rfl ?_
    refine gX11_19 (pc := 49) hC dX11_ferry_49 ?_
    refine j_bV (pc := 52) (run_V hC (st := []) (kt_X4_start hC.ly mo_19 (isFe_feB _) (sM (sM (sM M1 0 1 (gM M1 0 2)) 0 2 (gM M1 0 1)) 1 1 (0 : Int32))) vv_X4_start qw404 (mo_lt mo_19) (sh_X4 mo_19) rfl ⟨(Nat.le_of_ble_eq_true rfl), (Nat.le_of_ble_eq_true rfl)⟩ rfl rfl (Nat.le_of_ble_eq_true rfl) dX11_ferry_52) (fun M4 => ?_)
    refine j_aload_n (pc := 55) hC dX11_ferry_55 rfl ?_
    refine gX11_36 (pc := 56) hC dX11_ferry_56 ?_
    refine j_bV (pc := 59) (run_V hC (st := []) (kt_X8_lose hC.ly M4) vv_X8_lose qw415 (by decide) sh_X8 rfl ⟨(Nat.le_of_ble_eq_true rfl), (Nat.le_of_ble_eq_true rfl)⟩ rfl rfl (Nat.le_of_ble_eq_true rfl) dX11_ferry_59) (fun M5 => ?_)
    refine j_aload_n (pc := 62) hC dX11_ferry_62 rfl ?_
    refine j_iconst (pc := 63) hC dX11_ferry_63 (v := 0) (by decide) ?_
    refine pX11_106 (pc := 64) hC dX11_ferry_64 ?_
    refine j_aload_n (pc := 67) hC dX11_ferry_67 rfl ?_
    refine j_iconst (pc := 68) hC dX11_ferry_68 (v := 0) (by decide) ?_
    refine pX11_109 (pc := 69) hC dX11_ferry_69 ?_
    refine j_iload_n (pc := 72) hC dX11_ferry_72 rfl ?_
    exact j_iret (pc := 73) hC dX11_ferry_73
  · refine j_iload_n (pc := 16) hC dX11_ferry_16 rfl ?_
    exact j_iret (pc := 17) hC dX11_ferry_17
/-! LastRower.first(I)I -/
set_option maxRecDepth 20000 in
set_option maxHeartbeats 4000000 in
theorem kt_X11_first {l : Launch} {ad : Nat → Nat} {cid : Nat → ClassId} {D : va_G} (hL : lyOk ad)  (M : Mem) (x1 : Int32) : Ct (qI ad cid) l ad cid D yX11_first cX11_first 2 (some .int) 1 24 [.ref (ad 0), .int x1] M (fX11_first M x1) := by
  refine ct_of (own := RX11) (lv := [some (.ref (ad 0)), some (.int x1)]) hL (by decide +kernel) rfl rfl (Nat.le_of_ble_eq_true rfl) (fun X hC => ?_)
  unfold fX11_first
  refine j_iload_n (pc := 0) hC dX11_first_0 rfl ?_
  refine j_if_lt (pc := 1) hC dX11_first_1 (tgt := 9) (by decide) (fun hb1 => ?_) (fun hb1 => ?_)
  · refine j_iconst (pc := 9) hC dX11_first_9 (v := (-1)) (by decide) ?_
    exact j_iret (pc := 10) hC dX11_first_10
  · refine j_iload_n (pc := 4) hC dX11_first_4 rfl ?_
    refine j_iconst (pc := 5) hC dX11_first_5 (v := 1) (by decide) ?_
    refine j_icmp_le (pc := 6) hC dX11_first_6 (tgt := 11) (by decide) (fun hb2 => ?_) (fun hb2 => ?_)
    · refine j_aload_n (pc := 11) hC dX11_first_11 rfl ?_
      refine gX11_19 (pc := 12) hC dX11_first_12 ?_
      refine gX11_189 (pc := 15) hC (isFe_feB _) dX11_first_15 ?_
      refine j_if_ne (pc := 18) hC dX11_first_18 (tgt := 24) (by decide) (fun hb3 => ?_) (fun hb3 => ?_)
      · refine j_iload_n (pc := 24) hC dX11_first_24 rfl ?_
        refine j_if_ne (pc := 25) hC dX11_first_25 (tgt := 46) (by decide) (fun hb4 => ?_) (fun hb4 => ?_)
        · refine j_aload_n (pc := 46) hC dX11_first_46 rfl ?_
          refine gX11_29 (pc := 47) hC dX11_first_47 ?_
          refine j_aload_n (pc := 50) hC dX11_first_50 rfl ?_
          refine gX11_19 (pc := 51) hC dX11_first_51 ?_
          refine j_aload_n (pc := 54) hC dX11_first_54 rfl ?_
          refine gX11_29 (pc := 55) hC dX11_first_55 ?_
          refine gX11_192 (pc := 58) hC mo_19 dX11_first_58 ?_
          refine j_bI (pc := 61) (run_V hC (st := []) (kt_X4_whoIsDueAt hC.ly mo_19 (isFe_feB _) M (gM M 19 5)) vv_X4_whoIsDueAt qw546 (mo_lt mo_19) (sh_X4 mo_19) rfl ⟨(Nat.le_of_ble_eq_true rfl), (Nat.le_of_ble_eq_true rfl)⟩ rfl rfl (Nat.le_of_ble_eq_true rfl) dX11_first_61) (fun M5 r6 => ?_)
          exact j_iret (pc := 64) hC dX11_first_64
        · refine j_aload_n (pc := 28) hC dX11_first_28 rfl ?_
          refine gX11_29 (pc := 29) hC dX11_first_29 ?_
          refine gX11_192 (pc := 32) hC mo_19 dX11_first_32 ?_
          refine j_aload_n (pc := 35) hC dX11_first_35 rfl ?_
          refine gX11_29 (pc := 36) hC dX11_first_36 ?_
          refine gX11_137 (pc := 39) hC mo_19 dX11_first_39 ?_
          refine j_isub (pc := 42) hC dX11_first_42 ?_
          refine j_goto (pc := 43) hC dX11_first_43 (tgt := 64) (by decide) ?_
          exact j_iret (pc := 64) hC dX11_first_64
      · refine j_bipush (pc := 21) hC dX11_first_21 (v := (-9)) (by decide) ?_
        exact j_iret (pc := 23) hC dX11_first_23
    · refine j_iconst (pc := 9) hC dX11_first_9 (v := (-1)) (by decide) ?_
      exact j_iret (pc := 10) hC dX11_first_10
