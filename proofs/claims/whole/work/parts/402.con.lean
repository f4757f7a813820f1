/-! LastRower.forget()I -/
set_option maxRecDepth 20000 in
set_option maxHeartbeats 4000000 in
theorem kt_X11_forget {l : Launch} {ad : Nat → Nat} {cid : Nat → ClassId} {D : va_G} (hL : lyOk ad)  (M : Mem)  : Ct (qI ad cid) l ad cid D yX11_forget cX11_forget 2 (some .int) 0 0 [.ref (ad 0)] M (fX11_forget M ) := by
  refine ct_of (own := RX11) (lv := [some (.ref (ad 0)), none]) hL (by decide +kernel) rfl rfl (Nat.le_of_ble_eq_true rfl) (fun X hC => ?_)
  unfold fX11_forget
  refine j_aload_n (pc := 0) hC dX11_forget_0 rfl ?_
  refine gX11_109 (pc := 1) hC dX11_forget_1 ?_
  refine j_istore_n (pc := 4) hC (lv' := [some (.ref (ad 0)), some (.int (gM M 0 9))]) dX11_forget_4 (by decide) rfl rfl ?_
  refine j_aload_n (pc := 5) hC dX11_forget_5 rfl ?_
  refine j_iconst (pc := 6) hC dX11_forget_6 (v := 0) (by decide) ?_
  refine pX11_109 (pc := 7) hC dX11_forget_7 ?_
  refine j_iload_n (pc := 10) hC dX11_forget_10 rfl ?_
  exact j_iret (pc := 11) hC dX11_forget_11
/-! LastRower.greatestShared(II)I -/
set_option maxRecDepth 20000 in
set_option maxHeartbeats 4000000 in
theorem tsX11_greatestShared_7 {X : Cx} {ad : Nat → Nat} {cid : Nat → ClassId} (hC : Ok X ad cid cX11_greatestShared RX11 6 (some .int) 0 0)  {rec7 : Mem → Int32 → Int32 → Int32 → Option (Mem × Int32)} (hrec7 : ∀ (M : Mem) (x2 : Int32) (x3 : Int32) (x4 : Int32), Jp X ad cid 6 (qm X ad (qI ad cid)) M 7 [none, none, some (.int x2), some (.int x3), some (.int x4), none] [] (rec7 M x2 x3 x4)) (M : Mem) (x2 : Int32) (x3 : Int32) (x4 : Int32)  : Jp X ad cid 6 (qm X ad (qI ad cid)) M 7 [none, none, some (.int x2), some (.int x3), some (.int x4), none] [] (sX11_greatestShared_7  rec7 M x2 x3 x4) := by
  unfold sX11_greatestShared_7
  refine j_iload (pc := 7) hC dX11_greatestShared_7 rfl ?_
  refine j_bipush (pc := 9) hC dX11_greatestShared_9 (v := 64) (by decide) ?_
  refine j_icmp_ge (pc := 11) hC dX11_greatestShared_11 (tgt := 34) (by decide) (fun hb1 => ?_) (fun hb1 => ?_)
  · refine j_iload_n (pc := 34) hC dX11_greatestShared_34 rfl ?_
    exact j_iret (pc := 35) hC dX11_greatestShared_35
  · refine j_iload_n (pc := 14) hC dX11_greatestShared_14 rfl ?_
    refine j_if_eq (pc := 15) hC dX11_greatestShared_15 (tgt := 34) (by decide) (fun hb2 => ?_) (fun hb2 => ?_)
    · refine j_iload_n (pc := 34) hC dX11_greatestShared_34 rfl ?_
      exact j_iret (pc := 35) hC dX11_greatestShared_35
    · refine j_iload_n (pc := 18) hC dX11_greatestShared_18 rfl ?_
      refine j_iload_n (pc := 19) hC dX11_greatestShared_19 rfl ?_
      refine j_ck (fun hz3 => ?_)
      refine j_irem (pc := 20) hC dX11_greatestShared_20 hz3 ?_
      refine j_istore (pc := 21) hC (lv' := [none, none, some (.int x2), some (.int x3), some (.int x4), some (.int (x2 - x2 / x3 * x3))]) dX11_greatestShared_21 (by decide) rfl rfl ?_
      refine j_iload_n (pc := 23) hC dX11_greatestShared_23 rfl ?_
      refine j_istore_n (pc := 24) hC (lv' := [none, none, some (.int x3), some (.int x3), some (.int x4), some (.int (x2 - x2 / x3 * x3))]) dX11_greatestShared_24 (by decide) rfl rfl ?_
      refine j_iload (pc := 25) hC dX11_greatestShared_25 rfl ?_
      refine j_istore_n (pc := 27) hC (lv' := [none, none, some (.int x3), some (.int (x2 - x2 / x3 * x3)), some (.int x4), some (.int (x2 - x2 / x3 * x3))]) dX11_greatestShared_27 (by decide) rfl rfl ?_
      refine j_iinc (pc := 28) hC (lv' := [none, none, some (.int x3), some (.int (x2 - x2 / x3 * x3)), some (.int (x4 + 1)), some (.int (x2 - x2 / x3 * x3))]) dX11_greatestShared_28 rfl (v := 1) (by decide) (by decide) rfl rfl ?_
      refine j_goto (pc := 31) hC dX11_greatestShared_31 (tgt := 7) (by decide) ?_
      refine j_mask [false, false, true, true, true, false] (lv' := [none, none, some (.int x3), some (.int (x2 - x2 / x3 * x3)), some (.int (x4 + 1)), none]) rfl ?_
      exact hrec7 M x3 (x2 - x2 / x3 * x3) (x4 + 1)
theorem tlX11_greatestShared_7 {X : Cx} {ad : Nat → Nat} {cid : Nat → ClassId} (hC : Ok X ad cid cX11_greatestShared RX11 6 (some .int) 0 0)   : ∀ (n : Nat) (M : Mem) (x2 : Int32) (x3 : Int32) (x4 : Int32), Jp X ad cid 6 (qm X ad (qI ad cid)) M 7 [none, none, some (.int x2), some (.int x3), some (.int x4), none] [] (lX11_greatestShared_7  n M x2 x3 x4) := by
  intro n
  induction n with
  | zero => intros; exact j_none
  | succ n ih => exact tsX11_greatestShared_7 hC   ih
set_option maxRecDepth 20000 in
set_option maxHeartbeats 4000000 in
theorem kt_X11_greatestShared {l : Launch} {ad : Nat → Nat} {cid : Nat → ClassId} {D : va_G} (hL : lyOk ad)  (M : Mem) (x0 : Int32) (x1 : Int32) : Ct (qI ad cid) l ad cid D yX11_greatestShared cX11_greatestShared 6 (some .int) 0 0 [.int x0, .int x1] M (fX11_greatestShared M x0 x1) := by
  refine ct_of (own := RX11) (lv := [some (.int x0), some (.int x1), none, none, none, none]) hL (by decide +kernel) rfl rfl (Nat.le_of_ble_eq_true rfl) (fun X hC => ?_)
  unfold fX11_greatestShared
  refine j_iload_n (pc := 0) hC dX11_greatestShared_0 rfl ?_
  refine j_istore_n (pc := 1) hC (lv' := [some (.int x0), some (.int x1), some (.int x0), none, none, none]) dX11_greatestShared_1 (by decide) rfl rfl ?_
  refine j_iload_n (pc := 2) hC dX11_greatestShared_2 rfl ?_
  refine j_istore_n (pc := 3) hC (lv' := [some (.int x0), some (.int x1), some (.int x0), some (.int x1), none, none]) dX11_greatestShared_3 (by decide) rfl rfl ?_
  refine j_iconst (pc := 4) hC dX11_greatestShared_4 (v := 0) (by decide) ?_
  refine j_istore (pc := 5) hC (lv' := [some (.int x0), some (.int x1), some (.int x0), some (.int x1), some (.int (0 : Int32)), none]) dX11_greatestShared_5 (by decide) rfl rfl ?_
  refine j_mask [false, false, true, true, true, false] (lv' := [none, none, some (.int x0), some (.int x1), some (.int (0 : Int32)), none]) rfl ?_
  exact tlX11_greatestShared_7 hC fuel M x0 x1 (0 : Int32)
/-! LastRower$Moment.allWords()I -/
set_option maxRecDepth 20000 in
set_option maxHeartbeats 4000000 in
theorem tsX4_allWords_4 {X : Cx} {ad : Nat → Nat} {cid : Nat → ClassId} (hC : Ok X ad cid cX4_allWords RX4 3 (some .int) 0 0)  {rec4 : Mem → Nat → Int32 → Int32 → Option (Mem × Int32)} (hrec4 : ∀ (M : Mem) (n0 : Nat) (x1 : Int32) (x2 : Int32), isMo n0 → Jp X ad cid 3 (qm X ad (qI ad cid)) M 4 [some (.ref (ad n0)), some (.int x1), some (.int x2)] [] (rec4 M n0 x1 x2)) (M : Mem) (n0 : Nat) (x1 : Int32) (x2 : Int32) (h0 : isMo n0) : Jp X ad cid 3 (qm X ad (qI ad cid)) M 4 [some (.ref (ad n0)), some (.int x1), some (.int x2)] [] (sX4_allWords_4  rec4 M n0 x1 x2) := by
  unfold sX4_allWords_4
  refine j_iload_n (pc := 4) hC dX4_allWords_4 rfl ?_
  refine j_bipush (pc := 5) hC dX4_allWords_5 (v := 6) (by decide) ?_
  refine j_icmp_ge (pc := 7) hC dX4_allWords_7 (tgt := 25) (by decide) (fun hb1 => ?_) (fun hb1 => ?_)
  · refine j_iload_n (pc := 25) hC dX4_allWords_25 rfl ?_
    exact j_iret (pc := 26) hC dX4_allWords_26
  · refine j_iload_n (pc := 10) hC dX4_allWords_10 rfl ?_
    refine j_aload_n (pc := 11) hC dX4_allWords_11 rfl ?_
    refine gX4_15 (pc := 12) hC h0 dX4_allWords_12 ?_
    refine j_iload_n (pc := 15) hC dX4_allWords_15 rfl ?_
    refine j_ck (fun hi2 => ?_)
    refine j_iald (pc := 16) hC (n := 6) (mo_2 h0).1 (mo_2 h0).2 hi2 dX4_allWords_16 ?_
    refine j_iadd (pc := 17) hC dX4_allWords_17 ?_
    refine j_istore_n (pc := 18) hC (lv' := [some (.ref (ad n0)), some (.int (x1 + (gM M (n0 + 2) x2.toNatClampNeg))), some (.int x2)]) dX4_allWords_18 (by decide) rfl rfl ?_
    refine j_iinc (pc := 19) hC (lv' := [some (.ref (ad n0)), some (.int (x1 + (gM M (n0 + 2) x2.toNatClampNeg))), some (.int (x2 + 1))]) dX4_allWords_19 rfl (v := 1) (by decide) (by decide) rfl rfl ?_
    refine j_goto (pc := 22) hC dX4_allWords_22 (tgt := 4) (by decide) ?_
    exact hrec4 M n0 (x1 + (gM M (n0 + 2) x2.toNatClampNeg)) (x2 + 1) h0
theorem tlX4_allWords_4 {X : Cx} {ad : Nat → Nat} {cid : Nat → ClassId} (hC : Ok X ad cid cX4_allWords RX4 3 (some .int) 0 0)   : ∀ (n : Nat) (M : Mem) (n0 : Nat) (x1 : Int32) (x2 : Int32), isMo n0 → Jp X ad cid 3 (qm X ad (qI ad cid)) M 4 [some (.ref (ad n0)), some (.int x1), some (.int x2)] [] (lX4_allWords_4  n M n0 x1 x2) := by
  intro n
  induction n with
  | zero => intros; exact j_none
  | succ n ih => exact tsX4_allWords_4 hC   ih
set_option maxRecDepth 20000 in
set_option maxHeartbeats 4000000 in
theorem kt_X4_allWords {l : Launch} {ad : Nat → Nat} {cid : Nat → ClassId} {D : va_G} (hL : lyOk ad) {n0 : Nat} (h0 : isMo n0) (M : Mem)  : Ct (qI ad cid) l ad cid D yX4_allWords cX4_allWords 3 (some .int) 0 0 [.ref (ad n0)] M (fX4_allWords M n0) := by
  refine ct_of (own := RX4) (lv := [some (.ref (ad n0)), none, none]) hL (by decide +kernel) rfl rfl (Nat.le_of_ble_eq_true rfl) (fun X hC => ?_)
  unfold fX4_allWords
  refine j_iconst (pc := 0) hC dX4_allWords_0 (v := 0) (by decide) ?_
  refine j_istore_n (pc := 1) hC (lv' := [some (.ref (ad n0)), some (.int (0 : Int32)), none]) dX4_allWords_1 (by decide) rfl rfl ?_
  refine j_iconst (pc := 2) hC dX4_allWords_2 (v := 0) (by decide) ?_
  refine j_istore_n (pc := 3) hC (lv' := [some (.ref (ad n0)), some (.int (0 : Int32)), some (.int (0 : Int32))]) dX4_allWords_3 (by decide) rfl rfl ?_
  exact tlX4_allWords_4 hC fuel M n0 (0 : Int32) (0 : Int32) h0
/-! LastRower.inBeats(II)I -/
set_option maxRecDepth 20000 in
set_option maxHeartbeats 4000000 in
theorem tsX11_inBeats_50 {X : Cx} {ad : Nat → Nat} {cid : Nat → ClassId} (hC : Ok X ad cid cX11_inBeats RX11 5 (some .int) 3 67)   (M : Mem) (x2 : Int32)  : Jp X ad cid 5 (qm X ad (qI ad cid)) M 50 [some (.ref (ad 0)), none, some (.int x2), some (.ref (ad 82)), none] [] (sX11_inBeats_50  M x2) := by
  unfold sX11_inBeats_50
  refine j_iload_n (pc := 50) hC dX11_inBeats_50 rfl ?_
  refine j_if_ne (pc := 51) hC dX11_inBeats_51 (tgt := 59) (by decide) (fun hb8 => ?_) (fun hb8 => ?_)
  · refine j_iload_n (pc := 59) hC dX11_inBeats_59 rfl ?_
    refine j_iconst (pc := 60) hC dX11_inBeats_60 (v := 1) (by decide) ?_
    refine j_icmp_ne (pc := 61) hC dX11_inBeats_61 (tgt := 71) (by decide) (fun hb9 => ?_) (fun hb9 => ?_)
    · refine j_aload_n (pc := 71) hC dX11_inBeats_71 rfl ?_
      refine j_bI (pc := 72) (run_V hC (st := []) (kt_X4_allWords hC.ly mo_82 M) vv_X4_allWords qw456 (mo_lt mo_82) (sh_X4 mo_82) rfl ⟨(Nat.le_of_ble_eq_true rfl), (Nat.le_of_ble_eq_true rfl)⟩ rfl rfl (Nat.le_of_ble_eq_true rfl) dX11_inBeats_72) (fun M10 r11 => ?_)
      refine j_aload_n (pc := 75) hC dX11_inBeats_75 rfl ?_
      refine gX11_29 (pc := 76) hC dX11_inBeats_76 ?_
      refine j_bI (pc := 79) (run_V hC (st := [.int r11]) (kt_X4_allWords hC.ly mo_19 M10) vv_X4_allWords qw456 (mo_lt mo_19) (sh_X4 mo_19) rfl ⟨(Nat.le_of_ble_eq_true rfl), (Nat.le_of_ble_eq_true rfl)⟩ rfl rfl (Nat.le_of_ble_eq_true rfl) dX11_inBeats_79) (fun M12 r13 => ?_)
      refine j_isub (pc := 82) hC dX11_inBeats_82 ?_
      exact j_iret (pc := 83) hC dX11_inBeats_83
    · refine j_aload_n (pc := 64) hC dX11_inBeats_64 rfl ?_
      refine gX11_131 (pc := 65) hC mo_82 dX11_inBeats_65 ?_
      refine j_goto (pc := 68) hC dX11_inBeats_68 (tgt := 83) (by decide) ?_
      exact j_iret (pc := 83) hC dX11_inBeats_83
  · refine j_aload_n (pc := 54) hC dX11_inBeats_54 rfl ?_
    refine gX11_140 (pc := 55) hC mo_82 dX11_inBeats_55 ?_
    exact j_iret (pc := 58) hC dX11_inBeats_58
set_option maxRecDepth 20000 in
set_option maxHeartbeats 4000000 in
theorem tsX11_inBeats_30 {X : Cx} {ad : Nat → Nat} {cid : Nat → ClassId} (hC : Ok X ad cid cX11_inBeats RX11 5 (some .int) 3 67)  {rec30 : Mem → Int32 → Int32 → Int32 → Option (Mem × Int32)} (hrec30 : ∀ (M : Mem) (x1 : Int32) (x2 : Int32) (x4 : Int32), Jp X ad cid 5 (qm X ad (qI ad cid)) M 30 [some (.ref (ad 0)), some (.int x1), some (.int x2), some (.ref (ad 82)), some (.int x4)] [] (rec30 M x1 x2 x4)) (M : Mem) (x1 : Int32) (x2 : Int32) (x4 : Int32)  : Jp X ad cid 5 (qm X ad (qI ad cid)) M 30 [some (.ref (ad 0)), some (.int x1), some (.int x2), some (.ref (ad 82)), some (.int x4)] [] (sX11_inBeats_30  rec30 M x1 x2 x4) := by
  unfold sX11_inBeats_30
  refine j_iload (pc := 30) hC dX11_inBeats_30 rfl ?_
  refine j_iload_n (pc := 32) hC dX11_inBeats_32 rfl ?_
  refine j_icmp_ge (pc := 33) hC dX11_inBeats_33 (tgt := 50) (by decide) (fun hb6 => ?_) (fun hb6 => ?_)
  · refine j_mask [true, false, true, true, false] (lv' := [some (.ref (ad 0)), none, some (.int x2), some (.ref (ad 82)), none]) rfl ?_
    exact tsX11_inBeats_50 hC M x2
  · refine j_aload_n (pc := 36) hC dX11_inBeats_36 rfl ?_
    refine j_aload_n (pc := 37) hC dX11_inBeats_37 rfl ?_
    refine gX11_19 (pc := 38) hC dX11_inBeats_38 ?_
    refine j_bV (pc := 41) (run_V hC (st := []) (kt_X4_row hC.ly mo_82 (isFe_feB _) M) vv_X4_row qw473 (mo_lt mo_82) (sh_X4 mo_82) rfl ⟨(Nat.le_of_ble_eq_true rfl), (Nat.le_of_ble_eq_true rfl)⟩ rfl rfl (Nat.le_of_ble_eq_true rfl) dX11_inBeats_41) (fun M7 => ?_)
    refine j_iinc (pc := 44) hC (lv' := [some (.ref (ad 0)), some (.int x1), some (.int x2), some (.ref (ad 82)), some (.int (x4 + 1))]) dX11_inBeats_44 rfl (v := 1) (by decide) (by decide) rfl rfl ?_
    refine j_goto (pc := 47) hC dX11_inBeats_47 (tgt := 30) (by decide) ?_
    exact hrec30 M7 x1 x2 (x4 + 1)
theorem tlX11_inBeats_30 {X : Cx} {ad : Nat → Nat} {cid : Nat → ClassId} (hC : Ok X ad cid cX11_inBeats RX11 5 (some .int) 3 67)   : ∀ (n : Nat) (M : Mem) (x1 : Int32) (x2 : Int32) (x4 : Int32), Jp X ad cid 5 (qm X ad (qI ad cid)) M 30 [some (.ref (ad 0)), some (.int x1), some (.int x2), some (.ref (ad 82)), some (.int x4)] [] (lX11_inBeats_30  n M x1 x2 x4) := by
  intro n
  induction n with
  | zero => intros; exact j_none
  | succ n ih => exact tsX11_inBeats_30 hC   ih
set_option maxRecDepth 20000 in
set_option maxHeartbeats 4000000 in
theorem kt_X11_inBeats {l : Launch} {ad : Nat → Nat} {cid : Nat → ClassId} {D : va_G} (hL : lyOk ad)  (M : Mem) (x1 : Int32) (x2 : Int32) : Ct (qI ad cid) l ad cid D yX11_inBeats cX11_inBeats 5 (some .int) 3 67 [.ref (ad 0), .int x1, .int x2] M (fX11_inBeats M x1 x2) := by
  refine ct_of (own := RX11) (lv := [some (.ref (ad 0)), some (.int x1), some (.int x2), none, none]) hL (by decide +kernel) rfl rfl (Nat.le_of_ble_eq_true rfl) (fun X hC => ?_)
  unfold fX11_inBeats
  refine j_iload_n (pc := 0) hC dX11_inBeats_0 rfl ?_
  refine j_if_lt (pc := 1) hC dX11_inBeats_1 (tgt := 20) (by decide) (fun hb1 => ?_) (fun hb1 => ?_)
  · refine j_iconst (pc := 20) hC dX11_inBeats_20 (v := (-1)) (by decide) ?_
    exact j_iret (pc := 21) hC dX11_inBeats_21
  · refine j_iload_n (pc := 4) hC dX11_inBeats_4 rfl ?_
    refine j_sipush (pc := 5) hC dX11_inBeats_5 (v := 200) (by decide) ?_
    refine j_icmp_gt (pc := 8) hC dX11_inBeats_8 (tgt := 20) (by decide) (fun hb2 => ?_) (fun hb2 => ?_)
    · refine j_iconst (pc := 20) hC dX11_inBeats_20 (v := (-1)) (by decide) ?_
      exact j_iret (pc := 21) hC dX11_inBeats_21
    · refine j_iload_n (pc := 11) hC dX11_inBeats_11 rfl ?_
      refine j_if_lt (pc := 12) hC dX11_inBeats_12 (tgt := 20) (by decide) (fun hb3 => ?_) (fun hb3 => ?_)
      · refine j_iconst (pc := 20) hC dX11_inBeats_20 (v := (-1)) (by decide) ?_
        exact j_iret (pc := 21) hC dX11_inBeats_21
      · refine j_iload_n (pc := 15) hC dX11_inBeats_15 rfl ?_
        refine j_iconst (pc := 16) hC dX11_inBeats_16 (v := 2) (by decide) ?_
        refine j_icmp_le (pc := 17) hC dX11_inBeats_17 (tgt := 22) (by decide) (fun hb4 => ?_) (fun hb4 => ?_)
        · refine j_aload_n (pc := 22) hC dX11_inBeats_22 rfl ?_
          refine j_bA (pc := 23) (run_V hC (st := []) (kt_X11_copyOfNow hC.ly M) vv_X11_copyOfNow qw524 (by decide) sh_X11 rfl ⟨(Nat.le_of_ble_eq_true rfl), (Nat.le_of_ble_eq_true rfl)⟩ rfl rfl (Nat.le_of_ble_eq_true rfl) dX11_inBeats_23) (fun M5 => ?_)
          refine j_astore_n (pc := 26) hC (lv' := [some (.ref (ad 0)), some (.int x1), some (.int x2), some (.ref (ad 82)), none]) dX11_inBeats_26 (by decide) rfl rfl ?_
          refine j_iconst (pc := 27) hC dX11_inBeats_27 (v := 0) (by decide) ?_
          refine j_istore (pc := 28) hC (lv' := [some (.ref (ad 0)), some (.int x1), some (.int x2), some (.ref (ad 82)), some (.int (0 : Int32))]) dX11_inBeats_28 (by decide) rfl rfl ?_
          exact tlX11_inBeats_30 hC fuel M5 x1 x2 (0 : Int32)
        · refine j_iconst (pc := 20) hC dX11_inBeats_20 (v := (-1)) (by decide) ?_
          exact j_iret (pc := 21) hC dX11_inBeats_21
/-! LastRower.keep(I)I -/
set_option maxRecDepth 20000 in
set_option maxHeartbeats 4000000 in
theorem kt_X11_keep {l : Launch} {ad : Nat → Nat} {cid : Nat → ClassId} {D : va_G} (hL : lyOk ad)  (M : Mem) (x1 : Int32) : Ct (qI ad cid) l ad cid D yX11_keep cX11_keep 2 (some .int) 1 22 [.ref (ad 0), .int x1] M (fX11_keep M x1) := by
  refine ct_of (own := RX11) (lv := [some (.ref (ad 0)), some (.int x1)]) hL (by decide +kernel) rfl rfl (Nat.le_of_ble_eq_true rfl) (fun X hC => ?_)
  unfold fX11_keep
  refine j_iload_n (pc := 0) hC dX11_keep_0 rfl ?_
  refine j_if_lt (pc := 1) hC dX11_keep_1 (tgt := 9) (by decide) (fun hb1 => ?_) (fun hb1 => ?_)
  · refine j_iconst (pc := 9) hC dX11_keep_9 (v := (-1)) (by decide) ?_
    exact j_iret (pc := 10) hC dX11_keep_10
  · refine j_iload_n (pc := 4) hC dX11_keep_4 rfl ?_
    refine j_iconst (pc := 5) hC dX11_keep_5 (v := 2) (by decide) ?_
    refine j_icmp_lt (pc := 6) hC dX11_keep_6 (tgt := 11) (by decide) (fun hb2 => ?_) (fun hb2 => ?_)
    · refine j_aload_n (pc := 11) hC dX11_keep_11 rfl ?_
      refine gX11_40 (pc := 12) hC dX11_keep_12 ?_
      refine j_iload_n (pc := 15) hC dX11_keep_15 rfl ?_
      refine j_ck (fun hi3 => ?_)
      refine j_aald (pc := 16) hC (n := 2) (b0 := 76) rfl rfl rfl hi3 dX11_keep_16 ?_
      refine j_aload_n (pc := 17) hC dX11_keep_17 rfl ?_
      refine gX11_29 (pc := 18) hC dX11_keep_18 ?_
      refine j_bV (pc := 21) (run_V hC (st := []) (kt_X4_copyFrom hC.ly (mo_I hi3) mo_19 M) vv_X4_copyFrom qw528 (mo_lt (mo_I hi3)) (sh_X4 (mo_I hi3)) rfl ⟨(Nat.le_of_ble_eq_true rfl), (Nat.le_of_ble_eq_true rfl)⟩ rfl rfl (Nat.le_of_ble_eq_true rfl) dX11_keep_21) (fun M4 => ?_)
      refine j_aload_n (pc := 24) hC dX11_keep_24 rfl ?_
      refine j_dup (pc := 25) hC dX11_keep_25 rfl ?_
      refine gX11_106 (pc := 26) hC dX11_keep_26 ?_
      refine j_iconst (pc := 29) hC dX11_keep_29 (v := 1) (by decide) ?_
      refine j_iload_n (pc := 30) hC dX11_keep_30 rfl ?_
      refine j_ishl (pc := 31) hC dX11_keep_31 ?_
      refine j_ior (pc := 32) hC dX11_keep_32 ?_
      refine pX11_106 (pc := 33) hC dX11_keep_33 ?_
      refine j_aload_n (pc := 36) hC dX11_keep_36 rfl ?_
      refine gX11_29 (pc := 37) hC dX11_keep_37 ?_
      refine gX11_137 (pc := 40) hC mo_19 dX11_keep_40 ?_
      exact j_iret (pc := 43) hC dX11_keep_43
    · refine j_iconst (pc := 9) hC dX11_keep_9 (v := (-1)) (by decide) ?_
      exact j_iret (pc := 10) hC dX11_keep_10
/-! LastRower.last()I -/
set_option maxRecDepth 20000 in
set_option maxHeartbeats 4000000 in
theorem kt_X11_last {l : Launch} {ad : Nat → Nat} {cid : Nat → ClassId} {D : va_G} (hL : lyOk ad)  (M : Mem)  : Ct (qI ad cid) l ad cid D yX11_last cX11_last 2 (some .int) 4 90 [.ref (ad 0)] M (fX11_last M ) := by
  refine ct_of (own := RX11) (lv := [some (.ref (ad 0)), none]) hL (by decide +kernel) rfl rfl (Nat.le_of_ble_eq_true rfl) (fun X hC => ?_)
  unfold fX11_last
  refine j_aload_n (pc := 0) hC dX11_last_0 rfl ?_
  refine j_bA (pc := 1) (run_V hC (st := []) (kt_X11_copyOfNow hC.ly M) vv_X11_copyOfNow qw524 (by decide) sh_X11 rfl ⟨(Nat.le_of_ble_eq_true rfl), (Nat.le_of_ble_eq_true rfl)⟩ rfl rfl (Nat.le_of_ble_eq_true rfl) dX11_last_1) (fun M1 => ?_)
  refine j_astore_n (pc := 4) hC (lv' := [some (.ref (ad 0)), some (.ref (ad 82))]) dX11_last_4 (by decide) rfl rfl ?_
  refine j_aload_n (pc := 5) hC dX11_last_5 rfl ?_
  refine j_aload_n (pc := 6) hC dX11_last_6 rfl ?_
  refine gX11_19 (pc := 7) hC dX11_last_7 ?_
  refine j_sipush (pc := 10) hC dX11_last_10 (v := 400) (by decide) ?_
  refine j_bI (pc := 13) (run_V hC (st := []) (kt_X4_rowTillOver hC.ly mo_82 (isFe_feB _) M1 (400 : Int32)) vv_X4_rowTillOver qw533 (mo_lt mo_82) (sh_X4 mo_82) rfl ⟨(Nat.le_of_ble_eq_true rfl), (Nat.le_of_ble_eq_true rfl)⟩ rfl rfl (Nat.le_of_ble_eq_true rfl) dX11_last_13) (fun M2 r3 => ?_)
  refine j_bipush (pc := 16) hC dX11_last_16 (v := (-9)) (by decide) ?_
  refine j_icmp_ne (pc := 18) hC dX11_last_18 (tgt := 26) (by decide) (fun hb4 => ?_) (fun hb4 => ?_)
  · refine j_aload_n (pc := 26) hC dX11_last_26 rfl ?_
    refine gX11_131 (pc := 27) hC mo_82 dX11_last_27 ?_
    exact j_iret (pc := 30) hC dX11_last_30
  · refine j_bipush (pc := 21) hC dX11_last_21 (v := (-9)) (by decide) ?_
    refine j_goto (pc := 23) hC dX11_last_23 (tgt := 30) (by decide) ?_
    exact j_iret (pc := 30) hC dX11_last_30
/-! LastRower$Ferry.everybody()I -/
set_option maxRecDepth 20000 in
set_option maxHeartbeats 4000000 in
theorem kt_X2_everybody {l : Launch} {ad : Nat → Nat} {cid : Nat → ClassId} {D : va_G} (hL : lyOk ad) {n0 : Nat} (h0 : isFe n0) (M : Mem)  : Ct (qI ad cid) l ad cid D yX2_everybody cX2_everybody 1 (some .int) 0 0 [.ref (ad n0)] M (fX2_everybody M n0) := by
  refine ct_of (own := RX2) (lv := [some (.ref (ad n0))]) hL (by decide +kernel) rfl rfl (Nat.le_of_ble_eq_true rfl) (fun X hC => ?_)
  unfold fX2_everybody
  refine j_iconst (pc := 0) hC dX2_everybody_0 (v := 1) (by decide) ?_
  refine j_aload_n (pc := 1) hC dX2_everybody_1 rfl ?_
  refine gX2_37 (pc := 2) hC h0 dX2_everybody_2 ?_
  refine j_ishl (pc := 5) hC dX2_everybody_5 ?_
  refine j_iconst (pc := 6) hC dX2_everybody_6 (v := 1) (by decide) ?_
  refine j_isub (pc := 7) hC dX2_everybody_7 ?_
  exact j_iret (pc := 8) hC dX2_everybody_8
/-! LastRower.mute(I)I -/
set_option maxRecDepth 20000 in
set_option maxHeartbeats 4000000 in
theorem tsX11_mute_53 {X : Cx} {ad : Nat → Nat} {cid : Nat → ClassId} (hC : Ok X ad cid cX11_mute RX11 5 (some .int) 3 67)   (M : Mem) (x3 : Int32)  : Jp X ad cid 5 (qm X ad (qI ad cid)) M 53 [some (.ref (ad 0)), none, none, some (.int x3), none] [] (sX11_mute_53  M x3) := by
  unfold sX11_mute_53
  refine j_aload_n (pc := 53) hC dX11_mute_53 rfl ?_
  refine gX11_19 (pc := 54) hC dX11_mute_54 ?_
  refine j_bI (pc := 57) (run_V hC (st := []) (kt_X2_everybody hC.ly (isFe_feB _) M) vv_X2_everybody qw601 (fe_lt (isFe_feB _)) (sh_X2 (isFe_feB _)) rfl ⟨(Nat.le_of_ble_eq_true rfl), (Nat.le_of_ble_eq_true rfl)⟩ rfl rfl (Nat.le_of_ble_eq_true rfl) dX11_mute_57) (fun M6 r7 => ?_)
  refine j_iload_n (pc := 60) hC dX11_mute_60 rfl ?_
  refine j_iconst (pc := 61) hC dX11_mute_61 (v := (-1)) (by decide) ?_
  refine j_ixor (pc := 62) hC dX11_mute_62 ?_
  refine j_iand (pc := 63) hC dX11_mute_63 ?_
  exact j_iret (pc := 64) hC dX11_mute_64
set_option maxRecDepth 20000 in
set_option maxHeartbeats 4000000 in
theorem tsX11_mute_26 {X : Cx} {ad : Nat → Nat} {cid : Nat → ClassId} (hC : Ok X ad cid cX11_mute RX11 5 (some .int) 3 67)  {rec26 : Mem → Int32 → Int32 → Int32 → Option (Mem × Int32)} (hrec26 : ∀ (M : Mem) (x1 : Int32) (x3 : Int32) (x4 : Int32), Jp X ad cid 5 (qm X ad (qI ad cid)) M 26 [some (.ref (ad 0)), some (.int x1), some (.ref (ad 82)), some (.int x3), some (.int x4)] [] (rec26 M x1 x3 x4)) (M : Mem) (x1 : Int32) (x3 : Int32) (x4 : Int32)  : Jp X ad cid 5 (qm X ad (qI ad cid)) M 26 [some (.ref (ad 0)), some (.int x1), some (.ref (ad 82)), some (.int x3), some (.int x4)] [] (sX11_mute_26  rec26 M x1 x3 x4) := by
  unfold sX11_mute_26
  refine j_iload (pc := 26) hC dX11_mute_26 rfl ?_
  refine j_iload_n (pc := 28) hC dX11_mute_28 rfl ?_
  refine j_icmp_ge (pc := 29) hC dX11_mute_29 (tgt := 53) (by decide) (fun hb4 => ?_) (fun hb4 => ?_)
  · refine j_mask [true, false, false, true, false] (lv' := [some (.ref (ad 0)), none, none, some (.int x3), none]) rfl ?_
    exact tsX11_mute_53 hC M x3
  · refine j_aload_n (pc := 32) hC dX11_mute_32 rfl ?_
    refine j_aload_n (pc := 33) hC dX11_mute_33 rfl ?_
    refine gX11_19 (pc := 34) hC dX11_mute_34 ?_
    refine j_bV (pc := 37) (run_V hC (st := []) (kt_X4_row hC.ly mo_82 (isFe_feB _) M) vv_X4_row qw473 (mo_lt mo_82) (sh_X4 mo_82) rfl ⟨(Nat.le_of_ble_eq_true rfl), (Nat.le_of_ble_eq_true rfl)⟩ rfl rfl (Nat.le_of_ble_eq_true rfl) dX11_mute_37) (fun M5 => ?_)
    refine j_iload_n (pc := 40) hC dX11_mute_40 rfl ?_
    refine j_aload_n (pc := 41) hC dX11_mute_41 rfl ?_
    refine gX11_131 (pc := 42) hC mo_82 dX11_mute_42 ?_
    refine j_ior (pc := 45) hC dX11_mute_45 ?_
    refine j_istore_n (pc := 46) hC (lv' := [some (.ref (ad 0)), some (.int x1), some (.ref (ad 82)), some (.int (x3 ||| (gM M5 82 2))), some (.int x4)]) dX11_mute_46 (by decide) rfl rfl ?_
    refine j_iinc (pc := 47) hC (lv' := [some (.ref (ad 0)), some (.int x1), some (.ref (ad 82)), some (.int (x3 ||| (gM M5 82 2))), some (.int (x4 + 1))]) dX11_mute_47 rfl (v := 1) (by decide) (by decide) rfl rfl ?_
    refine j_goto (pc := 50) hC dX11_mute_50 (tgt := 26) (by decide) ?_
    exact hrec26 M5 x1 (x3 ||| (gM M5 82 2)) (x4 + 1)
theorem tlX11_mute_26 {X : Cx} {ad : Nat → Nat} {cid : Nat → ClassId} (hC : Ok X ad cid cX11_mute RX11 5 (some .int) 3 67)   : ∀ (n : Nat) (M : Mem) (x1 : Int32) (x3 : Int32) (x4 : Int32), Jp X ad cid 5 (qm X ad (qI ad cid)) M 26 [some (.ref (ad 0)), some (.int x1), some (.ref (ad 82)), some (.int x3), some (.int x4)] [] (lX11_mute_26  n M x1 x3 x4) := by
  intro n
  induction n with
  | zero => intros; exact j_none
  | succ n ih => exact tsX11_mute_26 hC   ih
set_option maxRecDepth 20000 in
set_option maxHeartbeats 4000000 in
theorem kt_X11_mute {l : Launch} {ad : Nat → Nat} {cid : Nat → ClassId} {D : va_G} (hL : lyOk ad)  (M : Mem) (x1 : Int32) : Ct (qI ad cid) l ad cid D yX11_mute cX11_mute 5 (some .int) 3 67 [.ref (ad 0), .int x1] M (fX11_mute M x1) := by
  refine ct_of (own := RX11) (lv := [some (.ref (ad 0)), some (.int x1), none, none, none]) hL (by decide +kernel) rfl rfl (Nat.le_of_ble_eq_true rfl) (fun X hC => ?_)
  unfold fX11_mute
  refine j_iload_n (pc := 0) hC dX11_mute_0 rfl ?_
  refine j_if_lt (pc := 1) hC dX11_mute_1 (tgt := 11) (by decide) (fun hb1 => ?_) (fun hb1 => ?_)
  · refine j_iconst (pc := 11) hC dX11_mute_11 (v := (-1)) (by decide) ?_
    exact j_iret (pc := 12) hC dX11_mute_12
  · refine j_iload_n (pc := 4) hC dX11_mute_4 rfl ?_
    refine j_sipush (pc := 5) hC dX11_mute_5 (v := 200) (by decide) ?_
    refine j_icmp_le (pc := 8) hC dX11_mute_8 (tgt := 13) (by decide) (fun hb2 => ?_) (fun hb2 => ?_)
    · refine j_aload_n (pc := 13) hC dX11_mute_13 rfl ?_
      refine j_bA (pc := 14) (run_V hC (st := []) (kt_X11_copyOfNow hC.ly M) vv_X11_copyOfNow qw524 (by decide) sh_X11 rfl ⟨(Nat.le_of_ble_eq_true rfl), (Nat.le_of_ble_eq_true rfl)⟩ rfl rfl (Nat.le_of_ble_eq_true rfl) dX11_mute_14) (fun M3 => ?_)
      refine j_astore_n (pc := 17) hC (lv' := [some (.ref (ad 0)), some (.int x1), some (.ref (ad 82)), none, none]) dX11_mute_17 (by decide) rfl rfl ?_
      refine j_aload_n (pc := 18) hC dX11_mute_18 rfl ?_
      refine gX11_131 (pc := 19) hC mo_82 dX11_mute_19 ?_
      refine j_istore_n (pc := 22) hC (lv' := [some (.ref (ad 0)), some (.int x1), some (.ref (ad 82)), some (.int (gM M3 82 2)), none]) dX11_mute_22 (by decide) rfl rfl ?_
      refine j_iconst (pc := 23) hC dX11_mute_23 (v := 0) (by decide) ?_
      refine j_istore (pc := 24) hC (lv' := [some (.ref (ad 0)), some (.int x1), some (.ref (ad 82)), some (.int (gM M3 82 2)), some (.int (0 : Int32))]) dX11_mute_24 (by decide) rfl rfl ?_
      exact tlX11_mute_26 hC fuel M3 x1 (gM M3 82 2) (0 : Int32)
    · refine j_iconst (pc := 11) hC dX11_mute_11 (v := (-1)) (by decide) ?_
      exact j_iret (pc := 12) hC dX11_mute_12
/-! LastRower.now(I)I -/
set_option maxRecDepth 20000 in
set_option maxHeartbeats 4000000 in
theorem kt_X11_now {l : Launch} {ad : Nat → Nat} {cid : Nat → ClassId} {D : va_G} (hL : lyOk ad)  (M : Mem) (x1 : Int32) : Ct (qI ad cid) l ad cid D yX11_now cX11_now 2 (some .int) 2 41 [.ref (ad 0), .int x1] M (fX11_now M x1) := by
  refine ct_of (own := RX11) (lv := [some (.ref (ad 0)), some (.int x1)]) hL (by decide +kernel) rfl rfl (Nat.le_of_ble_eq_true rfl) (fun X hC => ?_)
  unfold fX11_now
  refine j_iload_n (pc := 0) hC dX11_now_0 rfl ?_
  refine j_ite (fun hb1 => ?_) (fun hb1 => ?_)
  · refine j_tabIn (pc := 1) hC dX11_now_1 hb1 (by decide) (by decide) rfl (tgt := 44) (by decide) ?_
    refine j_aload_n (pc := 44) hC dX11_now_44 rfl ?_
    refine gX11_29 (pc := 45) hC dX11_now_45 ?_
    refine gX11_137 (pc := 48) hC mo_19 dX11_now_48 ?_
    exact j_iret (pc := 51) hC dX11_now_51
  refine j_ite (fun hb2 => ?_) (fun hb2 => ?_)
  · refine j_tabIn (pc := 1) hC dX11_now_1 hb2 (by decide) (by decide) rfl (tgt := 52) (by decide) ?_
    refine j_aload_n (pc := 52) hC dX11_now_52 rfl ?_
    refine gX11_29 (pc := 53) hC dX11_now_53 ?_
    refine gX11_140 (pc := 56) hC mo_19 dX11_now_56 ?_
    exact j_iret (pc := 59) hC dX11_now_59
  refine j_ite (fun hb3 => ?_) (fun hb3 => ?_)
  · refine j_tabIn (pc := 1) hC dX11_now_1 hb3 (by decide) (by decide) rfl (tgt := 60) (by decide) ?_
    refine j_aload_n (pc := 60) hC dX11_now_60 rfl ?_
    refine gX11_29 (pc := 61) hC dX11_now_61 ?_
    refine gX11_131 (pc := 64) hC mo_19 dX11_now_64 ?_
    exact j_iret (pc := 67) hC dX11_now_67
  refine j_ite (fun hb4 => ?_) (fun hb4 => ?_)
  · refine j_tabIn (pc := 1) hC dX11_now_1 hb4 (by decide) (by decide) rfl (tgt := 68) (by decide) ?_
    refine j_aload_n (pc := 68) hC dX11_now_68 rfl ?_
    refine gX11_19 (pc := 69) hC dX11_now_69 ?_
    refine j_aload_n (pc := 72) hC dX11_now_72 rfl ?_
    refine gX11_29 (pc := 73) hC dX11_now_73 ?_
    refine gX11_131 (pc := 76) hC mo_19 dX11_now_76 ?_
    refine j_bI (pc := 79) (run_V hC (st := []) (kt_X2_pullOf hC.ly (isFe_feB _) M (gM M 19 2)) vv_X2_pullOf qw444 (fe_lt (isFe_feB _)) (sh_X2 (isFe_feB _)) rfl ⟨(Nat.le_of_ble_eq_true rfl), (Nat.le_of_ble_eq_true rfl)⟩ rfl rfl (Nat.le_of_ble_eq_true rfl) dX11_now_79) (fun M5 r6 => ?_)
    exact j_iret (pc := 82) hC dX11_now_82
  refine j_ite (fun hb7 => ?_) (fun hb7 => ?_)
  · refine j_tabIn (pc := 1) hC dX11_now_1 hb7 (by decide) (by decide) rfl (tgt := 83) (by decide) ?_
    refine j_aload_n (pc := 83) hC dX11_now_83 rfl ?_
    refine j_bI (pc := 84) (run_V hC (st := []) (kt_X11_isOver hC.ly M) vv_X11_isOver qw448 (by decide) sh_X11 rfl ⟨(Nat.le_of_ble_eq_true rfl), (Nat.le_of_ble_eq_true rfl)⟩ rfl rfl (Nat.le_of_ble_eq_true rfl) dX11_now_84) (fun M8 r9 => ?_)
    refine j_if_eq (pc := 87) hC dX11_now_87 (tgt := 94) (by decide) (fun hb10 => ?_) (fun hb10 => ?_)
    · refine j_iconst (pc := 94) hC dX11_now_94 (v := 0) (by decide) ?_
      exact j_iret (pc := 95) hC dX11_now_95
    · refine j_iconst (pc := 90) hC dX11_now_90 (v := 1) (by decide) ?_
      refine j_goto (pc := 91) hC dX11_now_91 (tgt := 95) (by decide) ?_
      exact j_iret (pc := 95) hC dX11_now_95
  refine j_ite (fun hb11 => ?_) (fun hb11 => ?_)
  · refine j_tabIn (pc := 1) hC dX11_now_1 hb11 (by decide) (by decide) rfl (tgt := 96) (by decide) ?_
    refine j_aload_n (pc := 96) hC dX11_now_96 rfl ?_
    refine gX11_29 (pc := 97) hC dX11_now_97 ?_
    refine j_bI (pc := 100) (run_V hC (st := []) (kt_X4_allWords hC.ly mo_19 M) vv_X4_allWords qw456 (mo_lt mo_19) (sh_X4 mo_19) rfl ⟨(Nat.le_of_ble_eq_true rfl), (Nat.le_of_ble_eq_true rfl)⟩ rfl rfl (Nat.le_of_ble_eq_true rfl) dX11_now_100) (fun M12 r13 => ?_)
    exact j_iret (pc := 103) hC dX11_now_103
  refine j_ite (fun hb14 => ?_) (fun hb14 => ?_)
  · refine j_tabIn (pc := 1) hC dX11_now_1 hb14 (by decide) (by decide) rfl (tgt := 104) (by decide) ?_
    refine j_aload_n (pc := 104) hC dX11_now_104 rfl ?_
    refine gX11_36 (pc := 105) hC dX11_now_105 ?_
    refine gX11_154 (pc := 108) hC dX11_now_108 ?_
    exact j_iret (pc := 111) hC dX11_now_111
  refine j_tabOut (pc := 1) hC dX11_now_1 (by have z0 := ne_i (n := 0) hb1 (by decide); have z1 := ne_i (n := 1) hb2 (by decide); have z2 := ne_i (n := 2) hb3 (by decide); have z3 := ne_i (n := 3) hb4 (by decide); have z4 := ne_i (n := 4) hb7 (by decide); have z5 := ne_i (n := 5) hb11 (by decide); have z6 := ne_i (n := 6) hb14 (by decide); omega) (tgt := 112) (by decide) ?_
  refine j_iconst (pc := 112) hC dX11_now_112 (v := (-1)) (by decide) ?_
  exact j_iret (pc := 113) hC dX11_now_113
/-! LastRower.powerOfTen(I)I -/
set_option maxRecDepth 20000 in
set_option maxHeartbeats 4000000 in
theorem tsX11_powerOfTen_4 {X : Cx} {ad : Nat → Nat} {cid : Nat → ClassId} (hC : Ok X ad cid cX11_powerOfTen RX11 3 (some .int) 0 0)  {rec4 : Mem → Int32 → Int32 → Int32 → Option (Mem × Int32)} (hrec4 : ∀ (M : Mem) (x0 : Int32) (x1 : Int32) (x2 : Int32), Jp X ad cid 3 (qm X ad (qI ad cid)) M 4 [some (.int x0), some (.int x1), some (.int x2)] [] (rec4 M x0 x1 x2)) (M : Mem) (x0 : Int32) (x1 : Int32) (x2 : Int32)  : Jp X ad cid 3 (qm X ad (qI ad cid)) M 4 [some (.int x0), some (.int x1), some (.int x2)] [] (sX11_powerOfTen_4  rec4 M x0 x1 x2) := by
  unfold sX11_powerOfTen_4
  refine j_iload_n (pc := 4) hC dX11_powerOfTen_4 rfl ?_
  refine j_iload_n (pc := 5) hC dX11_powerOfTen_5 rfl ?_
  refine j_icmp_ge (pc := 6) hC dX11_powerOfTen_6 (tgt := 20) (by decide) (fun hb1 => ?_) (fun hb1 => ?_)
  · refine j_iload_n (pc := 20) hC dX11_powerOfTen_20 rfl ?_
    exact j_iret (pc := 21) hC dX11_powerOfTen_21
  · refine j_iload_n (pc := 9) hC dX11_powerOfTen_9 rfl ?_
    refine j_bipush (pc := 10) hC dX11_powerOfTen_10 (v := 10) (by decide) ?_
    refine j_imul (pc := 12) hC dX11_powerOfTen_12 ?_
    refine j_istore_n (pc := 13) hC (lv' := [some (.int x0), some (.int (x1 * (10 : Int32))), some (.int x2)]) dX11_powerOfTen_13 (by decide) rfl rfl ?_
    refine j_iinc (pc := 14) hC (lv' := [some (.int x0), some (.int (x1 * (10 : Int32))), some (.int (x2 + 1))]) dX11_powerOfTen_14 rfl (v := 1) (by decide) (by decide) rfl rfl ?_
    refine j_goto (pc := 17) hC dX11_powerOfTen_17 (tgt := 4) (by decide) ?_
    exact hrec4 M x0 (x1 * (10 : Int32)) (x2 + 1)
theorem tlX11_powerOfTen_4 {X : Cx} {ad : Nat → Nat} {cid : Nat → ClassId} (hC : Ok X ad cid cX11_powerOfTen RX11 3 (some .int) 0 0)   : ∀ (n : Nat) (M : Mem) (x0 : Int32) (x1 : Int32) (x2 : Int32), Jp X ad cid 3 (qm X ad (qI ad cid)) M 4 [some (.int x0), some (.int x1), some (.int x2)] [] (lX11_powerOfTen_4  n M x0 x1 x2) := by
  intro n
  induction n with
  | zero => intros; exact j_none
  | succ n ih => exact tsX11_powerOfTen_4 hC   ih
set_option maxRecDepth 20000 in
set_option maxHeartbeats 4000000 in
theorem kt_X11_powerOfTen {l : Launch} {ad : Nat → Nat} {cid : Nat → ClassId} {D : va_G} (hL : lyOk ad)  (M : Mem) (x0 : Int32) : Ct (qI ad cid) l ad cid D yX11_powerOfTen cX11_powerOfTen 3 (some .int) 0 0 [.int x0] M (fX11_powerOfTen M x0) := by
  refine ct_of (own := RX11) (lv := [some (.int x0), none, none]) hL (by decide +kernel) rfl rfl (Nat.le_of_ble_eq_true rfl) (fun X hC => ?_)
  unfold fX11_powerOfTen
  refine j_iconst (pc := 0) hC dX11_powerOfTen_0 (v := 1) (by decide) ?_
  refine j_istore_n (pc := 1) hC (lv' := [some (.int x0), some (.int (1 : Int32)), none]) dX11_powerOfTen_1 (by decide) rfl rfl ?_
  refine j_iconst (pc := 2) hC dX11_powerOfTen_2 (v := 0) (by decide) ?_
  refine j_istore_n (pc := 3) hC (lv' := [some (.int x0), some (.int (1 : Int32)), some (.int (0 : Int32))]) dX11_powerOfTen_3 (by decide) rfl rfl ?_
  exact tlX11_powerOfTen_4 hC fuel M x0 (1 : Int32) (0 : Int32)
/-! LastRower.waysOver(IIII)I -/
set_option maxRecDepth 20000 in
set_option maxHeartbeats 4000000 in
theorem teX11_waysOver {l : Launch} {ad : Nat → Nat} {cid : Nat → ClassId} {D : va_G} (hL : lyOk ad) {fr lo fr2 lo2 : Nat} {self : Mem → Int32 → Int32 → Int32 → Int32 → Option (Mem × Int32)} (hR2 : fr2 + 1 ≤ fr ∧ 26 + lo2 ≤ lo) (hR1 : 3 ≤ fr ∧ 67 ≤ lo) (hself : ∀ (M : Mem) (x1 : Int32) (x2 : Int32) (x3 : Int32) (x4 : Int32), Ct (qI ad cid) l ad cid D yX11_waysOver cX11_waysOver 7 (some .int) fr2 lo2 [.ref (ad 0), .int x1, .int x2, .int x3, .int x4] M (self M x1 x2 x3 x4)) (M : Mem) (x1 : Int32) (x2 : Int32) (x3 : Int32) (x4 : Int32) : Ct (qI ad cid) l ad cid D yX11_waysOver cX11_waysOver 7 (some .int) fr lo [.ref (ad 0), .int x1, .int x2, .int x3, .int x4] M (eX11_waysOver self M x1 x2 x3 x4) := by
  refine ct_of2 (own := RX11) (lv := [some (.ref (ad 0)), some (.int x1), some (.int x2), some (.int x3), some (.int x4), none, none]) hL (by decide +kernel) rfl rfl (Nat.le_of_ble_eq_true rfl) (fun X hl hd hC => ?_)
  subst hl hd
  unfold eX11_waysOver
  refine j_iload_n (pc := 0) hC dX11_waysOver_0 rfl ?_
  refine j_if_lt (pc := 1) hC dX11_waysOver_1 (tgt := 13) (by decide) (fun hb1 => ?_) (fun hb1 => ?_)
  · refine j_iconst (pc := 13) hC dX11_waysOver_13 (v := 0) (by decide) ?_
    exact j_iret (pc := 14) hC dX11_waysOver_14
  · refine j_iload_n (pc := 4) hC dX11_waysOver_4 rfl ?_
    refine j_aload_n (pc := 5) hC dX11_waysOver_5 rfl ?_
    refine gX11_51 (pc := 6) hC dX11_waysOver_6 ?_
    refine j_alen3 (pc := 9) hC (v := 7) rfl rfl dX11_waysOver_9 ?_
    refine j_icmp_lt (pc := 10) hC dX11_waysOver_10 (tgt := 15) (by decide) (fun hb2 => ?_) (fun hb2 => ?_)
    · refine j_aload_n (pc := 15) hC dX11_waysOver_15 rfl ?_
      refine gX11_19 (pc := 16) hC dX11_waysOver_16 ?_
      refine j_aload_n (pc := 19) hC dX11_waysOver_19 rfl ?_
      refine gX11_51 (pc := 20) hC dX11_waysOver_20 ?_
      refine j_iload_n (pc := 23) hC dX11_waysOver_23 rfl ?_
      refine j_ck (fun hi3 => ?_)
      refine j_aald (pc := 24) hC (n := 7) (b0 := 82) rfl rfl rfl hi3 dX11_waysOver_24 ?_
      refine gX11_140 (pc := 25) hC (mo_L hi3) dX11_waysOver_25 ?_
      refine j_bI (pc := 28) (run_V hC (st := []) (kt_X2_isOver hC.ly (isFe_feB _) M (gM M (82 + 3 * x3.toNatClampNeg) 1)) vv_X2_isOver qw452 (fe_lt (isFe_feB _)) (sh_X2 (isFe_feB _)) rfl ⟨by omega, by omega⟩ rfl rfl (Nat.le_of_ble_eq_true rfl) dX11_waysOver_28) (fun M4 r5 => ?_)
      refine j_if_eq (pc := 31) hC dX11_waysOver_31 (tgt := 40) (by decide) (fun hb6 => ?_) (fun hb6 => ?_)
      · refine j_iload (pc := 40) hC dX11_waysOver_40 rfl ?_
        refine j_if_le (pc := 42) hC dX11_waysOver_42 (tgt := 56) (by decide) (fun hb7 => ?_) (fun hb7 => ?_)
        · refine j_iconst (pc := 56) hC dX11_waysOver_56 (v := 0) (by decide) ?_
          exact j_iret (pc := 57) hC dX11_waysOver_57
        · refine j_iload_n (pc := 45) hC dX11_waysOver_45 rfl ?_
          refine j_iconst (pc := 46) hC dX11_waysOver_46 (v := 1) (by decide) ?_
          refine j_iadd (pc := 47) hC dX11_waysOver_47 ?_
          refine j_aload_n (pc := 48) hC dX11_waysOver_48 rfl ?_
          refine gX11_51 (pc := 49) hC dX11_waysOver_49 ?_
          refine j_alen3 (pc := 52) hC (v := 7) rfl rfl dX11_waysOver_52 ?_
          refine j_icmp_lt (pc := 53) hC dX11_waysOver_53 (tgt := 58) (by decide) (fun hb8 => ?_) (fun hb8 => ?_)
          · refine j_aload_n (pc := 58) hC dX11_waysOver_58 rfl ?_
            refine gX11_51 (pc := 59) hC dX11_waysOver_59 ?_
            refine j_iload_n (pc := 62) hC dX11_waysOver_62 rfl ?_
            refine j_iconst (pc := 63) hC dX11_waysOver_63 (v := 1) (by decide) ?_
            refine j_iadd (pc := 64) hC dX11_waysOver_64 ?_
            refine j_ck (fun hi9 => ?_)
            refine j_aald (pc := 65) hC (n := 7) (b0 := 82) rfl rfl rfl hi9 dX11_waysOver_65 ?_
            refine j_astore (pc := 66) hC (lv' := [some (.ref (ad 0)), some (.int x1), some (.int x2), some (.int x3), some (.int x4), some (.ref (ad (82 + 3 * (x3 + (1 : Int32)).toNatClampNeg))), none]) dX11_waysOver_66 (by decide) rfl rfl ?_
            refine j_aload (pc := 68) hC dX11_waysOver_68 rfl ?_
            refine j_aload_n (pc := 70) hC dX11_waysOver_70 rfl ?_
            refine gX11_51 (pc := 71) hC dX11_waysOver_71 ?_
            refine j_iload_n (pc := 74) hC dX11_waysOver_74 rfl ?_
            refine j_aald (pc := 75) hC (n := 7) (b0 := 82) rfl rfl rfl hi3 dX11_waysOver_75 ?_
            refine j_bV (pc := 76) (run_V hC (st := []) (kt_X4_copyFrom hC.ly (mo_L hi9) (mo_L hi3) M4) vv_X4_copyFrom qw528 (mo_lt (mo_L hi9)) (sh_X4 (mo_L hi9)) rfl ⟨by omega, by omega⟩ rfl rfl (Nat.le_of_ble_eq_true rfl) dX11_waysOver_76) (fun M10 => ?_)
            refine j_aload (pc := 79) hC dX11_waysOver_79 rfl ?_
            refine j_aload_n (pc := 81) hC dX11_waysOver_81 rfl ?_
            refine gX11_19 (pc := 82) hC dX11_waysOver_82 ?_
            refine j_iconst (pc := 85) hC dX11_waysOver_85 (v := 1) (by decide) ?_
            refine j_iload_n (pc := 86) hC dX11_waysOver_86 rfl ?_
            refine j_ishl (pc := 87) hC dX11_waysOver_87 ?_
            refine j_bV (pc := 88) (run_V hC (st := []) (kt_X4_speak hC.ly (mo_L hi9) (isFe_feB _) M10 ((1 : Int32) <<< (x1 &&& 31))) vv_X4_speak qw499 (mo_lt (mo_L hi9)) (sh_X4 (mo_L hi9)) rfl ⟨by omega, by omega⟩ rfl rfl (Nat.le_of_ble_eq_true rfl) dX11_waysOver_88) (fun M11 => ?_)
            refine j_aload (pc := 91) hC dX11_waysOver_91 rfl ?_
            refine j_aload_n (pc := 93) hC dX11_waysOver_93 rfl ?_
            refine gX11_19 (pc := 94) hC dX11_waysOver_94 ?_
            refine j_bV (pc := 97) (run_V hC (st := []) (kt_X4_row hC.ly (mo_L hi9) (isFe_feB _) M11) vv_X4_row qw473 (mo_lt (mo_L hi9)) (sh_X4 (mo_L hi9)) rfl ⟨by omega, by omega⟩ rfl rfl (Nat.le_of_ble_eq_true rfl) dX11_waysOver_97) (fun M12 => ?_)
            refine j_iload_n (pc := 100) hC dX11_waysOver_100 rfl ?_
            refine j_aload_n (pc := 101) hC dX11_waysOver_101 rfl ?_
            refine j_iload_n (pc := 102) hC dX11_waysOver_102 rfl ?_
            refine j_iload_n (pc := 103) hC dX11_waysOver_103 rfl ?_
            refine j_iload_n (pc := 104) hC dX11_waysOver_104 rfl ?_
            refine j_iconst (pc := 105) hC dX11_waysOver_105 (v := 1) (by decide) ?_
            refine j_iadd (pc := 106) hC dX11_waysOver_106 ?_
            refine j_iload (pc := 107) hC dX11_waysOver_107 rfl ?_
            refine j_iconst (pc := 109) hC dX11_waysOver_109 (v := 1) (by decide) ?_
            refine j_isub (pc := 110) hC dX11_waysOver_110 ?_
            refine j_bI (pc := 111) (run_V hC (st := [.int x2]) (hself M12 x1 x2 (x3 + (1 : Int32)) (x4 - (1 : Int32))) vv_X11_waysOver qw634 (by decide) sh_X11 rfl ⟨by omega, by omega⟩ rfl rfl (Nat.le_of_ble_eq_true rfl) dX11_waysOver_111) (fun M13 r14 => ?_)
            refine j_imul (pc := 114) hC dX11_waysOver_114 ?_
            refine j_istore (pc := 115) hC (lv' := [some (.ref (ad 0)), some (.int x1), some (.int x2), some (.int x3), some (.int x4), some (.ref (ad (82 + 3 * (x3 + (1 : Int32)).toNatClampNeg))), some (.int (x2 * r14))]) dX11_waysOver_115 (by decide) rfl rfl ?_
            refine j_aload (pc := 117) hC dX11_waysOver_117 rfl ?_
            refine j_aload_n (pc := 119) hC dX11_waysOver_119 rfl ?_
            refine gX11_51 (pc := 120) hC dX11_waysOver_120 ?_
            refine j_iload_n (pc := 123) hC dX11_waysOver_123 rfl ?_
            refine j_aald (pc := 124) hC (n := 7) (b0 := 82) rfl rfl rfl hi3 dX11_waysOver_124 ?_
            refine j_bV (pc := 125) (run_V hC (st := []) (kt_X4_copyFrom hC.ly (mo_L hi9) (mo_L hi3) M13) vv_X4_copyFrom qw528 (mo_lt (mo_L hi9)) (sh_X4 (mo_L hi9)) rfl ⟨by omega, by omega⟩ rfl rfl (Nat.le_of_ble_eq_true rfl) dX11_waysOver_125) (fun M15 => ?_)
            refine j_aload (pc := 128) hC dX11_waysOver_128 rfl ?_
            refine j_aload_n (pc := 130) hC dX11_waysOver_130 rfl ?_
            refine gX11_19 (pc := 131) hC dX11_waysOver_131 ?_
            refine j_bV (pc := 134) (run_V hC (st := []) (kt_X4_row hC.ly (mo_L hi9) (isFe_feB _) M15) vv_X4_row qw473 (mo_lt (mo_L hi9)) (sh_X4 (mo_L hi9)) rfl ⟨by omega, by omega⟩ rfl rfl (Nat.le_of_ble_eq_true rfl) dX11_waysOver_134) (fun M16 => ?_)
            refine j_iload (pc := 137) hC dX11_waysOver_137 rfl ?_
            refine j_bipush (pc := 139) hC dX11_waysOver_139 (v := 10) (by decide) ?_
            refine j_iload_n (pc := 141) hC dX11_waysOver_141 rfl ?_
            refine j_isub (pc := 142) hC dX11_waysOver_142 ?_
            refine j_aload_n (pc := 143) hC dX11_waysOver_143 rfl ?_
            refine j_iload_n (pc := 144) hC dX11_waysOver_144 rfl ?_
            refine j_iload_n (pc := 145) hC dX11_waysOver_145 rfl ?_
            refine j_iload_n (pc := 146) hC dX11_waysOver_146 rfl ?_
            refine j_iconst (pc := 147) hC dX11_waysOver_147 (v := 1) (by decide) ?_
            refine j_iadd (pc := 148) hC dX11_waysOver_148 ?_
            refine j_iload (pc := 149) hC dX11_waysOver_149 rfl ?_
            refine j_iconst (pc := 151) hC dX11_waysOver_151 (v := 1) (by decide) ?_
            refine j_isub (pc := 152) hC dX11_waysOver_152 ?_
            refine j_bI (pc := 153) (run_V hC (st := [.int ((10 : Int32) - x2), .int (x2 * r14)]) (hself M16 x1 x2 (x3 + (1 : Int32)) (x4 - (1 : Int32))) vv_X11_waysOver qw634 (by decide) sh_X11 rfl ⟨by omega, by omega⟩ rfl rfl (Nat.le_of_ble_eq_true rfl) dX11_waysOver_153) (fun M17 r18 => ?_)
            refine j_imul (pc := 156) hC dX11_waysOver_156 ?_
            refine j_iadd (pc := 157) hC dX11_waysOver_157 ?_
            exact j_iret (pc := 158) hC dX11_waysOver_158
          · refine j_iconst (pc := 56) hC dX11_waysOver_56 (v := 0) (by decide) ?_
            exact j_iret (pc := 57) hC dX11_waysOver_57
      · refine j_iload (pc := 34) hC dX11_waysOver_34 rfl ?_
        refine j_bI (pc := 36) (run_S hC (st := []) (kt_X11_powerOfTen hC.ly M4 x4) vs_X11_powerOfTen qw638 ⟨by omega, by omega⟩ rfl rfl (Nat.le_of_ble_eq_true rfl) dX11_waysOver_36) (fun M19 r20 => ?_)
        exact j_iret (pc := 39) hC dX11_waysOver_39
    · refine j_iconst (pc := 13) hC dX11_waysOver_13 (v := 0) (by decide) ?_
      exact j_iret (pc := 14) hC dX11_waysOver_14
theorem trX11_waysOver {l : Launch} {ad : Nat → Nat} {cid : Nat → ClassId} {D : va_G} (hL : lyOk ad) : ∀ (n : Nat) (M : Mem) (x1 : Int32) (x2 : Int32) (x3 : Int32) (x4 : Int32), Ct (qI ad cid) l ad cid D yX11_waysOver cX11_waysOver 7 (some .int) (3 + n) (67 + 26 * n) [.ref (ad 0), .int x1, .int x2, .int x3, .int x4] M (rX11_waysOver n M x1 x2 x3 x4) := by
  intro n
  induction n with
  | zero => intros; exact fun _ h => by cases h
  | succ n ih => intro M x1 x2 x3 x4; exact teX11_waysOver hL ⟨by omega, by omega⟩ ⟨by omega, by omega⟩ ih M x1 x2 x3 x4
theorem kt_X11_waysOver {l : Launch} {ad : Nat → Nat} {cid : Nat → ClassId} {D : va_G} (hL : lyOk ad)  (M : Mem) (x1 : Int32) (x2 : Int32) (x3 : Int32) (x4 : Int32) : Ct (qI ad cid) l ad cid D yX11_waysOver cX11_waysOver 7 (some .int) 11 275 [.ref (ad 0), .int x1, .int x2, .int x3, .int x4] M (fX11_waysOver M x1 x2 x3 x4) := trX11_waysOver hL 8 M x1 x2 x3 x4 
/-! LastRower$Ferry.has(I)Z -/
set_option maxRecDepth 20000 in
set_option maxHeartbeats 4000000 in
theorem kt_X2_has {l : Launch} {ad : Nat → Nat} {cid : Nat → ClassId} {D : va_G} (hL : lyOk ad) {n0 : Nat} (h0 : isFe n0) (M : Mem) (x1 : Int32) : Ct (qI ad cid) l ad cid D yX2_has cX2_has 2 (some .boolean) 0 0 [.ref (ad n0), .int x1] M (fX2_has M n0 x1) := by
  refine ct_of (own := RX2) (lv := [some (.ref (ad n0)), some (.int x1)]) hL (by decide +kernel) rfl rfl (Nat.le_of_ble_eq_true rfl) (fun X hC => ?_)
  unfold fX2_has
  refine j_iload_n (pc := 0) hC dX2_has_0 rfl ?_
  refine j_if_lt (pc := 1) hC dX2_has_1 (tgt := 22) (by decide) (fun hb1 => ?_) (fun hb1 => ?_)
  · refine j_iconst (pc := 22) hC dX2_has_22 (v := 0) (by decide) ?_
    exact j_zret (pc := 23) hC dX2_has_23 (by decide)
  · refine j_iload_n (pc := 4) hC dX2_has_4 rfl ?_
    refine j_aload_n (pc := 5) hC dX2_has_5 rfl ?_
    refine gX2_37 (pc := 6) hC h0 dX2_has_6 ?_
    refine j_icmp_ge (pc := 9) hC dX2_has_9 (tgt := 22) (by decide) (fun hb2 => ?_) (fun hb2 => ?_)
    · refine j_iconst (pc := 22) hC dX2_has_22 (v := 0) (by decide) ?_
      exact j_zret (pc := 23) hC dX2_has_23 (by decide)
    · refine j_iload_n (pc := 12) hC dX2_has_12 rfl ?_
      refine j_bipush (pc := 13) hC dX2_has_13 (v := 6) (by decide) ?_
      refine j_icmp_ge (pc := 15) hC dX2_has_15 (tgt := 22) (by decide) (fun hb3 => ?_) (fun hb3 => ?_)
      · refine j_iconst (pc := 22) hC dX2_has_22 (v := 0) (by decide) ?_
        exact j_zret (pc := 23) hC dX2_has_23 (by decide)
      · refine j_iconst (pc := 18) hC dX2_has_18 (v := 1) (by decide) ?_
        refine j_goto (pc := 19) hC dX2_has_19 (tgt := 23) (by decide) ?_
        exact j_zret (pc := 23) hC dX2_has_23 (by decide)
/-! LastRower.odds(IIII)I -/
set_option maxRecDepth 20000 in
set_option maxHeartbeats 4000000 in
theorem tsX11_odds_86 {X : Cx} {ad : Nat → Nat} {cid : Nat → ClassId} (hC : Ok X ad cid cX11_odds RX11 8 (some .int) 12 301)   (M : Mem) (x7 : Int32) (s0 : Int32)  : Jp X ad cid 8 (qm X ad (qI ad cid)) M 86 [none, none, none, none, none, none, none, some (.int x7)] [.int s0] (sX11_odds_86  M x7 s0) := by
  unfold sX11_odds_86
  refine j_iload (pc := 86) hC dX11_odds_86 rfl ?_
  refine j_iconst (pc := 88) hC dX11_odds_88 (v := 1) (by decide) ?_
  refine j_mmax (pc := 89) hC qw625 qm_max_s qm_i qm_max_c (Nat.le_of_ble_eq_true rfl) (Nat.le_of_ble_eq_true rfl) dX11_odds_89 ?_
  refine j_ck (fun hz18 => ?_)
  refine j_idiv (pc := 92) hC dX11_odds_92 hz18 ?_
  exact j_iret (pc := 93) hC dX11_odds_93
set_option maxRecDepth 20000 in
set_option maxHeartbeats 4000000 in
theorem kt_X11_odds {l : Launch} {ad : Nat → Nat} {cid : Nat → ClassId} {D : va_G} (hL : lyOk ad)  (M : Mem) (x1 : Int32) (x2 : Int32) (x3 : Int32) (x4 : Int32) : Ct (qI ad cid) l ad cid D yX11_odds cX11_odds 8 (some .int) 12 301 [.ref (ad 0), .int x1, .int x2, .int x3, .int x4] M (fX11_odds M x1 x2 x3 x4) := by
  refine ct_of (own := RX11) (lv := [some (.ref (ad 0)), some (.int x1), some (.int x2), some (.int x3), some (.int x4), none, none, none]) hL (by decide +kernel) rfl rfl (Nat.le_of_ble_eq_true rfl) (fun X hC => ?_)
  unfold fX11_odds
  refine j_aload_n (pc := 0) hC dX11_odds_0 rfl ?_
  refine gX11_19 (pc := 1) hC dX11_odds_1 ?_
  refine j_iload_n (pc := 4) hC dX11_odds_4 rfl ?_
  refine j_bI (pc := 5) (run_V hC (st := []) (kt_X2_has hC.ly (isFe_feB _) M x1) vv_X2_has qw423 (fe_lt (isFe_feB _)) (sh_X2 (isFe_feB _)) rfl ⟨(Nat.le_of_ble_eq_true rfl), (Nat.le_of_ble_eq_true rfl)⟩ rfl rfl (Nat.le_of_ble_eq_true rfl) dX11_odds_5) (fun M1 r2 => ?_)
  refine j_if_eq (pc := 8) hC dX11_odds_8 (tgt := 42) (by decide) (fun hb3 => ?_) (fun hb3 => ?_)
  · refine j_iconst (pc := 42) hC dX11_odds_42 (v := (-1)) (by decide) ?_
    exact j_iret (pc := 43) hC dX11_odds_43
  · refine j_iload_n (pc := 11) hC dX11_odds_11 rfl ?_
    refine j_if_lt (pc := 12) hC dX11_odds_12 (tgt := 42) (by decide) (fun hb4 => ?_) (fun hb4 => ?_)
    · refine j_iconst (pc := 42) hC dX11_odds_42 (v := (-1)) (by decide) ?_
      exact j_iret (pc := 43) hC dX11_odds_43
    · refine j_iload_n (pc := 15) hC dX11_odds_15 rfl ?_
      refine j_bipush (pc := 16) hC dX11_odds_16 (v := 10) (by decide) ?_
      refine j_icmp_gt (pc := 18) hC dX11_odds_18 (tgt := 42) (by decide) (fun hb5 => ?_) (fun hb5 => ?_)
      · refine j_iconst (pc := 42) hC dX11_odds_42 (v := (-1)) (by decide) ?_
        exact j_iret (pc := 43) hC dX11_odds_43
      · refine j_iload_n (pc := 21) hC dX11_odds_21 rfl ?_
        refine j_if_lt (pc := 22) hC dX11_odds_22 (tgt := 42) (by decide) (fun hb6 => ?_) (fun hb6 => ?_)
        · refine j_iconst (pc := 42) hC dX11_odds_42 (v := (-1)) (by decide) ?_
          exact j_iret (pc := 43) hC dX11_odds_43
        · refine j_iload_n (pc := 25) hC dX11_odds_25 rfl ?_
          refine j_bipush (pc := 26) hC dX11_odds_26 (v := 6) (by decide) ?_
          refine j_icmp_gt (pc := 28) hC dX11_odds_28 (tgt := 42) (by decide) (fun hb7 => ?_) (fun hb7 => ?_)
          · refine j_iconst (pc := 42) hC dX11_odds_42 (v := (-1)) (by decide) ?_
            exact j_iret (pc := 43) hC dX11_odds_43
          · refine j_iload (pc := 31) hC dX11_odds_31 rfl ?_
            refine j_if_lt (pc := 33) hC dX11_odds_33 (tgt := 42) (by decide) (fun hb8 => ?_) (fun hb8 => ?_)
            · refine j_iconst (pc := 42) hC dX11_odds_42 (v := (-1)) (by decide) ?_
              exact j_iret (pc := 43) hC dX11_odds_43
            · refine j_iload (pc := 36) hC dX11_odds_36 rfl ?_
              refine j_iconst (pc := 38) hC dX11_odds_38 (v := 1) (by decide) ?_
              refine j_icmp_le (pc := 39) hC dX11_odds_39 (tgt := 44) (by decide) (fun hb9 => ?_) (fun hb9 => ?_)
              · refine j_aload_n (pc := 44) hC dX11_odds_44 rfl ?_
                refine j_bA (pc := 45) (run_V hC (st := []) (kt_X11_copyOfNow hC.ly M1) vv_X11_copyOfNow qw524 (by decide) sh_X11 rfl ⟨(Nat.le_of_ble_eq_true rfl), (Nat.le_of_ble_eq_true rfl)⟩ rfl rfl (Nat.le_of_ble_eq_true rfl) dX11_odds_45) (fun M10 => ?_)
                refine j_pop (pc := 48) hC dX11_odds_48 rfl ?_
                refine j_aload_n (pc := 49) hC dX11_odds_49 rfl ?_
                refine j_iload_n (pc := 50) hC dX11_odds_50 rfl ?_
                refine j_iload_n (pc := 51) hC dX11_odds_51 rfl ?_
                refine j_iconst (pc := 52) hC dX11_odds_52 (v := 0) (by decide) ?_
                refine j_iload_n (pc := 53) hC dX11_odds_53 rfl ?_
                refine j_bI (pc := 54) (run_V hC (st := []) (kt_X11_waysOver hC.ly M10 x1 x2 (0 : Int32) x3) vv_X11_waysOver qw634 (by decide) sh_X11 rfl ⟨(Nat.le_of_ble_eq_true rfl), (Nat.le_of_ble_eq_true rfl)⟩ rfl rfl (Nat.le_of_ble_eq_true rfl) dX11_odds_54) (fun M11 r12 => ?_)
                refine j_istore (pc := 57) hC (lv' := [some (.ref (ad 0)), some (.int x1), some (.int x2), some (.int x3), some (.int x4), some (.int r12), none, none]) dX11_odds_57 (by decide) rfl rfl ?_
                refine j_iload_n (pc := 59) hC dX11_odds_59 rfl ?_
                refine j_bI (pc := 60) (run_S hC (st := []) (kt_X11_powerOfTen hC.ly M11 x3) vs_X11_powerOfTen qw638 ⟨(Nat.le_of_ble_eq_true rfl), (Nat.le_of_ble_eq_true rfl)⟩ rfl rfl (Nat.le_of_ble_eq_true rfl) dX11_odds_60) (fun M13 r14 => ?_)
                refine j_istore (pc := 63) hC (lv' := [some (.ref (ad 0)), some (.int x1), some (.int x2), some (.int x3), some (.int x4), some (.int r12), some (.int r14), none]) dX11_odds_63 (by decide) rfl rfl ?_
                refine j_iload (pc := 65) hC dX11_odds_65 rfl ?_
                refine j_iload (pc := 67) hC dX11_odds_67 rfl ?_
                refine j_bI (pc := 69) (run_S hC (st := []) (kt_X11_greatestShared hC.ly M13 r12 r14) vs_X11_greatestShared qw641 ⟨(Nat.le_of_ble_eq_true rfl), (Nat.le_of_ble_eq_true rfl)⟩ rfl rfl (Nat.le_of_ble_eq_true rfl) dX11_odds_69) (fun M15 r16 => ?_)
                refine j_istore (pc := 72) hC (lv' := [some (.ref (ad 0)), some (.int x1), some (.int x2), some (.int x3), some (.int x4), some (.int r12), some (.int r14), some (.int r16)]) dX11_odds_72 (by decide) rfl rfl ?_
                refine j_iload (pc := 74) hC dX11_odds_74 rfl ?_
                refine j_if_ne (pc := 76) hC dX11_odds_76 (tgt := 84) (by decide) (fun hb17 => ?_) (fun hb17 => ?_)
                · refine j_iload (pc := 84) hC dX11_odds_84 rfl ?_
                  refine j_mask [false, false, false, false, false, false, false, true] (lv' := [none, none, none, none, none, none, none, some (.int r16)]) rfl ?_
                  exact tsX11_odds_86 hC M15 r16 r14
                · refine j_iload (pc := 79) hC dX11_odds_79 rfl ?_
                  refine j_goto (pc := 81) hC dX11_odds_81 (tgt := 86) (by decide) ?_
                  refine j_mask [false, false, false, false, false, false, false, true] (lv' := [none, none, none, none, none, none, none, some (.int r16)]) rfl ?_
                  exact tsX11_odds_86 hC M15 r16 r12
              · refine j_iconst (pc := 42) hC dX11_odds_42 (v := (-1)) (by decide) ?_
                exact j_iret (pc := 43) hC dX11_odds_43
/-! LastRower$Moment.silenceOf(I)I -/
set_option maxRecDepth 20000 in
set_option maxHeartbeats 4000000 in
theorem kt_X4_silenceOf {l : Launch} {ad : Nat → Nat} {cid : Nat → ClassId} {D : va_G} (hL : lyOk ad) {n0 : Nat} (h0 : isMo n0) (M : Mem) (x1 : Int32) : Ct (qI ad cid) l ad cid D yX4_silenceOf cX4_silenceOf 2 (some .int) 0 0 [.ref (ad n0), .int x1] M (fX4_silenceOf M n0 x1) := by
  refine ct_of (own := RX4) (lv := [some (.ref (ad n0)), some (.int x1)]) hL (by decide +kernel) rfl rfl (Nat.le_of_ble_eq_true rfl) (fun X hC => ?_)
  unfold fX4_silenceOf
  refine j_iload_n (pc := 0) hC dX4_silenceOf_0 rfl ?_
  refine j_if_lt (pc := 1) hC dX4_silenceOf_1 (tgt := 10) (by decide) (fun hb1 => ?_) (fun hb1 => ?_)
  · refine j_iconst (pc := 10) hC dX4_silenceOf_10 (v := 0) (by decide) ?_
    refine j_goto (pc := 11) hC dX4_silenceOf_11 (tgt := 25) (by decide) ?_
    exact j_iret (pc := 25) hC dX4_silenceOf_25
  · refine j_iload_n (pc := 4) hC dX4_silenceOf_4 rfl ?_
    refine j_bipush (pc := 5) hC dX4_silenceOf_5 (v := 6) (by decide) ?_
    refine j_icmp_lt (pc := 7) hC dX4_silenceOf_7 (tgt := 14) (by decide) (fun hb2 => ?_) (fun hb2 => ?_)
    · refine j_aload_n (pc := 14) hC dX4_silenceOf_14 rfl ?_
      refine gX4_23 (pc := 15) hC h0 dX4_silenceOf_15 ?_
      refine j_aload_n (pc := 18) hC dX4_silenceOf_18 rfl ?_
      refine gX4_9 (pc := 19) hC h0 dX4_silenceOf_19 ?_
      refine j_iload_n (pc := 22) hC dX4_silenceOf_22 rfl ?_
      refine j_ck (fun hi3 => ?_)
      refine j_iald (pc := 23) hC (n := 6) (mo_1 h0).1 (mo_1 h0).2 hi3 dX4_silenceOf_23 ?_
      refine j_isub (pc := 24) hC dX4_silenceOf_24 ?_
      exact j_iret (pc := 25) hC dX4_silenceOf_25
    · refine j_iconst (pc := 10) hC dX4_silenceOf_10 (v := 0) (by decide) ?_
      refine j_goto (pc := 11) hC dX4_silenceOf_11 (tgt := 25) (by decide) ?_
      exact j_iret (pc := 25) hC dX4_silenceOf_25
/-! LastRower.passenger(II)I -/
set_option maxRecDepth 20000 in
set_option maxHeartbeats 4000000 in
theorem kt_X11_passenger {l : Launch} {ad : Nat → Nat} {cid : Nat → ClassId} {D : va_G} (hL : lyOk ad)  (M : Mem) (x1 : Int32) (x2 : Int32) : Ct (qI ad cid) l ad cid D yX11_passenger cX11_passenger 3 (some .int) 1 21 [.ref (ad 0), .int x1, .int x2] M (fX11_passenger M x1 x2) := by
  refine ct_of (own := RX11) (lv := [some (.ref (ad 0)), some (.int x1), some (.int x2)]) hL (by decide +kernel) rfl rfl (Nat.le_of_ble_eq_true rfl) (fun X hC => ?_)
  unfold fX11_passenger
  refine j_aload_n (pc := 0) hC dX11_passenger_0 rfl ?_
  refine gX11_19 (pc := 1) hC dX11_passenger_1 ?_
  refine j_iload_n (pc := 4) hC dX11_passenger_4 rfl ?_
  refine j_bI (pc := 5) (run_V hC (st := []) (kt_X2_has hC.ly (isFe_feB _) M x1) vv_X2_has qw423 (fe_lt (isFe_feB _)) (sh_X2 (isFe_feB _)) rfl ⟨(Nat.le_of_ble_eq_true rfl), (Nat.le_of_ble_eq_true rfl)⟩ rfl rfl (Nat.le_of_ble_eq_true rfl) dX11_passenger_5) (fun M1 r2 => ?_)
  refine j_if_ne (pc := 8) hC dX11_passenger_8 (tgt := 13) (by decide) (fun hb3 => ?_) (fun hb3 => ?_)
  · refine j_iload_n (pc := 13) hC dX11_passenger_13 rfl ?_
    refine j_ite (fun hb4 => ?_) (fun hb4 => ?_)
    · refine j_tabIn (pc := 14) hC dX11_passenger_14 hb4 (by decide) (by decide) rfl (tgt := 52) (by decide) ?_
      refine j_aload_n (pc := 52) hC dX11_passenger_52 rfl ?_
      refine gX11_19 (pc := 53) hC dX11_passenger_53 ?_
      refine gX11_115 (pc := 56) hC (isFe_feB _) dX11_passenger_56 ?_
      refine j_iload_n (pc := 59) hC dX11_passenger_59 rfl ?_
      refine j_ck (fun hi5 => ?_)
      refine j_iald (pc := 60) hC (n := 6) (fe_a (isFe_feB _) 1 (by decide) (by decide)) (fe_n (isFe_feB _) 1 (by decide) (by decide)) hi5 dX11_passenger_60 ?_
      exact j_iret (pc := 61) hC dX11_passenger_61
    refine j_ite (fun hb6 => ?_) (fun hb6 => ?_)
    · refine j_tabIn (pc := 14) hC dX11_passenger_14 hb6 (by decide) (by decide) rfl (tgt := 62) (by decide) ?_
      refine j_aload_n (pc := 62) hC dX11_passenger_62 rfl ?_
      refine gX11_19 (pc := 63) hC dX11_passenger_63 ?_
      refine gX11_118 (pc := 66) hC (isFe_feB _) dX11_passenger_66 ?_
      refine j_iload_n (pc := 69) hC dX11_passenger_69 rfl ?_
      refine j_ck (fun hi7 => ?_)
      refine j_iald (pc := 70) hC (n := 6) (fe_a (isFe_feB _) 2 (by decide) (by decide)) (fe_n (isFe_feB _) 2 (by decide) (by decide)) hi7 dX11_passenger_70 ?_
      exact j_iret (pc := 71) hC dX11_passenger_71
    refine j_ite (fun hb8 => ?_) (fun hb8 => ?_)
    · refine j_tabIn (pc := 14) hC dX11_passenger_14 hb8 (by decide) (by decide) rfl (tgt := 72) (by decide) ?_
      refine j_aload_n (pc := 72) hC dX11_passenger_72 rfl ?_
      refine gX11_19 (pc := 73) hC dX11_passenger_73 ?_
      refine gX11_121 (pc := 76) hC (isFe_feB _) dX11_passenger_76 ?_
      refine j_iload_n (pc := 79) hC dX11_passenger_79 rfl ?_
      refine j_ck (fun hi9 => ?_)
      refine j_iald (pc := 80) hC (n := 6) (fe_a (isFe_feB _) 3 (by decide) (by decide)) (fe_n (isFe_feB _) 3 (by decide) (by decide)) hi9 dX11_passenger_80 ?_
      exact j_iret (pc := 81) hC dX11_passenger_81
    refine j_ite (fun hb10 => ?_) (fun hb10 => ?_)
    · refine j_tabIn (pc := 14) hC dX11_passenger_14 hb10 (by decide) (by decide) rfl (tgt := 82) (by decide) ?_
      refine j_aload_n (pc := 82) hC dX11_passenger_82 rfl ?_
      refine gX11_29 (pc := 83) hC dX11_passenger_83 ?_
      refine j_iload_n (pc := 86) hC dX11_passenger_86 rfl ?_
      refine j_bI (pc := 87) (run_V hC (st := []) (kt_X4_silenceOf hC.ly mo_19 M1 x1) vv_X4_silenceOf qw427 (mo_lt mo_19) (sh_X4 mo_19) rfl ⟨(Nat.le_of_ble_eq_true rfl), (Nat.le_of_ble_eq_true rfl)⟩ rfl rfl (Nat.le_of_ble_eq_true rfl) dX11_passenger_87) (fun M11 r12 => ?_)
      exact j_iret (pc := 90) hC dX11_passenger_90
    refine j_ite (fun hb13 => ?_) (fun hb13 => ?_)
    · refine j_tabIn (pc := 14) hC dX11_passenger_14 hb13 (by decide) (by decide) rfl (tgt := 91) (by decide) ?_
      refine j_aload_n (pc := 91) hC dX11_passenger_91 rfl ?_
      refine gX11_29 (pc := 92) hC dX11_passenger_92 ?_
      refine gX11_128 (pc := 95) hC mo_19 dX11_passenger_95 ?_
      refine j_iload_n (pc := 98) hC dX11_passenger_98 rfl ?_
      refine j_ck (fun hi14 => ?_)
      refine j_iald (pc := 99) hC (n := 6) rfl rfl hi14 dX11_passenger_99 ?_
      exact j_iret (pc := 100) hC dX11_passenger_100
    refine j_ite (fun hb15 => ?_) (fun hb15 => ?_)
    · refine j_tabIn (pc := 14) hC dX11_passenger_14 hb15 (by decide) (by decide) rfl (tgt := 101) (by decide) ?_
      refine j_aload_n (pc := 101) hC dX11_passenger_101 rfl ?_
      refine gX11_29 (pc := 102) hC dX11_passenger_102 ?_
      refine gX11_131 (pc := 105) hC mo_19 dX11_passenger_105 ?_
      refine j_iload_n (pc := 108) hC dX11_passenger_108 rfl ?_
      refine j_ishr (pc := 109) hC dX11_passenger_109 ?_
      refine j_iconst (pc := 110) hC dX11_passenger_110 (v := 1) (by decide) ?_
      refine j_iand (pc := 111) hC dX11_passenger_111 ?_
      exact j_iret (pc := 112) hC dX11_passenger_112
    refine j_tabOut (pc := 14) hC dX11_passenger_14 (by have z0 := ne_i (n := 0) hb4 (by decide); have z1 := ne_i (n := 1) hb6 (by decide); have z2 := ne_i (n := 2) hb8 (by decide); have z3 := ne_i (n := 3) hb10 (by decide); have z4 := ne_i (n := 4) hb13 (by decide); have z5 := ne_i (n := 5) hb15 (by decide); omega) (tgt := 113) (by decide) ?_
    refine j_iconst (pc := 113) hC dX11_passenger_113 (v := (-1)) (by decide) ?_
    exact j_iret (pc := 114) hC dX11_passenger_114
  · refine j_iconst (pc := 11) hC dX11_passenger_11 (v := (-1)) (by decide) ?_
    exact j_iret (pc := 12) hC dX11_passenger_12
/-! LastRower.utter(I)V -/
set_option maxRecDepth 20000 in
set_option maxHeartbeats 4000000 in
theorem kt_X11_utter {l : Launch} {ad : Nat → Nat} {cid : Nat → ClassId} {D : va_G} (hL : lyOk ad)  (M : Mem) (x1 : Int32) : Ct (qV ad cid) l ad cid D yX11_utter cX11_utter 2 none 2 43 [.ref (ad 0), .int x1] M (fX11_utter M x1) := by
  refine ct_of (own := RX11) (lv := [some (.ref (ad 0)), some (.int x1)]) hL (by decide +kernel) rfl rfl (Nat.le_of_ble_eq_true rfl) (fun X hC => ?_)
  unfold fX11_utter
  refine j_aload_n (pc := 0) hC dX11_utter_0 rfl ?_
  refine gX11_36 (pc := 1) hC dX11_utter_1 ?_
  refine j_aload_n (pc := 4) hC dX11_utter_4 rfl ?_
  refine gX11_29 (pc := 5) hC dX11_utter_5 ?_
  refine j_bV (pc := 8) (run_V hC (st := []) (kt_X8_add hC.ly mo_19 M) vv_X8_add qw464 (by decide) sh_X8 rfl ⟨(Nat.le_of_ble_eq_true rfl), (Nat.le_of_ble_eq_true rfl)⟩ rfl rfl (Nat.le_of_ble_eq_true rfl) dX11_utter_8) (fun M1 => ?_)
  refine j_aload_n (pc := 11) hC dX11_utter_11 rfl ?_
  refine gX11_29 (pc := 12) hC dX11_utter_12 ?_
  refine j_aload_n (pc := 15) hC dX11_utter_15 rfl ?_
  refine gX11_19 (pc := 16) hC dX11_utter_16 ?_
  refine j_iload_n (pc := 19) hC dX11_utter_19 rfl ?_
  refine j_bV (pc := 20) (run_V hC (st := []) (kt_X4_speak hC.ly mo_19 (isFe_feB _) M1 x1) vv_X4_speak qw499 (mo_lt mo_19) (sh_X4 mo_19) rfl ⟨(Nat.le_of_ble_eq_true rfl), (Nat.le_of_ble_eq_true rfl)⟩ rfl rfl (Nat.le_of_ble_eq_true rfl) dX11_utter_20) (fun M2 => ?_)
  exact j_vret (pc := 23) hC dX11_utter_23
/-! LastRower.pinches(I)I -/
set_option maxRecDepth 20000 in
set_option maxHeartbeats 4000000 in
theorem kt_X11_pinches {l : Launch} {ad : Nat → Nat} {cid : Nat → ClassId} {D : va_G} (hL : lyOk ad)  (M : Mem) (x1 : Int32) : Ct (qI ad cid) l ad cid D yX11_pinches cX11_pinches 2 (some .int) 3 64 [.ref (ad 0), .int x1] M (fX11_pinches M x1) := by
  refine ct_of (own := RX11) (lv := [some (.ref (ad 0)), some (.int x1)]) hL (by decide +kernel) rfl rfl (Nat.le_of_ble_eq_true rfl) (fun X hC => ?_)
  unfold fX11_pinches
  refine j_aload_n (pc := 0) hC dX11_pinches_0 rfl ?_
  refine gX11_19 (pc := 1) hC dX11_pinches_1 ?_
  refine j_iload_n (pc := 4) hC dX11_pinches_4 rfl ?_
  refine j_bI (pc := 5) (run_V hC (st := []) (kt_X2_has hC.ly (isFe_feB _) M x1) vv_X2_has qw423 (fe_lt (isFe_feB _)) (sh_X2 (isFe_feB _)) rfl ⟨(Nat.le_of_ble_eq_true rfl), (Nat.le_of_ble_eq_true rfl)⟩ rfl rfl (Nat.le_of_ble_eq_true rfl) dX11_pinches_5) (fun M1 r2 => ?_)
  refine j_if_ne (pc := 8) hC dX11_pinches_8 (tgt := 13) (by decide) (fun hb3 => ?_) (fun hb3 => ?_)
  · refine j_aload_n (pc := 13) hC dX11_pinches_13 rfl ?_
    refine j_bI (pc := 14) (run_V hC (st := []) (kt_X11_isOver hC.ly M1) vv_X11_isOver qw448 (by decide) sh_X11 rfl ⟨(Nat.le_of_ble_eq_true rfl), (Nat.le_of_ble_eq_true rfl)⟩ rfl rfl (Nat.le_of_ble_eq_true rfl) dX11_pinches_14) (fun M4 r5 => ?_)
    refine j_if_eq (pc := 17) hC dX11_pinches_17 (tgt := 23) (by decide) (fun hb6 => ?_) (fun hb6 => ?_)
    · refine j_aload_n (pc := 23) hC dX11_pinches_23 rfl ?_
      refine j_iconst (pc := 24) hC dX11_pinches_24 (v := 1) (by decide) ?_
      refine j_iload_n (pc := 25) hC dX11_pinches_25 rfl ?_
      refine j_ishl (pc := 26) hC dX11_pinches_26 ?_
      refine j_bV (pc := 27) (run_V hC (st := []) (kt_X11_utter hC.ly M4 ((1 : Int32) <<< (x1 &&& 31))) vv_X11_utter qw495 (by decide) sh_X11 rfl ⟨(Nat.le_of_ble_eq_true rfl), (Nat.le_of_ble_eq_true rfl)⟩ rfl rfl (Nat.le_of_ble_eq_true rfl) dX11_pinches_27) (fun M7 => ?_)
      refine j_aload_n (pc := 30) hC dX11_pinches_30 rfl ?_
      refine gX11_29 (pc := 31) hC dX11_pinches_31 ?_
      refine gX11_128 (pc := 34) hC mo_19 dX11_pinches_34 ?_
      refine j_iload_n (pc := 37) hC dX11_pinches_37 rfl ?_
      refine j_ck (fun hi8 => ?_)
      refine j_iald (pc := 38) hC (n := 6) rfl rfl hi8 dX11_pinches_38 ?_
      exact j_iret (pc := 39) hC dX11_pinches_39
    · refine j_bipush (pc := 20) hC dX11_pinches_20 (v := (-2)) (by decide) ?_
      exact j_iret (pc := 22) hC dX11_pinches_22
  · refine j_iconst (pc := 11) hC dX11_pinches_11 (v := (-1)) (by decide) ?_
    exact j_iret (pc := 12) hC dX11_pinches_12
/-! LastRower$Planner.weigh(LLastRower$Ferry;I)V -/
set_option maxRecDepth 20000 in
set_option maxHeartbeats 4000000 in
theorem tsX9_weigh_90 {X : Cx} {ad : Nat → Nat} {cid : Nat → ClassId} (hC : Ok X ad cid cX9_weigh RX9 6 none 4 90) {rec60 : Mem → Int32 → Int32 → Option (Mem)} (hrec60 : ∀ (M : Mem) (x2 : Int32) (x5 : Int32), Jp X ad cid 6 (qm X ad (qV ad cid)) M 60 [some (.ref (ad 58)), none, some (.int x2), none, none, some (.int x5)] [] (rec60 M x2 x5))  (M : Mem) (x2 : Int32) (x5 : Int32) (s1 : Int32) (s2 : Int32)  : Jp X ad cid 6 (qm X ad (qV ad cid)) M 90 [some (.ref (ad 58)), none, some (.int x2), none, none, some (.int x5)] [.int s2, .int s1, .ref (ad 61)] (sX9_weigh_90 rec60 M x2 x5 s1 s2) := by
  unfold sX9_weigh_90
  refine j_ck (fun hi11 => ?_)
  refine j_iast (pc := 90) hC (n := 3) rfl rfl hi11 dX9_weigh_90 ?_
  refine j_iinc (pc := 91) hC (lv' := [some (.ref (ad 58)), none, some (.int x2), none, none, some (.int (x5 + 1))]) dX9_weigh_91 rfl (v := 1) (by decide) (by decide) rfl rfl ?_
  refine j_goto (pc := 94) hC dX9_weigh_94 (tgt := 60) (by decide) ?_
  exact hrec60 (sM M 61 s1.toNatClampNeg s2) x2 (x5 + 1)
set_option maxRecDepth 20000 in
set_option maxHeartbeats 4000000 in
theorem tsX9_weigh_60 {X : Cx} {ad : Nat → Nat} {cid : Nat → ClassId} (hC : Ok X ad cid cX9_weigh RX9 6 none 4 90)  {rec60 : Mem → Int32 → Int32 → Option (Mem)} (hrec60 : ∀ (M : Mem) (x2 : Int32) (x5 : Int32), Jp X ad cid 6 (qm X ad (qV ad cid)) M 60 [some (.ref (ad 58)), none, some (.int x2), none, none, some (.int x5)] [] (rec60 M x2 x5)) (M : Mem) (x2 : Int32) (x5 : Int32)  : Jp X ad cid 6 (qm X ad (qV ad cid)) M 60 [some (.ref (ad 58)), none, some (.int x2), none, none, some (.int x5)] [] (sX9_weigh_60  rec60 M x2 x5) := by
  unfold sX9_weigh_60
  refine j_iload (pc := 60) hC dX9_weigh_60 rfl ?_
  refine j_iconst (pc := 62) hC dX9_weigh_62 (v := 3) (by decide) ?_
  refine j_icmp_ge (pc := 63) hC dX9_weigh_63 (tgt := 97) (by decide) (fun hb8 => ?_) (fun hb8 => ?_)
  · exact j_vret (pc := 97) hC dX9_weigh_97
  · refine j_aload_n (pc := 66) hC dX9_weigh_66 rfl ?_
    refine gX9_21 (pc := 67) hC dX9_weigh_67 ?_
    refine j_iload (pc := 70) hC dX9_weigh_70 rfl ?_
    refine j_iload (pc := 72) hC dX9_weigh_72 rfl ?_
    refine j_iload_n (pc := 74) hC dX9_weigh_74 rfl ?_
    refine j_icmp_ge (pc := 75) hC dX9_weigh_75 (tgt := 88) (by decide) (fun hb9 => ?_) (fun hb9 => ?_)
    · refine j_bipush (pc := 88) hC dX9_weigh_88 (v := (-5)) (by decide) ?_
      exact tsX9_weigh_90 hC hrec60 M x2 x5 x5 (-5 : Int32)
    · refine j_aload_n (pc := 78) hC dX9_weigh_78 rfl ?_
      refine gX9_17 (pc := 79) hC dX9_weigh_79 ?_
      refine j_iload (pc := 82) hC dX9_weigh_82 rfl ?_
      refine j_ck (fun hi10 => ?_)
      refine j_iald (pc := 84) hC (n := 3) rfl rfl hi10 dX9_weigh_84 ?_
      refine j_goto (pc := 85) hC dX9_weigh_85 (tgt := 90) (by decide) ?_
      exact tsX9_weigh_90 hC hrec60 M x2 x5 x5 (gM M 60 x5.toNatClampNeg)
theorem tlX9_weigh_60 {X : Cx} {ad : Nat → Nat} {cid : Nat → ClassId} (hC : Ok X ad cid cX9_weigh RX9 6 none 4 90)   : ∀ (n : Nat) (M : Mem) (x2 : Int32) (x5 : Int32), Jp X ad cid 6 (qm X ad (qV ad cid)) M 60 [some (.ref (ad 58)), none, some (.int x2), none, none, some (.int x5)] [] (lX9_weigh_60  n M x2 x5) := by
  intro n
  induction n with
  | zero => intros; exact j_none
  | succ n ih => exact tsX9_weigh_60 hC   ih
set_option maxRecDepth 20000 in
set_option maxHeartbeats 4000000 in
theorem kt_X9_weigh {l : Launch} {ad : Nat → Nat} {cid : Nat → ClassId} {D : va_G} (hL : lyOk ad) {n1 : Nat} (h1 : isFe n1) (M : Mem) (x2 : Int32) : Ct (qV ad cid) l ad cid D yX9_weigh cX9_weigh 6 none 4 90 [.ref (ad 58), .ref (ad n1), .int x2] M (fX9_weigh M n1 x2) := by
  refine ct_of (own := RX9) (lv := [some (.ref (ad 58)), some (.ref (ad n1)), some (.int x2), none, none, none]) hL (by decide +kernel) rfl rfl (Nat.le_of_ble_eq_true rfl) (fun X hC => ?_)
  unfold fX9_weigh
  refine j_aload_n (pc := 0) hC dX9_weigh_0 rfl ?_
  refine gX9_11 (pc := 1) hC dX9_weigh_1 ?_
  refine j_iload_n (pc := 4) hC dX9_weigh_4 rfl ?_
  refine j_ck (fun hi1 => ?_)
  refine j_aald (pc := 5) hC (n := 4) (b0 := 62) rfl rfl rfl hi1 dX9_weigh_5 ?_
  refine j_astore_n (pc := 6) hC (lv' := [some (.ref (ad 58)), some (.ref (ad n1)), some (.int x2), some (.ref (ad (62 + 3 * x2.toNatClampNeg))), none, none]) dX9_weigh_6 (by decide) rfl rfl ?_
  refine j_aload_n (pc := 7) hC dX9_weigh_7 rfl ?_
  refine j_aload_n (pc := 8) hC dX9_weigh_8 rfl ?_
  refine j_aload_n (pc := 9) hC dX9_weigh_9 rfl ?_
  refine gX9_38 (pc := 10) hC dX9_weigh_10 ?_
  refine j_iconst (pc := 13) hC dX9_weigh_13 (v := 1) (by decide) ?_
  refine j_isub (pc := 14) hC dX9_weigh_14 ?_
  refine j_iload_n (pc := 15) hC dX9_weigh_15 rfl ?_
  refine j_isub (pc := 16) hC dX9_weigh_16 ?_
  refine j_bI (pc := 17) (run_V hC (st := []) (kt_X4_rowTillOver hC.ly (mo_Q hi1) h1 M (((gM M 58 5) - (1 : Int32)) - x2)) vv_X4_rowTillOver qw580 (mo_lt (mo_Q hi1)) (sh_X4 (mo_Q hi1)) rfl ⟨(Nat.le_of_ble_eq_true rfl), (Nat.le_of_ble_eq_true rfl)⟩ rfl rfl (Nat.le_of_ble_eq_true rfl) dX9_weigh_17) (fun M2 r3 => ?_)
  refine j_istore (pc := 20) hC (lv' := [some (.ref (ad 58)), some (.ref (ad n1)), some (.int x2), some (.ref (ad (62 + 3 * x2.toNatClampNeg))), some (.int r3), none]) dX9_weigh_20 (by decide) rfl rfl ?_
  refine j_iload (pc := 22) hC dX9_weigh_22 rfl ?_
  refine j_bipush (pc := 24) hC dX9_weigh_24 (v := (-9)) (by decide) ?_
  refine j_icmp_eq (pc := 26) hC dX9_weigh_26 (tgt := 48) (by decide) (fun hb4 => ?_) (fun hb4 => ?_)
  · exact j_vret (pc := 48) hC dX9_weigh_48
  · refine j_iconst (pc := 29) hC dX9_weigh_29 (v := 0) (by decide) ?_
    refine j_aload_n (pc := 30) hC dX9_weigh_30 rfl ?_
    refine j_aload_n (pc := 31) hC dX9_weigh_31 rfl ?_
    refine gX9_75 (pc := 32) hC (mo_Q hi1) dX9_weigh_32 ?_
    refine j_bI (pc := 35) (run_V hC (st := [.int (0 : Int32)]) (kt_X2_pullOf hC.ly h1 M2 (gM M2 (62 + 3 * x2.toNatClampNeg) 2)) vv_X2_pullOf qw581 (fe_lt h1) (sh_X2 h1) rfl ⟨(Nat.le_of_ble_eq_true rfl), (Nat.le_of_ble_eq_true rfl)⟩ rfl rfl (Nat.le_of_ble_eq_true rfl) dX9_weigh_35) (fun M5 r6 => ?_)
    refine j_mmax (pc := 38) hC qw582 qm_max_s qm_i qm_max_c (Nat.le_of_ble_eq_true rfl) (Nat.le_of_ble_eq_true rfl) dX9_weigh_38 ?_
    refine j_aload_n (pc := 41) hC dX9_weigh_41 rfl ?_
    refine gX9_35 (pc := 42) hC dX9_weigh_42 ?_
    refine j_icmp_ge (pc := 45) hC dX9_weigh_45 (tgt := 49) (by decide) (fun hb7 => ?_) (fun hb7 => ?_)
    · refine j_aload_n (pc := 49) hC dX9_weigh_49 rfl ?_
      refine j_iload_n (pc := 50) hC dX9_weigh_50 rfl ?_
      refine j_iload (pc := 51) hC dX9_weigh_51 rfl ?_
      refine j_iadd (pc := 53) hC dX9_weigh_53 ?_
      refine pX9_38 (pc := 54) hC dX9_weigh_54 ?_
      refine j_iconst (pc := 57) hC dX9_weigh_57 (v := 0) (by decide) ?_
      refine j_istore (pc := 58) hC (lv' := [some (.ref (ad 58)), some (.ref (ad n1)), some (.int x2), some (.ref (ad (62 + 3 * x2.toNatClampNeg))), some (.int r3), some (.int (0 : Int32))]) dX9_weigh_58 (by decide) rfl rfl ?_
      refine j_mask [true, false, true, false, false, true] (lv' := [some (.ref (ad 58)), none, some (.int x2), none, none, some (.int (0 : Int32))]) rfl ?_
      exact tlX9_weigh_60 hC fuel (sM M5 58 5 (x2 + r3)) x2 (0 : Int32)
    · exact j_vret (pc := 48) hC dX9_weigh_48
/-! LastRower$Planner.tryAll(LLastRower$Ferry;I)V -/
set_option maxRecDepth 20000 in
set_option maxHeartbeats 4000000 in
theorem tsX9_tryAll_113 {X : Cx} {ad : Nat → Nat} {cid : Nat → ClassId} {fr lo : Nat} {fr2 lo2 : Nat} {self : Mem → Nat → Int32 → Option (Mem)} (hR2 : fr2 + 1 ≤ fr ∧ 8 + (5 + 11) + lo2 ≤ lo) (hR1 : 5 ≤ fr ∧ 115 ≤ lo) (hC : Ok X ad cid cX9_tryAll RX9 5 none fr lo) {rec55 : Mem → Nat → Int32 → Int32 → Option (Mem)} (hrec55 : ∀ (M : Mem) (n1 : Nat) (x2 : Int32) (x3 : Int32), isFe n1 → Jp X ad cid 5 (qm X ad (qV ad cid)) M 55 [some (.ref (ad 58)), some (.ref (ad n1)), some (.int x2), some (.int x3), none] [] (rec55 M n1 x2 x3)) (hself : ∀ (M : Mem) (n1 : Nat) (x2 : Int32), isFe n1 → Ct (qV ad cid) (cxL X) ad cid (cxD X) yX9_tryAll cX9_tryAll 5 none fr2 lo2 [.ref (ad 58), .ref (ad n1), .int x2] M (self M n1 x2))  (M : Mem) (n1 : Nat) (x2 : Int32) (x3 : Int32) (n4 : Nat) (h1 : isFe n1) (h4 : isMo n4) : Jp X ad cid 5 (qm X ad (qV ad cid)) M 113 [some (.ref (ad 58)), some (.ref (ad n1)), some (.int x2), some (.int x3), some (.ref (ad n4))] [] (sX9_tryAll_113 rec55 self M n1 x2 x3 n4) := by
  unfold sX9_tryAll_113
  refine j_aload (pc := 113) hC dX9_tryAll_113 rfl ?_
  refine j_aload_n (pc := 115) hC dX9_tryAll_115 rfl ?_
  refine j_bV (pc := 116) (run_V hC (st := []) (kt_X4_row hC.ly h4 h1 M) vv_X4_row qw584 (mo_lt h4) (sh_X4 h4) rfl ⟨by omega, by omega⟩ rfl rfl (Nat.le_of_ble_eq_true rfl) dX9_tryAll_116) (fun M18 => ?_)
  refine j_aload_n (pc := 119) hC dX9_tryAll_119 rfl ?_
  refine j_aload_n (pc := 120) hC dX9_tryAll_120 rfl ?_
  refine j_iload_n (pc := 121) hC dX9_tryAll_121 rfl ?_
  refine j_iconst (pc := 122) hC dX9_tryAll_122 (v := 1) (by decide) ?_
  refine j_iadd (pc := 123) hC dX9_tryAll_123 ?_
  refine j_bV (pc := 124) (run_V hC (st := []) (hself M18 n1 (x2 + (1 : Int32)) h1) vv_X9_tryAll qw571 (by decide) sh_X9 rfl ⟨by omega, by omega⟩ rfl rfl (Nat.le_of_ble_eq_true rfl) dX9_tryAll_124) (fun M19 => ?_)
  refine j_iinc (pc := 127) hC (lv' := [some (.ref (ad 58)), some (.ref (ad n1)), some (.int x2), some (.int (x3 + 1)), some (.ref (ad n4))]) dX9_tryAll_127 rfl (v := 1) (by decide) (by decide) rfl rfl ?_
  refine j_goto (pc := 130) hC dX9_tryAll_130 (tgt := 55) (by decide) ?_
  refine j_mask [true, true, true, true, false] (lv' := [some (.ref (ad 58)), some (.ref (ad n1)), some (.int x2), some (.int (x3 + 1)), none]) rfl ?_
  exact hrec55 M19 n1 x2 (x3 + 1) h1
set_option maxRecDepth 20000 in
set_option maxHeartbeats 4000000 in
theorem tsX9_tryAll_78 {X : Cx} {ad : Nat → Nat} {cid : Nat → ClassId} {fr lo : Nat} {fr2 lo2 : Nat} {self : Mem → Nat → Int32 → Option (Mem)} (hR2 : fr2 + 1 ≤ fr ∧ 8 + (5 + 11) + lo2 ≤ lo) (hR1 : 5 ≤ fr ∧ 115 ≤ lo) (hC : Ok X ad cid cX9_tryAll RX9 5 none fr lo) {rec55 : Mem → Nat → Int32 → Int32 → Option (Mem)} (hrec55 : ∀ (M : Mem) (n1 : Nat) (x2 : Int32) (x3 : Int32), isFe n1 → Jp X ad cid 5 (qm X ad (qV ad cid)) M 55 [some (.ref (ad 58)), some (.ref (ad n1)), some (.int x2), some (.int x3), none] [] (rec55 M n1 x2 x3)) (hself : ∀ (M : Mem) (n1 : Nat) (x2 : Int32), isFe n1 → Ct (qV ad cid) (cxL X) ad cid (cxD X) yX9_tryAll cX9_tryAll 5 none fr2 lo2 [.ref (ad 58), .ref (ad n1), .int x2] M (self M n1 x2))  (M : Mem) (n1 : Nat) (x2 : Int32) (x3 : Int32) (s1 : Int32) (s2 : Int32) (h1 : isFe n1) : Jp X ad cid 5 (qm X ad (qV ad cid)) M 78 [some (.ref (ad 58)), some (.ref (ad n1)), some (.int x2), some (.int x3), none] [.int s2, .int s1, .ref (ad 60)] (sX9_tryAll_78 rec55 self M n1 x2 x3 s1 s2) := by
  unfold sX9_tryAll_78
  refine j_ck (fun hi12 => ?_)
  refine j_iast (pc := 78) hC (n := 3) rfl rfl hi12 dX9_tryAll_78 ?_
  refine j_aload_n (pc := 79) hC dX9_tryAll_79 rfl ?_
  refine gX9_11 (pc := 80) hC dX9_tryAll_80 ?_
  refine j_iload_n (pc := 83) hC dX9_tryAll_83 rfl ?_
  refine j_iconst (pc := 84) hC dX9_tryAll_84 (v := 1) (by decide) ?_
  refine j_iadd (pc := 85) hC dX9_tryAll_85 ?_
  refine j_ck (fun hi13 => ?_)
  refine j_aald (pc := 86) hC (n := 4) (b0 := 62) rfl rfl rfl hi13 dX9_tryAll_86 ?_
  refine j_astore (pc := 87) hC (lv' := [some (.ref (ad 58)), some (.ref (ad n1)), some (.int x2), some (.int x3), some (.ref (ad (62 + 3 * (x2 + (1 : Int32)).toNatClampNeg)))]) dX9_tryAll_87 (by decide) rfl rfl ?_
  refine j_aload (pc := 89) hC dX9_tryAll_89 rfl ?_
  refine j_aload_n (pc := 91) hC dX9_tryAll_91 rfl ?_
  refine gX9_11 (pc := 92) hC dX9_tryAll_92 ?_
  refine j_iload_n (pc := 95) hC dX9_tryAll_95 rfl ?_
  refine j_ck (fun hi14 => ?_)
  refine j_aald (pc := 96) hC (n := 4) (b0 := 62) rfl rfl rfl hi14 dX9_tryAll_96 ?_
  refine j_bV (pc := 97) (run_V hC (st := []) (kt_X4_copyFrom hC.ly (mo_Q hi13) (mo_Q hi14) (sM M 60 s1.toNatClampNeg s2)) vv_X4_copyFrom qw570 (mo_lt (mo_Q hi13)) (sh_X4 (mo_Q hi13)) rfl ⟨by omega, by omega⟩ rfl rfl (Nat.le_of_ble_eq_true rfl) dX9_tryAll_97) (fun M15 => ?_)
  refine j_iload_n (pc := 100) hC dX9_tryAll_100 rfl ?_
  refine j_if_lt (pc := 101) hC dX9_tryAll_101 (tgt := 113) (by decide) (fun hb16 => ?_) (fun hb16 => ?_)
  · exact tsX9_tryAll_113 hR2 hR1 hC hrec55 hself M15 n1 x2 x3 (62 + 3 * (x2 + (1 : Int32)).toNatClampNeg) h1 (mo_Q hi13)
  · refine j_aload (pc := 104) hC dX9_tryAll_104 rfl ?_
    refine j_aload_n (pc := 106) hC dX9_tryAll_106 rfl ?_
    refine j_iconst (pc := 107) hC dX9_tryAll_107 (v := 1) (by decide) ?_
    refine j_iload_n (pc := 108) hC dX9_tryAll_108 rfl ?_
    refine j_ishl (pc := 109) hC dX9_tryAll_109 ?_
    refine j_bV (pc := 110) (run_V hC (st := []) (kt_X4_speak hC.ly (mo_Q hi13) h1 M15 ((1 : Int32) <<< (x3 &&& 31))) vv_X4_speak qw583 (mo_lt (mo_Q hi13)) (sh_X4 (mo_Q hi13)) rfl ⟨by omega, by omega⟩ rfl rfl (Nat.le_of_ble_eq_true rfl) dX9_tryAll_110) (fun M17 => ?_)
    exact tsX9_tryAll_113 hR2 hR1 hC hrec55 hself M17 n1 x2 x3 (62 + 3 * (x2 + (1 : Int32)).toNatClampNeg) h1 (mo_Q hi13)
set_option maxRecDepth 20000 in
set_option maxHeartbeats 4000000 in
theorem tsX9_tryAll_55 {X : Cx} {ad : Nat → Nat} {cid : Nat → ClassId} {fr lo : Nat} {fr2 lo2 : Nat} {self : Mem → Nat → Int32 → Option (Mem)} (hR2 : fr2 + 1 ≤ fr ∧ 8 + (5 + 11) + lo2 ≤ lo) (hR1 : 5 ≤ fr ∧ 115 ≤ lo) (hC : Ok X ad cid cX9_tryAll RX9 5 none fr lo)  (hself : ∀ (M : Mem) (n1 : Nat) (x2 : Int32), isFe n1 → Ct (qV ad cid) (cxL X) ad cid (cxD X) yX9_tryAll cX9_tryAll 5 none fr2 lo2 [.ref (ad 58), .ref (ad n1), .int x2] M (self M n1 x2)) {rec55 : Mem → Nat → Int32 → Int32 → Option (Mem)} (hrec55 : ∀ (M : Mem) (n1 : Nat) (x2 : Int32) (x3 : Int32), isFe n1 → Jp X ad cid 5 (qm X ad (qV ad cid)) M 55 [some (.ref (ad 58)), some (.ref (ad n1)), some (.int x2), some (.int x3), none] [] (rec55 M n1 x2 x3)) (M : Mem) (n1 : Nat) (x2 : Int32) (x3 : Int32) (h1 : isFe n1) : Jp X ad cid 5 (qm X ad (qV ad cid)) M 55 [some (.ref (ad 58)), some (.ref (ad n1)), some (.int x2), some (.int x3), none] [] (sX9_tryAll_55  self rec55 M n1 x2 x3) := by
  unfold sX9_tryAll_55
  refine j_iload_n (pc := 55) hC dX9_tryAll_55 rfl ?_
  refine j_aload_n (pc := 56) hC dX9_tryAll_56 rfl ?_
  refine gX9_61 (pc := 57) hC h1 dX9_tryAll_57 ?_
  refine j_icmp_ge (pc := 60) hC dX9_tryAll_60 (tgt := 133) (by decide) (fun hb10 => ?_) (fun hb10 => ?_)
  · exact j_vret (pc := 133) hC dX9_tryAll_133
  · refine j_aload_n (pc := 63) hC dX9_tryAll_63 rfl ?_
    refine gX9_17 (pc := 64) hC dX9_tryAll_64 ?_
    refine j_iload_n (pc := 67) hC dX9_tryAll_67 rfl ?_
    refine j_iload_n (pc := 68) hC dX9_tryAll_68 rfl ?_
    refine j_if_ge (pc := 69) hC dX9_tryAll_69 (tgt := 77) (by decide) (fun hb11 => ?_) (fun hb11 => ?_)
    · refine j_iload_n (pc := 77) hC dX9_tryAll_77 rfl ?_
      exact tsX9_tryAll_78 hR2 hR1 hC hrec55 hself M n1 x2 x3 x2 x3 h1
    · refine j_bipush (pc := 72) hC dX9_tryAll_72 (v := (-5)) (by decide) ?_
      refine j_goto (pc := 74) hC dX9_tryAll_74 (tgt := 78) (by decide) ?_
      exact tsX9_tryAll_78 hR2 hR1 hC hrec55 hself M n1 x2 x3 x2 (-5 : Int32) h1
theorem tlX9_tryAll_55 {X : Cx} {ad : Nat → Nat} {cid : Nat → ClassId} {fr lo : Nat} {fr2 lo2 : Nat} {self : Mem → Nat → Int32 → Option (Mem)} (hR2 : fr2 + 1 ≤ fr ∧ 8 + (5 + 11) + lo2 ≤ lo) (hR1 : 5 ≤ fr ∧ 115 ≤ lo) (hC : Ok X ad cid cX9_tryAll RX9 5 none fr lo)  (hself : ∀ (M : Mem) (n1 : Nat) (x2 : Int32), isFe n1 → Ct (qV ad cid) (cxL X) ad cid (cxD X) yX9_tryAll cX9_tryAll 5 none fr2 lo2 [.ref (ad 58), .ref (ad n1), .int x2] M (self M n1 x2))  : ∀ (n : Nat) (M : Mem) (n1 : Nat) (x2 : Int32) (x3 : Int32), isFe n1 → Jp X ad cid 5 (qm X ad (qV ad cid)) M 55 [some (.ref (ad 58)), some (.ref (ad n1)), some (.int x2), some (.int x3), none] [] (lX9_tryAll_55  self n M n1 x2 x3) := by
  intro n
  induction n with
  | zero => intros; exact j_none
  | succ n ih => exact tsX9_tryAll_55 hR2 hR1 hC  hself ih
set_option maxRecDepth 20000 in
set_option maxHeartbeats 4000000 in
theorem tsX9_tryAll_46 {X : Cx} {ad : Nat → Nat} {cid : Nat → ClassId} {fr lo : Nat} {fr2 lo2 : Nat} {self : Mem → Nat → Int32 → Option (Mem)} (hR2 : fr2 + 1 ≤ fr ∧ 8 + (5 + 11) + lo2 ≤ lo) (hR1 : 5 ≤ fr ∧ 115 ≤ lo) (hC : Ok X ad cid cX9_tryAll RX9 5 none fr lo)  (hself : ∀ (M : Mem) (n1 : Nat) (x2 : Int32), isFe n1 → Ct (qV ad cid) (cxL X) ad cid (cxD X) yX9_tryAll cX9_tryAll 5 none fr2 lo2 [.ref (ad 58), .ref (ad n1), .int x2] M (self M n1 x2))  (M : Mem) (n1 : Nat) (x2 : Int32) (h1 : isFe n1) : Jp X ad cid 5 (qm X ad (qV ad cid)) M 46 [some (.ref (ad 58)), some (.ref (ad n1)), some (.int x2), none, none] [] (sX9_tryAll_46  self M n1 x2) := by
  unfold sX9_tryAll_46
  refine j_aload_n (pc := 46) hC dX9_tryAll_46 rfl ?_
  refine j_aload_n (pc := 47) hC dX9_tryAll_47 rfl ?_
  refine j_iload_n (pc := 48) hC dX9_tryAll_48 rfl ?_
  refine j_bV (pc := 49) (run_V hC (st := []) (kt_X9_weigh hC.ly h1 M x2) vv_X9_weigh qw576 (by decide) sh_X9 rfl ⟨by omega, by omega⟩ rfl rfl (Nat.le_of_ble_eq_true rfl) dX9_tryAll_49) (fun M9 => ?_)
  exact j_vret (pc := 52) hC dX9_tryAll_52
set_option maxRecDepth 20000 in
set_option maxHeartbeats 4000000 in
theorem teX9_tryAll {l : Launch} {ad : Nat → Nat} {cid : Nat → ClassId} {D : va_G} (hL : lyOk ad) {fr lo fr2 lo2 : Nat} {self : Mem → Nat → Int32 → Option (Mem)} (hR2 : fr2 + 1 ≤ fr ∧ 24 + lo2 ≤ lo) (hR1 : 5 ≤ fr ∧ 115 ≤ lo) (hself : ∀ (M : Mem) (n1 : Nat) (x2 : Int32), isFe n1 → Ct (qV ad cid) l ad cid D yX9_tryAll cX9_tryAll 5 none fr2 lo2 [.ref (ad 58), .ref (ad n1), .int x2] M (self M n1 x2)) (M : Mem) (n1 : Nat) (x2 : Int32) : isFe n1 → Ct (qV ad cid) l ad cid D yX9_tryAll cX9_tryAll 5 none fr lo [.ref (ad 58), .ref (ad n1), .int x2] M (eX9_tryAll self M n1 x2) := by
  intro h1
  refine ct_of2 (own := RX9) (lv := [some (.ref (ad 58)), some (.ref (ad n1)), some (.int x2), none, none]) hL (by decide +kernel) rfl rfl (Nat.le_of_ble_eq_true rfl) (fun X hl hd hC => ?_)
  subst hl hd
  unfold eX9_tryAll
  refine j_iload_n (pc := 0) hC dX9_tryAll_0 rfl ?_
  refine j_if_lt (pc := 1) hC dX9_tryAll_1 (tgt := 21) (by decide) (fun hb1 => ?_) (fun hb1 => ?_)
  · exact j_vret (pc := 21) hC dX9_tryAll_21
  · refine j_iload_n (pc := 4) hC dX9_tryAll_4 rfl ?_
    refine j_aload_n (pc := 5) hC dX9_tryAll_5 rfl ?_
    refine gX9_31 (pc := 6) hC dX9_tryAll_6 ?_
    refine j_icmp_gt (pc := 9) hC dX9_tryAll_9 (tgt := 21) (by decide) (fun hb2 => ?_) (fun hb2 => ?_)
    · exact j_vret (pc := 21) hC dX9_tryAll_21
    · refine j_iload_n (pc := 12) hC dX9_tryAll_12 rfl ?_
      refine j_aload_n (pc := 13) hC dX9_tryAll_13 rfl ?_
      refine gX9_11 (pc := 14) hC dX9_tryAll_14 ?_
      refine j_alen3 (pc := 17) hC (v := 4) rfl rfl dX9_tryAll_17 ?_
      refine j_icmp_lt (pc := 18) hC dX9_tryAll_18 (tgt := 22) (by decide) (fun hb3 => ?_) (fun hb3 => ?_)
      · refine j_iload_n (pc := 22) hC dX9_tryAll_22 rfl ?_
        refine j_aload_n (pc := 23) hC dX9_tryAll_23 rfl ?_
        refine gX9_31 (pc := 24) hC dX9_tryAll_24 ?_
        refine j_icmp_eq (pc := 27) hC dX9_tryAll_27 (tgt := 46) (by decide) (fun hb4 => ?_) (fun hb4 => ?_)
        · exact tsX9_tryAll_46 hR2 hR1 hC hself M n1 x2 h1
        · refine j_aload_n (pc := 30) hC dX9_tryAll_30 rfl ?_
          refine j_aload_n (pc := 31) hC dX9_tryAll_31 rfl ?_
          refine gX9_11 (pc := 32) hC dX9_tryAll_32 ?_
          refine j_iload_n (pc := 35) hC dX9_tryAll_35 rfl ?_
          refine j_ck (fun hi5 => ?_)
          refine j_aald (pc := 36) hC (n := 4) (b0 := 62) rfl rfl rfl hi5 dX9_tryAll_36 ?_
          refine gX9_49 (pc := 37) hC (mo_Q hi5) dX9_tryAll_37 ?_
          refine j_bI (pc := 40) (run_V hC (st := []) (kt_X2_isOver hC.ly h1 M (gM M (62 + 3 * x2.toNatClampNeg) 1)) vv_X2_isOver qw575 (fe_lt h1) (sh_X2 h1) rfl ⟨by omega, by omega⟩ rfl rfl (Nat.le_of_ble_eq_true rfl) dX9_tryAll_40) (fun M6 r7 => ?_)
          refine j_if_eq (pc := 43) hC dX9_tryAll_43 (tgt := 53) (by decide) (fun hb8 => ?_) (fun hb8 => ?_)
          · refine j_iconst (pc := 53) hC dX9_tryAll_53 (v := (-1)) (by decide) ?_
            refine j_istore_n (pc := 54) hC (lv' := [some (.ref (ad 58)), some (.ref (ad n1)), some (.int x2), some (.int (-1 : Int32)), none]) dX9_tryAll_54 (by decide) rfl rfl ?_
            exact tlX9_tryAll_55 hR2 hR1 hC hself fuel M6 n1 x2 (-1 : Int32) h1
          · exact tsX9_tryAll_46 hR2 hR1 hC hself M6 n1 x2 h1
      · exact j_vret (pc := 21) hC dX9_tryAll_21
theorem trX9_tryAll {l : Launch} {ad : Nat → Nat} {cid : Nat → ClassId} {D : va_G} (hL : lyOk ad) : ∀ (n : Nat) (M : Mem) (n1 : Nat) (x2 : Int32), isFe n1 → Ct (qV ad cid) l ad cid D yX9_tryAll cX9_tryAll 5 none (5 + n) (115 + 24 * n) [.ref (ad 58), .ref (ad n1), .int x2] M (rX9_tryAll n M n1 x2) := by
  intro n
  induction n with
  | zero => intros; exact fun _ h => by cases h
  | succ n ih => intro M n1 x2; exact teX9_tryAll hL ⟨by omega, by omega⟩ ⟨by omega, by omega⟩ ih M n1 x2
theorem kt_X9_tryAll {l : Launch} {ad : Nat → Nat} {cid : Nat → ClassId} {D : va_G} (hL : lyOk ad) {n1 : Nat} (h1 : isFe n1) (M : Mem) (x2 : Int32) : Ct (qV ad cid) l ad cid D yX9_tryAll cX9_tryAll 5 none 10 235 [.ref (ad 58), .ref (ad n1), .int x2] M (fX9_tryAll M n1 x2) := trX9_tryAll hL 5 M n1 x2 h1
