/-! LastRower.contradictsSeen(II)Z -/
set_option maxRecDepth 20000 in
set_option maxHeartbeats 4000000 in
theorem tsX11_contradictsSeen_2 {X : Cx} {ad : Nat → Nat} {cid : Nat → ClassId} (hC : Ok X ad cid cX11_contradictsSeen RX11 4 (some .boolean) 0 0)  {rec2 : Mem → Int32 → Int32 → Int32 → Option (Mem × Int32)} (hrec2 : ∀ (M : Mem) (x1 : Int32) (x2 : Int32) (x3 : Int32), Jp X ad cid 4 (qm X ad (qI ad cid)) M 2 [some (.ref (ad 0)), some (.int x1), some (.int x2), some (.int x3)] [] (rec2 M x1 x2 x3)) (M : Mem) (x1 : Int32) (x2 : Int32) (x3 : Int32)  : Jp X ad cid 4 (qm X ad (qI ad cid)) M 2 [some (.ref (ad 0)), some (.int x1), some (.int x2), some (.int x3)] [] (sX11_contradictsSeen_2  rec2 M x1 x2 x3) := by
  unfold sX11_contradictsSeen_2
  refine j_iload_n (pc := 2) hC dX11_contradictsSeen_2 rfl ?_
  refine j_aload_n (pc := 3) hC dX11_contradictsSeen_3 rfl ?_
  refine gX11_109 (pc := 4) hC dX11_contradictsSeen_4 ?_
  refine j_icmp_ge (pc := 7) hC dX11_contradictsSeen_7 (tgt := 43) (by decide) (fun hb1 => ?_) (fun hb1 => ?_)
  · refine j_iconst (pc := 43) hC dX11_contradictsSeen_43 (v := 0) (by decide) ?_
    exact j_zret (pc := 44) hC dX11_contradictsSeen_44 (by decide)
  · refine j_iload_n (pc := 10) hC dX11_contradictsSeen_10 rfl ?_
    refine j_iconst (pc := 11) hC dX11_contradictsSeen_11 (v := 5) (by decide) ?_
    refine j_icmp_ge (pc := 12) hC dX11_contradictsSeen_12 (tgt := 43) (by decide) (fun hb2 => ?_) (fun hb2 => ?_)
    · refine j_iconst (pc := 43) hC dX11_contradictsSeen_43 (v := 0) (by decide) ?_
      exact j_zret (pc := 44) hC dX11_contradictsSeen_44 (by decide)
    · refine j_aload_n (pc := 15) hC dX11_contradictsSeen_15 rfl ?_
      refine gX11_44 (pc := 16) hC dX11_contradictsSeen_16 ?_
      refine j_iload_n (pc := 19) hC dX11_contradictsSeen_19 rfl ?_
      refine j_ck (fun hi3 => ?_)
      refine j_iald (pc := 20) hC (n := 5) rfl rfl hi3 dX11_contradictsSeen_20 ?_
      refine j_iload_n (pc := 21) hC dX11_contradictsSeen_21 rfl ?_
      refine j_icmp_ne (pc := 22) hC dX11_contradictsSeen_22 (tgt := 37) (by decide) (fun hb4 => ?_) (fun hb4 => ?_)
      · refine j_iinc (pc := 37) hC (lv' := [some (.ref (ad 0)), some (.int x1), some (.int x2), some (.int (x3 + 1))]) dX11_contradictsSeen_37 rfl (v := 1) (by decide) (by decide) rfl rfl ?_
        refine j_goto (pc := 40) hC dX11_contradictsSeen_40 (tgt := 2) (by decide) ?_
        exact hrec2 M x1 x2 (x3 + 1)
      · refine j_aload_n (pc := 25) hC dX11_contradictsSeen_25 rfl ?_
        refine gX11_48 (pc := 26) hC dX11_contradictsSeen_26 ?_
        refine j_iload_n (pc := 29) hC dX11_contradictsSeen_29 rfl ?_
        refine j_iald (pc := 30) hC (n := 5) rfl rfl hi3 dX11_contradictsSeen_30 ?_
        refine j_iload_n (pc := 31) hC dX11_contradictsSeen_31 rfl ?_
        refine j_icmp_eq (pc := 32) hC dX11_contradictsSeen_32 (tgt := 37) (by decide) (fun hb5 => ?_) (fun hb5 => ?_)
        · refine j_iinc (pc := 37) hC (lv' := [some (.ref (ad 0)), some (.int x1), some (.int x2), some (.int (x3 + 1))]) dX11_contradictsSeen_37 rfl (v := 1) (by decide) (by decide) rfl rfl ?_
          refine j_goto (pc := 40) hC dX11_contradictsSeen_40 (tgt := 2) (by decide) ?_
          exact hrec2 M x1 x2 (x3 + 1)
        · refine j_iconst (pc := 35) hC dX11_contradictsSeen_35 (v := 1) (by decide) ?_
          exact j_zret (pc := 36) hC dX11_contradictsSeen_36 (by decide)
theorem tlX11_contradictsSeen_2 {X : Cx} {ad : Nat → Nat} {cid : Nat → ClassId} (hC : Ok X ad cid cX11_contradictsSeen RX11 4 (some .boolean) 0 0)   : ∀ (n : Nat) (M : Mem) (x1 : Int32) (x2 : Int32) (x3 : Int32), Jp X ad cid 4 (qm X ad (qI ad cid)) M 2 [some (.ref (ad 0)), some (.int x1), some (.int x2), some (.int x3)] [] (lX11_contradictsSeen_2  n M x1 x2 x3) := by
  intro n
  induction n with
  | zero => intros; exact j_none
  | succ n ih => exact tsX11_contradictsSeen_2 hC   ih
set_option maxRecDepth 20000 in
set_option maxHeartbeats 4000000 in
theorem kt_X11_contradictsSeen {l : Launch} {ad : Nat → Nat} {cid : Nat → ClassId} {D : va_G} (hL : lyOk ad)  (M : Mem) (x1 : Int32) (x2 : Int32) : Ct (qI ad cid) l ad cid D yX11_contradictsSeen cX11_contradictsSeen 4 (some .boolean) 0 0 [.ref (ad 0), .int x1, .int x2] M (fX11_contradictsSeen M x1 x2) := by
  refine ct_of (own := RX11) (lv := [some (.ref (ad 0)), some (.int x1), some (.int x2), none]) hL (by decide +kernel) rfl rfl (Nat.le_of_ble_eq_true rfl) (fun X hC => ?_)
  unfold fX11_contradictsSeen
  refine j_iconst (pc := 0) hC dX11_contradictsSeen_0 (v := 0) (by decide) ?_
  refine j_istore_n (pc := 1) hC (lv' := [some (.ref (ad 0)), some (.int x1), some (.int x2), some (.int (0 : Int32))]) dX11_contradictsSeen_1 (by decide) rfl rfl ?_
  exact tlX11_contradictsSeen_2 hC fuel M x1 x2 (0 : Int32)
/-! LastRower.latestSeen()I -/
set_option maxRecDepth 20000 in
set_option maxHeartbeats 4000000 in
theorem tsX11_latestSeen_4 {X : Cx} {ad : Nat → Nat} {cid : Nat → ClassId} (hC : Ok X ad cid cX11_latestSeen RX11 3 (some .int) 1 13)  {rec4 : Mem → Int32 → Int32 → Option (Mem × Int32)} (hrec4 : ∀ (M : Mem) (x1 : Int32) (x2 : Int32), Jp X ad cid 3 (qm X ad (qI ad cid)) M 4 [some (.ref (ad 0)), some (.int x1), some (.int x2)] [] (rec4 M x1 x2)) (M : Mem) (x1 : Int32) (x2 : Int32)  : Jp X ad cid 3 (qm X ad (qI ad cid)) M 4 [some (.ref (ad 0)), some (.int x1), some (.int x2)] [] (sX11_latestSeen_4  rec4 M x1 x2) := by
  unfold sX11_latestSeen_4
  refine j_iload_n (pc := 4) hC dX11_latestSeen_4 rfl ?_
  refine j_aload_n (pc := 5) hC dX11_latestSeen_5 rfl ?_
  refine gX11_109 (pc := 6) hC dX11_latestSeen_6 ?_
  refine j_icmp_ge (pc := 9) hC dX11_latestSeen_9 (tgt := 34) (by decide) (fun hb1 => ?_) (fun hb1 => ?_)
  · refine j_iload_n (pc := 34) hC dX11_latestSeen_34 rfl ?_
    exact j_iret (pc := 35) hC dX11_latestSeen_35
  · refine j_iload_n (pc := 12) hC dX11_latestSeen_12 rfl ?_
    refine j_iconst (pc := 13) hC dX11_latestSeen_13 (v := 5) (by decide) ?_
    refine j_icmp_ge (pc := 14) hC dX11_latestSeen_14 (tgt := 34) (by decide) (fun hb2 => ?_) (fun hb2 => ?_)
    · refine j_iload_n (pc := 34) hC dX11_latestSeen_34 rfl ?_
      exact j_iret (pc := 35) hC dX11_latestSeen_35
    · refine j_iload_n (pc := 17) hC dX11_latestSeen_17 rfl ?_
      refine j_aload_n (pc := 18) hC dX11_latestSeen_18 rfl ?_
      refine gX11_44 (pc := 19) hC dX11_latestSeen_19 ?_
      refine j_iload_n (pc := 22) hC dX11_latestSeen_22 rfl ?_
      refine j_ck (fun hi3 => ?_)
      refine j_iald (pc := 23) hC (n := 5) rfl rfl hi3 dX11_latestSeen_23 ?_
      refine j_mmax (pc := 24) hC qw625 qm_max_s qm_i qm_max_c (Nat.le_of_ble_eq_true rfl) (Nat.le_of_ble_eq_true rfl) dX11_latestSeen_24 ?_
      refine j_istore_n (pc := 27) hC (lv' := [some (.ref (ad 0)), some (.int (if x1 < (gM M 55 x2.toNatClampNeg) then (gM M 55 x2.toNatClampNeg) else x1)), some (.int x2)]) dX11_latestSeen_27 (by decide) rfl rfl ?_
      refine j_iinc (pc := 28) hC (lv' := [some (.ref (ad 0)), some (.int (if x1 < (gM M 55 x2.toNatClampNeg) then (gM M 55 x2.toNatClampNeg) else x1)), some (.int (x2 + 1))]) dX11_latestSeen_28 rfl (v := 1) (by decide) (by decide) rfl rfl ?_
      refine j_goto (pc := 31) hC dX11_latestSeen_31 (tgt := 4) (by decide) ?_
      exact hrec4 M (if x1 < (gM M 55 x2.toNatClampNeg) then (gM M 55 x2.toNatClampNeg) else x1) (x2 + 1)
theorem tlX11_latestSeen_4 {X : Cx} {ad : Nat → Nat} {cid : Nat → ClassId} (hC : Ok X ad cid cX11_latestSeen RX11 3 (some .int) 1 13)   : ∀ (n : Nat) (M : Mem) (x1 : Int32) (x2 : Int32), Jp X ad cid 3 (qm X ad (qI ad cid)) M 4 [some (.ref (ad 0)), some (.int x1), some (.int x2)] [] (lX11_latestSeen_4  n M x1 x2) := by
  intro n
  induction n with
  | zero => intros; exact j_none
  | succ n ih => exact tsX11_latestSeen_4 hC   ih
set_option maxRecDepth 20000 in
set_option maxHeartbeats 4000000 in
theorem kt_X11_latestSeen {l : Launch} {ad : Nat → Nat} {cid : Nat → ClassId} {D : va_G} (hL : lyOk ad)  (M : Mem)  : Ct (qI ad cid) l ad cid D yX11_latestSeen cX11_latestSeen 3 (some .int) 1 13 [.ref (ad 0)] M (fX11_latestSeen M ) := by
  refine ct_of (own := RX11) (lv := [some (.ref (ad 0)), none, none]) hL (by decide +kernel) rfl rfl (Nat.le_of_ble_eq_true rfl) (fun X hC => ?_)
  unfold fX11_latestSeen
  refine j_iconst (pc := 0) hC dX11_latestSeen_0 (v := (-1)) (by decide) ?_
  refine j_istore_n (pc := 1) hC (lv' := [some (.ref (ad 0)), some (.int (-1 : Int32)), none]) dX11_latestSeen_1 (by decide) rfl rfl ?_
  refine j_iconst (pc := 2) hC dX11_latestSeen_2 (v := 0) (by decide) ?_
  refine j_istore_n (pc := 3) hC (lv' := [some (.ref (ad 0)), some (.int (-1 : Int32)), some (.int (0 : Int32))]) dX11_latestSeen_3 (by decide) rfl rfl ?_
  exact tlX11_latestSeen_4 hC fuel M (-1 : Int32) (0 : Int32)
/-! LastRower$Ferry.flowAt(I)I -/
set_option maxRecDepth 20000 in
set_option maxHeartbeats 4000000 in
theorem kt_X2_flowAt {l : Launch} {ad : Nat → Nat} {cid : Nat → ClassId} {D : va_G} (hL : lyOk ad) {n0 : Nat} (h0 : isFe n0) (M : Mem) (x1 : Int32) : Ct (qI ad cid) l ad cid D yX2_flowAt cX2_flowAt 2 (some .int) 1 14 [.ref (ad n0), .int x1] M (fX2_flowAt M n0 x1) := by
  refine ct_of (own := RX2) (lv := [some (.ref (ad n0)), some (.int x1)]) hL (by decide +kernel) rfl rfl (Nat.le_of_ble_eq_true rfl) (fun X hC => ?_)
  unfold fX2_flowAt
  refine j_iload_n (pc := 0) hC dX2_flowAt_0 rfl ?_
  refine j_if_ge (pc := 1) hC dX2_flowAt_1 (tgt := 8) (by decide) (fun hb1 => ?_) (fun hb1 => ?_)
  · refine j_aload_n (pc := 8) hC dX2_flowAt_8 rfl ?_
    refine gX2_34 (pc := 9) hC h0 dX2_flowAt_9 ?_
    refine j_iload_n (pc := 12) hC dX2_flowAt_12 rfl ?_
    refine j_sipush (pc := 13) hC dX2_flowAt_13 (v := 199) (by decide) ?_
    refine j_mmin (pc := 16) hC qw439 qm_min_s qm_i qm_min_c (Nat.le_of_ble_eq_true rfl) (Nat.le_of_ble_eq_true rfl) dX2_flowAt_16 ?_
    refine j_ck (fun hi2 => ?_)
    refine j_iald (pc := 19) hC (n := 200) (fe_a h0 7 (by decide) (by decide)) (fe_n h0 7 (by decide) (by decide)) hi2 dX2_flowAt_19 ?_
    exact j_iret (pc := 20) hC dX2_flowAt_20
  · refine j_iconst (pc := 4) hC dX2_flowAt_4 (v := 0) (by decide) ?_
    refine j_goto (pc := 5) hC dX2_flowAt_5 (tgt := 20) (by decide) ?_
    exact j_iret (pc := 20) hC dX2_flowAt_20
/-! LastRower$Ferry.isOver(I)Z -/
set_option maxRecDepth 20000 in
set_option maxHeartbeats 4000000 in
theorem kt_X2_isOver {l : Launch} {ad : Nat → Nat} {cid : Nat → ClassId} {D : va_G} (hL : lyOk ad) {n0 : Nat} (h0 : isFe n0) (M : Mem) (x1 : Int32) : Ct (qI ad cid) l ad cid D yX2_isOver cX2_isOver 2 (some .boolean) 0 0 [.ref (ad n0), .int x1] M (fX2_isOver M n0 x1) := by
  refine ct_of (own := RX2) (lv := [some (.ref (ad n0)), some (.int x1)]) hL (by decide +kernel) rfl rfl (Nat.le_of_ble_eq_true rfl) (fun X hC => ?_)
  unfold fX2_isOver
  refine j_iload_n (pc := 0) hC dX2_isOver_0 rfl ?_
  refine j_aload_n (pc := 1) hC dX2_isOver_1 rfl ?_
  refine gX2_27 (pc := 2) hC h0 dX2_isOver_2 ?_
  refine j_icmp_lt (pc := 5) hC dX2_isOver_5 (tgt := 12) (by decide) (fun hb1 => ?_) (fun hb1 => ?_)
  · refine j_iconst (pc := 12) hC dX2_isOver_12 (v := 0) (by decide) ?_
    exact j_zret (pc := 13) hC dX2_isOver_13 (by decide)
  · refine j_iconst (pc := 8) hC dX2_isOver_8 (v := 1) (by decide) ?_
    refine j_goto (pc := 9) hC dX2_isOver_9 (tgt := 13) (by decide) ?_
    exact j_zret (pc := 13) hC dX2_isOver_13 (by decide)
/-! LastRower$Ferry.pullOf(I)I -/
set_option maxRecDepth 20000 in
set_option maxHeartbeats 4000000 in
theorem kt_X2_pullOf {l : Launch} {ad : Nat → Nat} {cid : Nat → ClassId} {D : va_G} (hL : lyOk ad) {n0 : Nat} (h0 : isFe n0) (M : Mem) (x1 : Int32) : Ct (qI ad cid) l ad cid D yX2_pullOf cX2_pullOf 2 (some .int) 0 0 [.ref (ad n0), .int x1] M (fX2_pullOf M n0 x1) := by
  refine ct_of (own := RX2) (lv := [some (.ref (ad n0)), some (.int x1)]) hL (by decide +kernel) rfl rfl (Nat.le_of_ble_eq_true rfl) (fun X hC => ?_)
  unfold fX2_pullOf
  refine j_iload_n (pc := 0) hC dX2_pullOf_0 rfl ?_
  refine j_if_lt (pc := 1) hC dX2_pullOf_1 (tgt := 13) (by decide) (fun hb1 => ?_) (fun hb1 => ?_)
  · refine j_iconst (pc := 13) hC dX2_pullOf_13 (v := 0) (by decide) ?_
    refine j_goto (pc := 14) hC dX2_pullOf_14 (tgt := 23) (by decide) ?_
    exact j_iret (pc := 23) hC dX2_pullOf_23
  · refine j_iload_n (pc := 4) hC dX2_pullOf_4 rfl ?_
    refine j_aload_n (pc := 5) hC dX2_pullOf_5 rfl ?_
    refine gX2_31 (pc := 6) hC h0 dX2_pullOf_6 ?_
    refine j_alen0 (pc := 9) hC (v := 64) (fe_a h0 6 (by decide) (by decide)) (by rw [(fe_n h0 6 (by decide) (by decide))]; rfl) dX2_pullOf_9 ?_
    refine j_icmp_lt (pc := 10) hC dX2_pullOf_10 (tgt := 17) (by decide) (fun hb2 => ?_) (fun hb2 => ?_)
    · refine j_aload_n (pc := 17) hC dX2_pullOf_17 rfl ?_
      refine gX2_31 (pc := 18) hC h0 dX2_pullOf_18 ?_
      refine j_iload_n (pc := 21) hC dX2_pullOf_21 rfl ?_
      refine j_ck (fun hi3 => ?_)
      refine j_iald (pc := 22) hC (n := 64) (fe_a h0 6 (by decide) (by decide)) (fe_n h0 6 (by decide) (by decide)) hi3 dX2_pullOf_22 ?_
      exact j_iret (pc := 23) hC dX2_pullOf_23
    · refine j_iconst (pc := 13) hC dX2_pullOf_13 (v := 0) (by decide) ?_
      refine j_goto (pc := 14) hC dX2_pullOf_14 (tgt := 23) (by decide) ?_
      exact j_iret (pc := 23) hC dX2_pullOf_23
/-! LastRower$Moment.speak(LLastRower$Ferry;I)V -/
set_option maxRecDepth 20000 in
set_option maxHeartbeats 4000000 in
theorem tsX4_speak_89 {X : Cx} {ad : Nat → Nat} {cid : Nat → ClassId} (hC : Ok X ad cid cX4_speak RX4 5 none 0 0) {rec13 : Mem → Nat → Nat → Int32 → Int32 → Option (Mem)} (hrec13 : ∀ (M : Mem) (n0 : Nat) (n1 : Nat) (x2 : Int32) (x3 : Int32), isMo n0 → isFe n1 → Jp X ad cid 5 (qm X ad (qV ad cid)) M 13 [some (.ref (ad n0)), some (.ref (ad n1)), some (.int x2), some (.int x3), none] [] (rec13 M n0 n1 x2 x3))  (M : Mem) (n0 : Nat) (n1 : Nat) (x2 : Int32) (x3 : Int32) (ns0 : Nat) (s1 : Int32) (h0 : isMo n0) (h1 : isFe n1) (hs0 : isMo ns0) : Jp X ad cid 5 (qm X ad (qV ad cid)) M 89 [some (.ref (ad n0)), some (.ref (ad n1)), some (.int x2), some (.int x3), none] [.int s1, .ref (ad ns0)] (sX4_speak_89 rec13 M n0 n1 x2 x3 ns0 s1) := by
  unfold sX4_speak_89
  refine pX4_19 (pc := 89) hC hs0 dX4_speak_89 ?_
  refine j_iinc (pc := 92) hC (lv' := [some (.ref (ad n0)), some (.ref (ad n1)), some (.int x2), some (.int (x3 + 1)), none]) dX4_speak_92 rfl (v := 1) (by decide) (by decide) rfl rfl ?_
  refine j_goto (pc := 95) hC dX4_speak_95 (tgt := 13) (by decide) ?_
  exact hrec13 (sM M ns0 5 s1) n0 n1 x2 (x3 + 1) h0 h1
set_option maxRecDepth 20000 in
set_option maxHeartbeats 4000000 in
theorem tsX4_speak_55 {X : Cx} {ad : Nat → Nat} {cid : Nat → ClassId} (hC : Ok X ad cid cX4_speak RX4 5 none 0 0) {rec13 : Mem → Nat → Nat → Int32 → Int32 → Option (Mem)} (hrec13 : ∀ (M : Mem) (n0 : Nat) (n1 : Nat) (x2 : Int32) (x3 : Int32), isMo n0 → isFe n1 → Jp X ad cid 5 (qm X ad (qV ad cid)) M 13 [some (.ref (ad n0)), some (.ref (ad n1)), some (.int x2), some (.int x3), none] [] (rec13 M n0 n1 x2 x3))  (M : Mem) (n0 : Nat) (n1 : Nat) (x2 : Int32) (x3 : Int32) (h0 : isMo n0) (h1 : isFe n1) : Jp X ad cid 5 (qm X ad (qV ad cid)) M 55 [some (.ref (ad n0)), some (.ref (ad n1)), some (.int x2), some (.int x3), none] [] (sX4_speak_55 rec13 M n0 n1 x2 x3) := by
  unfold sX4_speak_55
  refine j_aload_n (pc := 55) hC dX4_speak_55 rfl ?_
  refine gX4_9 (pc := 56) hC h0 dX4_speak_56 ?_
  refine j_iload_n (pc := 59) hC dX4_speak_59 rfl ?_
  refine j_ck (fun hi5 => ?_)
  refine j_iald (pc := 60) hC (n := 6) (mo_1 h0).1 (mo_1 h0).2 hi5 dX4_speak_60 ?_
  refine j_aload_n (pc := 61) hC dX4_speak_61 rfl ?_
  refine gX4_47 (pc := 62) hC h1 dX4_speak_62 ?_
  refine j_iload_n (pc := 65) hC dX4_speak_65 rfl ?_
  refine j_iald (pc := 66) hC (n := 6) (fe_a h1 2 (by decide) (by decide)) (fe_n h1 2 (by decide) (by decide)) hi5 dX4_speak_66 ?_
  refine j_iadd (pc := 67) hC dX4_speak_67 ?_
  refine j_istore (pc := 68) hC (lv' := [some (.ref (ad n0)), some (.ref (ad n1)), some (.int x2), some (.int x3), some (.int ((gM M (n0 + 1) x3.toNatClampNeg) + (gM M (n1 + 2) x3.toNatClampNeg)))]) dX4_speak_68 (by decide) rfl rfl ?_
  refine j_aload_n (pc := 70) hC dX4_speak_70 rfl ?_
  refine j_iload (pc := 71) hC dX4_speak_71 rfl ?_
  refine j_aload_n (pc := 73) hC dX4_speak_73 rfl ?_
  refine gX4_19 (pc := 74) hC h0 dX4_speak_74 ?_
  refine j_icmp_ge (pc := 77) hC dX4_speak_77 (tgt := 85) (by decide) (fun hb6 => ?_) (fun hb6 => ?_)
  · refine j_aload_n (pc := 85) hC dX4_speak_85 rfl ?_
    refine gX4_19 (pc := 86) hC h0 dX4_speak_86 ?_
    refine j_mask [true, true, true, true, false] (lv' := [some (.ref (ad n0)), some (.ref (ad n1)), some (.int x2), some (.int x3), none]) rfl ?_
    exact tsX4_speak_89 hC hrec13 M n0 n1 x2 x3 n0 (gM M n0 5) h0 h1 h0
  · refine j_iload (pc := 80) hC dX4_speak_80 rfl ?_
    refine j_goto (pc := 82) hC dX4_speak_82 (tgt := 89) (by decide) ?_
    refine j_mask [true, true, true, true, false] (lv' := [some (.ref (ad n0)), some (.ref (ad n1)), some (.int x2), some (.int x3), none]) rfl ?_
    exact tsX4_speak_89 hC hrec13 M n0 n1 x2 x3 n0 ((gM M (n0 + 1) x3.toNatClampNeg) + (gM M (n1 + 2) x3.toNatClampNeg)) h0 h1 h0
set_option maxRecDepth 20000 in
set_option maxHeartbeats 4000000 in
theorem tsX4_speak_13 {X : Cx} {ad : Nat → Nat} {cid : Nat → ClassId} (hC : Ok X ad cid cX4_speak RX4 5 none 0 0)  {rec13 : Mem → Nat → Nat → Int32 → Int32 → Option (Mem)} (hrec13 : ∀ (M : Mem) (n0 : Nat) (n1 : Nat) (x2 : Int32) (x3 : Int32), isMo n0 → isFe n1 → Jp X ad cid 5 (qm X ad (qV ad cid)) M 13 [some (.ref (ad n0)), some (.ref (ad n1)), some (.int x2), some (.int x3), none] [] (rec13 M n0 n1 x2 x3)) (M : Mem) (n0 : Nat) (n1 : Nat) (x2 : Int32) (x3 : Int32) (h0 : isMo n0) (h1 : isFe n1) : Jp X ad cid 5 (qm X ad (qV ad cid)) M 13 [some (.ref (ad n0)), some (.ref (ad n1)), some (.int x2), some (.int x3), none] [] (sX4_speak_13  rec13 M n0 n1 x2 x3) := by
  unfold sX4_speak_13
  refine j_iload_n (pc := 13) hC dX4_speak_13 rfl ?_
  refine j_aload_n (pc := 14) hC dX4_speak_14 rfl ?_
  refine gX4_42 (pc := 15) hC h1 dX4_speak_15 ?_
  refine j_icmp_ge (pc := 18) hC dX4_speak_18 (tgt := 98) (by decide) (fun hb1 => ?_) (fun hb1 => ?_)
  · exact j_vret (pc := 98) hC dX4_speak_98
  · refine j_iload_n (pc := 21) hC dX4_speak_21 rfl ?_
    refine j_bipush (pc := 22) hC dX4_speak_22 (v := 6) (by decide) ?_
    refine j_icmp_ge (pc := 24) hC dX4_speak_24 (tgt := 98) (by decide) (fun hb2 => ?_) (fun hb2 => ?_)
    · exact j_vret (pc := 98) hC dX4_speak_98
    · refine j_iload_n (pc := 27) hC dX4_speak_27 rfl ?_
      refine j_iload_n (pc := 28) hC dX4_speak_28 rfl ?_
      refine j_ishr (pc := 29) hC dX4_speak_29 ?_
      refine j_iconst (pc := 30) hC dX4_speak_30 (v := 1) (by decide) ?_
      refine j_iand (pc := 31) hC dX4_speak_31 ?_
      refine j_if_eq (pc := 32) hC dX4_speak_32 (tgt := 55) (by decide) (fun hb3 => ?_) (fun hb3 => ?_)
      · exact tsX4_speak_55 hC hrec13 M n0 n1 x2 x3 h0 h1
      · refine j_aload_n (pc := 35) hC dX4_speak_35 rfl ?_
        refine gX4_9 (pc := 36) hC h0 dX4_speak_36 ?_
        refine j_iload_n (pc := 39) hC dX4_speak_39 rfl ?_
        refine j_aload_n (pc := 40) hC dX4_speak_40 rfl ?_
        refine gX4_23 (pc := 41) hC h0 dX4_speak_41 ?_
        refine j_ck (fun hi4 => ?_)
        refine j_iast (pc := 44) hC (n := 6) (mo_1 h0).1 (mo_1 h0).2 hi4 dX4_speak_44 ?_
        refine j_aload_n (pc := 45) hC dX4_speak_45 rfl ?_
        refine gX4_15 (pc := 46) hC h0 dX4_speak_46 ?_
        refine j_iload_n (pc := 49) hC dX4_speak_49 rfl ?_
        refine j_dup2 (pc := 50) hC dX4_speak_50 rfl rfl ?_
        refine j_iald (pc := 51) hC (n := 6) (mo_2 h0).1 (mo_2 h0).2 hi4 dX4_speak_51 ?_
        refine j_iconst (pc := 52) hC dX4_speak_52 (v := 1) (by decide) ?_
        refine j_iadd (pc := 53) hC dX4_speak_53 ?_
        refine j_iast (pc := 54) hC (n := 6) (mo_2 h0).1 (mo_2 h0).2 hi4 dX4_speak_54 ?_
        exact tsX4_speak_55 hC hrec13 (sM (sM M (n0 + 1) x3.toNatClampNeg (gM M n0 0)) (n0 + 2) x3.toNatClampNeg ((gM (sM M (n0 + 1) x3.toNatClampNeg (gM M n0 0)) (n0 + 2) x3.toNatClampNeg) + (1 : Int32))) n0 n1 x2 x3 h0 h1
theorem tlX4_speak_13 {X : Cx} {ad : Nat → Nat} {cid : Nat → ClassId} (hC : Ok X ad cid cX4_speak RX4 5 none 0 0)   : ∀ (n : Nat) (M : Mem) (n0 : Nat) (n1 : Nat) (x2 : Int32) (x3 : Int32), isMo n0 → isFe n1 → Jp X ad cid 5 (qm X ad (qV ad cid)) M 13 [some (.ref (ad n0)), some (.ref (ad n1)), some (.int x2), some (.int x3), none] [] (lX4_speak_13  n M n0 n1 x2 x3) := by
  intro n
  induction n with
  | zero => intros; exact j_none
  | succ n ih => exact tsX4_speak_13 hC   ih
set_option maxRecDepth 20000 in
set_option maxHeartbeats 4000000 in
theorem kt_X4_speak {l : Launch} {ad : Nat → Nat} {cid : Nat → ClassId} {D : va_G} (hL : lyOk ad) {n0 : Nat} (h0 : isMo n0) {n1 : Nat} (h1 : isFe n1) (M : Mem) (x2 : Int32) : Ct (qV ad cid) l ad cid D yX4_speak cX4_speak 5 none 0 0 [.ref (ad n0), .ref (ad n1), .int x2] M (fX4_speak M n0 n1 x2) := by
  refine ct_of (own := RX4) (lv := [some (.ref (ad n0)), some (.ref (ad n1)), some (.int x2), none, none]) hL (by decide +kernel) rfl rfl (Nat.le_of_ble_eq_true rfl) (fun X hC => ?_)
  unfold fX4_speak
  refine j_aload_n (pc := 0) hC dX4_speak_0 rfl ?_
  refine j_iload_n (pc := 1) hC dX4_speak_1 rfl ?_
  refine pX4_39 (pc := 2) hC h0 dX4_speak_2 ?_
  refine j_aload_n (pc := 5) hC dX4_speak_5 rfl ?_
  refine j_ldc (pc := 6) hC qcX4_18 rfl dX4_speak_6 ?_
  refine pX4_19 (pc := 8) hC h0 dX4_speak_8 ?_
  refine j_iconst (pc := 11) hC dX4_speak_11 (v := 0) (by decide) ?_
  refine j_istore_n (pc := 12) hC (lv' := [some (.ref (ad n0)), some (.ref (ad n1)), some (.int x2), some (.int (0 : Int32)), none]) dX4_speak_12 (by decide) rfl rfl ?_
  exact tlX4_speak_13 hC fuel (sM (sM M n0 2 x2) n0 5 (1000000000 : Int32)) n0 n1 x2 (0 : Int32) h0 h1
/-! LastRower$Moment.whoIsDueAt(LLastRower$Ferry;I)I -/
set_option maxRecDepth 20000 in
set_option maxHeartbeats 4000000 in
theorem tsX4_whoIsDueAt_5 {X : Cx} {ad : Nat → Nat} {cid : Nat → ClassId} (hC : Ok X ad cid cX4_whoIsDueAt RX4 5 (some .int) 0 0)  {rec5 : Mem → Nat → Nat → Int32 → Int32 → Int32 → Option (Mem × Int32)} (hrec5 : ∀ (M : Mem) (n0 : Nat) (n1 : Nat) (x2 : Int32) (x3 : Int32) (x4 : Int32), isMo n0 → isFe n1 → Jp X ad cid 5 (qm X ad (qI ad cid)) M 5 [some (.ref (ad n0)), some (.ref (ad n1)), some (.int x2), some (.int x3), some (.int x4)] [] (rec5 M n0 n1 x2 x3 x4)) (M : Mem) (n0 : Nat) (n1 : Nat) (x2 : Int32) (x3 : Int32) (x4 : Int32) (h0 : isMo n0) (h1 : isFe n1) : Jp X ad cid 5 (qm X ad (qI ad cid)) M 5 [some (.ref (ad n0)), some (.ref (ad n1)), some (.int x2), some (.int x3), some (.int x4)] [] (sX4_whoIsDueAt_5  rec5 M n0 n1 x2 x3 x4) := by
  unfold sX4_whoIsDueAt_5
  refine j_iload (pc := 5) hC dX4_whoIsDueAt_5 rfl ?_
  refine j_aload_n (pc := 7) hC dX4_whoIsDueAt_7 rfl ?_
  refine gX4_42 (pc := 8) hC h1 dX4_whoIsDueAt_8 ?_
  refine j_icmp_ge (pc := 11) hC dX4_whoIsDueAt_11 (tgt := 53) (by decide) (fun hb1 => ?_) (fun hb1 => ?_)
  · refine j_iload_n (pc := 53) hC dX4_whoIsDueAt_53 rfl ?_
    exact j_iret (pc := 54) hC dX4_whoIsDueAt_54
  · refine j_iload (pc := 14) hC dX4_whoIsDueAt_14 rfl ?_
    refine j_bipush (pc := 16) hC dX4_whoIsDueAt_16 (v := 6) (by decide) ?_
    refine j_icmp_ge (pc := 18) hC dX4_whoIsDueAt_18 (tgt := 53) (by decide) (fun hb2 => ?_) (fun hb2 => ?_)
    · refine j_iload_n (pc := 53) hC dX4_whoIsDueAt_53 rfl ?_
      exact j_iret (pc := 54) hC dX4_whoIsDueAt_54
    · refine j_aload_n (pc := 21) hC dX4_whoIsDueAt_21 rfl ?_
      refine gX4_9 (pc := 22) hC h0 dX4_whoIsDueAt_22 ?_
      refine j_iload (pc := 25) hC dX4_whoIsDueAt_25 rfl ?_
      refine j_ck (fun hi3 => ?_)
      refine j_iald (pc := 27) hC (n := 6) (mo_1 h0).1 (mo_1 h0).2 hi3 dX4_whoIsDueAt_27 ?_
      refine j_aload_n (pc := 28) hC dX4_whoIsDueAt_28 rfl ?_
      refine gX4_47 (pc := 29) hC h1 dX4_whoIsDueAt_29 ?_
      refine j_iload (pc := 32) hC dX4_whoIsDueAt_32 rfl ?_
      refine j_iald (pc := 34) hC (n := 6) (fe_a h1 2 (by decide) (by decide)) (fe_n h1 2 (by decide) (by decide)) hi3 dX4_whoIsDueAt_34 ?_
      refine j_iadd (pc := 35) hC dX4_whoIsDueAt_35 ?_
      refine j_iload_n (pc := 36) hC dX4_whoIsDueAt_36 rfl ?_
      refine j_icmp_gt (pc := 37) hC dX4_whoIsDueAt_37 (tgt := 47) (by decide) (fun hb4 => ?_) (fun hb4 => ?_)
      · refine j_iinc (pc := 47) hC (lv' := [some (.ref (ad n0)), some (.ref (ad n1)), some (.int x2), some (.int x3), some (.int (x4 + 1))]) dX4_whoIsDueAt_47 rfl (v := 1) (by decide) (by decide) rfl rfl ?_
        refine j_goto (pc := 50) hC dX4_whoIsDueAt_50 (tgt := 5) (by decide) ?_
        exact hrec5 M n0 n1 x2 x3 (x4 + 1) h0 h1
      · refine j_iload_n (pc := 40) hC dX4_whoIsDueAt_40 rfl ?_
        refine j_iconst (pc := 41) hC dX4_whoIsDueAt_41 (v := 1) (by decide) ?_
        refine j_iload (pc := 42) hC dX4_whoIsDueAt_42 rfl ?_
        refine j_ishl (pc := 44) hC dX4_whoIsDueAt_44 ?_
        refine j_ior (pc := 45) hC dX4_whoIsDueAt_45 ?_
        refine j_istore_n (pc := 46) hC (lv' := [some (.ref (ad n0)), some (.ref (ad n1)), some (.int x2), some (.int (x3 ||| ((1 : Int32) <<< (x4 &&& 31)))), some (.int x4)]) dX4_whoIsDueAt_46 (by decide) rfl rfl ?_
        refine j_iinc (pc := 47) hC (lv' := [some (.ref (ad n0)), some (.ref (ad n1)), some (.int x2), some (.int (x3 ||| ((1 : Int32) <<< (x4 &&& 31)))), some (.int (x4 + 1))]) dX4_whoIsDueAt_47 rfl (v := 1) (by decide) (by decide) rfl rfl ?_
        refine j_goto (pc := 50) hC dX4_whoIsDueAt_50 (tgt := 5) (by decide) ?_
        exact hrec5 M n0 n1 x2 (x3 ||| ((1 : Int32) <<< (x4 &&& 31))) (x4 + 1) h0 h1
theorem tlX4_whoIsDueAt_5 {X : Cx} {ad : Nat → Nat} {cid : Nat → ClassId} (hC : Ok X ad cid cX4_whoIsDueAt RX4 5 (some .int) 0 0)   : ∀ (n : Nat) (M : Mem) (n0 : Nat) (n1 : Nat) (x2 : Int32) (x3 : Int32) (x4 : Int32), isMo n0 → isFe n1 → Jp X ad cid 5 (qm X ad (qI ad cid)) M 5 [some (.ref (ad n0)), some (.ref (ad n1)), some (.int x2), some (.int x3), some (.int x4)] [] (lX4_whoIsDueAt_5  n M n0 n1 x2 x3 x4) := by
  intro n
  induction n with
  | zero => intros; exact j_none
  | succ n ih => exact tsX4_whoIsDueAt_5 hC   ih
set_option maxRecDepth 20000 in
set_option maxHeartbeats 4000000 in
theorem kt_X4_whoIsDueAt {l : Launch} {ad : Nat → Nat} {cid : Nat → ClassId} {D : va_G} (hL : lyOk ad) {n0 : Nat} (h0 : isMo n0) {n1 : Nat} (h1 : isFe n1) (M : Mem) (x2 : Int32) : Ct (qI ad cid) l ad cid D yX4_whoIsDueAt cX4_whoIsDueAt 5 (some .int) 0 0 [.ref (ad n0), .ref (ad n1), .int x2] M (fX4_whoIsDueAt M n0 n1 x2) := by
  refine ct_of (own := RX4) (lv := [some (.ref (ad n0)), some (.ref (ad n1)), some (.int x2), none, none]) hL (by decide +kernel) rfl rfl (Nat.le_of_ble_eq_true rfl) (fun X hC => ?_)
  unfold fX4_whoIsDueAt
  refine j_iconst (pc := 0) hC dX4_whoIsDueAt_0 (v := 0) (by decide) ?_
  refine j_istore_n (pc := 1) hC (lv' := [some (.ref (ad n0)), some (.ref (ad n1)), some (.int x2), some (.int (0 : Int32)), none]) dX4_whoIsDueAt_1 (by decide) rfl rfl ?_
  refine j_iconst (pc := 2) hC dX4_whoIsDueAt_2 (v := 0) (by decide) ?_
  refine j_istore (pc := 3) hC (lv' := [some (.ref (ad n0)), some (.ref (ad n1)), some (.int x2), some (.int (0 : Int32)), some (.int (0 : Int32))]) dX4_whoIsDueAt_3 (by decide) rfl rfl ?_
  exact tlX4_whoIsDueAt_5 hC fuel M n0 n1 x2 (0 : Int32) (0 : Int32) h0 h1
/-! LastRower$Moment.passTime(LLastRower$Ferry;)V -/
set_option maxRecDepth 20000 in
set_option maxHeartbeats 4000000 in
theorem kt_X4_passTime {l : Launch} {ad : Nat → Nat} {cid : Nat → ClassId} {D : va_G} (hL : lyOk ad) {n0 : Nat} (h0 : isMo n0) {n1 : Nat} (h1 : isFe n1) (M : Mem)  : Ct (qV ad cid) l ad cid D yX4_passTime cX4_passTime 2 none 1 24 [.ref (ad n0), .ref (ad n1)] M (fX4_passTime M n0 n1) := by
  refine ct_of (own := RX4) (lv := [some (.ref (ad n0)), some (.ref (ad n1))]) hL (by decide +kernel) rfl rfl (Nat.le_of_ble_eq_true rfl) (fun X hC => ?_)
  unfold fX4_passTime
  refine j_aload_n (pc := 0) hC dX4_passTime_0 rfl ?_
  refine j_dup (pc := 1) hC dX4_passTime_1 rfl ?_
  refine gX4_23 (pc := 2) hC h0 dX4_passTime_2 ?_
  refine j_iconst (pc := 5) hC dX4_passTime_5 (v := 1) (by decide) ?_
  refine j_iadd (pc := 6) hC dX4_passTime_6 ?_
  refine pX4_23 (pc := 7) hC h0 dX4_passTime_7 ?_
  refine j_aload_n (pc := 10) hC dX4_passTime_10 rfl ?_
  refine gX4_23 (pc := 11) hC h0 dX4_passTime_11 ?_
  refine j_aload_n (pc := 14) hC dX4_passTime_14 rfl ?_
  refine gX4_19 (pc := 15) hC h0 dX4_passTime_15 ?_
  refine j_icmp_lt (pc := 18) hC dX4_passTime_18 (tgt := 35) (by decide) (fun hb1 => ?_) (fun hb1 => ?_)
  · exact j_vret (pc := 35) hC dX4_passTime_35
  · refine j_aload_n (pc := 21) hC dX4_passTime_21 rfl ?_
    refine j_aload_n (pc := 22) hC dX4_passTime_22 rfl ?_
    refine j_aload_n (pc := 23) hC dX4_passTime_23 rfl ?_
    refine j_aload_n (pc := 24) hC dX4_passTime_24 rfl ?_
    refine j_aload_n (pc := 25) hC dX4_passTime_25 rfl ?_
    refine gX4_23 (pc := 26) hC h0 dX4_passTime_26 ?_
    refine j_bI (pc := 29) (run_V hC (st := [.ref (ad n1), .ref (ad n0)]) (kt_X4_whoIsDueAt hC.ly h0 h1 (sM M n0 0 ((gM M n0 0) + (1 : Int32))) (gM (sM M n0 0 ((gM M n0 0) + (1 : Int32))) n0 0)) vv_X4_whoIsDueAt qw487 (mo_lt h0) (sh_X4 h0) rfl ⟨(Nat.le_of_ble_eq_true rfl), (Nat.le_of_ble_eq_true rfl)⟩ rfl rfl (Nat.le_of_ble_eq_true rfl) dX4_passTime_29) (fun M2 r3 => ?_)
    refine j_bV (pc := 32) (run_V hC (st := []) (kt_X4_speak hC.ly h0 h1 M2 r3) vv_X4_speak qw411 (mo_lt h0) (sh_X4 h0) rfl ⟨(Nat.le_of_ble_eq_true rfl), (Nat.le_of_ble_eq_true rfl)⟩ rfl rfl (Nat.le_of_ble_eq_true rfl) dX4_passTime_32) (fun M4 => ?_)
    exact j_vret (pc := 35) hC dX4_passTime_35
/-! LastRower$Moment.row(LLastRower$Ferry;)V -/
set_option maxRecDepth 20000 in
set_option maxHeartbeats 4000000 in
theorem tsX4_row_50 {X : Cx} {ad : Nat → Nat} {cid : Nat → ClassId} (hC : Ok X ad cid cX4_row RX4 3 none 2 45)   (M : Mem) (n0 : Nat) (n1 : Nat) (h0 : isMo n0) (h1 : isFe n1) : Jp X ad cid 3 (qm X ad (qV ad cid)) M 50 [some (.ref (ad n0)), some (.ref (ad n1)), none] [] (sX4_row_50  M n0 n1) := by
  unfold sX4_row_50
  refine j_aload_n (pc := 50) hC dX4_row_50 rfl ?_
  refine j_aload_n (pc := 51) hC dX4_row_51 rfl ?_
  refine j_bV (pc := 52) (run_V hC (st := []) (kt_X4_passTime hC.ly h0 h1 M) vv_X4_passTime qw483 (mo_lt h0) (sh_X4 h0) rfl ⟨(Nat.le_of_ble_eq_true rfl), (Nat.le_of_ble_eq_true rfl)⟩ rfl rfl (Nat.le_of_ble_eq_true rfl) dX4_row_52) (fun M9 => ?_)
  exact j_vret (pc := 55) hC dX4_row_55
set_option maxRecDepth 20000 in
set_option maxHeartbeats 4000000 in
theorem kt_X4_row {l : Launch} {ad : Nat → Nat} {cid : Nat → ClassId} {D : va_G} (hL : lyOk ad) {n0 : Nat} (h0 : isMo n0) {n1 : Nat} (h1 : isFe n1) (M : Mem)  : Ct (qV ad cid) l ad cid D yX4_row cX4_row 3 none 2 45 [.ref (ad n0), .ref (ad n1)] M (fX4_row M n0 n1) := by
  refine ct_of (own := RX4) (lv := [some (.ref (ad n0)), some (.ref (ad n1)), none]) hL (by decide +kernel) rfl rfl (Nat.le_of_ble_eq_true rfl) (fun X hC => ?_)
  unfold fX4_row
  refine j_aload_n (pc := 0) hC dX4_row_0 rfl ?_
  refine j_aload_n (pc := 1) hC dX4_row_1 rfl ?_
  refine gX4_26 (pc := 2) hC h0 dX4_row_2 ?_
  refine j_bI (pc := 5) (run_V hC (st := []) (kt_X2_isOver hC.ly h1 M (gM M n0 1)) vv_X2_isOver qw477 (fe_lt h1) (sh_X2 h1) rfl ⟨(Nat.le_of_ble_eq_true rfl), (Nat.le_of_ble_eq_true rfl)⟩ rfl rfl (Nat.le_of_ble_eq_true rfl) dX4_row_5) (fun M1 r2 => ?_)
  refine j_if_eq (pc := 8) hC dX4_row_8 (tgt := 12) (by decide) (fun hb3 => ?_) (fun hb3 => ?_)
  · refine j_aload_n (pc := 12) hC dX4_row_12 rfl ?_
    refine j_aload_n (pc := 13) hC dX4_row_13 rfl ?_
    refine gX4_39 (pc := 14) hC h0 dX4_row_14 ?_
    refine j_bI (pc := 17) (run_V hC (st := []) (kt_X2_pullOf hC.ly h1 M1 (gM M1 n0 2)) vv_X2_pullOf qw478 (fe_lt h1) (sh_X2 h1) rfl ⟨(Nat.le_of_ble_eq_true rfl), (Nat.le_of_ble_eq_true rfl)⟩ rfl rfl (Nat.le_of_ble_eq_true rfl) dX4_row_17) (fun M4 r5 => ?_)
    refine j_istore_n (pc := 20) hC (lv' := [some (.ref (ad n0)), some (.ref (ad n1)), some (.int r5)]) dX4_row_20 (by decide) rfl rfl ?_
    refine j_iload_n (pc := 21) hC dX4_row_21 rfl ?_
    refine j_bipush (pc := 22) hC dX4_row_22 (v := (-9)) (by decide) ?_
    refine j_icmp_eq (pc := 24) hC dX4_row_24 (tgt := 50) (by decide) (fun hb6 => ?_) (fun hb6 => ?_)
    · refine j_mask [true, true, false] (lv' := [some (.ref (ad n0)), some (.ref (ad n1)), none]) rfl ?_
      exact tsX4_row_50 hC M4 n0 n1 h0 h1
    · refine j_aload_n (pc := 27) hC dX4_row_27 rfl ?_
      refine j_iconst (pc := 28) hC dX4_row_28 (v := 0) (by decide) ?_
      refine j_aload_n (pc := 29) hC dX4_row_29 rfl ?_
      refine gX4_26 (pc := 30) hC h0 dX4_row_30 ?_
      refine j_iload_n (pc := 33) hC dX4_row_33 rfl ?_
      refine j_iadd (pc := 34) hC dX4_row_34 ?_
      refine j_aload_n (pc := 35) hC dX4_row_35 rfl ?_
      refine j_aload_n (pc := 36) hC dX4_row_36 rfl ?_
      refine gX4_26 (pc := 37) hC h0 dX4_row_37 ?_
      refine j_bI (pc := 40) (run_V hC (st := [.int ((gM M4 n0 1) + r5), .int (0 : Int32), .ref (ad n0)]) (kt_X2_flowAt hC.ly h1 M4 (gM M4 n0 1)) vv_X2_flowAt qw479 (fe_lt h1) (sh_X2 h1) rfl ⟨(Nat.le_of_ble_eq_true rfl), (Nat.le_of_ble_eq_true rfl)⟩ rfl rfl (Nat.le_of_ble_eq_true rfl) dX4_row_40) (fun M7 r8 => ?_)
      refine j_isub (pc := 43) hC dX4_row_43 ?_
      refine j_mmax (pc := 44) hC qw480 qm_max_s qm_i qm_max_c (Nat.le_of_ble_eq_true rfl) (Nat.le_of_ble_eq_true rfl) dX4_row_44 ?_
      refine pX4_26 (pc := 47) hC h0 dX4_row_47 ?_
      refine j_mask [true, true, false] (lv' := [some (.ref (ad n0)), some (.ref (ad n1)), none]) rfl ?_
      exact tsX4_row_50 hC (sM M7 n0 1 (if (0 : Int32) < (((gM M4 n0 1) + r5) - r8) then (((gM M4 n0 1) + r5) - r8) else (0 : Int32))) n0 n1 h0 h1
  · exact j_vret (pc := 11) hC dX4_row_11
/-! LastRower.agreesWithSeen(LLastRower$Moment;)Z -/
set_option maxRecDepth 20000 in
set_option maxHeartbeats 4000000 in
theorem tsX11_agreesWithSeen_7 {X : Cx} {ad : Nat → Nat} {cid : Nat → ClassId} (hC : Ok X ad cid cX11_agreesWithSeen RX11 4 (some .boolean) 3 67)  {rec7 : Mem → Nat → Int32 → Int32 → Option (Mem × Int32)} (hrec7 : ∀ (M : Mem) (n1 : Nat) (x2 : Int32) (x3 : Int32), isMo n1 → Jp X ad cid 4 (qm X ad (qI ad cid)) M 7 [some (.ref (ad 0)), some (.ref (ad n1)), some (.int x2), some (.int x3)] [] (rec7 M n1 x2 x3)) (M : Mem) (n1 : Nat) (x2 : Int32) (x3 : Int32) (h1 : isMo n1) : Jp X ad cid 4 (qm X ad (qI ad cid)) M 7 [some (.ref (ad 0)), some (.ref (ad n1)), some (.int x2), some (.int x3)] [] (sX11_agreesWithSeen_7  rec7 M n1 x2 x3) := by
  unfold sX11_agreesWithSeen_7
  refine j_iload_n (pc := 7) hC dX11_agreesWithSeen_7 rfl ?_
  refine j_iload_n (pc := 8) hC dX11_agreesWithSeen_8 rfl ?_
  refine j_icmp_gt (pc := 9) hC dX11_agreesWithSeen_9 (tgt := 40) (by decide) (fun hb3 => ?_) (fun hb3 => ?_)
  · refine j_iconst (pc := 40) hC dX11_agreesWithSeen_40 (v := 1) (by decide) ?_
    exact j_zret (pc := 41) hC dX11_agreesWithSeen_41 (by decide)
  · refine j_aload_n (pc := 12) hC dX11_agreesWithSeen_12 rfl ?_
    refine j_iload_n (pc := 13) hC dX11_agreesWithSeen_13 rfl ?_
    refine j_aload_n (pc := 14) hC dX11_agreesWithSeen_14 rfl ?_
    refine gX11_131 (pc := 15) hC h1 dX11_agreesWithSeen_15 ?_
    refine j_bI (pc := 18) (run_V hC (st := []) (kt_X11_contradictsSeen hC.ly M x3 (gM M n1 2)) vv_X11_contradictsSeen qw626 (by decide) sh_X11 rfl ⟨(Nat.le_of_ble_eq_true rfl), (Nat.le_of_ble_eq_true rfl)⟩ rfl rfl (Nat.le_of_ble_eq_true rfl) dX11_agreesWithSeen_18) (fun M4 r5 => ?_)
    refine j_if_eq (pc := 21) hC dX11_agreesWithSeen_21 (tgt := 26) (by decide) (fun hb6 => ?_) (fun hb6 => ?_)
    · refine j_aload_n (pc := 26) hC dX11_agreesWithSeen_26 rfl ?_
      refine j_aload_n (pc := 27) hC dX11_agreesWithSeen_27 rfl ?_
      refine gX11_19 (pc := 28) hC dX11_agreesWithSeen_28 ?_
      refine j_bV (pc := 31) (run_V hC (st := []) (kt_X4_row hC.ly h1 (isFe_feB _) M4) vv_X4_row qw473 (mo_lt h1) (sh_X4 h1) rfl ⟨(Nat.le_of_ble_eq_true rfl), (Nat.le_of_ble_eq_true rfl)⟩ rfl rfl (Nat.le_of_ble_eq_true rfl) dX11_agreesWithSeen_31) (fun M7 => ?_)
      refine j_iinc (pc := 34) hC (lv' := [some (.ref (ad 0)), some (.ref (ad n1)), some (.int x2), some (.int (x3 + 1))]) dX11_agreesWithSeen_34 rfl (v := 1) (by decide) (by decide) rfl rfl ?_
      refine j_goto (pc := 37) hC dX11_agreesWithSeen_37 (tgt := 7) (by decide) ?_
      exact hrec7 M7 n1 x2 (x3 + 1) h1
    · refine j_iconst (pc := 24) hC dX11_agreesWithSeen_24 (v := 0) (by decide) ?_
      exact j_zret (pc := 25) hC dX11_agreesWithSeen_25 (by decide)
theorem tlX11_agreesWithSeen_7 {X : Cx} {ad : Nat → Nat} {cid : Nat → ClassId} (hC : Ok X ad cid cX11_agreesWithSeen RX11 4 (some .boolean) 3 67)   : ∀ (n : Nat) (M : Mem) (n1 : Nat) (x2 : Int32) (x3 : Int32), isMo n1 → Jp X ad cid 4 (qm X ad (qI ad cid)) M 7 [some (.ref (ad 0)), some (.ref (ad n1)), some (.int x2), some (.int x3)] [] (lX11_agreesWithSeen_7  n M n1 x2 x3) := by
  intro n
  induction n with
  | zero => intros; exact j_none
  | succ n ih => exact tsX11_agreesWithSeen_7 hC   ih
set_option maxRecDepth 20000 in
set_option maxHeartbeats 4000000 in
theorem kt_X11_agreesWithSeen {l : Launch} {ad : Nat → Nat} {cid : Nat → ClassId} {D : va_G} (hL : lyOk ad) {n1 : Nat} (h1 : isMo n1) (M : Mem)  : Ct (qI ad cid) l ad cid D yX11_agreesWithSeen cX11_agreesWithSeen 4 (some .boolean) 3 67 [.ref (ad 0), .ref (ad n1)] M (fX11_agreesWithSeen M n1) := by
  refine ct_of (own := RX11) (lv := [some (.ref (ad 0)), some (.ref (ad n1)), none, none]) hL (by decide +kernel) rfl rfl (Nat.le_of_ble_eq_true rfl) (fun X hC => ?_)
  unfold fX11_agreesWithSeen
  refine j_aload_n (pc := 0) hC dX11_agreesWithSeen_0 rfl ?_
  refine j_bI (pc := 1) (run_V hC (st := []) (kt_X11_latestSeen hC.ly M) vv_X11_latestSeen qw621 (by decide) sh_X11 rfl ⟨(Nat.le_of_ble_eq_true rfl), (Nat.le_of_ble_eq_true rfl)⟩ rfl rfl (Nat.le_of_ble_eq_true rfl) dX11_agreesWithSeen_1) (fun M1 r2 => ?_)
  refine j_istore_n (pc := 4) hC (lv' := [some (.ref (ad 0)), some (.ref (ad n1)), some (.int r2), none]) dX11_agreesWithSeen_4 (by decide) rfl rfl ?_
  refine j_iconst (pc := 5) hC dX11_agreesWithSeen_5 (v := 0) (by decide) ?_
  refine j_istore_n (pc := 6) hC (lv' := [some (.ref (ad 0)), some (.ref (ad n1)), some (.int r2), some (.int (0 : Int32))]) dX11_agreesWithSeen_6 (by decide) rfl rfl ?_
  exact tlX11_agreesWithSeen_7 hC fuel M1 n1 r2 (0 : Int32) h1
/-! LastRower$Moment.copyFrom(LLastRower$Moment;)V -/
set_option maxRecDepth 20000 in
set_option maxHeartbeats 4000000 in
theorem tsX4_copyFrom_34 {X : Cx} {ad : Nat → Nat} {cid : Nat → ClassId} (hC : Ok X ad cid cX4_copyFrom RX4 3 none 0 0)  {rec34 : Mem → Nat → Nat → Int32 → Option (Mem)} (hrec34 : ∀ (M : Mem) (n0 : Nat) (n1 : Nat) (x2 : Int32), isMo n0 → isMo n1 → Jp X ad cid 3 (qm X ad (qV ad cid)) M 34 [some (.ref (ad n0)), some (.ref (ad n1)), some (.int x2)] [] (rec34 M n0 n1 x2)) (M : Mem) (n0 : Nat) (n1 : Nat) (x2 : Int32) (h0 : isMo n0) (h1 : isMo n1) : Jp X ad cid 3 (qm X ad (qV ad cid)) M 34 [some (.ref (ad n0)), some (.ref (ad n1)), some (.int x2)] [] (sX4_copyFrom_34  rec34 M n0 n1 x2) := by
  unfold sX4_copyFrom_34
  refine j_iload_n (pc := 34) hC dX4_copyFrom_34 rfl ?_
  refine j_bipush (pc := 35) hC dX4_copyFrom_35 (v := 6) (by decide) ?_
  refine j_icmp_ge (pc := 37) hC dX4_copyFrom_37 (tgt := 70) (by decide) (fun hb1 => ?_) (fun hb1 => ?_)
  · exact j_vret (pc := 70) hC dX4_copyFrom_70
  · refine j_aload_n (pc := 40) hC dX4_copyFrom_40 rfl ?_
    refine gX4_9 (pc := 41) hC h0 dX4_copyFrom_41 ?_
    refine j_iload_n (pc := 44) hC dX4_copyFrom_44 rfl ?_
    refine j_aload_n (pc := 45) hC dX4_copyFrom_45 rfl ?_
    refine gX4_9 (pc := 46) hC h1 dX4_copyFrom_46 ?_
    refine j_iload_n (pc := 49) hC dX4_copyFrom_49 rfl ?_
    refine j_ck (fun hi2 => ?_)
    refine j_iald (pc := 50) hC (n := 6) (mo_1 h1).1 (mo_1 h1).2 hi2 dX4_copyFrom_50 ?_
    refine j_iast (pc := 51) hC (n := 6) (mo_1 h0).1 (mo_1 h0).2 hi2 dX4_copyFrom_51 ?_
    refine j_aload_n (pc := 52) hC dX4_copyFrom_52 rfl ?_
    refine gX4_15 (pc := 53) hC h0 dX4_copyFrom_53 ?_
    refine j_iload_n (pc := 56) hC dX4_copyFrom_56 rfl ?_
    refine j_aload_n (pc := 57) hC dX4_copyFrom_57 rfl ?_
    refine gX4_15 (pc := 58) hC h1 dX4_copyFrom_58 ?_
    refine j_iload_n (pc := 61) hC dX4_copyFrom_61 rfl ?_
    refine j_iald (pc := 62) hC (n := 6) (mo_2 h1).1 (mo_2 h1).2 hi2 dX4_copyFrom_62 ?_
    refine j_iast (pc := 63) hC (n := 6) (mo_2 h0).1 (mo_2 h0).2 hi2 dX4_copyFrom_63 ?_
    refine j_iinc (pc := 64) hC (lv' := [some (.ref (ad n0)), some (.ref (ad n1)), some (.int (x2 + 1))]) dX4_copyFrom_64 rfl (v := 1) (by decide) (by decide) rfl rfl ?_
    refine j_goto (pc := 67) hC dX4_copyFrom_67 (tgt := 34) (by decide) ?_
    exact hrec34 (sM (sM M (n0 + 1) x2.toNatClampNeg (gM M (n1 + 1) x2.toNatClampNeg)) (n0 + 2) x2.toNatClampNeg (gM (sM M (n0 + 1) x2.toNatClampNeg (gM M (n1 + 1) x2.toNatClampNeg)) (n1 + 2) x2.toNatClampNeg)) n0 n1 (x2 + 1) h0 h1
theorem tlX4_copyFrom_34 {X : Cx} {ad : Nat → Nat} {cid : Nat → ClassId} (hC : Ok X ad cid cX4_copyFrom RX4 3 none 0 0)   : ∀ (n : Nat) (M : Mem) (n0 : Nat) (n1 : Nat) (x2 : Int32), isMo n0 → isMo n1 → Jp X ad cid 3 (qm X ad (qV ad cid)) M 34 [some (.ref (ad n0)), some (.ref (ad n1)), some (.int x2)] [] (lX4_copyFrom_34  n M n0 n1 x2) := by
  intro n
  induction n with
  | zero => intros; exact j_none
  | succ n ih => exact tsX4_copyFrom_34 hC   ih
set_option maxRecDepth 20000 in
set_option maxHeartbeats 4000000 in
theorem kt_X4_copyFrom {l : Launch} {ad : Nat → Nat} {cid : Nat → ClassId} {D : va_G} (hL : lyOk ad) {n0 : Nat} (h0 : isMo n0) {n1 : Nat} (h1 : isMo n1) (M : Mem)  : Ct (qV ad cid) l ad cid D yX4_copyFrom cX4_copyFrom 3 none 0 0 [.ref (ad n0), .ref (ad n1)] M (fX4_copyFrom M n0 n1) := by
  refine ct_of (own := RX4) (lv := [some (.ref (ad n0)), some (.ref (ad n1)), none]) hL (by decide +kernel) rfl rfl (Nat.le_of_ble_eq_true rfl) (fun X hC => ?_)
  unfold fX4_copyFrom
  refine j_aload_n (pc := 0) hC dX4_copyFrom_0 rfl ?_
  refine j_aload_n (pc := 1) hC dX4_copyFrom_1 rfl ?_
  refine gX4_23 (pc := 2) hC h1 dX4_copyFrom_2 ?_
  refine pX4_23 (pc := 5) hC h0 dX4_copyFrom_5 ?_
  refine j_aload_n (pc := 8) hC dX4_copyFrom_8 rfl ?_
  refine j_aload_n (pc := 9) hC dX4_copyFrom_9 rfl ?_
  refine gX4_26 (pc := 10) hC h1 dX4_copyFrom_10 ?_
  refine pX4_26 (pc := 13) hC h0 dX4_copyFrom_13 ?_
  refine j_aload_n (pc := 16) hC dX4_copyFrom_16 rfl ?_
  refine j_aload_n (pc := 17) hC dX4_copyFrom_17 rfl ?_
  refine gX4_39 (pc := 18) hC h1 dX4_copyFrom_18 ?_
  refine pX4_39 (pc := 21) hC h0 dX4_copyFrom_21 ?_
  refine j_aload_n (pc := 24) hC dX4_copyFrom_24 rfl ?_
  refine j_aload_n (pc := 25) hC dX4_copyFrom_25 rfl ?_
  refine gX4_19 (pc := 26) hC h1 dX4_copyFrom_26 ?_
  refine pX4_19 (pc := 29) hC h0 dX4_copyFrom_29 ?_
  refine j_iconst (pc := 32) hC dX4_copyFrom_32 (v := 0) (by decide) ?_
  refine j_istore_n (pc := 33) hC (lv' := [some (.ref (ad n0)), some (.ref (ad n1)), some (.int (0 : Int32))]) dX4_copyFrom_33 (by decide) rfl rfl ?_
  exact tlX4_copyFrom_34 hC fuel (sM (sM (sM (sM M n0 0 (gM M n1 0)) n0 1 (gM (sM M n0 0 (gM M n1 0)) n1 1)) n0 2 (gM (sM (sM M n0 0 (gM M n1 0)) n0 1 (gM (sM M n0 0 (gM M n1 0)) n1 1)) n1 2)) n0 5 (gM (sM (sM (sM M n0 0 (gM M n1 0)) n0 1 (gM (sM M n0 0 (gM M n1 0)) n1 1)) n0 2 (gM (sM (sM M n0 0 (gM M n1 0)) n0 1 (gM (sM M n0 0 (gM M n1 0)) n1 1)) n1 2)) n1 5)) n0 n1 (0 : Int32) h0 h1
/-! LastRower$Past.lose()V -/
set_option maxRecDepth 20000 in
set_option maxHeartbeats 4000000 in
theorem kt_X8_lose {l : Launch} {ad : Nat → Nat} {cid : Nat → ClassId} {D : va_G} (hL : lyOk ad)  (M : Mem)  : Ct (qV ad cid) l ad cid D yX8_lose cX8_lose 1 none 0 0 [.ref (ad 22)] M (fX8_lose M ) := by
  refine ct_of (own := RX8) (lv := [some (.ref (ad 22))]) hL (by decide +kernel) rfl rfl (Nat.le_of_ble_eq_true rfl) (fun X hC => ?_)
  unfold fX8_lose
  refine j_aload_n (pc := 0) hC dX8_lose_0 rfl ?_
  refine j_iconst (pc := 1) hC dX8_lose_1 (v := 0) (by decide) ?_
  refine pX8_16 (pc := 2) hC dX8_lose_2 ?_
  exact j_vret (pc := 5) hC dX8_lose_5
/-! LastRower.back(I)I -/
set_option maxRecDepth 20000 in
set_option maxHeartbeats 4000000 in
theorem kt_X11_back {l : Launch} {ad : Nat → Nat} {cid : Nat → ClassId} {D : va_G} (hL : lyOk ad)  (M : Mem) (x1 : Int32) : Ct (qI ad cid) l ad cid D yX11_back cX11_back 2 (some .int) 1 22 [.ref (ad 0), .int x1] M (fX11_back M x1) := by
  refine ct_of (own := RX11) (lv := [some (.ref (ad 0)), some (.int x1)]) hL (by decide +kernel) rfl rfl (Nat.le_of_ble_eq_true rfl) (fun X hC => ?_)
  unfold fX11_back
  refine j_iload_n (pc := 0) hC dX11_back_0 rfl ?_
  refine j_if_lt (pc := 1) hC dX11_back_1 (tgt := 9) (by decide) (fun hb1 => ?_) (fun hb1 => ?_)
  · refine j_iconst (pc := 9) hC dX11_back_9 (v := (-1)) (by decide) ?_
    exact j_iret (pc := 10) hC dX11_back_10
  · refine j_iload_n (pc := 4) hC dX11_back_4 rfl ?_
    refine j_iconst (pc := 5) hC dX11_back_5 (v := 2) (by decide) ?_
    refine j_icmp_lt (pc := 6) hC dX11_back_6 (tgt := 11) (by decide) (fun hb2 => ?_) (fun hb2 => ?_)
    · refine j_aload_n (pc := 11) hC dX11_back_11 rfl ?_
      refine gX11_106 (pc := 12) hC dX11_back_12 ?_
      refine j_iload_n (pc := 15) hC dX11_back_15 rfl ?_
      refine j_ishr (pc := 16) hC dX11_back_16 ?_
      refine j_iconst (pc := 17) hC dX11_back_17 (v := 1) (by decide) ?_
      refine j_iand (pc := 18) hC dX11_back_18 ?_
      refine j_if_ne (pc := 19) hC dX11_back_19 (tgt := 25) (by decide) (fun hb3 => ?_) (fun hb3 => ?_)
      · refine j_aload_n (pc := 25) hC dX11_back_25 rfl ?_
        refine gX11_29 (pc := 26) hC dX11_back_26 ?_
        refine j_aload_n (pc := 29) hC dX11_back_29 rfl ?_
        refine gX11_40 (pc := 30) hC dX11_back_30 ?_
        refine j_iload_n (pc := 33) hC dX11_back_33 rfl ?_
        refine j_ck (fun hi4 => ?_)
        refine j_aald (pc := 34) hC (n := 2) (b0 := 76) rfl rfl rfl hi4 dX11_back_34 ?_
        refine j_bV (pc := 35) (run_V hC (st := []) (kt_X4_copyFrom hC.ly mo_19 (mo_I hi4) M) vv_X4_copyFrom qw528 (mo_lt mo_19) (sh_X4 mo_19) rfl ⟨(Nat.le_of_ble_eq_true rfl), (Nat.le_of_ble_eq_true rfl)⟩ rfl rfl (Nat.le_of_ble_eq_true rfl) dX11_back_35) (fun M5 => ?_)
        refine j_aload_n (pc := 38) hC dX11_back_38 rfl ?_
        refine gX11_36 (pc := 39) hC dX11_back_39 ?_
        refine j_bV (pc := 42) (run_V hC (st := []) (kt_X8_lose hC.ly M5) vv_X8_lose qw415 (by decide) sh_X8 rfl ⟨(Nat.le_of_ble_eq_true rfl), (Nat.le_of_ble_eq_true rfl)⟩ rfl rfl (Nat.le_of_ble_eq_true rfl) dX11_back_42) (fun M6 => ?_)
        refine j_aload_n (pc := 45) hC dX11_back_45 rfl ?_
        refine gX11_29 (pc := 46) hC dX11_back_46 ?_
        refine gX11_137 (pc := 49) hC mo_19 dX11_back_49 ?_
        exact j_iret (pc := 52) hC dX11_back_52
      · refine j_bipush (pc := 22) hC dX11_back_22 (v := (-2)) (by decide) ?_
        exact j_iret (pc := 24) hC dX11_back_24
    · refine j_iconst (pc := 9) hC dX11_back_9 (v := (-1)) (by decide) ?_
      exact j_iret (pc := 10) hC dX11_back_10
/-! LastRower.isOver()Z -/
set_option maxRecDepth 20000 in
set_option maxHeartbeats 4000000 in
theorem kt_X11_isOver {l : Launch} {ad : Nat → Nat} {cid : Nat → ClassId} {D : va_G} (hL : lyOk ad)  (M : Mem)  : Ct (qI ad cid) l ad cid D yX11_isOver cX11_isOver 1 (some .boolean) 1 21 [.ref (ad 0)] M (fX11_isOver M ) := by
  refine ct_of (own := RX11) (lv := [some (.ref (ad 0))]) hL (by decide +kernel) rfl rfl (Nat.le_of_ble_eq_true rfl) (fun X hC => ?_)
  unfold fX11_isOver
  refine j_aload_n (pc := 0) hC dX11_isOver_0 rfl ?_
  refine gX11_19 (pc := 1) hC dX11_isOver_1 ?_
  refine j_aload_n (pc := 4) hC dX11_isOver_4 rfl ?_
  refine gX11_29 (pc := 5) hC dX11_isOver_5 ?_
  refine gX11_140 (pc := 8) hC mo_19 dX11_isOver_8 ?_
  refine j_bI (pc := 11) (run_V hC (st := []) (kt_X2_isOver hC.ly (isFe_feB _) M (gM M 19 1)) vv_X2_isOver qw452 (fe_lt (isFe_feB _)) (sh_X2 (isFe_feB _)) rfl ⟨(Nat.le_of_ble_eq_true rfl), (Nat.le_of_ble_eq_true rfl)⟩ rfl rfl (Nat.le_of_ble_eq_true rfl) dX11_isOver_11) (fun M1 r2 => ?_)
  refine j_ck (fun hz => ?_)
  exact j_zret (pc := 14) hC dX11_isOver_14 hz
/-! LastRower$Past.add(LLastRower$Moment;)V -/
set_option maxRecDepth 20000 in
set_option maxHeartbeats 4000000 in
theorem kt_X8_add {l : Launch} {ad : Nat → Nat} {cid : Nat → ClassId} {D : va_G} (hL : lyOk ad) {n1 : Nat} (h1 : isMo n1) (M : Mem)  : Ct (qV ad cid) l ad cid D yX8_add cX8_add 2 none 1 22 [.ref (ad 22), .ref (ad n1)] M (fX8_add M n1) := by
  refine ct_of (own := RX8) (lv := [some (.ref (ad 22)), some (.ref (ad n1))]) hL (by decide +kernel) rfl rfl (Nat.le_of_ble_eq_true rfl) (fun X hC => ?_)
  unfold fX8_add
  refine j_aload_n (pc := 0) hC dX8_add_0 rfl ?_
  refine j_aload_n (pc := 1) hC dX8_add_1 rfl ?_
  refine gX8_20 (pc := 2) hC dX8_add_2 ?_
  refine j_iconst (pc := 5) hC dX8_add_5 (v := 1) (by decide) ?_
  refine j_iadd (pc := 6) hC dX8_add_6 ?_
  refine j_bipush (pc := 7) hC dX8_add_7 (v := 10) (by decide) ?_
  refine j_irem (pc := 9) hC dX8_add_9 (by decide) ?_
  refine pX8_20 (pc := 10) hC dX8_add_10 ?_
  refine j_aload_n (pc := 13) hC dX8_add_13 rfl ?_
  refine gX8_11 (pc := 14) hC dX8_add_14 ?_
  refine j_aload_n (pc := 17) hC dX8_add_17 rfl ?_
  refine gX8_20 (pc := 18) hC dX8_add_18 ?_
  refine j_ck (fun hi1 => ?_)
  refine j_aald (pc := 21) hC (n := 10) (b0 := 24) rfl rfl rfl hi1 dX8_add_21 ?_
  refine j_aload_n (pc := 22) hC dX8_add_22 rfl ?_
  refine j_bV (pc := 23) (run_V hC (st := []) (kt_X4_copyFrom hC.ly (mo_P hi1) h1 (sM M 22 1 (((gM M 22 1) + (1 : Int32)) - ((gM M 22 1) + (1 : Int32)) / (10 : Int32) * (10 : Int32)))) vv_X4_copyFrom qw468 (mo_lt (mo_P hi1)) (sh_X4 (mo_P hi1)) rfl ⟨(Nat.le_of_ble_eq_true rfl), (Nat.le_of_ble_eq_true rfl)⟩ rfl rfl (Nat.le_of_ble_eq_true rfl) dX8_add_23) (fun M2 => ?_)
  refine j_aload_n (pc := 26) hC dX8_add_26 rfl ?_
  refine j_aload_n (pc := 27) hC dX8_add_27 rfl ?_
  refine gX8_16 (pc := 28) hC dX8_add_28 ?_
  refine j_iconst (pc := 31) hC dX8_add_31 (v := 1) (by decide) ?_
  refine j_iadd (pc := 32) hC dX8_add_32 ?_
  refine j_bipush (pc := 33) hC dX8_add_33 (v := 10) (by decide) ?_
  refine j_mmin (pc := 35) hC qw472 qm_min_s qm_i qm_min_c (Nat.le_of_ble_eq_true rfl) (Nat.le_of_ble_eq_true rfl) dX8_add_35 ?_
  refine pX8_16 (pc := 38) hC dX8_add_38 ?_
  exact j_vret (pc := 41) hC dX8_add_41
/-! LastRower.beat()I -/
set_option maxRecDepth 20000 in
set_option maxHeartbeats 4000000 in
theorem kt_X11_beat {l : Launch} {ad : Nat → Nat} {cid : Nat → ClassId} {D : va_G} (hL : lyOk ad)  (M : Mem)  : Ct (qI ad cid) l ad cid D yX11_beat cX11_beat 1 (some .int) 3 67 [.ref (ad 0)] M (fX11_beat M ) := by
  refine ct_of (own := RX11) (lv := [some (.ref (ad 0))]) hL (by decide +kernel) rfl rfl (Nat.le_of_ble_eq_true rfl) (fun X hC => ?_)
  unfold fX11_beat
  refine j_aload_n (pc := 0) hC dX11_beat_0 rfl ?_
  refine j_bI (pc := 1) (run_V hC (st := []) (kt_X11_isOver hC.ly M) vv_X11_isOver qw448 (by decide) sh_X11 rfl ⟨(Nat.le_of_ble_eq_true rfl), (Nat.le_of_ble_eq_true rfl)⟩ rfl rfl (Nat.le_of_ble_eq_true rfl) dX11_beat_1) (fun M1 r2 => ?_)
  refine j_if_ne (pc := 4) hC dX11_beat_4 (tgt := 20) (by decide) (fun hb3 => ?_) (fun hb3 => ?_)
  · refine j_bipush (pc := 20) hC dX11_beat_20 (v := (-2)) (by decide) ?_
    exact j_iret (pc := 22) hC dX11_beat_22
  · refine j_aload_n (pc := 7) hC dX11_beat_7 rfl ?_
    refine gX11_29 (pc := 8) hC dX11_beat_8 ?_
    refine gX11_137 (pc := 11) hC mo_19 dX11_beat_11 ?_
    refine j_sipush (pc := 14) hC dX11_beat_14 (v := 9999) (by decide) ?_
    refine j_icmp_lt (pc := 17) hC dX11_beat_17 (tgt := 23) (by decide) (fun hb4 => ?_) (fun hb4 => ?_)
    · refine j_aload_n (pc := 23) hC dX11_beat_23 rfl ?_
      refine gX11_36 (pc := 24) hC dX11_beat_24 ?_
      refine j_aload_n (pc := 27) hC dX11_beat_27 rfl ?_
      refine gX11_29 (pc := 28) hC dX11_beat_28 ?_
      refine j_bV (pc := 31) (run_V hC (st := []) (kt_X8_add hC.ly mo_19 M1) vv_X8_add qw464 (by decide) sh_X8 rfl ⟨(Nat.le_of_ble_eq_true rfl), (Nat.le_of_ble_eq_true rfl)⟩ rfl rfl (Nat.le_of_ble_eq_true rfl) dX11_beat_31) (fun M5 => ?_)
      refine j_aload_n (pc := 34) hC dX11_beat_34 rfl ?_
      refine gX11_29 (pc := 35) hC dX11_beat_35 ?_
      refine j_aload_n (pc := 38) hC dX11_beat_38 rfl ?_
      refine gX11_19 (pc := 39) hC dX11_beat_39 ?_
      refine j_bV (pc := 42) (run_V hC (st := []) (kt_X4_row hC.ly mo_19 (isFe_feB _) M5) vv_X4_row qw473 (mo_lt mo_19) (sh_X4 mo_19) rfl ⟨(Nat.le_of_ble_eq_true rfl), (Nat.le_of_ble_eq_true rfl)⟩ rfl rfl (Nat.le_of_ble_eq_true rfl) dX11_beat_42) (fun M6 => ?_)
      refine j_aload_n (pc := 45) hC dX11_beat_45 rfl ?_
      refine gX11_29 (pc := 46) hC dX11_beat_46 ?_
      refine gX11_140 (pc := 49) hC mo_19 dX11_beat_49 ?_
      exact j_iret (pc := 52) hC dX11_beat_52
    · refine j_bipush (pc := 20) hC dX11_beat_20 (v := (-2)) (by decide) ?_
      exact j_iret (pc := 22) hC dX11_beat_22
/-! LastRower.copyOfNow()LLastRower$Moment; -/
set_option maxRecDepth 20000 in
set_option maxHeartbeats 4000000 in
theorem kt_X11_copyOfNow {l : Launch} {ad : Nat → Nat} {cid : Nat → ClassId} {D : va_G} (hL : lyOk ad)  (M : Mem)  : Ct (qA 82 ad cid) l ad cid D yX11_copyOfNow cX11_copyOfNow 1 (some (.object "LastRower$Moment")) 1 22 [.ref (ad 0)] M (fX11_copyOfNow M ) := by
  refine ct_of (own := RX11) (lv := [some (.ref (ad 0))]) hL (by decide +kernel) rfl rfl (Nat.le_of_ble_eq_true rfl) (fun X hC => ?_)
  unfold fX11_copyOfNow
  refine j_aload_n (pc := 0) hC dX11_copyOfNow_0 rfl ?_
  refine gX11_51 (pc := 1) hC dX11_copyOfNow_1 ?_
  refine j_iconst (pc := 4) hC dX11_copyOfNow_4 (v := 0) (by decide) ?_
  refine j_aaldC (pc := 5) hC (n := 7) (b0 := 82) (e := 82) (by decide) rfl rfl rfl (by decide) dX11_copyOfNow_5 ?_
  refine j_aload_n (pc := 6) hC dX11_copyOfNow_6 rfl ?_
  refine gX11_29 (pc := 7) hC dX11_copyOfNow_7 ?_
  refine j_bV (pc := 10) (run_V hC (st := []) (kt_X4_copyFrom hC.ly mo_82 mo_19 M) vv_X4_copyFrom qw528 (mo_lt mo_82) (sh_X4 mo_82) rfl ⟨(Nat.le_of_ble_eq_true rfl), (Nat.le_of_ble_eq_true rfl)⟩ rfl rfl (Nat.le_of_ble_eq_true rfl) dX11_copyOfNow_10) (fun M1 => ?_)
  refine j_aload_n (pc := 13) hC dX11_copyOfNow_13 rfl ?_
  refine gX11_51 (pc := 14) hC dX11_copyOfNow_14 ?_
  refine j_iconst (pc := 17) hC dX11_copyOfNow_17 (v := 0) (by decide) ?_
  refine j_aaldC (pc := 18) hC (n := 7) (b0 := 82) (e := 82) (by decide) rfl rfl rfl (by decide) dX11_copyOfNow_18 ?_
  exact j_aretC (pc := 19) hC dX11_copyOfNow_19
/-! LastRower.copyWherePinched(I)LLastRower$Moment; -/
set_option maxRecDepth 20000 in
set_option maxHeartbeats 4000000 in
theorem kt_X11_copyWherePinched {l : Launch} {ad : Nat → Nat} {cid : Nat → ClassId} {D : va_G} (hL : lyOk ad)  (M : Mem) (x1 : Int32) : Ct (qA 82 ad cid) l ad cid D yX11_copyWherePinched cX11_copyWherePinched 3 (some (.object "LastRower$Moment")) 2 42 [.ref (ad 0), .int x1] M (fX11_copyWherePinched M x1) := by
  refine ct_of (own := RX11) (lv := [some (.ref (ad 0)), some (.int x1), none]) hL (by decide +kernel) rfl rfl (Nat.le_of_ble_eq_true rfl) (fun X hC => ?_)
  unfold fX11_copyWherePinched
  refine j_aload_n (pc := 0) hC dX11_copyWherePinched_0 rfl ?_
  refine j_bA (pc := 1) (run_V hC (st := []) (kt_X11_copyOfNow hC.ly M) vv_X11_copyOfNow qw524 (by decide) sh_X11 rfl ⟨(Nat.le_of_ble_eq_true rfl), (Nat.le_of_ble_eq_true rfl)⟩ rfl rfl (Nat.le_of_ble_eq_true rfl) dX11_copyWherePinched_1) (fun M1 => ?_)
  refine j_astore_n (pc := 4) hC (lv' := [some (.ref (ad 0)), some (.int x1), some (.ref (ad 82))]) dX11_copyWherePinched_4 (by decide) rfl rfl ?_
  refine j_aload_n (pc := 5) hC dX11_copyWherePinched_5 rfl ?_
  refine j_aload_n (pc := 6) hC dX11_copyWherePinched_6 rfl ?_
  refine gX11_19 (pc := 7) hC dX11_copyWherePinched_7 ?_
  refine j_iconst (pc := 10) hC dX11_copyWherePinched_10 (v := 1) (by decide) ?_
  refine j_iload_n (pc := 11) hC dX11_copyWherePinched_11 rfl ?_
  refine j_ishl (pc := 12) hC dX11_copyWherePinched_12 ?_
  refine j_bV (pc := 13) (run_V hC (st := []) (kt_X4_speak hC.ly mo_82 (isFe_feB _) M1 ((1 : Int32) <<< (x1 &&& 31))) vv_X4_speak qw499 (mo_lt mo_82) (sh_X4 mo_82) rfl ⟨(Nat.le_of_ble_eq_true rfl), (Nat.le_of_ble_eq_true rfl)⟩ rfl rfl (Nat.le_of_ble_eq_true rfl) dX11_copyWherePinched_13) (fun M2 => ?_)
  refine j_aload_n (pc := 16) hC dX11_copyWherePinched_16 rfl ?_
  exact j_aretC (pc := 17) hC dX11_copyWherePinched_17
/-! LastRower.countPinchable()I -/
set_option maxRecDepth 20000 in
set_option maxHeartbeats 4000000 in
theorem kt_X11_countPinchable {l : Launch} {ad : Nat → Nat} {cid : Nat → ClassId} {D : va_G} (hL : lyOk ad)  (M : Mem)  : Ct (qI ad cid) l ad cid D yX11_countPinchable cX11_countPinchable 1 (some .int) 2 41 [.ref (ad 0)] M (fX11_countPinchable M ) := by
  refine ct_of (own := RX11) (lv := [some (.ref (ad 0))]) hL (by decide +kernel) rfl rfl (Nat.le_of_ble_eq_true rfl) (fun X hC => ?_)
  unfold fX11_countPinchable
  refine j_aload_n (pc := 0) hC dX11_countPinchable_0 rfl ?_
  refine j_bI (pc := 1) (run_V hC (st := []) (kt_X11_isOver hC.ly M) vv_X11_isOver qw448 (by decide) sh_X11 rfl ⟨(Nat.le_of_ble_eq_true rfl), (Nat.le_of_ble_eq_true rfl)⟩ rfl rfl (Nat.le_of_ble_eq_true rfl) dX11_countPinchable_1) (fun M1 r2 => ?_)
  refine j_if_eq (pc := 4) hC dX11_countPinchable_4 (tgt := 11) (by decide) (fun hb3 => ?_) (fun hb3 => ?_)
  · refine j_aload_n (pc := 11) hC dX11_countPinchable_11 rfl ?_
    refine gX11_19 (pc := 12) hC dX11_countPinchable_12 ?_
    refine gX11_189 (pc := 15) hC (isFe_feB _) dX11_countPinchable_15 ?_
    exact j_iret (pc := 18) hC dX11_countPinchable_18
  · refine j_iconst (pc := 7) hC dX11_countPinchable_7 (v := 0) (by decide) ?_
    refine j_goto (pc := 8) hC dX11_countPinchable_8 (tgt := 18) (by decide) ?_
    exact j_iret (pc := 18) hC dX11_countPinchable_18
/-! LastRower$Moment.rowTillOver(LLastRower$Ferry;I)I -/
set_option maxRecDepth 20000 in
set_option maxHeartbeats 4000000 in
theorem tsX4_rowTillOver_2 {X : Cx} {ad : Nat → Nat} {cid : Nat → ClassId} (hC : Ok X ad cid cX4_rowTillOver RX4 4 (some .int) 3 67)  {rec2 : Mem → Nat → Nat → Int32 → Int32 → Option (Mem × Int32)} (hrec2 : ∀ (M : Mem) (n0 : Nat) (n1 : Nat) (x2 : Int32) (x3 : Int32), isMo n0 → isFe n1 → Jp X ad cid 4 (qm X ad (qI ad cid)) M 2 [some (.ref (ad n0)), some (.ref (ad n1)), some (.int x2), some (.int x3)] [] (rec2 M n0 n1 x2 x3)) (M : Mem) (n0 : Nat) (n1 : Nat) (x2 : Int32) (x3 : Int32) (h0 : isMo n0) (h1 : isFe n1) : Jp X ad cid 4 (qm X ad (qI ad cid)) M 2 [some (.ref (ad n0)), some (.ref (ad n1)), some (.int x2), some (.int x3)] [] (sX4_rowTillOver_2  rec2 M n0 n1 x2 x3) := by
  unfold sX4_rowTillOver_2
  refine j_iload_n (pc := 2) hC dX4_rowTillOver_2 rfl ?_
  refine j_iload_n (pc := 3) hC dX4_rowTillOver_3 rfl ?_
  refine j_icmp_gt (pc := 4) hC dX4_rowTillOver_4 (tgt := 31) (by decide) (fun hb1 => ?_) (fun hb1 => ?_)
  · refine j_bipush (pc := 31) hC dX4_rowTillOver_31 (v := (-9)) (by decide) ?_
    exact j_iret (pc := 33) hC dX4_rowTillOver_33
  · refine j_aload_n (pc := 7) hC dX4_rowTillOver_7 rfl ?_
    refine j_aload_n (pc := 8) hC dX4_rowTillOver_8 rfl ?_
    refine gX4_26 (pc := 9) hC h0 dX4_rowTillOver_9 ?_
    refine j_bI (pc := 12) (run_V hC (st := []) (kt_X2_isOver hC.ly h1 M (gM M n0 1)) vv_X2_isOver qw477 (fe_lt h1) (sh_X2 h1) rfl ⟨(Nat.le_of_ble_eq_true rfl), (Nat.le_of_ble_eq_true rfl)⟩ rfl rfl (Nat.le_of_ble_eq_true rfl) dX4_rowTillOver_12) (fun M2 r3 => ?_)
    refine j_if_eq (pc := 15) hC dX4_rowTillOver_15 (tgt := 20) (by decide) (fun hb4 => ?_) (fun hb4 => ?_)
    · refine j_aload_n (pc := 20) hC dX4_rowTillOver_20 rfl ?_
      refine j_aload_n (pc := 21) hC dX4_rowTillOver_21 rfl ?_
      refine j_bV (pc := 22) (run_V hC (st := []) (kt_X4_row hC.ly h0 h1 M2) vv_X4_row qw537 (mo_lt h0) (sh_X4 h0) rfl ⟨(Nat.le_of_ble_eq_true rfl), (Nat.le_of_ble_eq_true rfl)⟩ rfl rfl (Nat.le_of_ble_eq_true rfl) dX4_rowTillOver_22) (fun M5 => ?_)
      refine j_iinc (pc := 25) hC (lv' := [some (.ref (ad n0)), some (.ref (ad n1)), some (.int x2), some (.int (x3 + 1))]) dX4_rowTillOver_25 rfl (v := 1) (by decide) (by decide) rfl rfl ?_
      refine j_goto (pc := 28) hC dX4_rowTillOver_28 (tgt := 2) (by decide) ?_
      exact hrec2 M5 n0 n1 x2 (x3 + 1) h0 h1
    · refine j_iload_n (pc := 18) hC dX4_rowTillOver_18 rfl ?_
      exact j_iret (pc := 19) hC dX4_rowTillOver_19
theorem tlX4_rowTillOver_2 {X : Cx} {ad : Nat → Nat} {cid : Nat → ClassId} (hC : Ok X ad cid cX4_rowTillOver RX4 4 (some .int) 3 67)   : ∀ (n : Nat) (M : Mem) (n0 : Nat) (n1 : Nat) (x2 : Int32) (x3 : Int32), isMo n0 → isFe n1 → Jp X ad cid 4 (qm X ad (qI ad cid)) M 2 [some (.ref (ad n0)), some (.ref (ad n1)), some (.int x2), some (.int x3)] [] (lX4_rowTillOver_2  n M n0 n1 x2 x3) := by
  intro n
  induction n with
  | zero => intros; exact j_none
  | succ n ih => exact tsX4_rowTillOver_2 hC   ih
set_option maxRecDepth 20000 in
set_option maxHeartbeats 4000000 in
theorem kt_X4_rowTillOver {l : Launch} {ad : Nat → Nat} {cid : Nat → ClassId} {D : va_G} (hL : lyOk ad) {n0 : Nat} (h0 : isMo n0) {n1 : Nat} (h1 : isFe n1) (M : Mem) (x2 : Int32) : Ct (qI ad cid) l ad cid D yX4_rowTillOver cX4_rowTillOver 4 (some .int) 3 67 [.ref (ad n0), .ref (ad n1), .int x2] M (fX4_rowTillOver M n0 n1 x2) := by
  refine ct_of (own := RX4) (lv := [some (.ref (ad n0)), some (.ref (ad n1)), some (.int x2), none]) hL (by decide +kernel) rfl rfl (Nat.le_of_ble_eq_true rfl) (fun X hC => ?_)
  unfold fX4_rowTillOver
  refine j_iconst (pc := 0) hC dX4_rowTillOver_0 (v := 0) (by decide) ?_
  refine j_istore_n (pc := 1) hC (lv' := [some (.ref (ad n0)), some (.ref (ad n1)), some (.int x2), some (.int (0 : Int32))]) dX4_rowTillOver_1 (by decide) rfl rfl ?_
  exact tlX4_rowTillOver_2 hC fuel M n0 n1 x2 (0 : Int32) h0 h1
/-! LastRower.best()I -/
set_option maxRecDepth 20000 in
set_option maxHeartbeats 4000000 in
theorem tsX11_best_15 {X : Cx} {ad : Nat → Nat} {cid : Nat → ClassId} (hC : Ok X ad cid cX11_best RX11 6 (some .int) 4 90)  {rec15 : Mem → Int32 → Int32 → Int32 → Int32 → Option (Mem × Int32)} (hrec15 : ∀ (M : Mem) (x1 : Int32) (x2 : Int32) (x3 : Int32) (x4 : Int32), Jp X ad cid 6 (qm X ad (qI ad cid)) M 15 [some (.ref (ad 0)), some (.int x1), some (.int x2), some (.int x3), some (.int x4), none] [] (rec15 M x1 x2 x3 x4)) (M : Mem) (x1 : Int32) (x2 : Int32) (x3 : Int32) (x4 : Int32)  : Jp X ad cid 6 (qm X ad (qI ad cid)) M 15 [some (.ref (ad 0)), some (.int x1), some (.int x2), some (.int x3), some (.int x4), none] [] (sX11_best_15  rec15 M x1 x2 x3 x4) := by
  unfold sX11_best_15
  refine j_iload (pc := 15) hC dX11_best_15 rfl ?_
  refine j_iload_n (pc := 17) hC dX11_best_17 rfl ?_
  refine j_icmp_ge (pc := 18) hC dX11_best_18 (tgt := 58) (by decide) (fun hb3 => ?_) (fun hb3 => ?_)
  · refine j_iload_n (pc := 58) hC dX11_best_58 rfl ?_
    exact j_iret (pc := 59) hC dX11_best_59
  · refine j_aload_n (pc := 21) hC dX11_best_21 rfl ?_
    refine j_iload (pc := 22) hC dX11_best_22 rfl ?_
    refine j_bA (pc := 24) (run_V hC (st := []) (kt_X11_copyWherePinched hC.ly M x4) vv_X11_copyWherePinched qw593 (by decide) sh_X11 rfl ⟨(Nat.le_of_ble_eq_true rfl), (Nat.le_of_ble_eq_true rfl)⟩ rfl rfl (Nat.le_of_ble_eq_true rfl) dX11_best_24) (fun M4 => ?_)
    refine j_aload_n (pc := 27) hC dX11_best_27 rfl ?_
    refine gX11_19 (pc := 28) hC dX11_best_28 ?_
    refine j_iload_n (pc := 31) hC dX11_best_31 rfl ?_
    refine j_iconst (pc := 32) hC dX11_best_32 (v := 1) (by decide) ?_
    refine j_isub (pc := 33) hC dX11_best_33 ?_
    refine j_bI (pc := 34) (run_V hC (st := []) (kt_X4_rowTillOver hC.ly mo_82 (isFe_feB _) M4 (x2 - (1 : Int32))) vv_X4_rowTillOver qw533 (mo_lt mo_82) (sh_X4 mo_82) rfl ⟨(Nat.le_of_ble_eq_true rfl), (Nat.le_of_ble_eq_true rfl)⟩ rfl rfl (Nat.le_of_ble_eq_true rfl) dX11_best_34) (fun M5 r6 => ?_)
    refine j_istore (pc := 37) hC (lv' := [some (.ref (ad 0)), some (.int x1), some (.int x2), some (.int x3), some (.int x4), some (.int r6)]) dX11_best_37 (by decide) rfl rfl ?_
    refine j_iload (pc := 39) hC dX11_best_39 rfl ?_
    refine j_bipush (pc := 41) hC dX11_best_41 (v := (-9)) (by decide) ?_
    refine j_icmp_eq (pc := 43) hC dX11_best_43 (tgt := 52) (by decide) (fun hb7 => ?_) (fun hb7 => ?_)
    · refine j_iinc (pc := 52) hC (lv' := [some (.ref (ad 0)), some (.int x1), some (.int x2), some (.int x3), some (.int (x4 + 1)), some (.int r6)]) dX11_best_52 rfl (v := 1) (by decide) (by decide) rfl rfl ?_
      refine j_goto (pc := 55) hC dX11_best_55 (tgt := 15) (by decide) ?_
      refine j_mask [true, true, true, true, true, false] (lv' := [some (.ref (ad 0)), some (.int x1), some (.int x2), some (.int x3), some (.int (x4 + 1)), none]) rfl ?_
      exact hrec15 M5 x1 x2 x3 (x4 + 1)
    · refine j_iload (pc := 46) hC dX11_best_46 rfl ?_
      refine j_istore_n (pc := 48) hC (lv' := [some (.ref (ad 0)), some (.int x1), some (.int r6), some (.int x3), some (.int x4), some (.int r6)]) dX11_best_48 (by decide) rfl rfl ?_
      refine j_iload (pc := 49) hC dX11_best_49 rfl ?_
      refine j_istore_n (pc := 51) hC (lv' := [some (.ref (ad 0)), some (.int x4), some (.int r6), some (.int x3), some (.int x4), some (.int r6)]) dX11_best_51 (by decide) rfl rfl ?_
      refine j_iinc (pc := 52) hC (lv' := [some (.ref (ad 0)), some (.int x4), some (.int r6), some (.int x3), some (.int (x4 + 1)), some (.int r6)]) dX11_best_52 rfl (v := 1) (by decide) (by decide) rfl rfl ?_
      refine j_goto (pc := 55) hC dX11_best_55 (tgt := 15) (by decide) ?_
      refine j_mask [true, true, true, true, true, false] (lv' := [some (.ref (ad 0)), some (.int x4), some (.int r6), some (.int x3), some (.int (x4 + 1)), none]) rfl ?_
      exact hrec15 M5 x4 r6 x3 (x4 + 1)
theorem tlX11_best_15 {X : Cx} {ad : Nat → Nat} {cid : Nat → ClassId} (hC : Ok X ad cid cX11_best RX11 6 (some .int) 4 90)   : ∀ (n : Nat) (M : Mem) (x1 : Int32) (x2 : Int32) (x3 : Int32) (x4 : Int32), Jp X ad cid 6 (qm X ad (qI ad cid)) M 15 [some (.ref (ad 0)), some (.int x1), some (.int x2), some (.int x3), some (.int x4), none] [] (lX11_best_15  n M x1 x2 x3 x4) := by
  intro n
  induction n with
  | zero => intros; exact j_none
  | succ n ih => exact tsX11_best_15 hC   ih
set_option maxRecDepth 20000 in
set_option maxHeartbeats 4000000 in
theorem kt_X11_best {l : Launch} {ad : Nat → Nat} {cid : Nat → ClassId} {D : va_G} (hL : lyOk ad)  (M : Mem)  : Ct (qI ad cid) l ad cid D yX11_best cX11_best 6 (some .int) 4 90 [.ref (ad 0)] M (fX11_best M ) := by
  refine ct_of (own := RX11) (lv := [some (.ref (ad 0)), none, none, none, none, none]) hL (by decide +kernel) rfl rfl (Nat.le_of_ble_eq_true rfl) (fun X hC => ?_)
  unfold fX11_best
  refine j_bipush (pc := 0) hC dX11_best_0 (v := (-9)) (by decide) ?_
  refine j_istore_n (pc := 2) hC (lv' := [some (.ref (ad 0)), some (.int (-9 : Int32)), none, none, none, none]) dX11_best_2 (by decide) rfl rfl ?_
  refine j_sipush (pc := 3) hC dX11_best_3 (v := 401) (by decide) ?_
  refine j_istore_n (pc := 6) hC (lv' := [some (.ref (ad 0)), some (.int (-9 : Int32)), some (.int (401 : Int32)), none, none, none]) dX11_best_6 (by decide) rfl rfl ?_
  refine j_aload_n (pc := 7) hC dX11_best_7 rfl ?_
  refine j_bI (pc := 8) (run_V hC (st := []) (kt_X11_countPinchable hC.ly M) vv_X11_countPinchable qw589 (by decide) sh_X11 rfl ⟨(Nat.le_of_ble_eq_true rfl), (Nat.le_of_ble_eq_true rfl)⟩ rfl rfl (Nat.le_of_ble_eq_true rfl) dX11_best_8) (fun M1 r2 => ?_)
  refine j_istore_n (pc := 11) hC (lv' := [some (.ref (ad 0)), some (.int (-9 : Int32)), some (.int (401 : Int32)), some (.int r2), none, none]) dX11_best_11 (by decide) rfl rfl ?_
  refine j_iconst (pc := 12) hC dX11_best_12 (v := 0) (by decide) ?_
  refine j_istore (pc := 13) hC (lv' := [some (.ref (ad 0)), some (.int (-9 : Int32)), some (.int (401 : Int32)), some (.int r2), some (.int (0 : Int32)), none]) dX11_best_13 (by decide) rfl rfl ?_
  exact tlX11_best_15 hC fuel M1 (-9 : Int32) (401 : Int32) r2 (0 : Int32)
/-! LastRower.clear()I -/
set_option maxRecDepth 20000 in
set_option maxHeartbeats 4000000 in
theorem kt_X11_clear {l : Launch} {ad : Nat → Nat} {cid : Nat → ClassId} {D : va_G} (hL : lyOk ad)  (M : Mem)  : Ct (qI ad cid) l ad cid D yX11_clear cX11_clear 2 (some .int) 0 0 [.ref (ad 0)] M (fX11_clear M ) := by
  refine ct_of (own := RX11) (lv := [some (.ref (ad 0)), none]) hL (by decide +kernel) rfl rfl (Nat.le_of_ble_eq_true rfl) (fun X hC => ?_)
  unfold fX11_clear
  refine j_aload_n (pc := 0) hC dX11_clear_0 rfl ?_
  refine gX11_10 (pc := 1) hC dX11_clear_1 ?_
  refine gX11_91 (pc := 4) hC dX11_clear_4 ?_
  refine j_istore_n (pc := 7) hC (lv' := [some (.ref (ad 0)), some (.int (gM M 1 1))]) dX11_clear_7 (by decide) rfl rfl ?_
  refine j_aload_n (pc := 8) hC dX11_clear_8 rfl ?_
  refine gX11_10 (pc := 9) hC dX11_clear_9 ?_
  refine j_iconst (pc := 12) hC dX11_clear_12 (v := 0) (by decide) ?_
  refine pX11_91 (pc := 13) hC dX11_clear_13 ?_
  refine j_iload_n (pc := 16) hC dX11_clear_16 rfl ?_
  exact j_iret (pc := 17) hC dX11_clear_17
/-! LastRower.count(I)I -/
set_option maxRecDepth 20000 in
set_option maxHeartbeats 4000000 in
theorem kt_X11_count {l : Launch} {ad : Nat → Nat} {cid : Nat → ClassId} {D : va_G} (hL : lyOk ad)  (M : Mem) (x1 : Int32) : Ct (qI ad cid) l ad cid D yX11_count cX11_count 2 (some .int) 0 0 [.ref (ad 0), .int x1] M (fX11_count M x1) := by
  refine ct_of (own := RX11) (lv := [some (.ref (ad 0)), some (.int x1)]) hL (by decide +kernel) rfl rfl (Nat.le_of_ble_eq_true rfl) (fun X hC => ?_)
  unfold fX11_count
  refine j_iload_n (pc := 0) hC dX11_count_0 rfl ?_
  refine j_ite (fun hb1 => ?_) (fun hb1 => ?_)
  · refine j_tabIn (pc := 1) hC dX11_count_1 hb1 (by decide) (by decide) rfl (tgt := 36) (by decide) ?_
    refine j_aload_n (pc := 36) hC dX11_count_36 rfl ?_
    refine gX11_19 (pc := 37) hC dX11_count_37 ?_
    refine gX11_189 (pc := 40) hC (isFe_feB _) dX11_count_40 ?_
    exact j_iret (pc := 43) hC dX11_count_43
  refine j_ite (fun hb2 => ?_) (fun hb2 => ?_)
  · refine j_tabIn (pc := 1) hC dX11_count_1 hb2 (by decide) (by decide) rfl (tgt := 44) (by decide) ?_
    refine j_aload_n (pc := 44) hC dX11_count_44 rfl ?_
    refine gX11_19 (pc := 45) hC dX11_count_45 ?_
    refine gX11_259 (pc := 48) hC (isFe_feB _) dX11_count_48 ?_
    exact j_iret (pc := 51) hC dX11_count_51
  refine j_ite (fun hb3 => ?_) (fun hb3 => ?_)
  · refine j_tabIn (pc := 1) hC dX11_count_1 hb3 (by decide) (by decide) rfl (tgt := 52) (by decide) ?_
    refine j_aload_n (pc := 52) hC dX11_count_52 rfl ?_
    refine gX11_19 (pc := 53) hC dX11_count_53 ?_
    refine gX11_262 (pc := 56) hC (isFe_feB _) dX11_count_56 ?_
    exact j_iret (pc := 59) hC dX11_count_59
  refine j_ite (fun hb4 => ?_) (fun hb4 => ?_)
  · refine j_tabIn (pc := 1) hC dX11_count_1 hb4 (by decide) (by decide) rfl (tgt := 60) (by decide) ?_
    refine j_aload_n (pc := 60) hC dX11_count_60 rfl ?_
    refine gX11_109 (pc := 61) hC dX11_count_61 ?_
    exact j_iret (pc := 64) hC dX11_count_64
  refine j_ite (fun hb5 => ?_) (fun hb5 => ?_)
  · refine j_tabIn (pc := 1) hC dX11_count_1 hb5 (by decide) (by decide) rfl (tgt := 65) (by decide) ?_
    refine j_aload_n (pc := 65) hC dX11_count_65 rfl ?_
    refine gX11_10 (pc := 66) hC dX11_count_66 ?_
    refine gX11_91 (pc := 69) hC dX11_count_69 ?_
    exact j_iret (pc := 72) hC dX11_count_72
  refine j_tabOut (pc := 1) hC dX11_count_1 (by have z0 := ne_i (n := 0) hb1 (by decide); have z1 := ne_i (n := 1) hb2 (by decide); have z2 := ne_i (n := 2) hb3 (by decide); have z3 := ne_i (n := 3) hb4 (by decide); have z4 := ne_i (n := 4) hb5 (by decide); omega) (tgt := 73) (by decide) ?_
  refine j_iconst (pc := 73) hC dX11_count_73 (v := (-1)) (by decide) ?_
  exact j_iret (pc := 74) hC dX11_count_74
/-! LastRower.current(I)I -/
set_option maxRecDepth 20000 in
set_option maxHeartbeats 4000000 in
theorem kt_X11_current {l : Launch} {ad : Nat → Nat} {cid : Nat → ClassId} {D : va_G} (hL : lyOk ad)  (M : Mem) (x1 : Int32) : Ct (qI ad cid) l ad cid D yX11_current cX11_current 2 (some .int) 2 35 [.ref (ad 0), .int x1] M (fX11_current M x1) := by
  refine ct_of (own := RX11) (lv := [some (.ref (ad 0)), some (.int x1)]) hL (by decide +kernel) rfl rfl (Nat.le_of_ble_eq_true rfl) (fun X hC => ?_)
  unfold fX11_current
  refine j_iload_n (pc := 0) hC dX11_current_0 rfl ?_
  refine j_if_lt (pc := 1) hC dX11_current_1 (tgt := 11) (by decide) (fun hb1 => ?_) (fun hb1 => ?_)
  · refine j_iconst (pc := 11) hC dX11_current_11 (v := (-1)) (by decide) ?_
    refine j_goto (pc := 12) hC dX11_current_12 (tgt := 23) (by decide) ?_
    exact j_iret (pc := 23) hC dX11_current_23
  · refine j_iload_n (pc := 4) hC dX11_current_4 rfl ?_
    refine j_sipush (pc := 5) hC dX11_current_5 (v := 400) (by decide) ?_
    refine j_icmp_le (pc := 8) hC dX11_current_8 (tgt := 15) (by decide) (fun hb2 => ?_) (fun hb2 => ?_)
    · refine j_aload_n (pc := 15) hC dX11_current_15 rfl ?_
      refine gX11_19 (pc := 16) hC dX11_current_16 ?_
      refine j_iload_n (pc := 19) hC dX11_current_19 rfl ?_
      refine j_bI (pc := 20) (run_V hC (st := []) (kt_X2_flowAt hC.ly (isFe_feB _) M x1) vv_X2_flowAt qw435 (fe_lt (isFe_feB _)) (sh_X2 (isFe_feB _)) rfl ⟨(Nat.le_of_ble_eq_true rfl), (Nat.le_of_ble_eq_true rfl)⟩ rfl rfl (Nat.le_of_ble_eq_true rfl) dX11_current_20) (fun M3 r4 => ?_)
      exact j_iret (pc := 23) hC dX11_current_23
    · refine j_iconst (pc := 11) hC dX11_current_11 (v := (-1)) (by decide) ?_
      refine j_goto (pc := 12) hC dX11_current_12 (tgt := 23) (by decide) ?_
      exact j_iret (pc := 23) hC dX11_current_23
/-! LastRower.drift()I -/
set_option maxRecDepth 20000 in
set_option maxHeartbeats 4000000 in
theorem tsX11_drift_7 {X : Cx} {ad : Nat → Nat} {cid : Nat → ClassId} (hC : Ok X ad cid cX11_drift RX11 3 (some .int) 3 67)  {rec7 : Mem → Int32 → Option (Mem × Int32)} (hrec7 : ∀ (M : Mem) (x2 : Int32), Jp X ad cid 3 (qm X ad (qI ad cid)) M 7 [some (.ref (ad 0)), some (.ref (ad 82)), some (.int x2)] [] (rec7 M x2)) (M : Mem) (x2 : Int32)  : Jp X ad cid 3 (qm X ad (qI ad cid)) M 7 [some (.ref (ad 0)), some (.ref (ad 82)), some (.int x2)] [] (sX11_drift_7  rec7 M x2) := by
  unfold sX11_drift_7
  refine j_iload_n (pc := 7) hC dX11_drift_7 rfl ?_
  refine j_sipush (pc := 8) hC dX11_drift_8 (v := 400) (by decide) ?_
  refine j_icmp_gt (pc := 11) hC dX11_drift_11 (tgt := 58) (by decide) (fun hb2 => ?_) (fun hb2 => ?_)
  · refine j_bipush (pc := 58) hC dX11_drift_58 (v := (-9)) (by decide) ?_
    exact j_iret (pc := 60) hC dX11_drift_60
  · refine j_aload_n (pc := 14) hC dX11_drift_14 rfl ?_
    refine gX11_19 (pc := 15) hC dX11_drift_15 ?_
    refine j_aload_n (pc := 18) hC dX11_drift_18 rfl ?_
    refine gX11_140 (pc := 19) hC mo_82 dX11_drift_19 ?_
    refine j_bI (pc := 22) (run_V hC (st := []) (kt_X2_isOver hC.ly (isFe_feB _) M (gM M 82 1)) vv_X2_isOver qw452 (fe_lt (isFe_feB _)) (sh_X2 (isFe_feB _)) rfl ⟨(Nat.le_of_ble_eq_true rfl), (Nat.le_of_ble_eq_true rfl)⟩ rfl rfl (Nat.le_of_ble_eq_true rfl) dX11_drift_22) (fun M3 r4 => ?_)
    refine j_if_ne (pc := 25) hC dX11_drift_25 (tgt := 58) (by decide) (fun hb5 => ?_) (fun hb5 => ?_)
    · refine j_bipush (pc := 58) hC dX11_drift_58 (v := (-9)) (by decide) ?_
      exact j_iret (pc := 60) hC dX11_drift_60
    · refine j_aload_n (pc := 28) hC dX11_drift_28 rfl ?_
      refine j_aload_n (pc := 29) hC dX11_drift_29 rfl ?_
      refine gX11_19 (pc := 30) hC dX11_drift_30 ?_
      refine j_bV (pc := 33) (run_V hC (st := []) (kt_X4_row hC.ly mo_82 (isFe_feB _) M3) vv_X4_row qw473 (mo_lt mo_82) (sh_X4 mo_82) rfl ⟨(Nat.le_of_ble_eq_true rfl), (Nat.le_of_ble_eq_true rfl)⟩ rfl rfl (Nat.le_of_ble_eq_true rfl) dX11_drift_33) (fun M6 => ?_)
      refine j_aload_n (pc := 36) hC dX11_drift_36 rfl ?_
      refine gX11_140 (pc := 37) hC mo_82 dX11_drift_37 ?_
      refine j_aload_n (pc := 40) hC dX11_drift_40 rfl ?_
      refine gX11_29 (pc := 41) hC dX11_drift_41 ?_
      refine gX11_140 (pc := 44) hC mo_19 dX11_drift_44 ?_
      refine j_icmp_ge (pc := 47) hC dX11_drift_47 (tgt := 52) (by decide) (fun hb7 => ?_) (fun hb7 => ?_)
      · refine j_iinc (pc := 52) hC (lv' := [some (.ref (ad 0)), some (.ref (ad 82)), some (.int (x2 + 1))]) dX11_drift_52 rfl (v := 1) (by decide) (by decide) rfl rfl ?_
        refine j_goto (pc := 55) hC dX11_drift_55 (tgt := 7) (by decide) ?_
        exact hrec7 M6 (x2 + 1)
      · refine j_iload_n (pc := 50) hC dX11_drift_50 rfl ?_
        exact j_iret (pc := 51) hC dX11_drift_51
theorem tlX11_drift_7 {X : Cx} {ad : Nat → Nat} {cid : Nat → ClassId} (hC : Ok X ad cid cX11_drift RX11 3 (some .int) 3 67)   : ∀ (n : Nat) (M : Mem) (x2 : Int32), Jp X ad cid 3 (qm X ad (qI ad cid)) M 7 [some (.ref (ad 0)), some (.ref (ad 82)), some (.int x2)] [] (lX11_drift_7  n M x2) := by
  intro n
  induction n with
  | zero => intros; exact j_none
  | succ n ih => exact tsX11_drift_7 hC   ih
set_option maxRecDepth 20000 in
set_option maxHeartbeats 4000000 in
theorem kt_X11_drift {l : Launch} {ad : Nat → Nat} {cid : Nat → ClassId} {D : va_G} (hL : lyOk ad)  (M : Mem)  : Ct (qI ad cid) l ad cid D yX11_drift cX11_drift 3 (some .int) 3 67 [.ref (ad 0)] M (fX11_drift M ) := by
  refine ct_of (own := RX11) (lv := [some (.ref (ad 0)), none, none]) hL (by decide +kernel) rfl rfl (Nat.le_of_ble_eq_true rfl) (fun X hC => ?_)
  unfold fX11_drift
  refine j_aload_n (pc := 0) hC dX11_drift_0 rfl ?_
  refine j_bA (pc := 1) (run_V hC (st := []) (kt_X11_copyOfNow hC.ly M) vv_X11_copyOfNow qw524 (by decide) sh_X11 rfl ⟨(Nat.le_of_ble_eq_true rfl), (Nat.le_of_ble_eq_true rfl)⟩ rfl rfl (Nat.le_of_ble_eq_true rfl) dX11_drift_1) (fun M1 => ?_)
  refine j_astore_n (pc := 4) hC (lv' := [some (.ref (ad 0)), some (.ref (ad 82)), none]) dX11_drift_4 (by decide) rfl rfl ?_
  refine j_iconst (pc := 5) hC dX11_drift_5 (v := 1) (by decide) ?_
  refine j_istore_n (pc := 6) hC (lv' := [some (.ref (ad 0)), some (.ref (ad 82)), some (.int (1 : Int32))]) dX11_drift_6 (by decide) rfl rfl ?_
  exact tlX11_drift_7 hC fuel M1 (1 : Int32)
/-! LastRower.ends()I -/
set_option maxRecDepth 20000 in
set_option maxHeartbeats 4000000 in
theorem kt_X11_ends {l : Launch} {ad : Nat → Nat} {cid : Nat → ClassId} {D : va_G} (hL : lyOk ad)  (M : Mem)  : Ct (qI ad cid) l ad cid D yX11_ends cX11_ends 1 (some .int) 4 90 [.ref (ad 0)] M (fX11_ends M ) := by
  refine ct_of (own := RX11) (lv := [some (.ref (ad 0))]) hL (by decide +kernel) rfl rfl (Nat.le_of_ble_eq_true rfl) (fun X hC => ?_)
  unfold fX11_ends
  refine j_aload_n (pc := 0) hC dX11_ends_0 rfl ?_
  refine j_bA (pc := 1) (run_V hC (st := []) (kt_X11_copyOfNow hC.ly M) vv_X11_copyOfNow qw524 (by decide) sh_X11 rfl ⟨(Nat.le_of_ble_eq_true rfl), (Nat.le_of_ble_eq_true rfl)⟩ rfl rfl (Nat.le_of_ble_eq_true rfl) dX11_ends_1) (fun M1 => ?_)
  refine j_aload_n (pc := 4) hC dX11_ends_4 rfl ?_
  refine gX11_19 (pc := 5) hC dX11_ends_5 ?_
  refine j_sipush (pc := 8) hC dX11_ends_8 (v := 400) (by decide) ?_
  refine j_bI (pc := 11) (run_V hC (st := []) (kt_X4_rowTillOver hC.ly mo_82 (isFe_feB _) M1 (400 : Int32)) vv_X4_rowTillOver qw533 (mo_lt mo_82) (sh_X4 mo_82) rfl ⟨(Nat.le_of_ble_eq_true rfl), (Nat.le_of_ble_eq_true rfl)⟩ rfl rfl (Nat.le_of_ble_eq_true rfl) dX11_ends_11) (fun M2 r3 => ?_)
  exact j_iret (pc := 14) hC dX11_ends_14
/-! java/util/Arrays.fill([II)V -/
set_option maxRecDepth 20000 in
set_option maxHeartbeats 4000000 in
theorem tsJ7_fill_53178_5 {X : Cx} {ad : Nat → Nat} {cid : Nat → ClassId} (hC : Ok X ad cid cJ7_fill_53178 RJ7 4 none 0 0)  {rec5 : Mem → Nat → Int32 → Int32 → Int32 → Option (Mem)} (hrec5 : ∀ (M : Mem) (n0 : Nat) (x1 : Int32) (x2 : Int32) (x3 : Int32), isA6 n0 → Jp X ad cid 4 (qm X ad (qV ad cid)) M 5 [some (.ref (ad n0)), some (.int x1), some (.int x2), some (.int x3)] [] (rec5 M n0 x1 x2 x3)) (M : Mem) (n0 : Nat) (x1 : Int32) (x2 : Int32) (x3 : Int32) (h0 : isA6 n0) : Jp X ad cid 4 (qm X ad (qV ad cid)) M 5 [some (.ref (ad n0)), some (.int x1), some (.int x2), some (.int x3)] [] (sJ7_fill_53178_5  rec5 M n0 x1 x2 x3) := by
  unfold sJ7_fill_53178_5
  refine j_iload_n (pc := 5) hC dJ7_fill_53178_5 rfl ?_
  refine j_iload_n (pc := 6) hC dJ7_fill_53178_6 rfl ?_
  refine j_icmp_ge (pc := 7) hC dJ7_fill_53178_7 (tgt := 20) (by decide) (fun hb1 => ?_) (fun hb1 => ?_)
  · exact j_vret (pc := 20) hC dJ7_fill_53178_20
  · refine j_aload_n (pc := 10) hC dJ7_fill_53178_10 rfl ?_
    refine j_iload_n (pc := 11) hC dJ7_fill_53178_11 rfl ?_
    refine j_iload_n (pc := 12) hC dJ7_fill_53178_12 rfl ?_
    refine j_ck (fun hi2 => ?_)
    refine j_iast (pc := 13) hC (n := 6) h0.1 h0.2 hi2 dJ7_fill_53178_13 ?_
    refine j_iinc (pc := 14) hC (lv' := [some (.ref (ad n0)), some (.int x1), some (.int (x2 + 1)), some (.int x3)]) dJ7_fill_53178_14 rfl (v := 1) (by decide) (by decide) rfl rfl ?_
    refine j_goto (pc := 17) hC dJ7_fill_53178_17 (tgt := 5) (by decide) ?_
    exact hrec5 (sM M n0 x2.toNatClampNeg x1) n0 x1 (x2 + 1) x3 h0
theorem tlJ7_fill_53178_5 {X : Cx} {ad : Nat → Nat} {cid : Nat → ClassId} (hC : Ok X ad cid cJ7_fill_53178 RJ7 4 none 0 0)   : ∀ (n : Nat) (M : Mem) (n0 : Nat) (x1 : Int32) (x2 : Int32) (x3 : Int32), isA6 n0 → Jp X ad cid 4 (qm X ad (qV ad cid)) M 5 [some (.ref (ad n0)), some (.int x1), some (.int x2), some (.int x3)] [] (lJ7_fill_53178_5  n M n0 x1 x2 x3) := by
  intro n
  induction n with
  | zero => intros; exact j_none
  | succ n ih => exact tsJ7_fill_53178_5 hC   ih
set_option maxRecDepth 20000 in
set_option maxHeartbeats 4000000 in
theorem kt_J7_fill_53178 {l : Launch} {ad : Nat → Nat} {cid : Nat → ClassId} {D : va_G} (hL : lyOk ad) {n0 : Nat} (h0 : isA6 n0) (M : Mem) (x1 : Int32) : Ct (qV ad cid) l ad cid D yJ7_fill_53178 cJ7_fill_53178 4 none 0 0 [.ref (ad n0), .int x1] M (fJ7_fill_53178 M n0 x1) := by
  refine ct_of (own := RJ7) (lv := [some (.ref (ad n0)), some (.int x1), none, none]) hL (by decide +kernel) rfl rfl (Nat.le_of_ble_eq_true rfl) (fun X hC => ?_)
  unfold fJ7_fill_53178
  refine j_iconst (pc := 0) hC dJ7_fill_53178_0 (v := 0) (by decide) ?_
  refine j_istore_n (pc := 1) hC (lv' := [some (.ref (ad n0)), some (.int x1), some (.int (0 : Int32)), none]) dJ7_fill_53178_1 (by decide) rfl rfl ?_
  refine j_aload_n (pc := 2) hC dJ7_fill_53178_2 rfl ?_
  refine j_alen0 (pc := 3) hC (v := 6) h0.1 (by rw [h0.2]; rfl) dJ7_fill_53178_3 ?_
  refine j_istore_n (pc := 4) hC (lv' := [some (.ref (ad n0)), some (.int x1), some (.int (0 : Int32)), some (.int (6 : Int32))]) dJ7_fill_53178_4 (by decide) rfl rfl ?_
  exact tlJ7_fill_53178_5 hC fuel M n0 x1 (0 : Int32) (6 : Int32) h0
/-! LastRower$Moment.start(LLastRower$Ferry;)V -/
set_option maxRecDepth 20000 in
set_option maxHeartbeats 4000000 in
theorem kt_X4_start {l : Launch} {ad : Nat → Nat} {cid : Nat → ClassId} {D : va_G} (hL : lyOk ad) {n0 : Nat} (h0 : isMo n0) {n1 : Nat} (h1 : isFe n1) (M : Mem)  : Ct (qV ad cid) l ad cid D yX4_start cX4_start 2 none 1 24 [.ref (ad n0), .ref (ad n1)] M (fX4_start M n0 n1) := by
  refine ct_of (own := RX4) (lv := [some (.ref (ad n0)), some (.ref (ad n1))]) hL (by decide +kernel) rfl rfl (Nat.le_of_ble_eq_true rfl) (fun X hC => ?_)
  unfold fX4_start
  refine j_aload_n (pc := 0) hC dX4_start_0 rfl ?_
  refine j_iconst (pc := 1) hC dX4_start_1 (v := 0) (by decide) ?_
  refine pX4_23 (pc := 2) hC h0 dX4_start_2 ?_
  refine j_aload_n (pc := 5) hC dX4_start_5 rfl ?_
  refine j_iconst (pc := 6) hC dX4_start_6 (v := 0) (by decide) ?_
  refine pX4_26 (pc := 7) hC h0 dX4_start_7 ?_
  refine j_aload_n (pc := 10) hC dX4_start_10 rfl ?_
  refine gX4_9 (pc := 11) hC h0 dX4_start_11 ?_
  refine j_iconst (pc := 14) hC dX4_start_14 (v := 0) (by decide) ?_
  refine j_bV (pc := 15) (run_S hC (st := []) (kt_J7_fill_53178 hC.ly (mo_1 h0) (sM (sM M n0 0 (0 : Int32)) n0 1 (0 : Int32)) (0 : Int32)) vs_J7_fill_53178 qw408 ⟨(Nat.le_of_ble_eq_true rfl), (Nat.le_of_ble_eq_true rfl)⟩ rfl rfl (Nat.le_of_ble_eq_true rfl) dX4_start_15) (fun M1 => ?_)
  refine j_aload_n (pc := 18) hC dX4_start_18 rfl ?_
  refine gX4_15 (pc := 19) hC h0 dX4_start_19 ?_
  refine j_iconst (pc := 22) hC dX4_start_22 (v := 0) (by decide) ?_
  refine j_bV (pc := 23) (run_S hC (st := []) (kt_J7_fill_53178 hC.ly (mo_2 h0) M1 (0 : Int32)) vs_J7_fill_53178 qw408 ⟨(Nat.le_of_ble_eq_true rfl), (Nat.le_of_ble_eq_true rfl)⟩ rfl rfl (Nat.le_of_ble_eq_true rfl) dX4_start_23) (fun M2 => ?_)
  refine j_aload_n (pc := 26) hC dX4_start_26 rfl ?_
  refine j_aload_n (pc := 27) hC dX4_start_27 rfl ?_
  refine j_iconst (pc := 28) hC dX4_start_28 (v := 0) (by decide) ?_
  refine j_bV (pc := 29) (run_V hC (st := []) (kt_X4_speak hC.ly h0 h1 M2 (0 : Int32)) vv_X4_speak qw411 (mo_lt h0) (sh_X4 h0) rfl ⟨(Nat.le_of_ble_eq_true rfl), (Nat.le_of_ble_eq_true rfl)⟩ rfl rfl (Nat.le_of_ble_eq_true rfl) dX4_start_29) (fun M3 => ?_)
  exact j_vret (pc := 32) hC dX4_start_32
