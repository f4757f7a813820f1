/-! LastRower$Planner.search(LLastRower$Ferry;LLastRower$Moment;II)V -/
set_option maxRecDepth 20000 in
set_option maxHeartbeats 4000000 in
theorem kt_X9_search {l : Launch} {ad : Nat → Nat} {cid : Nat → ClassId} {D : va_G} (hL : lyOk ad) {n1 : Nat} (h1 : isFe n1) {n2 : Nat} (h2 : isMo n2) (M : Mem) (x3 : Int32) (x4 : Int32) : Ct (qV ad cid) l ad cid D yX9_search cX9_search 5 none 11 259 [.ref (ad 58), .ref (ad n1), .ref (ad n2), .int x3, .int x4] M (fX9_search M n1 n2 x3 x4) := by
  refine ct_of (own := RX9) (lv := [some (.ref (ad 58)), some (.ref (ad n1)), some (.ref (ad n2)), some (.int x3), some (.int x4)]) hL (by decide +kernel) rfl rfl (Nat.le_of_ble_eq_true rfl) (fun X hC => ?_)
  unfold fX9_search
  refine j_aload_n (pc := 0) hC dX9_search_0 rfl ?_
  refine j_iload_n (pc := 1) hC dX9_search_1 rfl ?_
  refine j_iconst (pc := 2) hC dX9_search_2 (v := 3) (by decide) ?_
  refine j_mmin (pc := 3) hC qw569 qm_min_s qm_i qm_min_c (Nat.le_of_ble_eq_true rfl) (Nat.le_of_ble_eq_true rfl) dX9_search_3 ?_
  refine pX9_31 (pc := 6) hC dX9_search_6 ?_
  refine j_aload_n (pc := 9) hC dX9_search_9 rfl ?_
  refine j_iload (pc := 10) hC dX9_search_10 rfl ?_
  refine pX9_35 (pc := 12) hC dX9_search_12 ?_
  refine j_aload_n (pc := 15) hC dX9_search_15 rfl ?_
  refine j_sipush (pc := 16) hC dX9_search_16 (v := 401) (by decide) ?_
  refine pX9_38 (pc := 19) hC dX9_search_19 ?_
  refine j_aload_n (pc := 22) hC dX9_search_22 rfl ?_
  refine gX9_11 (pc := 23) hC dX9_search_23 ?_
  refine j_iconst (pc := 26) hC dX9_search_26 (v := 0) (by decide) ?_
  refine j_aaldC (pc := 27) hC (n := 4) (b0 := 62) (e := 62) (by decide) rfl rfl rfl (by decide) dX9_search_27 ?_
  refine j_aload_n (pc := 28) hC dX9_search_28 rfl ?_
  refine j_bV (pc := 29) (run_V hC (st := []) (kt_X4_copyFrom hC.ly mo_62 h2 (sM (sM (sM M 58 3 (if (3 : Int32) < x3 then (3 : Int32) else x3)) 58 4 x4) 58 5 (401 : Int32))) vv_X4_copyFrom qw570 (mo_lt mo_62) (sh_X4 mo_62) rfl ⟨(Nat.le_of_ble_eq_true rfl), (Nat.le_of_ble_eq_true rfl)⟩ rfl rfl (Nat.le_of_ble_eq_true rfl) dX9_search_29) (fun M1 => ?_)
  refine j_aload_n (pc := 32) hC dX9_search_32 rfl ?_
  refine j_aload_n (pc := 33) hC dX9_search_33 rfl ?_
  refine j_iconst (pc := 34) hC dX9_search_34 (v := 0) (by decide) ?_
  refine j_bV (pc := 35) (run_V hC (st := []) (kt_X9_tryAll hC.ly h1 M1 (0 : Int32)) vv_X9_tryAll qw571 (by decide) sh_X9 rfl ⟨(Nat.le_of_ble_eq_true rfl), (Nat.le_of_ble_eq_true rfl)⟩ rfl rfl (Nat.le_of_ble_eq_true rfl) dX9_search_35) (fun M2 => ?_)
  exact j_vret (pc := 38) hC dX9_search_38
/-! LastRower.plan(III)I -/
set_option maxRecDepth 20000 in
set_option maxHeartbeats 4000000 in
theorem kt_X11_plan {l : Launch} {ad : Nat → Nat} {cid : Nat → ClassId} {D : va_G} (hL : lyOk ad)  (M : Mem) (x1 : Int32) (x2 : Int32) (x3 : Int32) : Ct (qI ad cid) l ad cid D yX11_plan cX11_plan 4 (some .int) 12 283 [.ref (ad 0), .int x1, .int x2, .int x3] M (fX11_plan M x1 x2 x3) := by
  refine ct_of (own := RX11) (lv := [some (.ref (ad 0)), some (.int x1), some (.int x2), some (.int x3)]) hL (by decide +kernel) rfl rfl (Nat.le_of_ble_eq_true rfl) (fun X hC => ?_)
  unfold fX11_plan
  refine j_iload_n (pc := 0) hC dX11_plan_0 rfl ?_
  refine j_iconst (pc := 1) hC dX11_plan_1 (v := 1) (by decide) ?_
  refine j_icmp_lt (pc := 2) hC dX11_plan_2 (tgt := 30) (by decide) (fun hb1 => ?_) (fun hb1 => ?_)
  · refine j_iconst (pc := 30) hC dX11_plan_30 (v := (-1)) (by decide) ?_
    exact j_iret (pc := 31) hC dX11_plan_31
  · refine j_iload_n (pc := 5) hC dX11_plan_5 rfl ?_
    refine j_iconst (pc := 6) hC dX11_plan_6 (v := 3) (by decide) ?_
    refine j_icmp_gt (pc := 7) hC dX11_plan_7 (tgt := 30) (by decide) (fun hb2 => ?_) (fun hb2 => ?_)
    · refine j_iconst (pc := 30) hC dX11_plan_30 (v := (-1)) (by decide) ?_
      exact j_iret (pc := 31) hC dX11_plan_31
    · refine j_iload_n (pc := 10) hC dX11_plan_10 rfl ?_
      refine j_if_lt (pc := 11) hC dX11_plan_11 (tgt := 30) (by decide) (fun hb3 => ?_) (fun hb3 => ?_)
      · refine j_iconst (pc := 30) hC dX11_plan_30 (v := (-1)) (by decide) ?_
        exact j_iret (pc := 31) hC dX11_plan_31
      · refine j_iload_n (pc := 14) hC dX11_plan_14 rfl ?_
        refine j_bipush (pc := 15) hC dX11_plan_15 (v := 60) (by decide) ?_
        refine j_icmp_gt (pc := 17) hC dX11_plan_17 (tgt := 30) (by decide) (fun hb4 => ?_) (fun hb4 => ?_)
        · refine j_iconst (pc := 30) hC dX11_plan_30 (v := (-1)) (by decide) ?_
          exact j_iret (pc := 31) hC dX11_plan_31
        · refine j_iload_n (pc := 20) hC dX11_plan_20 rfl ?_
          refine j_iconst (pc := 21) hC dX11_plan_21 (v := (-1)) (by decide) ?_
          refine j_icmp_lt (pc := 22) hC dX11_plan_22 (tgt := 30) (by decide) (fun hb5 => ?_) (fun hb5 => ?_)
          · refine j_iconst (pc := 30) hC dX11_plan_30 (v := (-1)) (by decide) ?_
            exact j_iret (pc := 31) hC dX11_plan_31
          · refine j_iload_n (pc := 25) hC dX11_plan_25 rfl ?_
            refine j_iconst (pc := 26) hC dX11_plan_26 (v := 3) (by decide) ?_
            refine j_icmp_lt (pc := 27) hC dX11_plan_27 (tgt := 32) (by decide) (fun hb6 => ?_) (fun hb6 => ?_)
            · refine j_iload_n (pc := 32) hC dX11_plan_32 rfl ?_
              refine j_iload_n (pc := 33) hC dX11_plan_33 rfl ?_
              refine j_icmp_lt (pc := 34) hC dX11_plan_34 (tgt := 40) (by decide) (fun hb7 => ?_) (fun hb7 => ?_)
              · refine j_aload_n (pc := 40) hC dX11_plan_40 rfl ?_
                refine gX11_57 (pc := 41) hC dX11_plan_41 ?_
                refine j_aload_n (pc := 44) hC dX11_plan_44 rfl ?_
                refine gX11_19 (pc := 45) hC dX11_plan_45 ?_
                refine j_aload_n (pc := 48) hC dX11_plan_48 rfl ?_
                refine gX11_29 (pc := 49) hC dX11_plan_49 ?_
                refine j_iload_n (pc := 52) hC dX11_plan_52 rfl ?_
                refine j_iload_n (pc := 53) hC dX11_plan_53 rfl ?_
                refine j_bV (pc := 54) (run_V hC (st := []) (kt_X9_search hC.ly (isFe_feB _) mo_19 M x1 x2) vv_X9_search qw565 (by decide) sh_X9 rfl ⟨(Nat.le_of_ble_eq_true rfl), (Nat.le_of_ble_eq_true rfl)⟩ rfl rfl (Nat.le_of_ble_eq_true rfl) dX11_plan_54) (fun M8 => ?_)
                refine j_aload_n (pc := 57) hC dX11_plan_57 rfl ?_
                refine gX11_57 (pc := 58) hC dX11_plan_58 ?_
                refine gX11_212 (pc := 61) hC dX11_plan_61 ?_
                refine j_sipush (pc := 64) hC dX11_plan_64 (v := 400) (by decide) ?_
                refine j_icmp_le (pc := 67) hC dX11_plan_67 (tgt := 73) (by decide) (fun hb9 => ?_) (fun hb9 => ?_)
                · refine j_iload_n (pc := 73) hC dX11_plan_73 rfl ?_
                  refine j_if_ge (pc := 74) hC dX11_plan_74 (tgt := 87) (by decide) (fun hb10 => ?_) (fun hb10 => ?_)
                  · refine j_aload_n (pc := 87) hC dX11_plan_87 rfl ?_
                    refine gX11_57 (pc := 88) hC dX11_plan_88 ?_
                    refine gX11_215 (pc := 91) hC dX11_plan_91 ?_
                    refine j_iload_n (pc := 94) hC dX11_plan_94 rfl ?_
                    refine j_ck (fun hi11 => ?_)
                    refine j_iald (pc := 95) hC (n := 3) rfl rfl hi11 dX11_plan_95 ?_
                    exact j_iret (pc := 96) hC dX11_plan_96
                  · refine j_aload_n (pc := 77) hC dX11_plan_77 rfl ?_
                    refine gX11_57 (pc := 78) hC dX11_plan_78 ?_
                    refine gX11_212 (pc := 81) hC dX11_plan_81 ?_
                    refine j_goto (pc := 84) hC dX11_plan_84 (tgt := 96) (by decide) ?_
                    exact j_iret (pc := 96) hC dX11_plan_96
                · refine j_bipush (pc := 70) hC dX11_plan_70 (v := (-9)) (by decide) ?_
                  exact j_iret (pc := 72) hC dX11_plan_72
              · refine j_bipush (pc := 37) hC dX11_plan_37 (v := (-9)) (by decide) ?_
                exact j_iret (pc := 39) hC dX11_plan_39
            · refine j_iconst (pc := 30) hC dX11_plan_30 (v := (-1)) (by decide) ?_
              exact j_iret (pc := 31) hC dX11_plan_31
/-! LastRower.quarrels(II)I -/
set_option maxRecDepth 20000 in
set_option maxHeartbeats 4000000 in
theorem kt_X11_quarrels {l : Launch} {ad : Nat → Nat} {cid : Nat → ClassId} {D : va_G} (hL : lyOk ad)  (M : Mem) (x1 : Int32) (x2 : Int32) : Ct (qI ad cid) l ad cid D yX11_quarrels cX11_quarrels 3 (some .int) 3 64 [.ref (ad 0), .int x1, .int x2] M (fX11_quarrels M x1 x2) := by
  refine ct_of (own := RX11) (lv := [some (.ref (ad 0)), some (.int x1), some (.int x2)]) hL (by decide +kernel) rfl rfl (Nat.le_of_ble_eq_true rfl) (fun X hC => ?_)
  unfold fX11_quarrels
  refine j_aload_n (pc := 0) hC dX11_quarrels_0 rfl ?_
  refine gX11_19 (pc := 1) hC dX11_quarrels_1 ?_
  refine j_iload_n (pc := 4) hC dX11_quarrels_4 rfl ?_
  refine j_bI (pc := 5) (run_V hC (st := []) (kt_X2_has hC.ly (isFe_feB _) M x1) vv_X2_has qw423 (fe_lt (isFe_feB _)) (sh_X2 (isFe_feB _)) rfl ⟨(Nat.le_of_ble_eq_true rfl), (Nat.le_of_ble_eq_true rfl)⟩ rfl rfl (Nat.le_of_ble_eq_true rfl) dX11_quarrels_5) (fun M1 r2 => ?_)
  refine j_if_eq (pc := 8) hC dX11_quarrels_8 (tgt := 27) (by decide) (fun hb3 => ?_) (fun hb3 => ?_)
  · refine j_iconst (pc := 27) hC dX11_quarrels_27 (v := (-1)) (by decide) ?_
    exact j_iret (pc := 28) hC dX11_quarrels_28
  · refine j_aload_n (pc := 11) hC dX11_quarrels_11 rfl ?_
    refine gX11_19 (pc := 12) hC dX11_quarrels_12 ?_
    refine j_iload_n (pc := 15) hC dX11_quarrels_15 rfl ?_
    refine j_bI (pc := 16) (run_V hC (st := []) (kt_X2_has hC.ly (isFe_feB _) M1 x2) vv_X2_has qw423 (fe_lt (isFe_feB _)) (sh_X2 (isFe_feB _)) rfl ⟨(Nat.le_of_ble_eq_true rfl), (Nat.le_of_ble_eq_true rfl)⟩ rfl rfl (Nat.le_of_ble_eq_true rfl) dX11_quarrels_16) (fun M4 r5 => ?_)
    refine j_if_eq (pc := 19) hC dX11_quarrels_19 (tgt := 27) (by decide) (fun hb6 => ?_) (fun hb6 => ?_)
    · refine j_iconst (pc := 27) hC dX11_quarrels_27 (v := (-1)) (by decide) ?_
      exact j_iret (pc := 28) hC dX11_quarrels_28
    · refine j_iload_n (pc := 22) hC dX11_quarrels_22 rfl ?_
      refine j_iload_n (pc := 23) hC dX11_quarrels_23 rfl ?_
      refine j_icmp_ne (pc := 24) hC dX11_quarrels_24 (tgt := 29) (by decide) (fun hb7 => ?_) (fun hb7 => ?_)
      · refine j_aload_n (pc := 29) hC dX11_quarrels_29 rfl ?_
        refine j_bI (pc := 30) (run_V hC (st := []) (kt_X11_isOver hC.ly M4) vv_X11_isOver qw448 (by decide) sh_X11 rfl ⟨(Nat.le_of_ble_eq_true rfl), (Nat.le_of_ble_eq_true rfl)⟩ rfl rfl (Nat.le_of_ble_eq_true rfl) dX11_quarrels_30) (fun M8 r9 => ?_)
        refine j_if_eq (pc := 33) hC dX11_quarrels_33 (tgt := 39) (by decide) (fun hb10 => ?_) (fun hb10 => ?_)
        · refine j_aload_n (pc := 39) hC dX11_quarrels_39 rfl ?_
          refine j_iconst (pc := 40) hC dX11_quarrels_40 (v := 1) (by decide) ?_
          refine j_iload_n (pc := 41) hC dX11_quarrels_41 rfl ?_
          refine j_ishl (pc := 42) hC dX11_quarrels_42 ?_
          refine j_iconst (pc := 43) hC dX11_quarrels_43 (v := 1) (by decide) ?_
          refine j_iload_n (pc := 44) hC dX11_quarrels_44 rfl ?_
          refine j_ishl (pc := 45) hC dX11_quarrels_45 ?_
          refine j_ior (pc := 46) hC dX11_quarrels_46 ?_
          refine j_bV (pc := 47) (run_V hC (st := []) (kt_X11_utter hC.ly M8 (((1 : Int32) <<< (x1 &&& 31)) ||| ((1 : Int32) <<< (x2 &&& 31)))) vv_X11_utter qw495 (by decide) sh_X11 rfl ⟨(Nat.le_of_ble_eq_true rfl), (Nat.le_of_ble_eq_true rfl)⟩ rfl rfl (Nat.le_of_ble_eq_true rfl) dX11_quarrels_47) (fun M11 => ?_)
          refine j_aload_n (pc := 50) hC dX11_quarrels_50 rfl ?_
          refine gX11_19 (pc := 51) hC dX11_quarrels_51 ?_
          refine j_aload_n (pc := 54) hC dX11_quarrels_54 rfl ?_
          refine gX11_29 (pc := 55) hC dX11_quarrels_55 ?_
          refine gX11_131 (pc := 58) hC mo_19 dX11_quarrels_58 ?_
          refine j_bI (pc := 61) (run_V hC (st := []) (kt_X2_pullOf hC.ly (isFe_feB _) M11 (gM M11 19 2)) vv_X2_pullOf qw444 (fe_lt (isFe_feB _)) (sh_X2 (isFe_feB _)) rfl ⟨(Nat.le_of_ble_eq_true rfl), (Nat.le_of_ble_eq_true rfl)⟩ rfl rfl (Nat.le_of_ble_eq_true rfl) dX11_quarrels_61) (fun M12 r13 => ?_)
          exact j_iret (pc := 64) hC dX11_quarrels_64
        · refine j_bipush (pc := 36) hC dX11_quarrels_36 (v := (-2)) (by decide) ?_
          exact j_iret (pc := 38) hC dX11_quarrels_38
      · refine j_iconst (pc := 27) hC dX11_quarrels_27 (v := (-1)) (by decide) ?_
        exact j_iret (pc := 28) hC dX11_quarrels_28
/-! LastRower$Passenger.worth(LLastRower$Ferry;LLastRower$Moment;I[J)I -/
set_option maxRecDepth 20000 in
set_option maxHeartbeats 4000000 in
theorem kt_X7_worth {l : Launch} {ad : Nat → Nat} {cid : Nat → ClassId} {D : va_G} (hL : lyOk ad) {n0 : Nat} (h0 : isKi n0) {n1 : Nat} (h1 : isFe n1) {n2 : Nat} (h2 : isMo n2) (M : Mem) (x3 : Int32) : Ct (qI ad cid) l ad cid D yX7_worth cX7_worth 5 (some .int) 0 0 [.ref (ad n0), .ref (ad n1), .ref (ad n2), .int x3, .ref (ad 75)] M (fX7_worth M n1 n2 x3) := by
  refine ct_of (own := RX7) (lv := [some (.ref (ad n0)), some (.ref (ad n1)), some (.ref (ad n2)), some (.int x3), some (.ref (ad 75))]) hL (by decide +kernel) rfl rfl (Nat.le_of_ble_eq_true rfl) (fun X hC => ?_)
  unfold fX7_worth
  refine j_aload (pc := 0) hC dX7_worth_0 rfl ?_
  refine j_iconst (pc := 2) hC dX7_worth_2 (v := 0) (by decide) ?_
  refine j_dup2 (pc := 3) hC dX7_worth_3 rfl rfl ?_
  refine j_lald (pc := 4) hC (n := 1) rfl rfl (by decide) (by decide) dX7_worth_4 ?_
  refine j_lconst (pc := 5) hC dX7_worth_5 (v := 1) (by decide) ?_
  refine j_ladd (pc := 6) hC dX7_worth_6 ?_
  refine j_last (pc := 7) hC (n := 1) rfl rfl (by decide) (by decide) dX7_worth_7 ?_
  refine j_aload_n (pc := 8) hC dX7_worth_8 rfl ?_
  refine gX7_7 (pc := 9) hC h1 dX7_worth_9 ?_
  refine j_iload_n (pc := 12) hC dX7_worth_12 rfl ?_
  refine j_ck (fun hi1 => ?_)
  refine j_iald (pc := 13) hC (n := 6) (fe_a h1 1 (by decide) (by decide)) (fe_n h1 1 (by decide) (by decide)) hi1 dX7_worth_13 ?_
  exact j_iret (pc := 14) hC dX7_worth_14
/-! LastRower$Child.worth(LLastRower$Ferry;LLastRower$Moment;I[J)I -/
set_option maxRecDepth 20000 in
set_option maxHeartbeats 4000000 in
theorem kt_X0_worth {l : Launch} {ad : Nat → Nat} {cid : Nat → ClassId} {D : va_G} (hL : lyOk ad) {n0 : Nat} (h0 : isKi n0) {n1 : Nat} (h1 : isFe n1) {n2 : Nat} (h2 : isMo n2) (M : Mem) (x3 : Int32) : Ct (qI ad cid) l ad cid D yX0_worth cX0_worth 5 (some .int) 1 24 [.ref (ad n0), .ref (ad n1), .ref (ad n2), .int x3, .ref (ad 75)] M (fX0_worth M n1 n2 x3) := by
  refine ct_of (own := RX0) (lv := [some (.ref (ad n0)), some (.ref (ad n1)), some (.ref (ad n2)), some (.int x3), some (.ref (ad 75))]) hL (by decide +kernel) rfl rfl (Nat.le_of_ble_eq_true rfl) (fun X hC => ?_)
  unfold fX0_worth
  refine j_aload (pc := 0) hC dX0_worth_0 rfl ?_
  refine j_iconst (pc := 2) hC dX0_worth_2 (v := 0) (by decide) ?_
  refine j_dup2 (pc := 3) hC dX0_worth_3 rfl rfl ?_
  refine j_lald (pc := 4) hC (n := 1) rfl rfl (by decide) (by decide) dX0_worth_4 ?_
  refine j_ldc2 (pc := 5) hC qlX0_7 rfl dX0_worth_5 ?_
  refine j_ladd (pc := 8) hC dX0_worth_8 ?_
  refine j_last (pc := 9) hC (n := 1) rfl rfl (by decide) (by decide) dX0_worth_9 ?_
  refine j_aload_n (pc := 10) hC dX0_worth_10 rfl ?_
  refine j_aload_n (pc := 11) hC dX0_worth_11 rfl ?_
  refine j_aload_n (pc := 12) hC dX0_worth_12 rfl ?_
  refine j_iload_n (pc := 13) hC dX0_worth_13 rfl ?_
  refine j_aload (pc := 14) hC dX0_worth_14 rfl ?_
  obtain ⟨hti, ti, tC, tT, tN, hts9, htc⟩ := ki_sh (ad := ad) (cid := cid) h0 (sL M 75 ((gL M 75) + (100000 : Int64)))
  refine j_bI (pc := 16) (run_SU hC (st := []) (kt_X7_worth hC.ly h0 h1 h2 (sL M 75 ((gL M 75) + (100000 : Int64))) x3) vu_X0_X7_worth qw657 hti hts9 htc ⟨(Nat.le_of_ble_eq_true rfl), (Nat.le_of_ble_eq_true rfl)⟩ rfl rfl (Nat.le_of_ble_eq_true rfl) dX0_worth_16) (fun M1 r2 => ?_)
  refine j_aload_n (pc := 19) hC dX0_worth_19 rfl ?_
  refine gX0_13 (pc := 20) hC h2 dX0_worth_20 ?_
  refine j_iload_n (pc := 23) hC dX0_worth_23 rfl ?_
  refine j_ck (fun hi3 => ?_)
  refine j_iald (pc := 24) hC (n := 6) (mo_2 h2).1 (mo_2 h2).2 hi3 dX0_worth_24 ?_
  refine j_iadd (pc := 25) hC dX0_worth_25 ?_
  exact j_iret (pc := 26) hC dX0_worth_26
/-! LastRower$Dog.worth(LLastRower$Ferry;LLastRower$Moment;I[J)I -/
set_option maxRecDepth 20000 in
set_option maxHeartbeats 4000000 in
theorem kt_X1_worth {l : Launch} {ad : Nat → Nat} {cid : Nat → ClassId} {D : va_G} (hL : lyOk ad) {n0 : Nat} (h0 : isKi n0) {n1 : Nat} (h1 : isFe n1) {n2 : Nat} (h2 : isMo n2) (M : Mem) (x3 : Int32) : Ct (qI ad cid) l ad cid D yX1_worth cX1_worth 5 (some .int) 1 24 [.ref (ad n0), .ref (ad n1), .ref (ad n2), .int x3, .ref (ad 75)] M (fX1_worth M n1 n2 x3) := by
  refine ct_of (own := RX1) (lv := [some (.ref (ad n0)), some (.ref (ad n1)), some (.ref (ad n2)), some (.int x3), some (.ref (ad 75))]) hL (by decide +kernel) rfl rfl (Nat.le_of_ble_eq_true rfl) (fun X hC => ?_)
  unfold fX1_worth
  refine j_aload (pc := 0) hC dX1_worth_0 rfl ?_
  refine j_iconst (pc := 2) hC dX1_worth_2 (v := 0) (by decide) ?_
  refine j_dup2 (pc := 3) hC dX1_worth_3 rfl rfl ?_
  refine j_lald (pc := 4) hC (n := 1) rfl rfl (by decide) (by decide) dX1_worth_4 ?_
  refine j_ldc2 (pc := 5) hC qlX1_7 rfl dX1_worth_5 ?_
  refine j_ladd (pc := 8) hC dX1_worth_8 ?_
  refine j_last (pc := 9) hC (n := 1) rfl rfl (by decide) (by decide) dX1_worth_9 ?_
  refine j_aload_n (pc := 10) hC dX1_worth_10 rfl ?_
  refine j_aload_n (pc := 11) hC dX1_worth_11 rfl ?_
  refine j_aload_n (pc := 12) hC dX1_worth_12 rfl ?_
  refine j_iload_n (pc := 13) hC dX1_worth_13 rfl ?_
  refine j_aload (pc := 14) hC dX1_worth_14 rfl ?_
  obtain ⟨hti, ti, tC, tT, tN, hts9, htc⟩ := ki_sh (ad := ad) (cid := cid) h0 (sL M 75 ((gL M 75) + (100 : Int64)))
  refine j_bI (pc := 16) (run_SU hC (st := []) (kt_X7_worth hC.ly h0 h1 h2 (sL M 75 ((gL M 75) + (100 : Int64))) x3) vu_X1_X7_worth qw662 hti hts9 htc ⟨(Nat.le_of_ble_eq_true rfl), (Nat.le_of_ble_eq_true rfl)⟩ rfl rfl (Nat.le_of_ble_eq_true rfl) dX1_worth_16) (fun M1 r2 => ?_)
  refine j_aload_n (pc := 19) hC dX1_worth_19 rfl ?_
  refine gX1_13 (pc := 20) hC h1 dX1_worth_20 ?_
  refine j_iload_n (pc := 23) hC dX1_worth_23 rfl ?_
  refine j_ck (fun hi3 => ?_)
  refine j_iald (pc := 24) hC (n := 6) (fe_a h1 2 (by decide) (by decide)) (fe_n h1 2 (by decide) (by decide)) hi3 dX1_worth_24 ?_
  refine j_isub (pc := 25) hC dX1_worth_25 ?_
  exact j_iret (pc := 26) hC dX1_worth_26
/-! LastRower$Nun.worth(LLastRower$Ferry;LLastRower$Moment;I[J)I -/
set_option maxRecDepth 20000 in
set_option maxHeartbeats 4000000 in
theorem kt_X5_worth {l : Launch} {ad : Nat → Nat} {cid : Nat → ClassId} {D : va_G} (hL : lyOk ad) {n0 : Nat} (h0 : isKi n0) {n1 : Nat} (h1 : isFe n1) {n2 : Nat} (h2 : isMo n2) (M : Mem) (x3 : Int32) : Ct (qI ad cid) l ad cid D yX5_worth cX5_worth 5 (some .int) 1 24 [.ref (ad n0), .ref (ad n1), .ref (ad n2), .int x3, .ref (ad 75)] M (fX5_worth M n1 n2 x3) := by
  refine ct_of (own := RX5) (lv := [some (.ref (ad n0)), some (.ref (ad n1)), some (.ref (ad n2)), some (.int x3), some (.ref (ad 75))]) hL (by decide +kernel) rfl rfl (Nat.le_of_ble_eq_true rfl) (fun X hC => ?_)
  unfold fX5_worth
  refine j_aload (pc := 0) hC dX5_worth_0 rfl ?_
  refine j_iconst (pc := 2) hC dX5_worth_2 (v := 0) (by decide) ?_
  refine j_dup2 (pc := 3) hC dX5_worth_3 rfl rfl ?_
  refine j_lald (pc := 4) hC (n := 1) rfl rfl (by decide) (by decide) dX5_worth_4 ?_
  refine j_ldc2 (pc := 5) hC qlX5_7 rfl dX5_worth_5 ?_
  refine j_ladd (pc := 8) hC dX5_worth_8 ?_
  refine j_last (pc := 9) hC (n := 1) rfl rfl (by decide) (by decide) dX5_worth_9 ?_
  refine j_aload_n (pc := 10) hC dX5_worth_10 rfl ?_
  refine j_aload_n (pc := 11) hC dX5_worth_11 rfl ?_
  refine j_aload_n (pc := 12) hC dX5_worth_12 rfl ?_
  refine j_iload_n (pc := 13) hC dX5_worth_13 rfl ?_
  refine j_aload (pc := 14) hC dX5_worth_14 rfl ?_
  obtain ⟨hti, ti, tC, tT, tN, hts9, htc⟩ := ki_sh (ad := ad) (cid := cid) h0 (sL M 75 ((gL M 75) + (10 : Int64)))
  refine j_bI (pc := 16) (run_SU hC (st := []) (kt_X7_worth hC.ly h0 h1 h2 (sL M 75 ((gL M 75) + (10 : Int64))) x3) vu_X5_X7_worth qw671 hti hts9 htc ⟨(Nat.le_of_ble_eq_true rfl), (Nat.le_of_ble_eq_true rfl)⟩ rfl rfl (Nat.le_of_ble_eq_true rfl) dX5_worth_16) (fun M1 r2 => ?_)
  refine j_aload_n (pc := 19) hC dX5_worth_19 rfl ?_
  refine j_iload_n (pc := 20) hC dX5_worth_20 rfl ?_
  refine j_bI (pc := 21) (run_V hC (st := [.int r2]) (kt_X4_silenceOf hC.ly h2 M1 x3) vv_X4_silenceOf qw672 (mo_lt h2) (sh_X4 h2) rfl ⟨(Nat.le_of_ble_eq_true rfl), (Nat.le_of_ble_eq_true rfl)⟩ rfl rfl (Nat.le_of_ble_eq_true rfl) dX5_worth_21) (fun M3 r4 => ?_)
  refine j_iadd (pc := 24) hC dX5_worth_24 ?_
  exact j_iret (pc := 25) hC dX5_worth_25
/-! LastRower$Lover.worth(LLastRower$Ferry;LLastRower$Moment;I[J)I -/
set_option maxRecDepth 20000 in
set_option maxHeartbeats 4000000 in
theorem kt_X3_worth {l : Launch} {ad : Nat → Nat} {cid : Nat → ClassId} {D : va_G} (hL : lyOk ad) {n0 : Nat} (h0 : isKi n0) {n1 : Nat} (h1 : isFe n1) {n2 : Nat} (h2 : isMo n2) (M : Mem) (x3 : Int32) : Ct (qI ad cid) l ad cid D yX3_worth cX3_worth 5 (some .int) 2 48 [.ref (ad n0), .ref (ad n1), .ref (ad n2), .int x3, .ref (ad 75)] M (fX3_worth M n1 n2 x3) := by
  refine ct_of (own := RX3) (lv := [some (.ref (ad n0)), some (.ref (ad n1)), some (.ref (ad n2)), some (.int x3), some (.ref (ad 75))]) hL (by decide +kernel) rfl rfl (Nat.le_of_ble_eq_true rfl) (fun X hC => ?_)
  unfold fX3_worth
  refine j_aload (pc := 0) hC dX3_worth_0 rfl ?_
  refine j_iconst (pc := 2) hC dX3_worth_2 (v := 0) (by decide) ?_
  refine j_dup2 (pc := 3) hC dX3_worth_3 rfl rfl ?_
  refine j_lald (pc := 4) hC (n := 1) rfl rfl (by decide) (by decide) dX3_worth_4 ?_
  refine j_ldc2 (pc := 5) hC qlX3_7 rfl dX3_worth_5 ?_
  refine j_ladd (pc := 8) hC dX3_worth_8 ?_
  refine j_last (pc := 9) hC (n := 1) rfl rfl (by decide) (by decide) dX3_worth_9 ?_
  refine j_iconst (pc := 10) hC dX3_worth_10 (v := 2) (by decide) ?_
  refine j_aload_n (pc := 11) hC dX3_worth_11 rfl ?_
  refine j_aload_n (pc := 12) hC dX3_worth_12 rfl ?_
  refine j_aload_n (pc := 13) hC dX3_worth_13 rfl ?_
  refine j_iload_n (pc := 14) hC dX3_worth_14 rfl ?_
  refine j_aload (pc := 15) hC dX3_worth_15 rfl ?_
  obtain ⟨hti, ti, tC, tT, tN, hts9, htc⟩ := ki_sh (ad := ad) (cid := cid) h0 (sL M 75 ((gL M 75) + (1000 : Int64)))
  refine j_bI (pc := 17) (run_SU hC (st := [.int (2 : Int32)]) (kt_X5_worth hC.ly h0 h1 h2 (sL M 75 ((gL M 75) + (1000 : Int64))) x3) vu_X3_X5_worth qw667 hti hts9 htc ⟨(Nat.le_of_ble_eq_true rfl), (Nat.le_of_ble_eq_true rfl)⟩ rfl rfl (Nat.le_of_ble_eq_true rfl) dX3_worth_17) (fun M1 r2 => ?_)
  refine j_imul (pc := 20) hC dX3_worth_20 ?_
  exact j_iret (pc := 21) hC dX3_worth_21
/-! LastRower$Parrot.worth(LLastRower$Ferry;LLastRower$Moment;I[J)I -/
set_option maxRecDepth 20000 in
set_option maxHeartbeats 4000000 in
theorem kt_X6_worth {l : Launch} {ad : Nat → Nat} {cid : Nat → ClassId} {D : va_G} (hL : lyOk ad) {n0 : Nat} (h0 : isKi n0) {n1 : Nat} (h1 : isFe n1) {n2 : Nat} (h2 : isMo n2) (M : Mem) (x3 : Int32) : Ct (qI ad cid) l ad cid D yX6_worth cX6_worth 5 (some .int) 2 48 [.ref (ad n0), .ref (ad n1), .ref (ad n2), .int x3, .ref (ad 75)] M (fX6_worth M n1 n2 x3) := by
  refine ct_of (own := RX6) (lv := [some (.ref (ad n0)), some (.ref (ad n1)), some (.ref (ad n2)), some (.int x3), some (.ref (ad 75))]) hL (by decide +kernel) rfl rfl (Nat.le_of_ble_eq_true rfl) (fun X hC => ?_)
  unfold fX6_worth
  refine j_aload (pc := 0) hC dX6_worth_0 rfl ?_
  refine j_iconst (pc := 2) hC dX6_worth_2 (v := 0) (by decide) ?_
  refine j_dup2 (pc := 3) hC dX6_worth_3 rfl rfl ?_
  refine j_lald (pc := 4) hC (n := 1) rfl rfl (by decide) (by decide) dX6_worth_4 ?_
  refine j_ldc2 (pc := 5) hC qlX6_7 rfl dX6_worth_5 ?_
  refine j_ladd (pc := 8) hC dX6_worth_8 ?_
  refine j_last (pc := 9) hC (n := 1) rfl rfl (by decide) (by decide) dX6_worth_9 ?_
  refine j_aload_n (pc := 10) hC dX6_worth_10 rfl ?_
  refine j_aload_n (pc := 11) hC dX6_worth_11 rfl ?_
  refine j_aload_n (pc := 12) hC dX6_worth_12 rfl ?_
  refine j_iload_n (pc := 13) hC dX6_worth_13 rfl ?_
  refine j_aload (pc := 14) hC dX6_worth_14 rfl ?_
  obtain ⟨hti, ti, tC, tT, tN, hts9, htc⟩ := ki_sh (ad := ad) (cid := cid) h0 (sL M 75 ((gL M 75) + (10000 : Int64)))
  refine j_bI (pc := 16) (run_SU hC (st := []) (kt_X1_worth hC.ly h0 h1 h2 (sL M 75 ((gL M 75) + (10000 : Int64))) x3) vu_X6_X1_worth qw678 hti hts9 htc ⟨(Nat.le_of_ble_eq_true rfl), (Nat.le_of_ble_eq_true rfl)⟩ rfl rfl (Nat.le_of_ble_eq_true rfl) dX6_worth_16) (fun M1 r2 => ?_)
  refine j_iload_n (pc := 19) hC dX6_worth_19 rfl ?_
  refine j_iadd (pc := 20) hC dX6_worth_20 ?_
  exact j_iret (pc := 21) hC dX6_worth_21
theorem j_disp {X : Cx} {ad : Nat → Nat} {cid : Nat → ClassId} {cc : ByteArray} {nL : Nat} {ret : Option FieldType} {fr lo : Nat} {α : Type} {Q : α → State → Prop} {M : Mem} {pc : Nat} {lv : List (Option Value)} {index f b : Nat} {x p : Int32} {k : Mem → Int32 → Option α} (hC : Ok X ad cid cc RX11 nL ret fr lo) (hR : 3 ≤ fr ∧ 72 ≤ lo) (hx : inB x 6) (hf : isFe f) (hb : isMo b) (hw : Cond.methodLink RX11 index yX7_worth ∈ wAll) (hd : decode cc pc = .ok (.invokevirtual index, 3)) (kk : ∀ M1 r1, Jp X ad cid nL Q M1 (pc + 3) lv [.int r1] (k M1 r1)) : Jp X ad cid nL Q M pc lv [.ref (ad 75), .int p, .ref (ad b), .ref (ad f), .ref (ad (103 + x.toNatClampNeg))] (bI (fworth x M f b p) k) := by
  unfold fworth
  by_cases h0 : x = 0
  · subst h0
    rw [if_pos rfl]
    exact j_bI (run_V hC (i := 103) (st := []) (kt_X7_worth hC.ly (Or.inl rfl) hf hb M p) vv_X7_worth hw (by decide) rfl rfl ⟨by omega, by omega⟩ rfl rfl (Nat.le_of_ble_eq_true rfl) hd) kk
  rw [if_neg h0]
  by_cases h1 : x = 1
  · subst h1
    rw [if_pos rfl]
    exact j_bI (run_O hC (i := 104) (st := []) (kt_X5_worth hC.ly (by unfold isKi; decide) hf hb M p) vo_X5_worth hw (by decide) rfl rfl ⟨by omega, by omega⟩ rfl rfl (Nat.le_of_ble_eq_true rfl) hd) kk
  rw [if_neg h1]
  by_cases h2 : x = 2
  · subst h2
    rw [if_pos rfl]
    exact j_bI (run_O hC (i := 105) (st := []) (kt_X1_worth hC.ly (by unfold isKi; decide) hf hb M p) vo_X1_worth hw (by decide) rfl rfl ⟨by omega, by omega⟩ rfl rfl (Nat.le_of_ble_eq_true rfl) hd) kk
  rw [if_neg h2]
  by_cases h3 : x = 3
  · subst h3
    rw [if_pos rfl]
    exact j_bI (run_O hC (i := 106) (st := []) (kt_X3_worth hC.ly (by unfold isKi; decide) hf hb M p) vo_X3_worth hw (by decide) rfl rfl ⟨by omega, by omega⟩ rfl rfl (Nat.le_of_ble_eq_true rfl) hd) kk
  rw [if_neg h3]
  by_cases h4 : x = 4
  · subst h4
    rw [if_pos rfl]
    exact j_bI (run_O hC (i := 107) (st := []) (kt_X6_worth hC.ly (by unfold isKi; decide) hf hb M p) vo_X6_worth hw (by decide) rfl rfl ⟨by omega, by omega⟩ rfl rfl (Nat.le_of_ble_eq_true rfl) hd) kk
  rw [if_neg h4]
  by_cases h5 : x = 5
  · subst h5
    rw [if_pos rfl]
    exact j_bI (run_O hC (i := 108) (st := []) (kt_X0_worth hC.ly (by unfold isKi; decide) hf hb M p) vo_X0_worth hw (by decide) rfl rfl ⟨by omega, by omega⟩ rfl rfl (Nat.le_of_ble_eq_true rfl) hd) kk
  rw [if_neg h5]
  exact fun out ho => by cases ho

/-! LastRower.rate(II)I -/
set_option maxRecDepth 20000 in
set_option maxHeartbeats 4000000 in
theorem kt_X11_rate {l : Launch} {ad : Nat → Nat} {cid : Nat → ClassId} {D : va_G} (hL : lyOk ad)  (M : Mem) (x1 : Int32) (x2 : Int32) : Ct (qI ad cid) l ad cid D yX11_rate cX11_rate 3 (some .int) 3 72 [.ref (ad 0), .int x1, .int x2] M (fX11_rate M x1 x2) := by
  refine ct_of (own := RX11) (lv := [some (.ref (ad 0)), some (.int x1), some (.int x2)]) hL (by decide +kernel) rfl rfl (Nat.le_of_ble_eq_true rfl) (fun X hC => ?_)
  unfold fX11_rate
  refine j_iload_n (pc := 0) hC dX11_rate_0 rfl ?_
  refine j_if_lt (pc := 1) hC dX11_rate_1 (tgt := 24) (by decide) (fun hb1 => ?_) (fun hb1 => ?_)
  · refine j_ldc (pc := 24) hC qcX11_254 rfl dX11_rate_24 ?_
    exact j_iret (pc := 26) hC dX11_rate_26
  · refine j_iload_n (pc := 4) hC dX11_rate_4 rfl ?_
    refine j_aload_n (pc := 5) hC dX11_rate_5 rfl ?_
    refine gX11_63 (pc := 6) hC dX11_rate_6 ?_
    refine j_alen4 (pc := 9) hC (v := 6) rfl rfl dX11_rate_9 ?_
    refine j_icmp_ge (pc := 10) hC dX11_rate_10 (tgt := 24) (by decide) (fun hb2 => ?_) (fun hb2 => ?_)
    · refine j_ldc (pc := 24) hC qcX11_254 rfl dX11_rate_24 ?_
      exact j_iret (pc := 26) hC dX11_rate_26
    · refine j_aload_n (pc := 13) hC dX11_rate_13 rfl ?_
      refine gX11_19 (pc := 14) hC dX11_rate_14 ?_
      refine j_iload_n (pc := 17) hC dX11_rate_17 rfl ?_
      refine j_bI (pc := 18) (run_V hC (st := []) (kt_X2_has hC.ly (isFe_feB _) M x2) vv_X2_has qw423 (fe_lt (isFe_feB _)) (sh_X2 (isFe_feB _)) rfl ⟨(Nat.le_of_ble_eq_true rfl), (Nat.le_of_ble_eq_true rfl)⟩ rfl rfl (Nat.le_of_ble_eq_true rfl) dX11_rate_18) (fun M3 r4 => ?_)
      refine j_if_ne (pc := 21) hC dX11_rate_21 (tgt := 27) (by decide) (fun hb5 => ?_) (fun hb5 => ?_)
      · refine j_aload_n (pc := 27) hC dX11_rate_27 rfl ?_
        refine gX11_63 (pc := 28) hC dX11_rate_28 ?_
        refine j_iload_n (pc := 31) hC dX11_rate_31 rfl ?_
        refine j_ck (fun hi6 => ?_)
        refine j_aaldP (pc := 32) hC (n := 6) rfl rfl hi6 dX11_rate_32 ?_
        refine j_aload_n (pc := 33) hC dX11_rate_33 rfl ?_
        refine gX11_19 (pc := 34) hC dX11_rate_34 ?_
        refine j_aload_n (pc := 37) hC dX11_rate_37 rfl ?_
        refine gX11_29 (pc := 38) hC dX11_rate_38 ?_
        refine j_iload_n (pc := 41) hC dX11_rate_41 rfl ?_
        refine j_aload_n (pc := 42) hC dX11_rate_42 rfl ?_
        refine gX11_67 (pc := 43) hC dX11_rate_43 ?_
        refine j_disp (pc := 46) hC ⟨by decide, by decide⟩ hi6 (isFe_feB _) mo_19 qw649 dX11_rate_46 (fun M7 r8 => ?_)
        exact j_iret (pc := 49) hC dX11_rate_49
      · refine j_ldc (pc := 24) hC qcX11_254 rfl dX11_rate_24 ?_
        exact j_iret (pc := 26) hC dX11_rate_26
/-! LastRower$Moment.soundsLike(LLastRower$Ferry;LLastRower$Moment;)Z -/
set_option maxRecDepth 20000 in
set_option maxHeartbeats 4000000 in
theorem tsX4_soundsLike_20 {X : Cx} {ad : Nat → Nat} {cid : Nat → ClassId} (hC : Ok X ad cid cX4_soundsLike RX4 5 (some .boolean) 1 21)  {rec20 : Mem → Nat → Nat → Nat → Int32 → Int32 → Option (Mem × Int32)} (hrec20 : ∀ (M : Mem) (n0 : Nat) (n1 : Nat) (n2 : Nat) (x3 : Int32) (x4 : Int32), isMo n0 → isFe n1 → isMo n2 → Jp X ad cid 5 (qm X ad (qI ad cid)) M 20 [some (.ref (ad n0)), some (.ref (ad n1)), some (.ref (ad n2)), some (.int x3), some (.int x4)] [] (rec20 M n0 n1 n2 x3 x4)) (M : Mem) (n0 : Nat) (n1 : Nat) (n2 : Nat) (x3 : Int32) (x4 : Int32) (h0 : isMo n0) (h1 : isFe n1) (h2 : isMo n2) : Jp X ad cid 5 (qm X ad (qI ad cid)) M 20 [some (.ref (ad n0)), some (.ref (ad n1)), some (.ref (ad n2)), some (.int x3), some (.int x4)] [] (sX4_soundsLike_20  rec20 M n0 n1 n2 x3 x4) := by
  unfold sX4_soundsLike_20
  refine j_iload (pc := 20) hC dX4_soundsLike_20 rfl ?_
  refine j_aload_n (pc := 22) hC dX4_soundsLike_22 rfl ?_
  refine gX4_42 (pc := 23) hC h1 dX4_soundsLike_23 ?_
  refine j_icmp_ge (pc := 26) hC dX4_soundsLike_26 (tgt := 60) (by decide) (fun hb2 => ?_) (fun hb2 => ?_)
  · refine j_iload_n (pc := 60) hC dX4_soundsLike_60 rfl ?_
    refine j_ck (fun hz => ?_)
    exact j_zret (pc := 61) hC dX4_soundsLike_61 hz
  · refine j_iload_n (pc := 29) hC dX4_soundsLike_29 rfl ?_
    refine j_if_eq (pc := 30) hC dX4_soundsLike_30 (tgt := 60) (by decide) (fun hb3 => ?_) (fun hb3 => ?_)
    · refine j_iload_n (pc := 60) hC dX4_soundsLike_60 rfl ?_
      refine j_ck (fun hz => ?_)
      exact j_zret (pc := 61) hC dX4_soundsLike_61 hz
    · refine j_aload_n (pc := 33) hC dX4_soundsLike_33 rfl ?_
      refine j_iload (pc := 34) hC dX4_soundsLike_34 rfl ?_
      refine j_bI (pc := 36) (run_V hC (st := []) (kt_X4_silenceOf hC.ly h0 M x4) vv_X4_silenceOf qw556 (mo_lt h0) (sh_X4 h0) rfl ⟨(Nat.le_of_ble_eq_true rfl), (Nat.le_of_ble_eq_true rfl)⟩ rfl rfl (Nat.le_of_ble_eq_true rfl) dX4_soundsLike_36) (fun M4 r5 => ?_)
      refine j_aload_n (pc := 39) hC dX4_soundsLike_39 rfl ?_
      refine j_iload (pc := 40) hC dX4_soundsLike_40 rfl ?_
      refine j_bI (pc := 42) (run_V hC (st := [.int r5]) (kt_X4_silenceOf hC.ly h2 M4 x4) vv_X4_silenceOf qw556 (mo_lt h2) (sh_X4 h2) rfl ⟨(Nat.le_of_ble_eq_true rfl), (Nat.le_of_ble_eq_true rfl)⟩ rfl rfl (Nat.le_of_ble_eq_true rfl) dX4_soundsLike_42) (fun M6 r7 => ?_)
      refine j_icmp_ne (pc := 45) hC dX4_soundsLike_45 (tgt := 52) (by decide) (fun hb8 => ?_) (fun hb8 => ?_)
      · refine j_iconst (pc := 52) hC dX4_soundsLike_52 (v := 0) (by decide) ?_
        refine j_istore_n (pc := 53) hC (lv' := [some (.ref (ad n0)), some (.ref (ad n1)), some (.ref (ad n2)), some (.int (0 : Int32)), some (.int x4)]) dX4_soundsLike_53 (by decide) rfl rfl ?_
        refine j_iinc (pc := 54) hC (lv' := [some (.ref (ad n0)), some (.ref (ad n1)), some (.ref (ad n2)), some (.int (0 : Int32)), some (.int (x4 + 1))]) dX4_soundsLike_54 rfl (v := 1) (by decide) (by decide) rfl rfl ?_
        refine j_goto (pc := 57) hC dX4_soundsLike_57 (tgt := 20) (by decide) ?_
        exact hrec20 M6 n0 n1 n2 (0 : Int32) (x4 + 1) h0 h1 h2
      · refine j_iconst (pc := 48) hC dX4_soundsLike_48 (v := 1) (by decide) ?_
        refine j_goto (pc := 49) hC dX4_soundsLike_49 (tgt := 53) (by decide) ?_
        refine j_istore_n (pc := 53) hC (lv' := [some (.ref (ad n0)), some (.ref (ad n1)), some (.ref (ad n2)), some (.int (1 : Int32)), some (.int x4)]) dX4_soundsLike_53 (by decide) rfl rfl ?_
        refine j_iinc (pc := 54) hC (lv' := [some (.ref (ad n0)), some (.ref (ad n1)), some (.ref (ad n2)), some (.int (1 : Int32)), some (.int (x4 + 1))]) dX4_soundsLike_54 rfl (v := 1) (by decide) (by decide) rfl rfl ?_
        refine j_goto (pc := 57) hC dX4_soundsLike_57 (tgt := 20) (by decide) ?_
        exact hrec20 M6 n0 n1 n2 (1 : Int32) (x4 + 1) h0 h1 h2
theorem tlX4_soundsLike_20 {X : Cx} {ad : Nat → Nat} {cid : Nat → ClassId} (hC : Ok X ad cid cX4_soundsLike RX4 5 (some .boolean) 1 21)   : ∀ (n : Nat) (M : Mem) (n0 : Nat) (n1 : Nat) (n2 : Nat) (x3 : Int32) (x4 : Int32), isMo n0 → isFe n1 → isMo n2 → Jp X ad cid 5 (qm X ad (qI ad cid)) M 20 [some (.ref (ad n0)), some (.ref (ad n1)), some (.ref (ad n2)), some (.int x3), some (.int x4)] [] (lX4_soundsLike_20  n M n0 n1 n2 x3 x4) := by
  intro n
  induction n with
  | zero => intros; exact j_none
  | succ n ih => exact tsX4_soundsLike_20 hC   ih
set_option maxRecDepth 20000 in
set_option maxHeartbeats 4000000 in
theorem kt_X4_soundsLike {l : Launch} {ad : Nat → Nat} {cid : Nat → ClassId} {D : va_G} (hL : lyOk ad) {n0 : Nat} (h0 : isMo n0) {n1 : Nat} (h1 : isFe n1) {n2 : Nat} (h2 : isMo n2) (M : Mem)  : Ct (qI ad cid) l ad cid D yX4_soundsLike cX4_soundsLike 5 (some .boolean) 1 21 [.ref (ad n0), .ref (ad n1), .ref (ad n2)] M (fX4_soundsLike M n0 n1 n2) := by
  refine ct_of (own := RX4) (lv := [some (.ref (ad n0)), some (.ref (ad n1)), some (.ref (ad n2)), none, none]) hL (by decide +kernel) rfl rfl (Nat.le_of_ble_eq_true rfl) (fun X hC => ?_)
  unfold fX4_soundsLike
  refine j_aload_n (pc := 0) hC dX4_soundsLike_0 rfl ?_
  refine gX4_39 (pc := 1) hC h0 dX4_soundsLike_1 ?_
  refine j_aload_n (pc := 4) hC dX4_soundsLike_4 rfl ?_
  refine gX4_39 (pc := 5) hC h2 dX4_soundsLike_5 ?_
  refine j_icmp_ne (pc := 8) hC dX4_soundsLike_8 (tgt := 15) (by decide) (fun hb1 => ?_) (fun hb1 => ?_)
  · refine j_iconst (pc := 15) hC dX4_soundsLike_15 (v := 0) (by decide) ?_
    refine j_istore_n (pc := 16) hC (lv' := [some (.ref (ad n0)), some (.ref (ad n1)), some (.ref (ad n2)), some (.int (0 : Int32)), none]) dX4_soundsLike_16 (by decide) rfl rfl ?_
    refine j_iconst (pc := 17) hC dX4_soundsLike_17 (v := 0) (by decide) ?_
    refine j_istore (pc := 18) hC (lv' := [some (.ref (ad n0)), some (.ref (ad n1)), some (.ref (ad n2)), some (.int (0 : Int32)), some (.int (0 : Int32))]) dX4_soundsLike_18 (by decide) rfl rfl ?_
    exact tlX4_soundsLike_20 hC fuel M n0 n1 n2 (0 : Int32) (0 : Int32) h0 h1 h2
  · refine j_iconst (pc := 11) hC dX4_soundsLike_11 (v := 1) (by decide) ?_
    refine j_goto (pc := 12) hC dX4_soundsLike_12 (tgt := 16) (by decide) ?_
    refine j_istore_n (pc := 16) hC (lv' := [some (.ref (ad n0)), some (.ref (ad n1)), some (.ref (ad n2)), some (.int (1 : Int32)), none]) dX4_soundsLike_16 (by decide) rfl rfl ?_
    refine j_iconst (pc := 17) hC dX4_soundsLike_17 (v := 0) (by decide) ?_
    refine j_istore (pc := 18) hC (lv' := [some (.ref (ad n0)), some (.ref (ad n1)), some (.ref (ad n2)), some (.int (1 : Int32)), some (.int (0 : Int32))]) dX4_soundsLike_18 (by decide) rfl rfl ?_
    exact tlX4_soundsLike_20 hC fuel M n0 n1 n2 (1 : Int32) (0 : Int32) h0 h1 h2
/-! LastRower.ring()I -/
set_option maxRecDepth 20000 in
set_option maxHeartbeats 4000000 in
theorem tsX11_ring_7 {X : Cx} {ad : Nat → Nat} {cid : Nat → ClassId} (hC : Ok X ad cid cX11_ring RX11 3 (some .int) 2 45)  {rec7 : Mem → Int32 → Option (Mem × Int32)} (hrec7 : ∀ (M : Mem) (x2 : Int32), Jp X ad cid 3 (qm X ad (qI ad cid)) M 7 [some (.ref (ad 0)), some (.ref (ad 82)), some (.int x2)] [] (rec7 M x2)) (M : Mem) (x2 : Int32)  : Jp X ad cid 3 (qm X ad (qI ad cid)) M 7 [some (.ref (ad 0)), some (.ref (ad 82)), some (.int x2)] [] (sX11_ring_7  rec7 M x2) := by
  unfold sX11_ring_7
  refine j_iload_n (pc := 7) hC dX11_ring_7 rfl ?_
  refine j_sipush (pc := 8) hC dX11_ring_8 (v := 400) (by decide) ?_
  refine j_icmp_gt (pc := 11) hC dX11_ring_11 (tgt := 45) (by decide) (fun hb2 => ?_) (fun hb2 => ?_)
  · refine j_bipush (pc := 45) hC dX11_ring_45 (v := (-9)) (by decide) ?_
    exact j_iret (pc := 47) hC dX11_ring_47
  · refine j_aload_n (pc := 14) hC dX11_ring_14 rfl ?_
    refine j_aload_n (pc := 15) hC dX11_ring_15 rfl ?_
    refine gX11_19 (pc := 16) hC dX11_ring_16 ?_
    refine j_bV (pc := 19) (run_V hC (st := []) (kt_X4_passTime hC.ly mo_82 (isFe_feB _) M) vv_X4_passTime qw551 (mo_lt mo_82) (sh_X4 mo_82) rfl ⟨(Nat.le_of_ble_eq_true rfl), (Nat.le_of_ble_eq_true rfl)⟩ rfl rfl (Nat.le_of_ble_eq_true rfl) dX11_ring_19) (fun M3 => ?_)
    refine j_aload_n (pc := 22) hC dX11_ring_22 rfl ?_
    refine j_aload_n (pc := 23) hC dX11_ring_23 rfl ?_
    refine gX11_19 (pc := 24) hC dX11_ring_24 ?_
    refine j_aload_n (pc := 27) hC dX11_ring_27 rfl ?_
    refine gX11_29 (pc := 28) hC dX11_ring_28 ?_
    refine j_bI (pc := 31) (run_V hC (st := []) (kt_X4_soundsLike hC.ly mo_82 (isFe_feB _) mo_19 M3) vv_X4_soundsLike qw552 (mo_lt mo_82) (sh_X4 mo_82) rfl ⟨(Nat.le_of_ble_eq_true rfl), (Nat.le_of_ble_eq_true rfl)⟩ rfl rfl (Nat.le_of_ble_eq_true rfl) dX11_ring_31) (fun M4 r5 => ?_)
    refine j_if_eq (pc := 34) hC dX11_ring_34 (tgt := 39) (by decide) (fun hb6 => ?_) (fun hb6 => ?_)
    · refine j_iinc (pc := 39) hC (lv' := [some (.ref (ad 0)), some (.ref (ad 82)), some (.int (x2 + 1))]) dX11_ring_39 rfl (v := 1) (by decide) (by decide) rfl rfl ?_
      refine j_goto (pc := 42) hC dX11_ring_42 (tgt := 7) (by decide) ?_
      exact hrec7 M4 (x2 + 1)
    · refine j_iload_n (pc := 37) hC dX11_ring_37 rfl ?_
      exact j_iret (pc := 38) hC dX11_ring_38
theorem tlX11_ring_7 {X : Cx} {ad : Nat → Nat} {cid : Nat → ClassId} (hC : Ok X ad cid cX11_ring RX11 3 (some .int) 2 45)   : ∀ (n : Nat) (M : Mem) (x2 : Int32), Jp X ad cid 3 (qm X ad (qI ad cid)) M 7 [some (.ref (ad 0)), some (.ref (ad 82)), some (.int x2)] [] (lX11_ring_7  n M x2) := by
  intro n
  induction n with
  | zero => intros; exact j_none
  | succ n ih => exact tsX11_ring_7 hC   ih
set_option maxRecDepth 20000 in
set_option maxHeartbeats 4000000 in
theorem kt_X11_ring {l : Launch} {ad : Nat → Nat} {cid : Nat → ClassId} {D : va_G} (hL : lyOk ad)  (M : Mem)  : Ct (qI ad cid) l ad cid D yX11_ring cX11_ring 3 (some .int) 2 45 [.ref (ad 0)] M (fX11_ring M ) := by
  refine ct_of (own := RX11) (lv := [some (.ref (ad 0)), none, none]) hL (by decide +kernel) rfl rfl (Nat.le_of_ble_eq_true rfl) (fun X hC => ?_)
  unfold fX11_ring
  refine j_aload_n (pc := 0) hC dX11_ring_0 rfl ?_
  refine j_bA (pc := 1) (run_V hC (st := []) (kt_X11_copyOfNow hC.ly M) vv_X11_copyOfNow qw524 (by decide) sh_X11 rfl ⟨(Nat.le_of_ble_eq_true rfl), (Nat.le_of_ble_eq_true rfl)⟩ rfl rfl (Nat.le_of_ble_eq_true rfl) dX11_ring_1) (fun M1 => ?_)
  refine j_astore_n (pc := 4) hC (lv' := [some (.ref (ad 0)), some (.ref (ad 82)), none]) dX11_ring_4 (by decide) rfl rfl ?_
  refine j_iconst (pc := 5) hC dX11_ring_5 (v := 1) (by decide) ?_
  refine j_istore_n (pc := 6) hC (lv' := [some (.ref (ad 0)), some (.ref (ad 82)), some (.int (1 : Int32))]) dX11_ring_6 (by decide) rfl rfl ?_
  exact tlX11_ring_7 hC fuel M1 (1 : Int32)
/-! LastRower.seen(II)I -/
set_option maxRecDepth 20000 in
set_option maxHeartbeats 4000000 in
theorem kt_X11_seen {l : Launch} {ad : Nat → Nat} {cid : Nat → ClassId} {D : va_G} (hL : lyOk ad)  (M : Mem) (x1 : Int32) (x2 : Int32) : Ct (qI ad cid) l ad cid D yX11_seen cX11_seen 3 (some .int) 1 20 [.ref (ad 0), .int x1, .int x2] M (fX11_seen M x1 x2) := by
  refine ct_of (own := RX11) (lv := [some (.ref (ad 0)), some (.int x1), some (.int x2)]) hL (by decide +kernel) rfl rfl (Nat.le_of_ble_eq_true rfl) (fun X hC => ?_)
  unfold fX11_seen
  refine j_iload_n (pc := 0) hC dX11_seen_0 rfl ?_
  refine j_if_lt (pc := 1) hC dX11_seen_1 (tgt := 25) (by decide) (fun hb1 => ?_) (fun hb1 => ?_)
  · refine j_iconst (pc := 25) hC dX11_seen_25 (v := (-1)) (by decide) ?_
    exact j_iret (pc := 26) hC dX11_seen_26
  · refine j_iload_n (pc := 4) hC dX11_seen_4 rfl ?_
    refine j_bipush (pc := 5) hC dX11_seen_5 (v := 60) (by decide) ?_
    refine j_icmp_gt (pc := 7) hC dX11_seen_7 (tgt := 25) (by decide) (fun hb2 => ?_) (fun hb2 => ?_)
    · refine j_iconst (pc := 25) hC dX11_seen_25 (v := (-1)) (by decide) ?_
      exact j_iret (pc := 26) hC dX11_seen_26
    · refine j_iload_n (pc := 10) hC dX11_seen_10 rfl ?_
      refine j_if_lt (pc := 11) hC dX11_seen_11 (tgt := 25) (by decide) (fun hb3 => ?_) (fun hb3 => ?_)
      · refine j_iconst (pc := 25) hC dX11_seen_25 (v := (-1)) (by decide) ?_
        exact j_iret (pc := 26) hC dX11_seen_26
      · refine j_iload_n (pc := 14) hC dX11_seen_14 rfl ?_
        refine j_aload_n (pc := 15) hC dX11_seen_15 rfl ?_
        refine gX11_19 (pc := 16) hC dX11_seen_16 ?_
        refine j_bI (pc := 19) (run_V hC (st := [.int x2]) (kt_X2_everybody hC.ly (isFe_feB _) M) vv_X2_everybody qw601 (fe_lt (isFe_feB _)) (sh_X2 (isFe_feB _)) rfl ⟨(Nat.le_of_ble_eq_true rfl), (Nat.le_of_ble_eq_true rfl)⟩ rfl rfl (Nat.le_of_ble_eq_true rfl) dX11_seen_19) (fun M4 r5 => ?_)
        refine j_icmp_le (pc := 22) hC dX11_seen_22 (tgt := 27) (by decide) (fun hb6 => ?_) (fun hb6 => ?_)
        · refine j_aload_n (pc := 27) hC dX11_seen_27 rfl ?_
          refine gX11_109 (pc := 28) hC dX11_seen_28 ?_
          refine j_iconst (pc := 31) hC dX11_seen_31 (v := 5) (by decide) ?_
          refine j_icmp_lt (pc := 32) hC dX11_seen_32 (tgt := 38) (by decide) (fun hb7 => ?_) (fun hb7 => ?_)
          · refine j_aload_n (pc := 38) hC dX11_seen_38 rfl ?_
            refine gX11_44 (pc := 39) hC dX11_seen_39 ?_
            refine j_aload_n (pc := 42) hC dX11_seen_42 rfl ?_
            refine gX11_109 (pc := 43) hC dX11_seen_43 ?_
            refine j_iload_n (pc := 46) hC dX11_seen_46 rfl ?_
            refine j_ck (fun hi8 => ?_)
            refine j_iast (pc := 47) hC (n := 5) rfl rfl hi8 dX11_seen_47 ?_
            refine j_aload_n (pc := 48) hC dX11_seen_48 rfl ?_
            refine gX11_48 (pc := 49) hC dX11_seen_49 ?_
            refine j_aload_n (pc := 52) hC dX11_seen_52 rfl ?_
            refine gX11_109 (pc := 53) hC dX11_seen_53 ?_
            refine j_iload_n (pc := 56) hC dX11_seen_56 rfl ?_
            refine j_ck (fun hi9 => ?_)
            refine j_iast (pc := 57) hC (n := 5) rfl rfl hi9 dX11_seen_57 ?_
            refine j_aload_n (pc := 58) hC dX11_seen_58 rfl ?_
            refine j_dup (pc := 59) hC dX11_seen_59 rfl ?_
            refine gX11_109 (pc := 60) hC dX11_seen_60 ?_
            refine j_iconst (pc := 63) hC dX11_seen_63 (v := 1) (by decide) ?_
            refine j_iadd (pc := 64) hC dX11_seen_64 ?_
            refine pX11_109 (pc := 65) hC dX11_seen_65 ?_
            refine j_aload_n (pc := 68) hC dX11_seen_68 rfl ?_
            refine gX11_109 (pc := 69) hC dX11_seen_69 ?_
            exact j_iret (pc := 72) hC dX11_seen_72
          · refine j_bipush (pc := 35) hC dX11_seen_35 (v := (-3)) (by decide) ?_
            exact j_iret (pc := 37) hC dX11_seen_37
        · refine j_iconst (pc := 25) hC dX11_seen_25 (v := (-1)) (by decide) ?_
          exact j_iret (pc := 26) hC dX11_seen_26
/-! LastRower$Ferry.singersOf(I)I -/
set_option maxRecDepth 20000 in
set_option maxHeartbeats 4000000 in
theorem tsX2_singersOf_4 {X : Cx} {ad : Nat → Nat} {cid : Nat → ClassId} (hC : Ok X ad cid cX2_singersOf RX2 4 (some .int) 0 0)  {rec4 : Mem → Nat → Int32 → Int32 → Int32 → Option (Mem × Int32)} (hrec4 : ∀ (M : Mem) (n0 : Nat) (x1 : Int32) (x2 : Int32) (x3 : Int32), isFe n0 → Jp X ad cid 4 (qm X ad (qI ad cid)) M 4 [some (.ref (ad n0)), some (.int x1), some (.int x2), some (.int x3)] [] (rec4 M n0 x1 x2 x3)) (M : Mem) (n0 : Nat) (x1 : Int32) (x2 : Int32) (x3 : Int32) (h0 : isFe n0) : Jp X ad cid 4 (qm X ad (qI ad cid)) M 4 [some (.ref (ad n0)), some (.int x1), some (.int x2), some (.int x3)] [] (sX2_singersOf_4  rec4 M n0 x1 x2 x3) := by
  unfold sX2_singersOf_4
  refine j_iload_n (pc := 4) hC dX2_singersOf_4 rfl ?_
  refine j_aload_n (pc := 5) hC dX2_singersOf_5 rfl ?_
  refine gX2_37 (pc := 6) hC h0 dX2_singersOf_6 ?_
  refine j_icmp_ge (pc := 9) hC dX2_singersOf_9 (tgt := 40) (by decide) (fun hb1 => ?_) (fun hb1 => ?_)
  · refine j_iload_n (pc := 40) hC dX2_singersOf_40 rfl ?_
    exact j_iret (pc := 41) hC dX2_singersOf_41
  · refine j_iload_n (pc := 12) hC dX2_singersOf_12 rfl ?_
    refine j_bipush (pc := 13) hC dX2_singersOf_13 (v := 6) (by decide) ?_
    refine j_icmp_ge (pc := 15) hC dX2_singersOf_15 (tgt := 40) (by decide) (fun hb2 => ?_) (fun hb2 => ?_)
    · refine j_iload_n (pc := 40) hC dX2_singersOf_40 rfl ?_
      exact j_iret (pc := 41) hC dX2_singersOf_41
    · refine j_aload_n (pc := 18) hC dX2_singersOf_18 rfl ?_
      refine gX2_18 (pc := 19) hC h0 dX2_singersOf_19 ?_
      refine j_iload_n (pc := 22) hC dX2_singersOf_22 rfl ?_
      refine j_ck (fun hi3 => ?_)
      refine j_iald (pc := 23) hC (n := 6) (fe_a h0 3 (by decide) (by decide)) (fe_n h0 3 (by decide) (by decide)) hi3 dX2_singersOf_23 ?_
      refine j_iload_n (pc := 24) hC dX2_singersOf_24 rfl ?_
      refine j_icmp_ne (pc := 25) hC dX2_singersOf_25 (tgt := 34) (by decide) (fun hb4 => ?_) (fun hb4 => ?_)
      · refine j_iinc (pc := 34) hC (lv' := [some (.ref (ad n0)), some (.int x1), some (.int x2), some (.int (x3 + 1))]) dX2_singersOf_34 rfl (v := 1) (by decide) (by decide) rfl rfl ?_
        refine j_goto (pc := 37) hC dX2_singersOf_37 (tgt := 4) (by decide) ?_
        exact hrec4 M n0 x1 x2 (x3 + 1) h0
      · refine j_iload_n (pc := 28) hC dX2_singersOf_28 rfl ?_
        refine j_iconst (pc := 29) hC dX2_singersOf_29 (v := 1) (by decide) ?_
        refine j_iload_n (pc := 30) hC dX2_singersOf_30 rfl ?_
        refine j_ishl (pc := 31) hC dX2_singersOf_31 ?_
        refine j_ior (pc := 32) hC dX2_singersOf_32 ?_
        refine j_istore_n (pc := 33) hC (lv' := [some (.ref (ad n0)), some (.int x1), some (.int (x2 ||| ((1 : Int32) <<< (x3 &&& 31)))), some (.int x3)]) dX2_singersOf_33 (by decide) rfl rfl ?_
        refine j_iinc (pc := 34) hC (lv' := [some (.ref (ad n0)), some (.int x1), some (.int (x2 ||| ((1 : Int32) <<< (x3 &&& 31)))), some (.int (x3 + 1))]) dX2_singersOf_34 rfl (v := 1) (by decide) (by decide) rfl rfl ?_
        refine j_goto (pc := 37) hC dX2_singersOf_37 (tgt := 4) (by decide) ?_
        exact hrec4 M n0 x1 (x2 ||| ((1 : Int32) <<< (x3 &&& 31))) (x3 + 1) h0
theorem tlX2_singersOf_4 {X : Cx} {ad : Nat → Nat} {cid : Nat → ClassId} (hC : Ok X ad cid cX2_singersOf RX2 4 (some .int) 0 0)   : ∀ (n : Nat) (M : Mem) (n0 : Nat) (x1 : Int32) (x2 : Int32) (x3 : Int32), isFe n0 → Jp X ad cid 4 (qm X ad (qI ad cid)) M 4 [some (.ref (ad n0)), some (.int x1), some (.int x2), some (.int x3)] [] (lX2_singersOf_4  n M n0 x1 x2 x3) := by
  intro n
  induction n with
  | zero => intros; exact j_none
  | succ n ih => exact tsX2_singersOf_4 hC   ih
set_option maxRecDepth 20000 in
set_option maxHeartbeats 4000000 in
theorem kt_X2_singersOf {l : Launch} {ad : Nat → Nat} {cid : Nat → ClassId} {D : va_G} (hL : lyOk ad) {n0 : Nat} (h0 : isFe n0) (M : Mem) (x1 : Int32) : Ct (qI ad cid) l ad cid D yX2_singersOf cX2_singersOf 4 (some .int) 0 0 [.ref (ad n0), .int x1] M (fX2_singersOf M n0 x1) := by
  refine ct_of (own := RX2) (lv := [some (.ref (ad n0)), some (.int x1), none, none]) hL (by decide +kernel) rfl rfl (Nat.le_of_ble_eq_true rfl) (fun X hC => ?_)
  unfold fX2_singersOf
  refine j_iconst (pc := 0) hC dX2_singersOf_0 (v := 0) (by decide) ?_
  refine j_istore_n (pc := 1) hC (lv' := [some (.ref (ad n0)), some (.int x1), some (.int (0 : Int32)), none]) dX2_singersOf_1 (by decide) rfl rfl ?_
  refine j_iconst (pc := 2) hC dX2_singersOf_2 (v := 0) (by decide) ?_
  refine j_istore_n (pc := 3) hC (lv' := [some (.ref (ad n0)), some (.int x1), some (.int (0 : Int32)), some (.int (0 : Int32))]) dX2_singersOf_3 (by decide) rfl rfl ?_
  exact tlX2_singersOf_4 hC fuel M n0 x1 (0 : Int32) (0 : Int32) h0
/-! LastRower.sings(I)I -/
set_option maxRecDepth 20000 in
set_option maxHeartbeats 4000000 in
theorem kt_X11_sings {l : Launch} {ad : Nat → Nat} {cid : Nat → ClassId} {D : va_G} (hL : lyOk ad)  (M : Mem) (x1 : Int32) : Ct (qI ad cid) l ad cid D yX11_sings cX11_sings 3 (some .int) 3 64 [.ref (ad 0), .int x1] M (fX11_sings M x1) := by
  refine ct_of (own := RX11) (lv := [some (.ref (ad 0)), some (.int x1), none]) hL (by decide +kernel) rfl rfl (Nat.le_of_ble_eq_true rfl) (fun X hC => ?_)
  unfold fX11_sings
  refine j_iload_n (pc := 0) hC dX11_sings_0 rfl ?_
  refine j_iconst (pc := 1) hC dX11_sings_1 (v := 1) (by decide) ?_
  refine j_icmp_lt (pc := 2) hC dX11_sings_2 (tgt := 10) (by decide) (fun hb1 => ?_) (fun hb1 => ?_)
  · refine j_iconst (pc := 10) hC dX11_sings_10 (v := (-1)) (by decide) ?_
    exact j_iret (pc := 11) hC dX11_sings_11
  · refine j_iload_n (pc := 5) hC dX11_sings_5 rfl ?_
    refine j_iconst (pc := 6) hC dX11_sings_6 (v := 3) (by decide) ?_
    refine j_icmp_le (pc := 7) hC dX11_sings_7 (tgt := 12) (by decide) (fun hb2 => ?_) (fun hb2 => ?_)
    · refine j_aload_n (pc := 12) hC dX11_sings_12 rfl ?_
      refine gX11_19 (pc := 13) hC dX11_sings_13 ?_
      refine j_iload_n (pc := 16) hC dX11_sings_16 rfl ?_
      refine j_bI (pc := 17) (run_V hC (st := []) (kt_X2_singersOf hC.ly (isFe_feB _) M x1) vv_X2_singersOf qw508 (fe_lt (isFe_feB _)) (sh_X2 (isFe_feB _)) rfl ⟨(Nat.le_of_ble_eq_true rfl), (Nat.le_of_ble_eq_true rfl)⟩ rfl rfl (Nat.le_of_ble_eq_true rfl) dX11_sings_17) (fun M3 r4 => ?_)
      refine j_istore_n (pc := 20) hC (lv' := [some (.ref (ad 0)), some (.int x1), some (.int r4)]) dX11_sings_20 (by decide) rfl rfl ?_
      refine j_aload_n (pc := 21) hC dX11_sings_21 rfl ?_
      refine j_bI (pc := 22) (run_V hC (st := []) (kt_X11_isOver hC.ly M3) vv_X11_isOver qw448 (by decide) sh_X11 rfl ⟨(Nat.le_of_ble_eq_true rfl), (Nat.le_of_ble_eq_true rfl)⟩ rfl rfl (Nat.le_of_ble_eq_true rfl) dX11_sings_22) (fun M5 r6 => ?_)
      refine j_if_ne (pc := 25) hC dX11_sings_25 (tgt := 32) (by decide) (fun hb7 => ?_) (fun hb7 => ?_)
      · refine j_bipush (pc := 32) hC dX11_sings_32 (v := (-2)) (by decide) ?_
        exact j_iret (pc := 34) hC dX11_sings_34
      · refine j_iload_n (pc := 28) hC dX11_sings_28 rfl ?_
        refine j_if_ne (pc := 29) hC dX11_sings_29 (tgt := 35) (by decide) (fun hb8 => ?_) (fun hb8 => ?_)
        · refine j_aload_n (pc := 35) hC dX11_sings_35 rfl ?_
          refine j_iload_n (pc := 36) hC dX11_sings_36 rfl ?_
          refine j_bV (pc := 37) (run_V hC (st := []) (kt_X11_utter hC.ly M5 r4) vv_X11_utter qw495 (by decide) sh_X11 rfl ⟨(Nat.le_of_ble_eq_true rfl), (Nat.le_of_ble_eq_true rfl)⟩ rfl rfl (Nat.le_of_ble_eq_true rfl) dX11_sings_37) (fun M9 => ?_)
          refine j_aload_n (pc := 40) hC dX11_sings_40 rfl ?_
          refine gX11_19 (pc := 41) hC dX11_sings_41 ?_
          refine j_aload_n (pc := 44) hC dX11_sings_44 rfl ?_
          refine gX11_29 (pc := 45) hC dX11_sings_45 ?_
          refine gX11_131 (pc := 48) hC mo_19 dX11_sings_48 ?_
          refine j_bI (pc := 51) (run_V hC (st := []) (kt_X2_pullOf hC.ly (isFe_feB _) M9 (gM M9 19 2)) vv_X2_pullOf qw444 (fe_lt (isFe_feB _)) (sh_X2 (isFe_feB _)) rfl ⟨(Nat.le_of_ble_eq_true rfl), (Nat.le_of_ble_eq_true rfl)⟩ rfl rfl (Nat.le_of_ble_eq_true rfl) dX11_sings_51) (fun M10 r11 => ?_)
          exact j_iret (pc := 54) hC dX11_sings_54
        · refine j_bipush (pc := 32) hC dX11_sings_32 (v := (-2)) (by decide) ?_
          exact j_iret (pc := 34) hC dX11_sings_34
    · refine j_iconst (pc := 10) hC dX11_sings_10 (v := (-1)) (by decide) ?_
      exact j_iret (pc := 11) hC dX11_sings_11
/-! LastRower.trace()J -/
set_option maxRecDepth 20000 in
set_option maxHeartbeats 4000000 in
theorem kt_X11_trace {l : Launch} {ad : Nat → Nat} {cid : Nat → ClassId} {D : va_G} (hL : lyOk ad)  (M : Mem)  : Ct (qL ad cid) l ad cid D yX11_trace cX11_trace 1 (some .long) 0 0 [.ref (ad 0)] M (fX11_trace M ) := by
  refine ct_of (own := RX11) (lv := [some (.ref (ad 0))]) hL (by decide +kernel) rfl rfl (Nat.le_of_ble_eq_true rfl) (fun X hC => ?_)
  unfold fX11_trace
  refine j_aload_n (pc := 0) hC dX11_trace_0 rfl ?_
  refine gX11_67 (pc := 1) hC dX11_trace_1 ?_
  refine j_iconst (pc := 4) hC dX11_trace_4 (v := 0) (by decide) ?_
  refine j_lald (pc := 5) hC (n := 1) rfl rfl (by decide) (by decide) dX11_trace_5 ?_
  exact j_lret (pc := 6) hC dX11_trace_6
/-! LastRower$Reader.append(I)Z -/
set_option maxRecDepth 20000 in
set_option maxHeartbeats 4000000 in
theorem kt_X10_append {l : Launch} {ad : Nat → Nat} {cid : Nat → ClassId} {D : va_G} (hL : lyOk ad)  (M : Mem) (x1 : Int32) : Ct (qI ad cid) l ad cid D yX10_append cX10_append 2 (some .boolean) 0 0 [.ref (ad 1), .int x1] M (fX10_append M x1) := by
  refine ct_of (own := RX10) (lv := [some (.ref (ad 1)), some (.int x1)]) hL (by decide +kernel) rfl rfl (Nat.le_of_ble_eq_true rfl) (fun X hC => ?_)
  unfold fX10_append
  refine j_aload_n (pc := 0) hC dX10_append_0 rfl ?_
  refine gX10_15 (pc := 1) hC dX10_append_1 ?_
  refine j_sipush (pc := 4) hC dX10_append_4 (v := 200) (by decide) ?_
  refine j_icmp_lt (pc := 7) hC dX10_append_7 (tgt := 12) (by decide) (fun hb1 => ?_) (fun hb1 => ?_)
  · refine j_aload_n (pc := 12) hC dX10_append_12 rfl ?_
    refine gX10_9 (pc := 13) hC dX10_append_13 ?_
    refine j_aload_n (pc := 16) hC dX10_append_16 rfl ?_
    refine gX10_15 (pc := 17) hC dX10_append_17 ?_
    refine j_iload_n (pc := 20) hC dX10_append_20 rfl ?_
    refine j_ck (fun hi2 => ?_)
    refine j_iast (pc := 21) hC (n := 200) rfl rfl hi2 dX10_append_21 ?_
    refine j_aload_n (pc := 22) hC dX10_append_22 rfl ?_
    refine j_dup (pc := 23) hC dX10_append_23 rfl ?_
    refine gX10_15 (pc := 24) hC dX10_append_24 ?_
    refine j_iconst (pc := 27) hC dX10_append_27 (v := 1) (by decide) ?_
    refine j_iadd (pc := 28) hC dX10_append_28 ?_
    refine pX10_15 (pc := 29) hC dX10_append_29 ?_
    refine j_iconst (pc := 32) hC dX10_append_32 (v := 1) (by decide) ?_
    exact j_zret (pc := 33) hC dX10_append_33 (by decide)
  · refine j_iconst (pc := 10) hC dX10_append_10 (v := 0) (by decide) ?_
    exact j_zret (pc := 11) hC dX10_append_11 (by decide)
/-! LastRower.type(I)I -/
set_option maxRecDepth 20000 in
set_option maxHeartbeats 4000000 in
theorem kt_X11_type {l : Launch} {ad : Nat → Nat} {cid : Nat → ClassId} {D : va_G} (hL : lyOk ad)  (M : Mem) (x1 : Int32) : Ct (qI ad cid) l ad cid D yX11_type cX11_type 2 (some .int) 1 21 [.ref (ad 0), .int x1] M (fX11_type M x1) := by
  refine ct_of (own := RX11) (lv := [some (.ref (ad 0)), some (.int x1)]) hL (by decide +kernel) rfl rfl (Nat.le_of_ble_eq_true rfl) (fun X hC => ?_)
  unfold fX11_type
  refine j_iload_n (pc := 0) hC dX11_type_0 rfl ?_
  refine j_if_lt (pc := 1) hC dX11_type_1 (tgt := 11) (by decide) (fun hb1 => ?_) (fun hb1 => ?_)
  · refine j_iconst (pc := 11) hC dX11_type_11 (v := (-1)) (by decide) ?_
    exact j_iret (pc := 12) hC dX11_type_12
  · refine j_iload_n (pc := 4) hC dX11_type_4 rfl ?_
    refine j_sipush (pc := 5) hC dX11_type_5 (v := 255) (by decide) ?_
    refine j_icmp_le (pc := 8) hC dX11_type_8 (tgt := 13) (by decide) (fun hb2 => ?_) (fun hb2 => ?_)
    · refine j_aload_n (pc := 13) hC dX11_type_13 rfl ?_
      refine gX11_10 (pc := 14) hC dX11_type_14 ?_
      refine j_iload_n (pc := 17) hC dX11_type_17 rfl ?_
      refine j_bI (pc := 18) (run_V hC (st := []) (kt_X10_append hC.ly M x1) vv_X10_append qw322 (by decide) sh_X10 rfl ⟨(Nat.le_of_ble_eq_true rfl), (Nat.le_of_ble_eq_true rfl)⟩ rfl rfl (Nat.le_of_ble_eq_true rfl) dX11_type_18) (fun M3 r4 => ?_)
      refine j_if_eq (pc := 21) hC dX11_type_21 (tgt := 34) (by decide) (fun hb5 => ?_) (fun hb5 => ?_)
      · refine j_bipush (pc := 34) hC dX11_type_34 (v := (-3)) (by decide) ?_
        exact j_iret (pc := 36) hC dX11_type_36
      · refine j_aload_n (pc := 24) hC dX11_type_24 rfl ?_
        refine gX11_10 (pc := 25) hC dX11_type_25 ?_
        refine gX11_91 (pc := 28) hC dX11_type_28 ?_
        refine j_goto (pc := 31) hC dX11_type_31 (tgt := 36) (by decide) ?_
        exact j_iret (pc := 36) hC dX11_type_36
    · refine j_iconst (pc := 11) hC dX11_type_11 (v := (-1)) (by decide) ?_
      exact j_iret (pc := 12) hC dX11_type_12
/-! LastRower$Past.restore(LLastRower$Moment;)Z -/
set_option maxRecDepth 20000 in
set_option maxHeartbeats 4000000 in
theorem kt_X8_restore {l : Launch} {ad : Nat → Nat} {cid : Nat → ClassId} {D : va_G} (hL : lyOk ad) {n1 : Nat} (h1 : isMo n1) (M : Mem)  : Ct (qI ad cid) l ad cid D yX8_restore cX8_restore 2 (some .boolean) 1 22 [.ref (ad 22), .ref (ad n1)] M (fX8_restore M n1) := by
  refine ct_of (own := RX8) (lv := [some (.ref (ad 22)), some (.ref (ad n1))]) hL (by decide +kernel) rfl rfl (Nat.le_of_ble_eq_true rfl) (fun X hC => ?_)
  unfold fX8_restore
  refine j_aload_n (pc := 0) hC dX8_restore_0 rfl ?_
  refine gX8_16 (pc := 1) hC dX8_restore_1 ?_
  refine j_if_gt (pc := 4) hC dX8_restore_4 (tgt := 9) (by decide) (fun hb1 => ?_) (fun hb1 => ?_)
  · refine j_aload_n (pc := 9) hC dX8_restore_9 rfl ?_
    refine j_aload_n (pc := 10) hC dX8_restore_10 rfl ?_
    refine gX8_11 (pc := 11) hC dX8_restore_11 ?_
    refine j_aload_n (pc := 14) hC dX8_restore_14 rfl ?_
    refine gX8_20 (pc := 15) hC dX8_restore_15 ?_
    refine j_ck (fun hi2 => ?_)
    refine j_aald (pc := 18) hC (n := 10) (b0 := 24) rfl rfl rfl hi2 dX8_restore_18 ?_
    refine j_bV (pc := 19) (run_V hC (st := []) (kt_X4_copyFrom hC.ly h1 (mo_P hi2) M) vv_X4_copyFrom qw468 (mo_lt h1) (sh_X4 h1) rfl ⟨(Nat.le_of_ble_eq_true rfl), (Nat.le_of_ble_eq_true rfl)⟩ rfl rfl (Nat.le_of_ble_eq_true rfl) dX8_restore_19) (fun M3 => ?_)
    refine j_aload_n (pc := 22) hC dX8_restore_22 rfl ?_
    refine j_aload_n (pc := 23) hC dX8_restore_23 rfl ?_
    refine gX8_20 (pc := 24) hC dX8_restore_24 ?_
    refine j_bipush (pc := 27) hC dX8_restore_27 (v := 10) (by decide) ?_
    refine j_iadd (pc := 29) hC dX8_restore_29 ?_
    refine j_iconst (pc := 30) hC dX8_restore_30 (v := 1) (by decide) ?_
    refine j_isub (pc := 31) hC dX8_restore_31 ?_
    refine j_bipush (pc := 32) hC dX8_restore_32 (v := 10) (by decide) ?_
    refine j_irem (pc := 34) hC dX8_restore_34 (by decide) ?_
    refine pX8_20 (pc := 35) hC dX8_restore_35 ?_
    refine j_aload_n (pc := 38) hC dX8_restore_38 rfl ?_
    refine j_dup (pc := 39) hC dX8_restore_39 rfl ?_
    refine gX8_16 (pc := 40) hC dX8_restore_40 ?_
    refine j_iconst (pc := 43) hC dX8_restore_43 (v := 1) (by decide) ?_
    refine j_isub (pc := 44) hC dX8_restore_44 ?_
    refine pX8_16 (pc := 45) hC dX8_restore_45 ?_
    refine j_iconst (pc := 48) hC dX8_restore_48 (v := 1) (by decide) ?_
    exact j_zret (pc := 49) hC dX8_restore_49 (by decide)
  · refine j_iconst (pc := 7) hC dX8_restore_7 (v := 0) (by decide) ?_
    exact j_zret (pc := 8) hC dX8_restore_8 (by decide)
/-! LastRower.undo()I -/
set_option maxRecDepth 20000 in
set_option maxHeartbeats 4000000 in
theorem kt_X11_undo {l : Launch} {ad : Nat → Nat} {cid : Nat → ClassId} {D : va_G} (hL : lyOk ad)  (M : Mem)  : Ct (qI ad cid) l ad cid D yX11_undo cX11_undo 1 (some .int) 2 43 [.ref (ad 0)] M (fX11_undo M ) := by
  refine ct_of (own := RX11) (lv := [some (.ref (ad 0))]) hL (by decide +kernel) rfl rfl (Nat.le_of_ble_eq_true rfl) (fun X hC => ?_)
  unfold fX11_undo
  refine j_aload_n (pc := 0) hC dX11_undo_0 rfl ?_
  refine gX11_36 (pc := 1) hC dX11_undo_1 ?_
  refine j_aload_n (pc := 4) hC dX11_undo_4 rfl ?_
  refine gX11_29 (pc := 5) hC dX11_undo_5 ?_
  refine j_bI (pc := 8) (run_V hC (st := []) (kt_X8_restore hC.ly mo_19 M) vv_X8_restore qw516 (by decide) sh_X8 rfl ⟨(Nat.le_of_ble_eq_true rfl), (Nat.le_of_ble_eq_true rfl)⟩ rfl rfl (Nat.le_of_ble_eq_true rfl) dX11_undo_8) (fun M1 r2 => ?_)
  refine j_if_eq (pc := 11) hC dX11_undo_11 (tgt := 24) (by decide) (fun hb3 => ?_) (fun hb3 => ?_)
  · refine j_bipush (pc := 24) hC dX11_undo_24 (v := (-2)) (by decide) ?_
    exact j_iret (pc := 26) hC dX11_undo_26
  · refine j_aload_n (pc := 14) hC dX11_undo_14 rfl ?_
    refine gX11_36 (pc := 15) hC dX11_undo_15 ?_
    refine gX11_154 (pc := 18) hC dX11_undo_18 ?_
    refine j_goto (pc := 21) hC dX11_undo_21 (tgt := 26) (by decide) ?_
    exact j_iret (pc := 26) hC dX11_undo_26
/-! LastRower.who()I -/
set_option maxRecDepth 20000 in
set_option maxHeartbeats 4000000 in
theorem tsX11_who_25 {X : Cx} {ad : Nat → Nat} {cid : Nat → ClassId} (hC : Ok X ad cid cX11_who RX11 4 (some .int) 4 90)  {rec25 : Mem → Int32 → Int32 → Int32 → Option (Mem × Int32)} (hrec25 : ∀ (M : Mem) (x1 : Int32) (x2 : Int32) (x3 : Int32), Jp X ad cid 4 (qm X ad (qI ad cid)) M 25 [some (.ref (ad 0)), some (.int x1), some (.int x2), some (.int x3)] [] (rec25 M x1 x2 x3)) (M : Mem) (x1 : Int32) (x2 : Int32) (x3 : Int32)  : Jp X ad cid 4 (qm X ad (qI ad cid)) M 25 [some (.ref (ad 0)), some (.int x1), some (.int x2), some (.int x3)] [] (sX11_who_25  rec25 M x1 x2 x3) := by
  unfold sX11_who_25
  refine j_iload_n (pc := 25) hC dX11_who_25 rfl ?_
  refine j_iload_n (pc := 26) hC dX11_who_26 rfl ?_
  refine j_icmp_ge (pc := 27) hC dX11_who_27 (tgt := 54) (by decide) (fun hb7 => ?_) (fun hb7 => ?_)
  · refine j_iload_n (pc := 54) hC dX11_who_54 rfl ?_
    exact j_iret (pc := 55) hC dX11_who_55
  · refine j_aload_n (pc := 30) hC dX11_who_30 rfl ?_
    refine j_aload_n (pc := 31) hC dX11_who_31 rfl ?_
    refine j_iload_n (pc := 32) hC dX11_who_32 rfl ?_
    refine j_bA (pc := 33) (run_V hC (st := [.ref (ad 0)]) (kt_X11_copyWherePinched hC.ly M x3) vv_X11_copyWherePinched qw593 (by decide) sh_X11 rfl ⟨(Nat.le_of_ble_eq_true rfl), (Nat.le_of_ble_eq_true rfl)⟩ rfl rfl (Nat.le_of_ble_eq_true rfl) dX11_who_33) (fun M8 => ?_)
    refine j_bI (pc := 36) (run_V hC (st := []) (kt_X11_agreesWithSeen hC.ly mo_82 M8) vv_X11_agreesWithSeen qw617 (by decide) sh_X11 rfl ⟨(Nat.le_of_ble_eq_true rfl), (Nat.le_of_ble_eq_true rfl)⟩ rfl rfl (Nat.le_of_ble_eq_true rfl) dX11_who_36) (fun M9 r10 => ?_)
    refine j_if_eq (pc := 39) hC dX11_who_39 (tgt := 48) (by decide) (fun hb11 => ?_) (fun hb11 => ?_)
    · refine j_iinc (pc := 48) hC (lv' := [some (.ref (ad 0)), some (.int x1), some (.int x2), some (.int (x3 + 1))]) dX11_who_48 rfl (v := 1) (by decide) (by decide) rfl rfl ?_
      refine j_goto (pc := 51) hC dX11_who_51 (tgt := 25) (by decide) ?_
      exact hrec25 M9 x1 x2 (x3 + 1)
    · refine j_iload_n (pc := 42) hC dX11_who_42 rfl ?_
      refine j_iconst (pc := 43) hC dX11_who_43 (v := 1) (by decide) ?_
      refine j_iload_n (pc := 44) hC dX11_who_44 rfl ?_
      refine j_ishl (pc := 45) hC dX11_who_45 ?_
      refine j_ior (pc := 46) hC dX11_who_46 ?_
      refine j_istore_n (pc := 47) hC (lv' := [some (.ref (ad 0)), some (.int (x1 ||| ((1 : Int32) <<< (x3 &&& 31)))), some (.int x2), some (.int x3)]) dX11_who_47 (by decide) rfl rfl ?_
      refine j_iinc (pc := 48) hC (lv' := [some (.ref (ad 0)), some (.int (x1 ||| ((1 : Int32) <<< (x3 &&& 31)))), some (.int x2), some (.int (x3 + 1))]) dX11_who_48 rfl (v := 1) (by decide) (by decide) rfl rfl ?_
      refine j_goto (pc := 51) hC dX11_who_51 (tgt := 25) (by decide) ?_
      exact hrec25 M9 (x1 ||| ((1 : Int32) <<< (x3 &&& 31))) x2 (x3 + 1)
theorem tlX11_who_25 {X : Cx} {ad : Nat → Nat} {cid : Nat → ClassId} (hC : Ok X ad cid cX11_who RX11 4 (some .int) 4 90)   : ∀ (n : Nat) (M : Mem) (x1 : Int32) (x2 : Int32) (x3 : Int32), Jp X ad cid 4 (qm X ad (qI ad cid)) M 25 [some (.ref (ad 0)), some (.int x1), some (.int x2), some (.int x3)] [] (lX11_who_25  n M x1 x2 x3) := by
  intro n
  induction n with
  | zero => intros; exact j_none
  | succ n ih => exact tsX11_who_25 hC   ih
set_option maxRecDepth 20000 in
set_option maxHeartbeats 4000000 in
theorem tsX11_who_17 {X : Cx} {ad : Nat → Nat} {cid : Nat → ClassId} (hC : Ok X ad cid cX11_who RX11 4 (some .int) 4 90)   (M : Mem) (s0 : Int32)  : Jp X ad cid 4 (qm X ad (qI ad cid)) M 17 [some (.ref (ad 0)), none, none, none] [.int s0] (sX11_who_17  M s0) := by
  unfold sX11_who_17
  refine j_istore_n (pc := 17) hC (lv' := [some (.ref (ad 0)), some (.int s0), none, none]) dX11_who_17 (by decide) rfl rfl ?_
  refine j_aload_n (pc := 18) hC dX11_who_18 rfl ?_
  refine j_bI (pc := 19) (run_V hC (st := []) (kt_X11_countPinchable hC.ly M) vv_X11_countPinchable qw589 (by decide) sh_X11 rfl ⟨(Nat.le_of_ble_eq_true rfl), (Nat.le_of_ble_eq_true rfl)⟩ rfl rfl (Nat.le_of_ble_eq_true rfl) dX11_who_19) (fun M5 r6 => ?_)
  refine j_istore_n (pc := 22) hC (lv' := [some (.ref (ad 0)), some (.int s0), some (.int r6), none]) dX11_who_22 (by decide) rfl rfl ?_
  refine j_iconst (pc := 23) hC dX11_who_23 (v := 0) (by decide) ?_
  refine j_istore_n (pc := 24) hC (lv' := [some (.ref (ad 0)), some (.int s0), some (.int r6), some (.int (0 : Int32))]) dX11_who_24 (by decide) rfl rfl ?_
  exact tlX11_who_25 hC fuel M5 s0 r6 (0 : Int32)
set_option maxRecDepth 20000 in
set_option maxHeartbeats 4000000 in
theorem kt_X11_who {l : Launch} {ad : Nat → Nat} {cid : Nat → ClassId} {D : va_G} (hL : lyOk ad)  (M : Mem)  : Ct (qI ad cid) l ad cid D yX11_who cX11_who 4 (some .int) 4 90 [.ref (ad 0)] M (fX11_who M ) := by
  refine ct_of (own := RX11) (lv := [some (.ref (ad 0)), none, none, none]) hL (by decide +kernel) rfl rfl (Nat.le_of_ble_eq_true rfl) (fun X hC => ?_)
  unfold fX11_who
  refine j_aload_n (pc := 0) hC dX11_who_0 rfl ?_
  refine j_aload_n (pc := 1) hC dX11_who_1 rfl ?_
  refine j_bA (pc := 2) (run_V hC (st := [.ref (ad 0)]) (kt_X11_copyOfNow hC.ly M) vv_X11_copyOfNow qw524 (by decide) sh_X11 rfl ⟨(Nat.le_of_ble_eq_true rfl), (Nat.le_of_ble_eq_true rfl)⟩ rfl rfl (Nat.le_of_ble_eq_true rfl) dX11_who_2) (fun M1 => ?_)
  refine j_bI (pc := 5) (run_V hC (st := []) (kt_X11_agreesWithSeen hC.ly mo_82 M1) vv_X11_agreesWithSeen qw617 (by decide) sh_X11 rfl ⟨(Nat.le_of_ble_eq_true rfl), (Nat.le_of_ble_eq_true rfl)⟩ rfl rfl (Nat.le_of_ble_eq_true rfl) dX11_who_5) (fun M2 r3 => ?_)
  refine j_if_eq (pc := 8) hC dX11_who_8 (tgt := 16) (by decide) (fun hb4 => ?_) (fun hb4 => ?_)
  · refine j_iconst (pc := 16) hC dX11_who_16 (v := 0) (by decide) ?_
    exact tsX11_who_17 hC M2 (0 : Int32)
  · refine j_bipush (pc := 11) hC dX11_who_11 (v := 64) (by decide) ?_
    refine j_goto (pc := 13) hC dX11_who_13 (tgt := 17) (by decide) ?_
    exact tsX11_who_17 hC M2 (64 : Int32)
/-! LastRowerModel.in(III)Z -/
set_option maxRecDepth 20000 in
set_option maxHeartbeats 4000000 in
theorem kt_X12_in {l : Launch} {ad : Nat → Nat} {cid : Nat → ClassId} {D : va_G} (hL : lyOk ad)  (M : Mem) (x0 : Int32) (x1 : Int32) (x2 : Int32) : Ct (qI ad cid) l ad cid D yX12_in cX12_in 3 (some .boolean) 0 0 [.int x0, .int x1, .int x2] M (fX12_in M x0 x1 x2) := by
  refine ct_of (own := RX12) (lv := [some (.int x0), some (.int x1), some (.int x2)]) hL (by decide +kernel) rfl rfl (Nat.le_of_ble_eq_true rfl) (fun X hC => ?_)
  unfold fX12_in
  refine j_iload_n (pc := 0) hC dX12_in_0 rfl ?_
  refine j_iload_n (pc := 1) hC dX12_in_1 rfl ?_
  refine j_icmp_lt (pc := 2) hC dX12_in_2 (tgt := 14) (by decide) (fun hb1 => ?_) (fun hb1 => ?_)
  · refine j_iconst (pc := 14) hC dX12_in_14 (v := 0) (by decide) ?_
    exact j_zret (pc := 15) hC dX12_in_15 (by decide)
  · refine j_iload_n (pc := 5) hC dX12_in_5 rfl ?_
    refine j_iload_n (pc := 6) hC dX12_in_6 rfl ?_
    refine j_icmp_gt (pc := 7) hC dX12_in_7 (tgt := 14) (by decide) (fun hb2 => ?_) (fun hb2 => ?_)
    · refine j_iconst (pc := 14) hC dX12_in_14 (v := 0) (by decide) ?_
      exact j_zret (pc := 15) hC dX12_in_15 (by decide)
    · refine j_iconst (pc := 10) hC dX12_in_10 (v := 1) (by decide) ?_
      refine j_goto (pc := 11) hC dX12_in_11 (tgt := 15) (by decide) ?_
      exact j_zret (pc := 15) hC dX12_in_15 (by decide)
/-! LastRowerModel.letterAt(I)I -/
set_option maxRecDepth 20000 in
set_option maxHeartbeats 4000000 in
theorem kt_X12_letterAt {l : Launch} {ad : Nat → Nat} {cid : Nat → ClassId} {D : va_G} (hL : lyOk ad)  (M : Mem) (x1 : Int32) : Ct (qI ad cid) l ad cid D yX12_letterAt cX12_letterAt 2 (some .int) 0 0 [.ref (ad 109), .int x1] M (fX12_letterAt M x1) := by
  refine ct_of (own := RX12) (lv := [some (.ref (ad 109)), some (.int x1)]) hL (by decide +kernel) rfl rfl (Nat.le_of_ble_eq_true rfl) (fun X hC => ?_)
  unfold fX12_letterAt
  refine j_iload_n (pc := 0) hC dX12_letterAt_0 rfl ?_
  refine j_aload_n (pc := 1) hC dX12_letterAt_1 rfl ?_
  refine gX12_67 (pc := 2) hC dX12_letterAt_2 ?_
  refine j_icmp_ge (pc := 5) hC dX12_letterAt_5 (tgt := 17) (by decide) (fun hb1 => ?_) (fun hb1 => ?_)
  · refine j_iconst (pc := 17) hC dX12_letterAt_17 (v := (-1)) (by decide) ?_
    exact j_iret (pc := 18) hC dX12_letterAt_18
  · refine j_aload_n (pc := 8) hC dX12_letterAt_8 rfl ?_
    refine gX12_7 (pc := 9) hC dX12_letterAt_9 ?_
    refine j_iload_n (pc := 12) hC dX12_letterAt_12 rfl ?_
    refine j_ck (fun hi2 => ?_)
    refine j_iald (pc := 13) hC (n := 200) rfl rfl hi2 dX12_letterAt_13 ?_
    refine j_goto (pc := 14) hC dX12_letterAt_14 (tgt := 18) (by decide) ?_
    exact j_iret (pc := 18) hC dX12_letterAt_18
/-! LastRowerModel.advances()V -/
set_option maxRecDepth 20000 in
set_option maxHeartbeats 4000000 in
theorem tsX12_advances_232 {X : Cx} {ad : Nat → Nat} {cid : Nat → ClassId} (hC : Ok X ad cid cX12_advances RX12 2 none 1 22)   (M : Mem) (s1 : Int32)  : Jp X ad cid 2 (qm X ad (qV ad cid)) M 232 [none, none] [.int s1, .ref (ad 109)] (sX12_advances_232  M s1) := by
  unfold sX12_advances_232
  refine pX12_80 (pc := 232) hC dX12_advances_232 ?_
  exact j_vret (pc := 235) hC dX12_advances_235
set_option maxRecDepth 20000 in
set_option maxHeartbeats 4000000 in
theorem tsX12_advances_177 {X : Cx} {ad : Nat → Nat} {cid : Nat → ClassId} (hC : Ok X ad cid cX12_advances RX12 2 none 1 22)   (M : Mem) (s1 : Int32)  : Jp X ad cid 2 (qm X ad (qV ad cid)) M 177 [none, none] [.int s1, .ref (ad 109)] (sX12_advances_177  M s1) := by
  unfold sX12_advances_177
  refine pX12_80 (pc := 177) hC dX12_advances_177 ?_
  refine j_goto (pc := 180) hC dX12_advances_180 (tgt := 235) (by decide) ?_
  exact j_vret (pc := 235) hC dX12_advances_235
set_option maxRecDepth 20000 in
set_option maxHeartbeats 4000000 in
theorem tsX12_advances_176 {X : Cx} {ad : Nat → Nat} {cid : Nat → ClassId} (hC : Ok X ad cid cX12_advances RX12 2 none 1 22)   (M : Mem)   : Jp X ad cid 2 (qm X ad (qV ad cid)) M 176 [none, none] [.ref (ad 109)] (sX12_advances_176  M) := by
  unfold sX12_advances_176
  refine j_iconst (pc := 176) hC dX12_advances_176 (v := 2) (by decide) ?_
  exact tsX12_advances_177 hC M (2 : Int32)
set_option maxRecDepth 20000 in
set_option maxHeartbeats 4000000 in
theorem tsX12_advances_142 {X : Cx} {ad : Nat → Nat} {cid : Nat → ClassId} (hC : Ok X ad cid cX12_advances RX12 2 none 1 22)   (M : Mem) (x1 : Int32)  : Jp X ad cid 2 (qm X ad (qV ad cid)) M 142 [some (.ref (ad 109)), some (.int x1)] [] (sX12_advances_142  M x1) := by
  unfold sX12_advances_142
  refine j_aload_n (pc := 142) hC dX12_advances_142 rfl ?_
  refine j_aload_n (pc := 143) hC dX12_advances_143 rfl ?_
  refine gX12_83 (pc := 144) hC dX12_advances_144 ?_
  refine j_sipush (pc := 147) hC dX12_advances_147 (v := 200) (by decide) ?_
  refine j_icmp_gt (pc := 150) hC dX12_advances_150 (tgt := 172) (by decide) (fun hb22 => ?_) (fun hb22 => ?_)
  · refine j_iconst (pc := 172) hC dX12_advances_172 (v := 4) (by decide) ?_
    refine j_goto (pc := 173) hC dX12_advances_173 (tgt := 177) (by decide) ?_
    refine j_mask [false, false] (lv' := [none, none]) rfl ?_
    exact tsX12_advances_177 hC M (4 : Int32)
  · refine j_iload_n (pc := 153) hC dX12_advances_153 rfl ?_
    refine j_bipush (pc := 154) hC dX12_advances_154 (v := 48) (by decide) ?_
    refine j_icmp_ne (pc := 156) hC dX12_advances_156 (tgt := 176) (by decide) (fun hb23 => ?_) (fun hb23 => ?_)
    · refine j_mask [false, false] (lv' := [none, none]) rfl ?_
      exact tsX12_advances_176 hC M
    · refine j_aload_n (pc := 159) hC dX12_advances_159 rfl ?_
      refine gX12_70 (pc := 160) hC dX12_advances_160 ?_
      refine j_aload_n (pc := 163) hC dX12_advances_163 rfl ?_
      refine gX12_77 (pc := 164) hC dX12_advances_164 ?_
      refine j_isub (pc := 167) hC dX12_advances_167 ?_
      refine j_iconst (pc := 168) hC dX12_advances_168 (v := 1) (by decide) ?_
      refine j_icmp_le (pc := 169) hC dX12_advances_169 (tgt := 176) (by decide) (fun hb24 => ?_) (fun hb24 => ?_)
      · refine j_mask [false, false] (lv' := [none, none]) rfl ?_
        exact tsX12_advances_176 hC M
      · refine j_iconst (pc := 172) hC dX12_advances_172 (v := 4) (by decide) ?_
        refine j_goto (pc := 173) hC dX12_advances_173 (tgt := 177) (by decide) ?_
        refine j_mask [false, false] (lv' := [none, none]) rfl ?_
        exact tsX12_advances_177 hC M (4 : Int32)
set_option maxRecDepth 20000 in
set_option maxHeartbeats 4000000 in
theorem tsX12_advances_126 {X : Cx} {ad : Nat → Nat} {cid : Nat → ClassId} (hC : Ok X ad cid cX12_advances RX12 2 none 1 22) {rec71 : Mem → Int32 → Option (Mem)} (hrec71 : ∀ (M : Mem) (x1 : Int32), Jp X ad cid 2 (qm X ad (qV ad cid)) M 71 [some (.ref (ad 109)), some (.int x1)] [] (rec71 M x1))  (M : Mem) (x1 : Int32) (s1 : Int32)  : Jp X ad cid 2 (qm X ad (qV ad cid)) M 126 [some (.ref (ad 109)), some (.int x1)] [.int s1, .ref (ad 109)] (sX12_advances_126 rec71 M x1 s1) := by
  unfold sX12_advances_126
  refine pX12_83 (pc := 126) hC dX12_advances_126 ?_
  refine j_aload_n (pc := 129) hC dX12_advances_129 rfl ?_
  refine j_dup (pc := 130) hC dX12_advances_130 rfl ?_
  refine gX12_70 (pc := 131) hC dX12_advances_131 ?_
  refine j_iconst (pc := 134) hC dX12_advances_134 (v := 1) (by decide) ?_
  refine j_iadd (pc := 135) hC dX12_advances_135 ?_
  refine pX12_70 (pc := 136) hC dX12_advances_136 ?_
  refine j_goto (pc := 139) hC dX12_advances_139 (tgt := 71) (by decide) ?_
  exact hrec71 (sM (sM M 109 7 s1) 109 4 ((gM (sM M 109 7 s1) 109 4) + (1 : Int32))) x1
set_option maxRecDepth 20000 in
set_option maxHeartbeats 4000000 in
theorem tsX12_advances_71 {X : Cx} {ad : Nat → Nat} {cid : Nat → ClassId} (hC : Ok X ad cid cX12_advances RX12 2 none 1 22)  {rec71 : Mem → Int32 → Option (Mem)} (hrec71 : ∀ (M : Mem) (x1 : Int32), Jp X ad cid 2 (qm X ad (qV ad cid)) M 71 [some (.ref (ad 109)), some (.int x1)] [] (rec71 M x1)) (M : Mem) (x1 : Int32)  : Jp X ad cid 2 (qm X ad (qV ad cid)) M 71 [some (.ref (ad 109)), some (.int x1)] [] (sX12_advances_71  rec71 M x1) := by
  unfold sX12_advances_71
  refine j_aload_n (pc := 71) hC dX12_advances_71 rfl ?_
  refine j_aload_n (pc := 72) hC dX12_advances_72 rfl ?_
  refine gX12_70 (pc := 73) hC dX12_advances_73 ?_
  refine j_bI (pc := 76) (run_V hC (st := []) (kt_X12_letterAt hC.ly M (gM M 109 4)) vv_X12_letterAt qw804 (by decide) sh_X12 rfl ⟨(Nat.le_of_ble_eq_true rfl), (Nat.le_of_ble_eq_true rfl)⟩ rfl rfl (Nat.le_of_ble_eq_true rfl) dX12_advances_76) (fun M14 r15 => ?_)
  refine j_bipush (pc := 79) hC dX12_advances_79 (v := 48) (by decide) ?_
  refine j_bipush (pc := 81) hC dX12_advances_81 (v := 57) (by decide) ?_
  refine j_bI (pc := 83) (run_S hC (st := []) (kt_X12_in hC.ly M14 r15 (48 : Int32) (57 : Int32)) vs_X12_in qw789 ⟨(Nat.le_of_ble_eq_true rfl), (Nat.le_of_ble_eq_true rfl)⟩ rfl rfl (Nat.le_of_ble_eq_true rfl) dX12_advances_83) (fun M16 r17 => ?_)
  refine j_if_eq (pc := 86) hC dX12_advances_86 (tgt := 142) (by decide) (fun hb18 => ?_) (fun hb18 => ?_)
  · exact tsX12_advances_142 hC M16 x1
  · refine j_aload_n (pc := 89) hC dX12_advances_89 rfl ?_
    refine j_aload_n (pc := 90) hC dX12_advances_90 rfl ?_
    refine gX12_83 (pc := 91) hC dX12_advances_91 ?_
    refine j_sipush (pc := 94) hC dX12_advances_94 (v := 200) (by decide) ?_
    refine j_icmp_le (pc := 97) hC dX12_advances_97 (tgt := 107) (by decide) (fun hb19 => ?_) (fun hb19 => ?_)
    · refine j_bipush (pc := 107) hC dX12_advances_107 (v := 10) (by decide) ?_
      refine j_aload_n (pc := 109) hC dX12_advances_109 rfl ?_
      refine gX12_83 (pc := 110) hC dX12_advances_110 ?_
      refine j_imul (pc := 113) hC dX12_advances_113 ?_
      refine j_aload_n (pc := 114) hC dX12_advances_114 rfl ?_
      refine j_aload_n (pc := 115) hC dX12_advances_115 rfl ?_
      refine gX12_70 (pc := 116) hC dX12_advances_116 ?_
      refine j_bI (pc := 119) (run_V hC (st := [.int ((10 : Int32) * (gM M16 109 7)), .ref (ad 109)]) (kt_X12_letterAt hC.ly M16 (gM M16 109 4)) vv_X12_letterAt qw804 (by decide) sh_X12 rfl ⟨(Nat.le_of_ble_eq_true rfl), (Nat.le_of_ble_eq_true rfl)⟩ rfl rfl (Nat.le_of_ble_eq_true rfl) dX12_advances_119) (fun M20 r21 => ?_)
      refine j_iadd (pc := 122) hC dX12_advances_122 ?_
      refine j_bipush (pc := 123) hC dX12_advances_123 (v := 48) (by decide) ?_
      refine j_isub (pc := 125) hC dX12_advances_125 ?_
      exact tsX12_advances_126 hC hrec71 M20 x1 ((((10 : Int32) * (gM M16 109 7)) + r21) - (48 : Int32))
    · refine j_aload_n (pc := 100) hC dX12_advances_100 rfl ?_
      refine gX12_83 (pc := 101) hC dX12_advances_101 ?_
      refine j_goto (pc := 104) hC dX12_advances_104 (tgt := 126) (by decide) ?_
      exact tsX12_advances_126 hC hrec71 M16 x1 (gM M16 109 7)
theorem tlX12_advances_71 {X : Cx} {ad : Nat → Nat} {cid : Nat → ClassId} (hC : Ok X ad cid cX12_advances RX12 2 none 1 22)   : ∀ (n : Nat) (M : Mem) (x1 : Int32), Jp X ad cid 2 (qm X ad (qV ad cid)) M 71 [some (.ref (ad 109)), some (.int x1)] [] (lX12_advances_71  n M x1) := by
  intro n
  induction n with
  | zero => intros; exact j_none
  | succ n ih => exact tsX12_advances_71 hC   ih
set_option maxRecDepth 20000 in
set_option maxHeartbeats 4000000 in
theorem tsX12_advances_26 {X : Cx} {ad : Nat → Nat} {cid : Nat → ClassId} (hC : Ok X ad cid cX12_advances RX12 2 none 1 22)   (M : Mem)   : Jp X ad cid 2 (qm X ad (qV ad cid)) M 26 [some (.ref (ad 109)), none] [] (sX12_advances_26  M) := by
  unfold sX12_advances_26
  refine j_aload_n (pc := 26) hC dX12_advances_26 rfl ?_
  refine j_aload_n (pc := 27) hC dX12_advances_27 rfl ?_
  refine gX12_70 (pc := 28) hC dX12_advances_28 ?_
  refine pX12_77 (pc := 31) hC dX12_advances_31 ?_
  refine j_aload_n (pc := 34) hC dX12_advances_34 rfl ?_
  refine j_aload_n (pc := 35) hC dX12_advances_35 rfl ?_
  refine gX12_70 (pc := 36) hC dX12_advances_36 ?_
  refine j_bI (pc := 39) (run_V hC (st := []) (kt_X12_letterAt hC.ly (sM M 109 6 (gM M 109 4)) (gM (sM M 109 6 (gM M 109 4)) 109 4)) vv_X12_letterAt qw804 (by decide) sh_X12 rfl ⟨(Nat.le_of_ble_eq_true rfl), (Nat.le_of_ble_eq_true rfl)⟩ rfl rfl (Nat.le_of_ble_eq_true rfl) dX12_advances_39) (fun M4 r5 => ?_)
  refine j_istore_n (pc := 42) hC (lv' := [some (.ref (ad 109)), some (.int r5)]) dX12_advances_42 (by decide) rfl rfl ?_
  refine j_iload_n (pc := 43) hC dX12_advances_43 rfl ?_
  refine j_if_ge (pc := 44) hC dX12_advances_44 (tgt := 55) (by decide) (fun hb6 => ?_) (fun hb6 => ?_)
  · refine j_iload_n (pc := 55) hC dX12_advances_55 rfl ?_
    refine j_bipush (pc := 56) hC dX12_advances_56 (v := 48) (by decide) ?_
    refine j_bipush (pc := 58) hC dX12_advances_58 (v := 57) (by decide) ?_
    refine j_bI (pc := 60) (run_S hC (st := []) (kt_X12_in hC.ly M4 r5 (48 : Int32) (57 : Int32)) vs_X12_in qw789 ⟨(Nat.le_of_ble_eq_true rfl), (Nat.le_of_ble_eq_true rfl)⟩ rfl rfl (Nat.le_of_ble_eq_true rfl) dX12_advances_60) (fun M7 r8 => ?_)
    refine j_if_eq (pc := 63) hC dX12_advances_63 (tgt := 183) (by decide) (fun hb9 => ?_) (fun hb9 => ?_)
    · refine j_aload_n (pc := 183) hC dX12_advances_183 rfl ?_
      refine j_dup (pc := 184) hC dX12_advances_184 rfl ?_
      refine gX12_70 (pc := 185) hC dX12_advances_185 ?_
      refine j_iconst (pc := 188) hC dX12_advances_188 (v := 1) (by decide) ?_
      refine j_iadd (pc := 189) hC dX12_advances_189 ?_
      refine pX12_70 (pc := 190) hC dX12_advances_190 ?_
      refine j_aload_n (pc := 193) hC dX12_advances_193 rfl ?_
      refine j_iload_n (pc := 194) hC dX12_advances_194 rfl ?_
      refine pX12_83 (pc := 195) hC dX12_advances_195 ?_
      refine j_aload_n (pc := 198) hC dX12_advances_198 rfl ?_
      refine j_iload_n (pc := 199) hC dX12_advances_199 rfl ?_
      refine j_bipush (pc := 200) hC dX12_advances_200 (v := 59) (by decide) ?_
      refine j_icmp_ne (pc := 202) hC dX12_advances_202 (tgt := 209) (by decide) (fun hb10 => ?_) (fun hb10 => ?_)
      · refine j_iload_n (pc := 209) hC dX12_advances_209 rfl ?_
        refine j_bipush (pc := 210) hC dX12_advances_210 (v := 112) (by decide) ?_
        refine j_icmp_eq (pc := 212) hC dX12_advances_212 (tgt := 227) (by decide) (fun hb11 => ?_) (fun hb11 => ?_)
        · refine j_iconst (pc := 227) hC dX12_advances_227 (v := 1) (by decide) ?_
          refine j_goto (pc := 228) hC dX12_advances_228 (tgt := 232) (by decide) ?_
          refine j_mask [false, false] (lv' := [none, none]) rfl ?_
          exact tsX12_advances_232 hC (sM (sM M7 109 4 ((gM M7 109 4) + (1 : Int32))) 109 7 r5) (1 : Int32)
        · refine j_iload_n (pc := 215) hC dX12_advances_215 rfl ?_
          refine j_bipush (pc := 216) hC dX12_advances_216 (v := 99) (by decide) ?_
          refine j_icmp_eq (pc := 218) hC dX12_advances_218 (tgt := 227) (by decide) (fun hb12 => ?_) (fun hb12 => ?_)
          · refine j_iconst (pc := 227) hC dX12_advances_227 (v := 1) (by decide) ?_
            refine j_goto (pc := 228) hC dX12_advances_228 (tgt := 232) (by decide) ?_
            refine j_mask [false, false] (lv' := [none, none]) rfl ?_
            exact tsX12_advances_232 hC (sM (sM M7 109 4 ((gM M7 109 4) + (1 : Int32))) 109 7 r5) (1 : Int32)
          · refine j_iload_n (pc := 221) hC dX12_advances_221 rfl ?_
            refine j_bipush (pc := 222) hC dX12_advances_222 (v := 119) (by decide) ?_
            refine j_icmp_ne (pc := 224) hC dX12_advances_224 (tgt := 231) (by decide) (fun hb13 => ?_) (fun hb13 => ?_)
            · refine j_iconst (pc := 231) hC dX12_advances_231 (v := 4) (by decide) ?_
              refine j_mask [false, false] (lv' := [none, none]) rfl ?_
              exact tsX12_advances_232 hC (sM (sM M7 109 4 ((gM M7 109 4) + (1 : Int32))) 109 7 r5) (4 : Int32)
            · refine j_iconst (pc := 227) hC dX12_advances_227 (v := 1) (by decide) ?_
              refine j_goto (pc := 228) hC dX12_advances_228 (tgt := 232) (by decide) ?_
              refine j_mask [false, false] (lv' := [none, none]) rfl ?_
              exact tsX12_advances_232 hC (sM (sM M7 109 4 ((gM M7 109 4) + (1 : Int32))) 109 7 r5) (1 : Int32)
      · refine j_iconst (pc := 205) hC dX12_advances_205 (v := 3) (by decide) ?_
        refine j_goto (pc := 206) hC dX12_advances_206 (tgt := 232) (by decide) ?_
        refine j_mask [false, false] (lv' := [none, none]) rfl ?_
        exact tsX12_advances_232 hC (sM (sM M7 109 4 ((gM M7 109 4) + (1 : Int32))) 109 7 r5) (3 : Int32)
    · refine j_aload_n (pc := 66) hC dX12_advances_66 rfl ?_
      refine j_iconst (pc := 67) hC dX12_advances_67 (v := 0) (by decide) ?_
      refine pX12_83 (pc := 68) hC dX12_advances_68 ?_
      exact tlX12_advances_71 hC fuel (sM M7 109 7 (0 : Int32)) r5
  · refine j_aload_n (pc := 47) hC dX12_advances_47 rfl ?_
    refine j_iconst (pc := 48) hC dX12_advances_48 (v := 0) (by decide) ?_
    refine pX12_80 (pc := 49) hC dX12_advances_49 ?_
    refine j_goto (pc := 52) hC dX12_advances_52 (tgt := 235) (by decide) ?_
    exact j_vret (pc := 235) hC dX12_advances_235
set_option maxRecDepth 20000 in
set_option maxHeartbeats 4000000 in
theorem tsX12_advances_0 {X : Cx} {ad : Nat → Nat} {cid : Nat → ClassId} (hC : Ok X ad cid cX12_advances RX12 2 none 1 22)  {rec0 : Mem → Option (Mem)} (hrec0 : ∀ (M : Mem) , Jp X ad cid 2 (qm X ad (qV ad cid)) M 0 [some (.ref (ad 109)), none] [] (rec0 M)) (M : Mem)   : Jp X ad cid 2 (qm X ad (qV ad cid)) M 0 [some (.ref (ad 109)), none] [] (sX12_advances_0  rec0 M) := by
  unfold sX12_advances_0
  refine j_aload_n (pc := 0) hC dX12_advances_0 rfl ?_
  refine j_aload_n (pc := 1) hC dX12_advances_1 rfl ?_
  refine gX12_70 (pc := 2) hC dX12_advances_2 ?_
  refine j_bI (pc := 5) (run_V hC (st := []) (kt_X12_letterAt hC.ly M (gM M 109 4)) vv_X12_letterAt qw804 (by decide) sh_X12 rfl ⟨(Nat.le_of_ble_eq_true rfl), (Nat.le_of_ble_eq_true rfl)⟩ rfl rfl (Nat.le_of_ble_eq_true rfl) dX12_advances_5) (fun M1 r2 => ?_)
  refine j_bipush (pc := 8) hC dX12_advances_8 (v := 32) (by decide) ?_
  refine j_icmp_ne (pc := 10) hC dX12_advances_10 (tgt := 26) (by decide) (fun hb3 => ?_) (fun hb3 => ?_)
  · exact tsX12_advances_26 hC M1
  · refine j_aload_n (pc := 13) hC dX12_advances_13 rfl ?_
    refine j_dup (pc := 14) hC dX12_advances_14 rfl ?_
    refine gX12_70 (pc := 15) hC dX12_advances_15 ?_
    refine j_iconst (pc := 18) hC dX12_advances_18 (v := 1) (by decide) ?_
    refine j_iadd (pc := 19) hC dX12_advances_19 ?_
    refine pX12_70 (pc := 20) hC dX12_advances_20 ?_
    refine j_goto (pc := 23) hC dX12_advances_23 (tgt := 0) (by decide) ?_
    exact hrec0 (sM M1 109 4 ((gM M1 109 4) + (1 : Int32)))
theorem tlX12_advances_0 {X : Cx} {ad : Nat → Nat} {cid : Nat → ClassId} (hC : Ok X ad cid cX12_advances RX12 2 none 1 22)   : ∀ (n : Nat) (M : Mem) , Jp X ad cid 2 (qm X ad (qV ad cid)) M 0 [some (.ref (ad 109)), none] [] (lX12_advances_0  n M) := by
  intro n
  induction n with
  | zero => intros; exact j_none
  | succ n ih => exact tsX12_advances_0 hC   ih
set_option maxRecDepth 20000 in
set_option maxHeartbeats 4000000 in
theorem kt_X12_advances {l : Launch} {ad : Nat → Nat} {cid : Nat → ClassId} {D : va_G} (hL : lyOk ad)  (M : Mem)  : Ct (qV ad cid) l ad cid D yX12_advances cX12_advances 2 none 1 22 [.ref (ad 109)] M (fX12_advances M ) := by
  refine ct_of (own := RX12) (lv := [some (.ref (ad 109)), none]) hL (by decide +kernel) rfl rfl (Nat.le_of_ble_eq_true rfl) (fun X hC => ?_)
  unfold fX12_advances
  exact tlX12_advances_0 hC fuel M
