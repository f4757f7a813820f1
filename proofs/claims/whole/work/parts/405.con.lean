/-! LastRowerModel.endsBy(II)I -/
set_option maxRecDepth 20000 in
set_option maxHeartbeats 4000000 in
theorem tsX12_endsBy_151 {X : Cx} {ad : Nat → Nat} {cid : Nat → ClassId} (hC : Ok X ad cid cX12_endsBy RX12 6 (some .int) 4 91)   (M : Mem) (x2 : Int32) (x4 : Int32) (s0 : Int32)  : Jp X ad cid 6 (qm X ad (qI ad cid)) M 151 [none, none, some (.int x2), none, some (.int x4), none] [.int s0] (sX12_endsBy_151  M x2 x4 s0) := by
  unfold sX12_endsBy_151
  refine j_iload_n (pc := 151) hC dX12_endsBy_151 rfl ?_
  refine j_icmp_lt (pc := 152) hC dX12_endsBy_152 (tgt := 160) (by decide) (fun hb22 => ?_) (fun hb22 => ?_)
  · refine j_bipush (pc := 160) hC dX12_endsBy_160 (v := (-9)) (by decide) ?_
    exact j_iret (pc := 162) hC dX12_endsBy_162
  · refine j_iload (pc := 155) hC dX12_endsBy_155 rfl ?_
    refine j_goto (pc := 157) hC dX12_endsBy_157 (tgt := 162) (by decide) ?_
    exact j_iret (pc := 162) hC dX12_endsBy_162
set_option maxRecDepth 20000 in
set_option maxHeartbeats 4000000 in
theorem tsX12_endsBy_117 {X : Cx} {ad : Nat → Nat} {cid : Nat → ClassId} (hC : Ok X ad cid cX12_endsBy RX12 6 (some .int) 4 91)   (M : Mem) (x2 : Int32) (s0 : Int32)  : Jp X ad cid 6 (qm X ad (qI ad cid)) M 117 [some (.ref (ad 109)), none, some (.int x2), none, none, none] [.int s0] (sX12_endsBy_117  M x2 s0) := by
  unfold sX12_endsBy_117
  refine j_istore (pc := 117) hC (lv' := [some (.ref (ad 109)), none, some (.int x2), none, some (.int s0), none]) dX12_endsBy_117 (by decide) rfl rfl ?_
  refine j_aload_n (pc := 119) hC dX12_endsBy_119 rfl ?_
  refine j_aload_n (pc := 120) hC dX12_endsBy_120 rfl ?_
  refine gX12_34 (pc := 121) hC dX12_endsBy_121 ?_
  refine j_iconst (pc := 124) hC dX12_endsBy_124 (v := 2) (by decide) ?_
  refine j_ialdC (pc := 125) hC (n := 15) (e := 2) (by decide) rfl rfl (by decide) dX12_endsBy_125 ?_
  refine j_bI (pc := 126) (run_V hC (st := []) (kt_X12_pullOf hC.ly M (gM M 118 2)) vv_X12_pullOf qw852 (by decide) sh_X12 rfl ⟨(Nat.le_of_ble_eq_true rfl), (Nat.le_of_ble_eq_true rfl)⟩ rfl rfl (Nat.le_of_ble_eq_true rfl) dX12_endsBy_126) (fun M18 r19 => ?_)
  refine j_istore (pc := 129) hC (lv' := [some (.ref (ad 109)), none, some (.int x2), none, some (.int s0), some (.int r19)]) dX12_endsBy_129 (by decide) rfl rfl ?_
  refine j_iload (pc := 131) hC dX12_endsBy_131 rfl ?_
  refine j_bipush (pc := 133) hC dX12_endsBy_133 (v := (-9)) (by decide) ?_
  refine j_icmp_eq (pc := 135) hC dX12_endsBy_135 (tgt := 160) (by decide) (fun hb20 => ?_) (fun hb20 => ?_)
  · refine j_bipush (pc := 160) hC dX12_endsBy_160 (v := (-9)) (by decide) ?_
    exact j_iret (pc := 162) hC dX12_endsBy_162
  · refine j_iload (pc := 138) hC dX12_endsBy_138 rfl ?_
    refine j_bipush (pc := 140) hC dX12_endsBy_140 (v := (-9)) (by decide) ?_
    refine j_icmp_ne (pc := 142) hC dX12_endsBy_142 (tgt := 149) (by decide) (fun hb21 => ?_) (fun hb21 => ?_)
    · refine j_iload (pc := 149) hC dX12_endsBy_149 rfl ?_
      refine j_mask [false, false, true, false, true, false] (lv' := [none, none, some (.int x2), none, some (.int s0), none]) rfl ?_
      exact tsX12_endsBy_151 hC M18 x2 s0 r19
    · refine j_iconst (pc := 145) hC dX12_endsBy_145 (v := 0) (by decide) ?_
      refine j_goto (pc := 146) hC dX12_endsBy_146 (tgt := 151) (by decide) ?_
      refine j_mask [false, false, true, false, true, false] (lv' := [none, none, some (.int x2), none, some (.int s0), none]) rfl ?_
      exact tsX12_endsBy_151 hC M18 x2 s0 (0 : Int32)
set_option maxRecDepth 20000 in
set_option maxHeartbeats 4000000 in
theorem tsX12_endsBy_83 {X : Cx} {ad : Nat → Nat} {cid : Nat → ClassId} (hC : Ok X ad cid cX12_endsBy RX12 6 (some .int) 4 91)   (M : Mem) (x2 : Int32)  : Jp X ad cid 6 (qm X ad (qI ad cid)) M 83 [some (.ref (ad 109)), none, some (.int x2), none, none, none] [] (sX12_endsBy_83  M x2) := by
  unfold sX12_endsBy_83
  refine j_aload_n (pc := 83) hC dX12_endsBy_83 rfl ?_
  refine gX12_34 (pc := 84) hC dX12_endsBy_84 ?_
  refine j_iconst (pc := 87) hC dX12_endsBy_87 (v := 0) (by decide) ?_
  refine j_ialdC (pc := 88) hC (n := 15) (e := 0) (by decide) rfl rfl (by decide) dX12_endsBy_88 ?_
  refine j_aload_n (pc := 89) hC dX12_endsBy_89 rfl ?_
  refine gX12_31 (pc := 90) hC dX12_endsBy_90 ?_
  refine j_iconst (pc := 93) hC dX12_endsBy_93 (v := 0) (by decide) ?_
  refine j_ialdC (pc := 94) hC (n := 15) (e := 0) (by decide) rfl rfl (by decide) dX12_endsBy_94 ?_
  refine j_isub (pc := 95) hC dX12_endsBy_95 ?_
  refine j_istore_n (pc := 96) hC (lv' := [some (.ref (ad 109)), none, some (.int x2), some (.int ((gM M 118 0) - (gM M 117 0))), none, none]) dX12_endsBy_96 (by decide) rfl rfl ?_
  refine j_aload_n (pc := 97) hC dX12_endsBy_97 rfl ?_
  refine j_aload_n (pc := 98) hC dX12_endsBy_98 rfl ?_
  refine gX12_34 (pc := 99) hC dX12_endsBy_99 ?_
  refine j_bI (pc := 102) (run_V hC (st := []) (kt_X12_isOver hC.ly r_118 M) vv_X12_isOver qw856 (by decide) sh_X12 rfl ⟨(Nat.le_of_ble_eq_true rfl), (Nat.le_of_ble_eq_true rfl)⟩ rfl rfl (Nat.le_of_ble_eq_true rfl) dX12_endsBy_102) (fun M13 r14 => ?_)
  refine j_if_eq (pc := 105) hC dX12_endsBy_105 (tgt := 112) (by decide) (fun hb15 => ?_) (fun hb15 => ?_)
  · refine j_aload_n (pc := 112) hC dX12_endsBy_112 rfl ?_
    refine j_iload_n (pc := 113) hC dX12_endsBy_113 rfl ?_
    refine j_bI (pc := 114) (run_V hC (st := []) (kt_X12_endsBehind hC.ly M13 ((gM M 118 0) - (gM M 117 0))) vv_X12_endsBehind qw912 (by decide) sh_X12 rfl ⟨(Nat.le_of_ble_eq_true rfl), (Nat.le_of_ble_eq_true rfl)⟩ rfl rfl (Nat.le_of_ble_eq_true rfl) dX12_endsBy_114) (fun M16 r17 => ?_)
    refine j_mask [true, false, true, false, false, false] (lv' := [some (.ref (ad 109)), none, some (.int x2), none, none, none]) rfl ?_
    exact tsX12_endsBy_117 hC M16 x2 r17
  · refine j_iload_n (pc := 108) hC dX12_endsBy_108 rfl ?_
    refine j_goto (pc := 109) hC dX12_endsBy_109 (tgt := 117) (by decide) ?_
    refine j_mask [true, false, true, false, false, false] (lv' := [some (.ref (ad 109)), none, some (.int x2), none, none, none]) rfl ?_
    exact tsX12_endsBy_117 hC M13 x2 ((gM M 118 0) - (gM M 117 0))
set_option maxRecDepth 20000 in
set_option maxHeartbeats 4000000 in
theorem tsX12_endsBy_69 {X : Cx} {ad : Nat → Nat} {cid : Nat → ClassId} (hC : Ok X ad cid cX12_endsBy RX12 6 (some .int) 4 91) {rec6 : Mem → Int32 → Int32 → Int32 → Option (Mem × Int32)} (hrec6 : ∀ (M : Mem) (x1 : Int32) (x2 : Int32) (x3 : Int32), Jp X ad cid 6 (qm X ad (qI ad cid)) M 6 [some (.ref (ad 109)), some (.int x1), some (.int x2), some (.int x3), none, none] [] (rec6 M x1 x2 x3))  (M : Mem) (x1 : Int32) (x2 : Int32) (x3 : Int32)  : Jp X ad cid 6 (qm X ad (qI ad cid)) M 69 [some (.ref (ad 109)), some (.int x1), some (.int x2), some (.int x3), none, none] [] (sX12_endsBy_69 rec6 M x1 x2 x3) := by
  unfold sX12_endsBy_69
  refine j_aload_n (pc := 69) hC dX12_endsBy_69 rfl ?_
  refine j_aload_n (pc := 70) hC dX12_endsBy_70 rfl ?_
  refine gX12_34 (pc := 71) hC dX12_endsBy_71 ?_
  refine j_bV (pc := 74) (run_V hC (st := []) (kt_X12_goes hC.ly r_118 M) vv_X12_goes qw872 (by decide) sh_X12 rfl ⟨(Nat.le_of_ble_eq_true rfl), (Nat.le_of_ble_eq_true rfl)⟩ rfl rfl (Nat.le_of_ble_eq_true rfl) dX12_endsBy_74) (fun M12 => ?_)
  refine j_iinc (pc := 77) hC (lv' := [some (.ref (ad 109)), some (.int x1), some (.int x2), some (.int (x3 + 1)), none, none]) dX12_endsBy_77 rfl (v := 1) (by decide) (by decide) rfl rfl ?_
  refine j_goto (pc := 80) hC dX12_endsBy_80 (tgt := 6) (by decide) ?_
  exact hrec6 M12 x1 x2 (x3 + 1)
set_option maxRecDepth 20000 in
set_option maxHeartbeats 4000000 in
theorem tsX12_endsBy_46 {X : Cx} {ad : Nat → Nat} {cid : Nat → ClassId} (hC : Ok X ad cid cX12_endsBy RX12 6 (some .int) 4 91) {rec6 : Mem → Int32 → Int32 → Int32 → Option (Mem × Int32)} (hrec6 : ∀ (M : Mem) (x1 : Int32) (x2 : Int32) (x3 : Int32), Jp X ad cid 6 (qm X ad (qI ad cid)) M 6 [some (.ref (ad 109)), some (.int x1), some (.int x2), some (.int x3), none, none] [] (rec6 M x1 x2 x3))  (M : Mem) (x1 : Int32) (x2 : Int32) (x3 : Int32) (x4 : Int32)  : Jp X ad cid 6 (qm X ad (qI ad cid)) M 46 [some (.ref (ad 109)), some (.int x1), some (.int x2), some (.int x3), some (.int x4), none] [] (sX12_endsBy_46 rec6 M x1 x2 x3 x4) := by
  unfold sX12_endsBy_46
  refine j_iload (pc := 46) hC dX12_endsBy_46 rfl ?_
  refine j_if_ne (pc := 48) hC dX12_endsBy_48 (tgt := 69) (by decide) (fun hb9 => ?_) (fun hb9 => ?_)
  · refine j_mask [true, true, true, true, false, false] (lv' := [some (.ref (ad 109)), some (.int x1), some (.int x2), some (.int x3), none, none]) rfl ?_
    exact tsX12_endsBy_69 hC hrec6 M x1 x2 x3
  · refine j_aload_n (pc := 51) hC dX12_endsBy_51 rfl ?_
    refine j_aload_n (pc := 52) hC dX12_endsBy_52 rfl ?_
    refine gX12_34 (pc := 53) hC dX12_endsBy_53 ?_
    refine j_iconst (pc := 56) hC dX12_endsBy_56 (v := 1) (by decide) ?_
    refine j_aload_n (pc := 57) hC dX12_endsBy_57 rfl ?_
    refine gX12_53 (pc := 58) hC dX12_endsBy_58 ?_
    refine j_iload_n (pc := 61) hC dX12_endsBy_61 rfl ?_
    refine j_ck (fun hi10 => ?_)
    refine j_iald (pc := 62) hC (n := 3) rfl rfl hi10 dX12_endsBy_62 ?_
    refine j_iconst (pc := 63) hC dX12_endsBy_63 (v := 1) (by decide) ?_
    refine j_isub (pc := 64) hC dX12_endsBy_64 ?_
    refine j_ishl (pc := 65) hC dX12_endsBy_65 ?_
    refine j_bV (pc := 66) (run_V hC (st := []) (kt_X12_speak hC.ly r_118 M ((1 : Int32) <<< (((gM M 124 x3.toNatClampNeg) - (1 : Int32)) &&& 31))) vv_X12_speak qw880 (by decide) sh_X12 rfl ⟨(Nat.le_of_ble_eq_true rfl), (Nat.le_of_ble_eq_true rfl)⟩ rfl rfl (Nat.le_of_ble_eq_true rfl) dX12_endsBy_66) (fun M11 => ?_)
    refine j_mask [true, true, true, true, false, false] (lv' := [some (.ref (ad 109)), some (.int x1), some (.int x2), some (.int x3), none, none]) rfl ?_
    exact tsX12_endsBy_69 hC hrec6 M11 x1 x2 x3
set_option maxRecDepth 20000 in
set_option maxHeartbeats 4000000 in
theorem tsX12_endsBy_25 {X : Cx} {ad : Nat → Nat} {cid : Nat → ClassId} (hC : Ok X ad cid cX12_endsBy RX12 6 (some .int) 4 91) {rec6 : Mem → Int32 → Int32 → Int32 → Option (Mem × Int32)} (hrec6 : ∀ (M : Mem) (x1 : Int32) (x2 : Int32) (x3 : Int32), Jp X ad cid 6 (qm X ad (qI ad cid)) M 6 [some (.ref (ad 109)), some (.int x1), some (.int x2), some (.int x3), none, none] [] (rec6 M x1 x2 x3))  (M : Mem) (x1 : Int32) (x2 : Int32) (x3 : Int32) (s0 : Int32)  : Jp X ad cid 6 (qm X ad (qI ad cid)) M 25 [some (.ref (ad 109)), some (.int x1), some (.int x2), some (.int x3), none, none] [.int s0] (sX12_endsBy_25 rec6 M x1 x2 x3 s0) := by
  unfold sX12_endsBy_25
  refine j_istore (pc := 25) hC (lv' := [some (.ref (ad 109)), some (.int x1), some (.int x2), some (.int x3), some (.int s0), none]) dX12_endsBy_25 (by decide) rfl rfl ?_
  refine j_aload_n (pc := 27) hC dX12_endsBy_27 rfl ?_
  refine j_aload_n (pc := 28) hC dX12_endsBy_28 rfl ?_
  refine gX12_34 (pc := 29) hC dX12_endsBy_29 ?_
  refine j_bI (pc := 32) (run_V hC (st := []) (kt_X12_isOver hC.ly r_118 M) vv_X12_isOver qw856 (by decide) sh_X12 rfl ⟨(Nat.le_of_ble_eq_true rfl), (Nat.le_of_ble_eq_true rfl)⟩ rfl rfl (Nat.le_of_ble_eq_true rfl) dX12_endsBy_32) (fun M5 r6 => ?_)
  refine j_if_eq (pc := 35) hC dX12_endsBy_35 (tgt := 46) (by decide) (fun hb7 => ?_) (fun hb7 => ?_)
  · exact tsX12_endsBy_46 hC hrec6 M5 x1 x2 x3 s0
  · refine j_iload (pc := 38) hC dX12_endsBy_38 rfl ?_
    refine j_if_ne (pc := 40) hC dX12_endsBy_40 (tgt := 46) (by decide) (fun hb8 => ?_) (fun hb8 => ?_)
    · exact tsX12_endsBy_46 hC hrec6 M5 x1 x2 x3 s0
    · refine j_bipush (pc := 43) hC dX12_endsBy_43 (v := (-9)) (by decide) ?_
      exact j_iret (pc := 45) hC dX12_endsBy_45
set_option maxRecDepth 20000 in
set_option maxHeartbeats 4000000 in
theorem tsX12_endsBy_6 {X : Cx} {ad : Nat → Nat} {cid : Nat → ClassId} (hC : Ok X ad cid cX12_endsBy RX12 6 (some .int) 4 91)  {rec6 : Mem → Int32 → Int32 → Int32 → Option (Mem × Int32)} (hrec6 : ∀ (M : Mem) (x1 : Int32) (x2 : Int32) (x3 : Int32), Jp X ad cid 6 (qm X ad (qI ad cid)) M 6 [some (.ref (ad 109)), some (.int x1), some (.int x2), some (.int x3), none, none] [] (rec6 M x1 x2 x3)) (M : Mem) (x1 : Int32) (x2 : Int32) (x3 : Int32)  : Jp X ad cid 6 (qm X ad (qI ad cid)) M 6 [some (.ref (ad 109)), some (.int x1), some (.int x2), some (.int x3), none, none] [] (sX12_endsBy_6  rec6 M x1 x2 x3) := by
  unfold sX12_endsBy_6
  refine j_iload_n (pc := 6) hC dX12_endsBy_6 rfl ?_
  refine j_iload_n (pc := 7) hC dX12_endsBy_7 rfl ?_
  refine j_icmp_ge (pc := 8) hC dX12_endsBy_8 (tgt := 83) (by decide) (fun hb2 => ?_) (fun hb2 => ?_)
  · refine j_mask [true, false, true, false, false, false] (lv' := [some (.ref (ad 109)), none, some (.int x2), none, none, none]) rfl ?_
    exact tsX12_endsBy_83 hC M x2
  · refine j_aload_n (pc := 11) hC dX12_endsBy_11 rfl ?_
    refine gX12_53 (pc := 12) hC dX12_endsBy_12 ?_
    refine j_iload_n (pc := 15) hC dX12_endsBy_15 rfl ?_
    refine j_ck (fun hi3 => ?_)
    refine j_iald (pc := 16) hC (n := 3) rfl rfl hi3 dX12_endsBy_16 ?_
    refine j_if_ne (pc := 17) hC dX12_endsBy_17 (tgt := 24) (by decide) (fun hb4 => ?_) (fun hb4 => ?_)
    · refine j_iconst (pc := 24) hC dX12_endsBy_24 (v := 0) (by decide) ?_
      exact tsX12_endsBy_25 hC hrec6 M x1 x2 x3 (0 : Int32)
    · refine j_iconst (pc := 20) hC dX12_endsBy_20 (v := 1) (by decide) ?_
      refine j_goto (pc := 21) hC dX12_endsBy_21 (tgt := 25) (by decide) ?_
      exact tsX12_endsBy_25 hC hrec6 M x1 x2 x3 (1 : Int32)
theorem tlX12_endsBy_6 {X : Cx} {ad : Nat → Nat} {cid : Nat → ClassId} (hC : Ok X ad cid cX12_endsBy RX12 6 (some .int) 4 91)   : ∀ (n : Nat) (M : Mem) (x1 : Int32) (x2 : Int32) (x3 : Int32), Jp X ad cid 6 (qm X ad (qI ad cid)) M 6 [some (.ref (ad 109)), some (.int x1), some (.int x2), some (.int x3), none, none] [] (lX12_endsBy_6  n M x1 x2 x3) := by
  intro n
  induction n with
  | zero => intros; exact j_none
  | succ n ih => exact tsX12_endsBy_6 hC   ih
set_option maxRecDepth 20000 in
set_option maxHeartbeats 4000000 in
theorem kt_X12_endsBy {l : Launch} {ad : Nat → Nat} {cid : Nat → ClassId} {D : va_G} (hL : lyOk ad)  (M : Mem) (x1 : Int32) (x2 : Int32) : Ct (qI ad cid) l ad cid D yX12_endsBy cX12_endsBy 6 (some .int) 4 91 [.ref (ad 109), .int x1, .int x2] M (fX12_endsBy M x1 x2) := by
  refine ct_of (own := RX12) (lv := [some (.ref (ad 109)), some (.int x1), some (.int x2), none, none, none]) hL (by decide +kernel) rfl rfl (Nat.le_of_ble_eq_true rfl) (fun X hC => ?_)
  unfold fX12_endsBy
  refine j_aload_n (pc := 0) hC dX12_endsBy_0 rfl ?_
  refine j_bV (pc := 1) (run_V hC (st := []) (kt_X12_asNow hC.ly M) vv_X12_asNow qw904 (by decide) sh_X12 rfl ⟨(Nat.le_of_ble_eq_true rfl), (Nat.le_of_ble_eq_true rfl)⟩ rfl rfl (Nat.le_of_ble_eq_true rfl) dX12_endsBy_1) (fun M1 => ?_)
  refine j_iconst (pc := 4) hC dX12_endsBy_4 (v := 0) (by decide) ?_
  refine j_istore_n (pc := 5) hC (lv' := [some (.ref (ad 109)), some (.int x1), some (.int x2), some (.int (0 : Int32)), none, none]) dX12_endsBy_5 (by decide) rfl rfl ?_
  exact tlX12_endsBy_6 hC fuel M1 x1 x2 (0 : Int32)
/-! LastRowerModel.isWell()Z -/
set_option maxRecDepth 20000 in
set_option maxHeartbeats 4000000 in
theorem kt_X12_isWell {l : Launch} {ad : Nat → Nat} {cid : Nat → ClassId} {D : va_G} (hL : lyOk ad)  (M : Mem)  : Ct (qI ad cid) l ad cid D yX12_isWell cX12_isWell 1 (some .boolean) 0 0 [.ref (ad 109)] M (fX12_isWell M ) := by
  refine ct_of (own := RX12) (lv := [some (.ref (ad 109))]) hL (by decide +kernel) rfl rfl (Nat.le_of_ble_eq_true rfl) (fun X hC => ?_)
  unfold fX12_isWell
  refine j_aload_n (pc := 0) hC dX12_isWell_0 rfl ?_
  refine gX12_86 (pc := 1) hC dX12_isWell_1 ?_
  refine j_if_ge (pc := 4) hC dX12_isWell_4 (tgt := 11) (by decide) (fun hb1 => ?_) (fun hb1 => ?_)
  · refine j_iconst (pc := 11) hC dX12_isWell_11 (v := 0) (by decide) ?_
    exact j_zret (pc := 12) hC dX12_isWell_12 (by decide)
  · refine j_iconst (pc := 7) hC dX12_isWell_7 (v := 1) (by decide) ?_
    refine j_goto (pc := 8) hC dX12_isWell_8 (tgt := 12) (by decide) ?_
    exact j_zret (pc := 12) hC dX12_isWell_12 (by decide)
/-! LastRowerModel.isNewYard()Z -/
set_option maxRecDepth 20000 in
set_option maxHeartbeats 4000000 in
theorem tsX12_isNewYard_37 {X : Cx} {ad : Nat → Nat} {cid : Nat → ClassId} (hC : Ok X ad cid cX12_isNewYard RX12 3 (some .boolean) 0 0) {rec4 : Mem → Int32 → Int32 → Option (Mem × Int32)} (hrec4 : ∀ (M : Mem) (x1 : Int32) (x2 : Int32), Jp X ad cid 3 (qm X ad (qI ad cid)) M 4 [some (.ref (ad 109)), some (.int x1), some (.int x2)] [] (rec4 M x1 x2))  (M : Mem) (x2 : Int32)  : Jp X ad cid 3 (qm X ad (qI ad cid)) M 37 [some (.ref (ad 109)), none, some (.int x2)] [] (sX12_isNewYard_37 rec4 M x2) := by
  unfold sX12_isNewYard_37
  refine j_iconst (pc := 37) hC dX12_isNewYard_37 (v := 0) (by decide) ?_
  refine j_istore_n (pc := 38) hC (lv' := [some (.ref (ad 109)), some (.int (0 : Int32)), some (.int x2)]) dX12_isNewYard_38 (by decide) rfl rfl ?_
  refine j_iinc (pc := 39) hC (lv' := [some (.ref (ad 109)), some (.int (0 : Int32)), some (.int (x2 + 1))]) dX12_isNewYard_39 rfl (v := 1) (by decide) (by decide) rfl rfl ?_
  refine j_goto (pc := 42) hC dX12_isNewYard_42 (tgt := 4) (by decide) ?_
  exact hrec4 M (0 : Int32) (x2 + 1)
set_option maxRecDepth 20000 in
set_option maxHeartbeats 4000000 in
theorem tsX12_isNewYard_4 {X : Cx} {ad : Nat → Nat} {cid : Nat → ClassId} (hC : Ok X ad cid cX12_isNewYard RX12 3 (some .boolean) 0 0)  {rec4 : Mem → Int32 → Int32 → Option (Mem × Int32)} (hrec4 : ∀ (M : Mem) (x1 : Int32) (x2 : Int32), Jp X ad cid 3 (qm X ad (qI ad cid)) M 4 [some (.ref (ad 109)), some (.int x1), some (.int x2)] [] (rec4 M x1 x2)) (M : Mem) (x1 : Int32) (x2 : Int32)  : Jp X ad cid 3 (qm X ad (qI ad cid)) M 4 [some (.ref (ad 109)), some (.int x1), some (.int x2)] [] (sX12_isNewYard_4  rec4 M x1 x2) := by
  unfold sX12_isNewYard_4
  refine j_iload_n (pc := 4) hC dX12_isNewYard_4 rfl ?_
  refine j_aload_n (pc := 5) hC dX12_isNewYard_5 rfl ?_
  refine gX12_13 (pc := 6) hC dX12_isNewYard_6 ?_
  refine j_iconst (pc := 9) hC dX12_isNewYard_9 (v := 5) (by decide) ?_
  refine j_ialdC (pc := 10) hC (n := 6) (e := 5) (by decide) rfl rfl (by decide) dX12_isNewYard_10 ?_
  refine j_icmp_ge (pc := 11) hC dX12_isNewYard_11 (tgt := 45) (by decide) (fun hb1 => ?_) (fun hb1 => ?_)
  · refine j_iload_n (pc := 45) hC dX12_isNewYard_45 rfl ?_
    refine j_ck (fun hz => ?_)
    exact j_zret (pc := 46) hC dX12_isNewYard_46 hz
  · refine j_iload_n (pc := 14) hC dX12_isNewYard_14 rfl ?_
    refine j_if_eq (pc := 15) hC dX12_isNewYard_15 (tgt := 37) (by decide) (fun hb2 => ?_) (fun hb2 => ?_)
    · refine j_mask [true, false, true] (lv' := [some (.ref (ad 109)), none, some (.int x2)]) rfl ?_
      exact tsX12_isNewYard_37 hC hrec4 M x2
    · refine j_aload_n (pc := 18) hC dX12_isNewYard_18 rfl ?_
      refine gX12_25 (pc := 19) hC dX12_isNewYard_19 ?_
      refine j_iconst (pc := 22) hC dX12_isNewYard_22 (v := 4) (by decide) ?_
      refine j_iload_n (pc := 23) hC dX12_isNewYard_23 rfl ?_
      refine j_iadd (pc := 24) hC dX12_isNewYard_24 ?_
      refine j_ck (fun hi3 => ?_)
      refine j_iald (pc := 25) hC (n := 8) rfl rfl hi3 dX12_isNewYard_25 ?_
      refine j_aload_n (pc := 26) hC dX12_isNewYard_26 rfl ?_
      refine gX12_83 (pc := 27) hC dX12_isNewYard_27 ?_
      refine j_icmp_eq (pc := 30) hC dX12_isNewYard_30 (tgt := 37) (by decide) (fun hb4 => ?_) (fun hb4 => ?_)
      · refine j_mask [true, false, true] (lv' := [some (.ref (ad 109)), none, some (.int x2)]) rfl ?_
        exact tsX12_isNewYard_37 hC hrec4 M x2
      · refine j_iconst (pc := 33) hC dX12_isNewYard_33 (v := 1) (by decide) ?_
        refine j_goto (pc := 34) hC dX12_isNewYard_34 (tgt := 38) (by decide) ?_
        refine j_istore_n (pc := 38) hC (lv' := [some (.ref (ad 109)), some (.int (1 : Int32)), some (.int x2)]) dX12_isNewYard_38 (by decide) rfl rfl ?_
        refine j_iinc (pc := 39) hC (lv' := [some (.ref (ad 109)), some (.int (1 : Int32)), some (.int (x2 + 1))]) dX12_isNewYard_39 rfl (v := 1) (by decide) (by decide) rfl rfl ?_
        refine j_goto (pc := 42) hC dX12_isNewYard_42 (tgt := 4) (by decide) ?_
        exact hrec4 M (1 : Int32) (x2 + 1)
theorem tlX12_isNewYard_4 {X : Cx} {ad : Nat → Nat} {cid : Nat → ClassId} (hC : Ok X ad cid cX12_isNewYard RX12 3 (some .boolean) 0 0)   : ∀ (n : Nat) (M : Mem) (x1 : Int32) (x2 : Int32), Jp X ad cid 3 (qm X ad (qI ad cid)) M 4 [some (.ref (ad 109)), some (.int x1), some (.int x2)] [] (lX12_isNewYard_4  n M x1 x2) := by
  intro n
  induction n with
  | zero => intros; exact j_none
  | succ n ih => exact tsX12_isNewYard_4 hC   ih
set_option maxRecDepth 20000 in
set_option maxHeartbeats 4000000 in
theorem kt_X12_isNewYard {l : Launch} {ad : Nat → Nat} {cid : Nat → ClassId} {D : va_G} (hL : lyOk ad)  (M : Mem)  : Ct (qI ad cid) l ad cid D yX12_isNewYard cX12_isNewYard 3 (some .boolean) 0 0 [.ref (ad 109)] M (fX12_isNewYard M ) := by
  refine ct_of (own := RX12) (lv := [some (.ref (ad 109)), none, none]) hL (by decide +kernel) rfl rfl (Nat.le_of_ble_eq_true rfl) (fun X hC => ?_)
  unfold fX12_isNewYard
  refine j_iconst (pc := 0) hC dX12_isNewYard_0 (v := 1) (by decide) ?_
  refine j_istore_n (pc := 1) hC (lv' := [some (.ref (ad 109)), some (.int (1 : Int32)), none]) dX12_isNewYard_1 (by decide) rfl rfl ?_
  refine j_iconst (pc := 2) hC dX12_isNewYard_2 (v := 0) (by decide) ?_
  refine j_istore_n (pc := 3) hC (lv' := [some (.ref (ad 109)), some (.int (1 : Int32)), some (.int (0 : Int32))]) dX12_isNewYard_3 (by decide) rfl rfl ?_
  exact tlX12_isNewYard_4 hC fuel M (1 : Int32) (0 : Int32)
/-! LastRowerModel.takes(Z)I -/
set_option maxRecDepth 20000 in
set_option maxHeartbeats 4000000 in
theorem kt_X12_takes {l : Launch} {ad : Nat → Nat} {cid : Nat → ClassId} {D : va_G} (hL : lyOk ad)  (M : Mem) (x1 : Int32) : Ct (qI ad cid) l ad cid D yX12_takes cX12_takes 3 (some .int) 2 43 [.ref (ad 109), .int x1] M (fX12_takes M x1) := by
  refine ct_of (own := RX12) (lv := [some (.ref (ad 109)), some (.int x1), none]) hL (by decide +kernel) rfl rfl (Nat.le_of_ble_eq_true rfl) (fun X hC => ?_)
  unfold fX12_takes
  refine j_aload_n (pc := 0) hC dX12_takes_0 rfl ?_
  refine j_bI (pc := 1) (run_V hC (st := []) (kt_X12_isWell hC.ly M) vv_X12_isWell qw808 (by decide) sh_X12 rfl ⟨(Nat.le_of_ble_eq_true rfl), (Nat.le_of_ble_eq_true rfl)⟩ rfl rfl (Nat.le_of_ble_eq_true rfl) dX12_takes_1) (fun M1 r2 => ?_)
  refine j_if_ne (pc := 4) hC dX12_takes_4 (tgt := 9) (by decide) (fun hb3 => ?_) (fun hb3 => ?_)
  · refine j_iload_n (pc := 9) hC dX12_takes_9 rfl ?_
    refine j_if_ne (pc := 10) hC dX12_takes_10 (tgt := 23) (by decide) (fun hb4 => ?_) (fun hb4 => ?_)
    · refine j_aload_n (pc := 23) hC dX12_takes_23 rfl ?_
      refine gX12_83 (pc := 24) hC dX12_takes_24 ?_
      refine j_istore_n (pc := 27) hC (lv' := [some (.ref (ad 109)), some (.int x1), some (.int (gM M1 109 7))]) dX12_takes_27 (by decide) rfl rfl ?_
      refine j_aload_n (pc := 28) hC dX12_takes_28 rfl ?_
      refine j_bV (pc := 29) (run_V hC (st := []) (kt_X12_advances hC.ly M1) vv_X12_advances qw800 (by decide) sh_X12 rfl ⟨(Nat.le_of_ble_eq_true rfl), (Nat.le_of_ble_eq_true rfl)⟩ rfl rfl (Nat.le_of_ble_eq_true rfl) dX12_takes_29) (fun M5 => ?_)
      refine j_iload_n (pc := 32) hC dX12_takes_32 rfl ?_
      exact j_iret (pc := 33) hC dX12_takes_33
    · refine j_aload_n (pc := 13) hC dX12_takes_13 rfl ?_
      refine j_aload_n (pc := 14) hC dX12_takes_14 rfl ?_
      refine gX12_77 (pc := 15) hC dX12_takes_15 ?_
      refine pX12_86 (pc := 18) hC dX12_takes_18 ?_
      refine j_iconst (pc := 21) hC dX12_takes_21 (v := 0) (by decide) ?_
      exact j_iret (pc := 22) hC dX12_takes_22
  · refine j_iconst (pc := 7) hC dX12_takes_7 (v := 0) (by decide) ?_
    exact j_iret (pc := 8) hC dX12_takes_8
/-! LastRowerModel.number(II)I -/
set_option maxRecDepth 20000 in
set_option maxHeartbeats 4000000 in
theorem tsX12_number_26 {X : Cx} {ad : Nat → Nat} {cid : Nat → ClassId} (hC : Ok X ad cid cX12_number RX12 3 (some .int) 3 65)   (M : Mem) (s1 : Int32)  : Jp X ad cid 3 (qm X ad (qI ad cid)) M 26 [none, none, none] [.int s1, .ref (ad 109)] (sX12_number_26  M s1) := by
  unfold sX12_number_26
  refine j_bI (pc := 26) (run_V hC (st := []) (kt_X12_takes hC.ly M s1) vv_X12_takes qw812 (by decide) sh_X12 rfl ⟨(Nat.le_of_ble_eq_true rfl), (Nat.le_of_ble_eq_true rfl)⟩ rfl rfl (Nat.le_of_ble_eq_true rfl) dX12_number_26) (fun M5 r6 => ?_)
  exact j_iret (pc := 29) hC dX12_number_29
set_option maxRecDepth 20000 in
set_option maxHeartbeats 4000000 in
theorem tsX12_number_25 {X : Cx} {ad : Nat → Nat} {cid : Nat → ClassId} (hC : Ok X ad cid cX12_number RX12 3 (some .int) 3 65)   (M : Mem)   : Jp X ad cid 3 (qm X ad (qI ad cid)) M 25 [none, none, none] [.ref (ad 109)] (sX12_number_25  M) := by
  unfold sX12_number_25
  refine j_iconst (pc := 25) hC dX12_number_25 (v := 0) (by decide) ?_
  exact tsX12_number_26 hC M (0 : Int32)
set_option maxRecDepth 20000 in
set_option maxHeartbeats 4000000 in
theorem kt_X12_number {l : Launch} {ad : Nat → Nat} {cid : Nat → ClassId} {D : va_G} (hL : lyOk ad)  (M : Mem) (x1 : Int32) (x2 : Int32) : Ct (qI ad cid) l ad cid D yX12_number cX12_number 3 (some .int) 3 65 [.ref (ad 109), .int x1, .int x2] M (fX12_number M x1 x2) := by
  refine ct_of (own := RX12) (lv := [some (.ref (ad 109)), some (.int x1), some (.int x2)]) hL (by decide +kernel) rfl rfl (Nat.le_of_ble_eq_true rfl) (fun X hC => ?_)
  unfold fX12_number
  refine j_aload_n (pc := 0) hC dX12_number_0 rfl ?_
  refine j_aload_n (pc := 1) hC dX12_number_1 rfl ?_
  refine gX12_80 (pc := 2) hC dX12_number_2 ?_
  refine j_iconst (pc := 5) hC dX12_number_5 (v := 2) (by decide) ?_
  refine j_icmp_ne (pc := 6) hC dX12_number_6 (tgt := 25) (by decide) (fun hb1 => ?_) (fun hb1 => ?_)
  · refine j_mask [false, false, false] (lv' := [none, none, none]) rfl ?_
    exact tsX12_number_25 hC M
  · refine j_aload_n (pc := 9) hC dX12_number_9 rfl ?_
    refine gX12_83 (pc := 10) hC dX12_number_10 ?_
    refine j_iload_n (pc := 13) hC dX12_number_13 rfl ?_
    refine j_iload_n (pc := 14) hC dX12_number_14 rfl ?_
    refine j_bI (pc := 15) (run_S hC (st := [.ref (ad 109)]) (kt_X12_in hC.ly M (gM M 109 7) x1 x2) vs_X12_in qw789 ⟨(Nat.le_of_ble_eq_true rfl), (Nat.le_of_ble_eq_true rfl)⟩ rfl rfl (Nat.le_of_ble_eq_true rfl) dX12_number_15) (fun M2 r3 => ?_)
    refine j_if_eq (pc := 18) hC dX12_number_18 (tgt := 25) (by decide) (fun hb4 => ?_) (fun hb4 => ?_)
    · refine j_mask [false, false, false] (lv' := [none, none, none]) rfl ?_
      exact tsX12_number_25 hC M2
    · refine j_iconst (pc := 21) hC dX12_number_21 (v := 1) (by decide) ?_
      refine j_goto (pc := 22) hC dX12_number_22 (tgt := 26) (by decide) ?_
      refine j_mask [false, false, false] (lv' := [none, none, none]) rfl ?_
      exact tsX12_number_26 hC M2 (1 : Int32)
/-! LastRowerModel.readsItem(I)V -/
set_option maxRecDepth 20000 in
set_option maxHeartbeats 4000000 in
theorem tsX12_readsItem_120 {X : Cx} {ad : Nat → Nat} {cid : Nat → ClassId} (hC : Ok X ad cid cX12_readsItem RX12 3 none 4 87)   (M : Mem) (s1 : Int32) (s3 : Int32)  : Jp X ad cid 3 (qm X ad (qV ad cid)) M 120 [some (.ref (ad 109)), none, none] [.int s3, .ref (ad 109), .int s1, .ref (ad 115)] (sX12_readsItem_120  M s1 s3) := by
  unfold sX12_readsItem_120
  refine j_bI (pc := 120) (run_V hC (st := [.int s1, .ref (ad 115)]) (kt_X12_takes hC.ly M s3) vv_X12_takes qw812 (by decide) sh_X12 rfl ⟨(Nat.le_of_ble_eq_true rfl), (Nat.le_of_ble_eq_true rfl)⟩ rfl rfl (Nat.le_of_ble_eq_true rfl) dX12_readsItem_120) (fun M19 r20 => ?_)
  refine j_ck (fun hi21 => ?_)
  refine j_iast (pc := 123) hC (n := 8) rfl rfl hi21 dX12_readsItem_123 ?_
  refine j_aload_n (pc := 124) hC dX12_readsItem_124 rfl ?_
  refine gX12_28 (pc := 125) hC dX12_readsItem_125 ?_
  refine j_iconst (pc := 128) hC dX12_readsItem_128 (v := 4) (by decide) ?_
  refine j_aload_n (pc := 129) hC dX12_readsItem_129 rfl ?_
  refine gX12_13 (pc := 130) hC dX12_readsItem_130 ?_
  refine j_iconst (pc := 133) hC dX12_readsItem_133 (v := 5) (by decide) ?_
  refine j_ialdC (pc := 134) hC (n := 6) (e := 5) (by decide) rfl rfl (by decide) dX12_readsItem_134 ?_
  refine j_iadd (pc := 135) hC dX12_readsItem_135 ?_
  refine j_aload_n (pc := 136) hC dX12_readsItem_136 rfl ?_
  refine j_iconst (pc := 137) hC dX12_readsItem_137 (v := 0) (by decide) ?_
  refine j_bipush (pc := 138) hC dX12_readsItem_138 (v := 8) (by decide) ?_
  refine j_bI (pc := 140) (run_V hC (st := [.int ((4 : Int32) + (gM (sM M19 115 s1.toNatClampNeg r20) 111 5)), .ref (ad 116)]) (kt_X12_number hC.ly (sM M19 115 s1.toNatClampNeg r20) (0 : Int32) (8 : Int32)) vv_X12_number qw820 (by decide) sh_X12 rfl ⟨(Nat.le_of_ble_eq_true rfl), (Nat.le_of_ble_eq_true rfl)⟩ rfl rfl (Nat.le_of_ble_eq_true rfl) dX12_readsItem_140) (fun M22 r23 => ?_)
  refine j_ck (fun hi24 => ?_)
  refine j_iast (pc := 143) hC (n := 8) rfl rfl hi24 dX12_readsItem_143 ?_
  refine j_aload_n (pc := 144) hC dX12_readsItem_144 rfl ?_
  refine gX12_13 (pc := 145) hC dX12_readsItem_145 ?_
  refine j_iconst (pc := 148) hC dX12_readsItem_148 (v := 5) (by decide) ?_
  refine j_dup2 (pc := 149) hC dX12_readsItem_149 rfl rfl ?_
  refine j_ialdC (pc := 150) hC (n := 6) (e := 5) (by decide) rfl rfl (by decide) dX12_readsItem_150 ?_
  refine j_iconst (pc := 151) hC dX12_readsItem_151 (v := 1) (by decide) ?_
  refine j_iadd (pc := 152) hC dX12_readsItem_152 ?_
  refine j_iastC (pc := 153) hC (n := 6) (e := 5) (by decide) rfl rfl (by decide) dX12_readsItem_153 ?_
  refine j_goto (pc := 154) hC dX12_readsItem_154 (tgt := 177) (by decide) ?_
  exact j_vret (pc := 177) hC dX12_readsItem_177
set_option maxRecDepth 20000 in
set_option maxHeartbeats 4000000 in
theorem tsX12_readsItem_119 {X : Cx} {ad : Nat → Nat} {cid : Nat → ClassId} (hC : Ok X ad cid cX12_readsItem RX12 3 none 4 87)   (M : Mem) (s1 : Int32)  : Jp X ad cid 3 (qm X ad (qV ad cid)) M 119 [some (.ref (ad 109)), none, none] [.ref (ad 109), .int s1, .ref (ad 115)] (sX12_readsItem_119  M s1) := by
  unfold sX12_readsItem_119
  refine j_iconst (pc := 119) hC dX12_readsItem_119 (v := 0) (by decide) ?_
  exact tsX12_readsItem_120 hC M s1 (0 : Int32)
set_option maxRecDepth 20000 in
set_option maxHeartbeats 4000000 in
theorem kt_X12_readsItem {l : Launch} {ad : Nat → Nat} {cid : Nat → ClassId} {D : va_G} (hL : lyOk ad)  (M : Mem) (x1 : Int32) : Ct (qV ad cid) l ad cid D yX12_readsItem cX12_readsItem 3 none 4 87 [.ref (ad 109), .int x1] M (fX12_readsItem M x1) := by
  refine ct_of (own := RX12) (lv := [some (.ref (ad 109)), some (.int x1), none]) hL (by decide +kernel) rfl rfl (Nat.le_of_ble_eq_true rfl) (fun X hC => ?_)
  unfold fX12_readsItem
  refine j_iload_n (pc := 0) hC dX12_readsItem_0 rfl ?_
  refine j_bipush (pc := 1) hC dX12_readsItem_1 (v := 112) (by decide) ?_
  refine j_icmp_ne (pc := 3) hC dX12_readsItem_3 (tgt := 67) (by decide) (fun hb1 => ?_) (fun hb1 => ?_)
  · refine j_iload_n (pc := 67) hC dX12_readsItem_67 rfl ?_
    refine j_bipush (pc := 68) hC dX12_readsItem_68 (v := 99) (by decide) ?_
    refine j_icmp_ne (pc := 70) hC dX12_readsItem_70 (tgt := 157) (by decide) (fun hb2 => ?_) (fun hb2 => ?_)
    · refine j_aload_n (pc := 157) hC dX12_readsItem_157 rfl ?_
      refine gX12_13 (pc := 158) hC dX12_readsItem_158 ?_
      refine j_iconst (pc := 161) hC dX12_readsItem_161 (v := 4) (by decide) ?_
      refine j_aload_n (pc := 162) hC dX12_readsItem_162 rfl ?_
      refine j_bipush (pc := 163) hC dX12_readsItem_163 (v := 10) (by decide) ?_
      refine j_sipush (pc := 165) hC dX12_readsItem_165 (v := 200) (by decide) ?_
      refine j_bI (pc := 168) (run_V hC (st := [.int (4 : Int32), .ref (ad 111)]) (kt_X12_number hC.ly M (10 : Int32) (200 : Int32)) vv_X12_number qw820 (by decide) sh_X12 rfl ⟨(Nat.le_of_ble_eq_true rfl), (Nat.le_of_ble_eq_true rfl)⟩ rfl rfl (Nat.le_of_ble_eq_true rfl) dX12_readsItem_168) (fun M3 r4 => ?_)
      refine j_iastC (pc := 171) hC (n := 6) (e := 4) (by decide) rfl rfl (by decide) dX12_readsItem_171 ?_
      refine j_aload_n (pc := 172) hC dX12_readsItem_172 rfl ?_
      refine j_iconst (pc := 173) hC dX12_readsItem_173 (v := 1) (by decide) ?_
      refine pX12_107 (pc := 174) hC (by decide) dX12_readsItem_174 ?_
      exact j_vret (pc := 177) hC dX12_readsItem_177
    · refine j_aload_n (pc := 73) hC dX12_readsItem_73 rfl ?_
      refine gX12_25 (pc := 74) hC dX12_readsItem_74 ?_
      refine j_iconst (pc := 77) hC dX12_readsItem_77 (v := 4) (by decide) ?_
      refine j_aload_n (pc := 78) hC dX12_readsItem_78 rfl ?_
      refine gX12_13 (pc := 79) hC dX12_readsItem_79 ?_
      refine j_iconst (pc := 82) hC dX12_readsItem_82 (v := 5) (by decide) ?_
      refine j_ialdC (pc := 83) hC (n := 6) (e := 5) (by decide) rfl rfl (by decide) dX12_readsItem_83 ?_
      refine j_iadd (pc := 84) hC dX12_readsItem_84 ?_
      refine j_aload_n (pc := 85) hC dX12_readsItem_85 rfl ?_
      refine j_aload_n (pc := 86) hC dX12_readsItem_86 rfl ?_
      refine gX12_80 (pc := 87) hC dX12_readsItem_87 ?_
      refine j_iconst (pc := 90) hC dX12_readsItem_90 (v := 2) (by decide) ?_
      refine j_icmp_ne (pc := 91) hC dX12_readsItem_91 (tgt := 119) (by decide) (fun hb5 => ?_) (fun hb5 => ?_)
      · refine j_mask [true, false, false] (lv' := [some (.ref (ad 109)), none, none]) rfl ?_
        exact tsX12_readsItem_119 hC M ((4 : Int32) + (gM M 111 5))
      · refine j_aload_n (pc := 94) hC dX12_readsItem_94 rfl ?_
        refine gX12_83 (pc := 95) hC dX12_readsItem_95 ?_
        refine j_iconst (pc := 98) hC dX12_readsItem_98 (v := 0) (by decide) ?_
        refine j_sipush (pc := 99) hC dX12_readsItem_99 (v := 199) (by decide) ?_
        refine j_bI (pc := 102) (run_S hC (st := [.ref (ad 109), .int ((4 : Int32) + (gM M 111 5)), .ref (ad 115)]) (kt_X12_in hC.ly M (gM M 109 7) (0 : Int32) (199 : Int32)) vs_X12_in qw789 ⟨(Nat.le_of_ble_eq_true rfl), (Nat.le_of_ble_eq_true rfl)⟩ rfl rfl (Nat.le_of_ble_eq_true rfl) dX12_readsItem_102) (fun M6 r7 => ?_)
        refine j_if_eq (pc := 105) hC dX12_readsItem_105 (tgt := 119) (by decide) (fun hb8 => ?_) (fun hb8 => ?_)
        · refine j_mask [true, false, false] (lv' := [some (.ref (ad 109)), none, none]) rfl ?_
          exact tsX12_readsItem_119 hC M6 ((4 : Int32) + (gM M 111 5))
        · refine j_aload_n (pc := 108) hC dX12_readsItem_108 rfl ?_
          refine j_bI (pc := 109) (run_V hC (st := [.ref (ad 109), .int ((4 : Int32) + (gM M 111 5)), .ref (ad 115)]) (kt_X12_isNewYard hC.ly M6) vv_X12_isNewYard qw824 (by decide) sh_X12 rfl ⟨(Nat.le_of_ble_eq_true rfl), (Nat.le_of_ble_eq_true rfl)⟩ rfl rfl (Nat.le_of_ble_eq_true rfl) dX12_readsItem_109) (fun M9 r10 => ?_)
          refine j_if_eq (pc := 112) hC dX12_readsItem_112 (tgt := 119) (by decide) (fun hb11 => ?_) (fun hb11 => ?_)
          · refine j_mask [true, false, false] (lv' := [some (.ref (ad 109)), none, none]) rfl ?_
            exact tsX12_readsItem_119 hC M9 ((4 : Int32) + (gM M 111 5))
          · refine j_iconst (pc := 115) hC dX12_readsItem_115 (v := 1) (by decide) ?_
            refine j_goto (pc := 116) hC dX12_readsItem_116 (tgt := 120) (by decide) ?_
            refine j_mask [true, false, false] (lv' := [some (.ref (ad 109)), none, none]) rfl ?_
            exact tsX12_readsItem_120 hC M9 ((4 : Int32) + (gM M 111 5)) (1 : Int32)
  · refine j_bipush (pc := 6) hC dX12_readsItem_6 (v := 6) (by decide) ?_
    refine j_aload_n (pc := 8) hC dX12_readsItem_8 rfl ?_
    refine gX12_13 (pc := 9) hC dX12_readsItem_9 ?_
    refine j_iconst (pc := 12) hC dX12_readsItem_12 (v := 3) (by decide) ?_
    refine j_ialdC (pc := 13) hC (n := 6) (e := 3) (by decide) rfl rfl (by decide) dX12_readsItem_13 ?_
    refine j_iadd (pc := 14) hC dX12_readsItem_14 ?_
    refine j_istore_n (pc := 15) hC (lv' := [some (.ref (ad 109)), some (.int x1), some (.int ((6 : Int32) + (gM M 111 3)))]) dX12_readsItem_15 (by decide) rfl rfl ?_
    refine j_aload_n (pc := 16) hC dX12_readsItem_16 rfl ?_
    refine gX12_16 (pc := 17) hC dX12_readsItem_17 ?_
    refine j_iload_n (pc := 20) hC dX12_readsItem_20 rfl ?_
    refine j_aload_n (pc := 21) hC dX12_readsItem_21 rfl ?_
    refine j_iconst (pc := 22) hC dX12_readsItem_22 (v := 1) (by decide) ?_
    refine j_bipush (pc := 23) hC dX12_readsItem_23 (v := 9) (by decide) ?_
    refine j_bI (pc := 25) (run_V hC (st := [.int ((6 : Int32) + (gM M 111 3)), .ref (ad 112)]) (kt_X12_number hC.ly M (1 : Int32) (9 : Int32)) vv_X12_number qw820 (by decide) sh_X12 rfl ⟨(Nat.le_of_ble_eq_true rfl), (Nat.le_of_ble_eq_true rfl)⟩ rfl rfl (Nat.le_of_ble_eq_true rfl) dX12_readsItem_25) (fun M12 r13 => ?_)
    refine j_ck (fun hi14 => ?_)
    refine j_iast (pc := 28) hC (n := 12) rfl rfl hi14 dX12_readsItem_28 ?_
    refine j_aload_n (pc := 29) hC dX12_readsItem_29 rfl ?_
    refine gX12_19 (pc := 30) hC dX12_readsItem_30 ?_
    refine j_iload_n (pc := 33) hC dX12_readsItem_33 rfl ?_
    refine j_aload_n (pc := 34) hC dX12_readsItem_34 rfl ?_
    refine j_iconst (pc := 35) hC dX12_readsItem_35 (v := 1) (by decide) ?_
    refine j_bipush (pc := 36) hC dX12_readsItem_36 (v := 30) (by decide) ?_
    refine j_bI (pc := 38) (run_V hC (st := [.int ((6 : Int32) + (gM M 111 3)), .ref (ad 113)]) (kt_X12_number hC.ly (sM M12 112 ((6 : Int32) + (gM M 111 3)).toNatClampNeg r13) (1 : Int32) (30 : Int32)) vv_X12_number qw820 (by decide) sh_X12 rfl ⟨(Nat.le_of_ble_eq_true rfl), (Nat.le_of_ble_eq_true rfl)⟩ rfl rfl (Nat.le_of_ble_eq_true rfl) dX12_readsItem_38) (fun M15 r16 => ?_)
    refine j_iast (pc := 41) hC (n := 12) rfl rfl hi14 dX12_readsItem_41 ?_
    refine j_aload_n (pc := 42) hC dX12_readsItem_42 rfl ?_
    refine gX12_22 (pc := 43) hC dX12_readsItem_43 ?_
    refine j_iload_n (pc := 46) hC dX12_readsItem_46 rfl ?_
    refine j_aload_n (pc := 47) hC dX12_readsItem_47 rfl ?_
    refine j_iconst (pc := 48) hC dX12_readsItem_48 (v := 0) (by decide) ?_
    refine j_iconst (pc := 49) hC dX12_readsItem_49 (v := 3) (by decide) ?_
    refine j_bI (pc := 50) (run_V hC (st := [.int ((6 : Int32) + (gM M 111 3)), .ref (ad 114)]) (kt_X12_number hC.ly (sM M15 113 ((6 : Int32) + (gM M 111 3)).toNatClampNeg r16) (0 : Int32) (3 : Int32)) vv_X12_number qw820 (by decide) sh_X12 rfl ⟨(Nat.le_of_ble_eq_true rfl), (Nat.le_of_ble_eq_true rfl)⟩ rfl rfl (Nat.le_of_ble_eq_true rfl) dX12_readsItem_50) (fun M17 r18 => ?_)
    refine j_iast (pc := 53) hC (n := 12) rfl rfl hi14 dX12_readsItem_53 ?_
    refine j_aload_n (pc := 54) hC dX12_readsItem_54 rfl ?_
    refine gX12_13 (pc := 55) hC dX12_readsItem_55 ?_
    refine j_iconst (pc := 58) hC dX12_readsItem_58 (v := 3) (by decide) ?_
    refine j_dup2 (pc := 59) hC dX12_readsItem_59 rfl rfl ?_
    refine j_ialdC (pc := 60) hC (n := 6) (e := 3) (by decide) rfl rfl (by decide) dX12_readsItem_60 ?_
    refine j_iconst (pc := 61) hC dX12_readsItem_61 (v := 1) (by decide) ?_
    refine j_iadd (pc := 62) hC dX12_readsItem_62 ?_
    refine j_iastC (pc := 63) hC (n := 6) (e := 3) (by decide) rfl rfl (by decide) dX12_readsItem_63 ?_
    refine j_goto (pc := 64) hC dX12_readsItem_64 (tgt := 177) (by decide) ?_
    exact j_vret (pc := 177) hC dX12_readsItem_177
/-! LastRowerModel.settles()V -/
set_option maxRecDepth 20000 in
set_option maxHeartbeats 4000000 in
theorem tsX12_settles_148 {X : Cx} {ad : Nat → Nat} {cid : Nat → ClassId} (hC : Ok X ad cid cX12_settles RX12 2 none 0 0)   (M : Mem)   : Jp X ad cid 2 (qm X ad (qV ad cid)) M 148 [some (.ref (ad 109)), none] [] (sX12_settles_148  M) := by
  unfold sX12_settles_148
  refine j_aload_n (pc := 148) hC dX12_settles_148 rfl ?_
  refine j_iconst (pc := 149) hC dX12_settles_149 (v := 0) (by decide) ?_
  refine pX12_67 (pc := 150) hC dX12_settles_150 ?_
  refine j_aload_n (pc := 153) hC dX12_settles_153 rfl ?_
  refine j_iconst (pc := 154) hC dX12_settles_154 (v := 0) (by decide) ?_
  refine pX12_118 (pc := 155) hC dX12_settles_155 ?_
  refine j_aload_n (pc := 158) hC dX12_settles_158 rfl ?_
  refine j_iconst (pc := 159) hC dX12_settles_159 (v := 0) (by decide) ?_
  refine pX12_121 (pc := 160) hC dX12_settles_160 ?_
  refine j_aload_n (pc := 163) hC dX12_settles_163 rfl ?_
  refine gX12_40 (pc := 164) hC dX12_settles_164 ?_
  refine j_iconst (pc := 167) hC dX12_settles_167 (v := 0) (by decide) ?_
  refine j_iconst (pc := 168) hC dX12_settles_168 (v := 0) (by decide) ?_
  refine j_zastC (pc := 169) hC (n := 2) (e := 0) (by decide) rfl rfl (by decide) rfl dX12_settles_169 ?_
  refine j_aload_n (pc := 170) hC dX12_settles_170 rfl ?_
  refine gX12_40 (pc := 171) hC dX12_settles_171 ?_
  refine j_iconst (pc := 174) hC dX12_settles_174 (v := 1) (by decide) ?_
  refine j_iconst (pc := 175) hC dX12_settles_175 (v := 0) (by decide) ?_
  refine j_zastC (pc := 176) hC (n := 2) (e := 1) (by decide) rfl rfl (by decide) rfl dX12_settles_176 ?_
  exact j_vret (pc := 177) hC dX12_settles_177
set_option maxRecDepth 20000 in
set_option maxHeartbeats 4000000 in
theorem tsX12_settles_129 {X : Cx} {ad : Nat → Nat} {cid : Nat → ClassId} (hC : Ok X ad cid cX12_settles RX12 2 none 0 0)  {rec129 : Mem → Int32 → Option (Mem)} (hrec129 : ∀ (M : Mem) (x1 : Int32), Jp X ad cid 2 (qm X ad (qV ad cid)) M 129 [some (.ref (ad 109)), some (.int x1)] [] (rec129 M x1)) (M : Mem) (x1 : Int32)  : Jp X ad cid 2 (qm X ad (qV ad cid)) M 129 [some (.ref (ad 109)), some (.int x1)] [] (sX12_settles_129  rec129 M x1) := by
  unfold sX12_settles_129
  refine j_iload_n (pc := 129) hC dX12_settles_129 rfl ?_
  refine j_bipush (pc := 130) hC dX12_settles_130 (v := 15) (by decide) ?_
  refine j_icmp_ge (pc := 132) hC dX12_settles_132 (tgt := 148) (by decide) (fun hb10 => ?_) (fun hb10 => ?_)
  · refine j_mask [true, false] (lv' := [some (.ref (ad 109)), none]) rfl ?_
    exact tsX12_settles_148 hC M
  · refine j_aload_n (pc := 135) hC dX12_settles_135 rfl ?_
    refine gX12_31 (pc := 136) hC dX12_settles_136 ?_
    refine j_iload_n (pc := 139) hC dX12_settles_139 rfl ?_
    refine j_iconst (pc := 140) hC dX12_settles_140 (v := 0) (by decide) ?_
    refine j_ck (fun hi11 => ?_)
    refine j_iast (pc := 141) hC (n := 15) rfl rfl hi11 dX12_settles_141 ?_
    refine j_iinc (pc := 142) hC (lv' := [some (.ref (ad 109)), some (.int (x1 + 1))]) dX12_settles_142 rfl (v := 1) (by decide) (by decide) rfl rfl ?_
    refine j_goto (pc := 145) hC dX12_settles_145 (tgt := 129) (by decide) ?_
    exact hrec129 (sM M 117 x1.toNatClampNeg (0 : Int32)) (x1 + 1)
theorem tlX12_settles_129 {X : Cx} {ad : Nat → Nat} {cid : Nat → ClassId} (hC : Ok X ad cid cX12_settles RX12 2 none 0 0)   : ∀ (n : Nat) (M : Mem) (x1 : Int32), Jp X ad cid 2 (qm X ad (qV ad cid)) M 129 [some (.ref (ad 109)), some (.int x1)] [] (lX12_settles_129  n M x1) := by
  intro n
  induction n with
  | zero => intros; exact j_none
  | succ n ih => exact tsX12_settles_129 hC   ih
set_option maxRecDepth 20000 in
set_option maxHeartbeats 4000000 in
theorem tsX12_settles_88 {X : Cx} {ad : Nat → Nat} {cid : Nat → ClassId} (hC : Ok X ad cid cX12_settles RX12 2 none 0 0)  {rec88 : Mem → Int32 → Option (Mem)} (hrec88 : ∀ (M : Mem) (x1 : Int32), Jp X ad cid 2 (qm X ad (qV ad cid)) M 88 [some (.ref (ad 109)), some (.int x1)] [] (rec88 M x1)) (M : Mem) (x1 : Int32)  : Jp X ad cid 2 (qm X ad (qV ad cid)) M 88 [some (.ref (ad 109)), some (.int x1)] [] (sX12_settles_88  rec88 M x1) := by
  unfold sX12_settles_88
  refine j_iload_n (pc := 88) hC dX12_settles_88 rfl ?_
  refine j_iconst (pc := 89) hC dX12_settles_89 (v := 4) (by decide) ?_
  refine j_icmp_ge (pc := 90) hC dX12_settles_90 (tgt := 127) (by decide) (fun hb7 => ?_) (fun hb7 => ?_)
  · refine j_iconst (pc := 127) hC dX12_settles_127 (v := 0) (by decide) ?_
    refine j_istore_n (pc := 128) hC (lv' := [some (.ref (ad 109)), some (.int (0 : Int32))]) dX12_settles_128 (by decide) rfl rfl ?_
    exact tlX12_settles_129 hC fuel M (0 : Int32)
  · refine j_aload_n (pc := 93) hC dX12_settles_93 rfl ?_
    refine gX12_25 (pc := 94) hC dX12_settles_94 ?_
    refine j_iload_n (pc := 97) hC dX12_settles_97 rfl ?_
    refine j_aload_n (pc := 98) hC dX12_settles_98 rfl ?_
    refine gX12_25 (pc := 99) hC dX12_settles_99 ?_
    refine j_iconst (pc := 102) hC dX12_settles_102 (v := 4) (by decide) ?_
    refine j_iload_n (pc := 103) hC dX12_settles_103 rfl ?_
    refine j_iadd (pc := 104) hC dX12_settles_104 ?_
    refine j_ck (fun hi8 => ?_)
    refine j_iald (pc := 105) hC (n := 8) rfl rfl hi8 dX12_settles_105 ?_
    refine j_ck (fun hi9 => ?_)
    refine j_iast (pc := 106) hC (n := 8) rfl rfl hi9 dX12_settles_106 ?_
    refine j_aload_n (pc := 107) hC dX12_settles_107 rfl ?_
    refine gX12_28 (pc := 108) hC dX12_settles_108 ?_
    refine j_iload_n (pc := 111) hC dX12_settles_111 rfl ?_
    refine j_aload_n (pc := 112) hC dX12_settles_112 rfl ?_
    refine gX12_28 (pc := 113) hC dX12_settles_113 ?_
    refine j_iconst (pc := 116) hC dX12_settles_116 (v := 4) (by decide) ?_
    refine j_iload_n (pc := 117) hC dX12_settles_117 rfl ?_
    refine j_iadd (pc := 118) hC dX12_settles_118 ?_
    refine j_iald (pc := 119) hC (n := 8) rfl rfl hi8 dX12_settles_119 ?_
    refine j_iast (pc := 120) hC (n := 8) rfl rfl hi9 dX12_settles_120 ?_
    refine j_iinc (pc := 121) hC (lv' := [some (.ref (ad 109)), some (.int (x1 + 1))]) dX12_settles_121 rfl (v := 1) (by decide) (by decide) rfl rfl ?_
    refine j_goto (pc := 124) hC dX12_settles_124 (tgt := 88) (by decide) ?_
    exact hrec88 (sM (sM M 115 x1.toNatClampNeg (gM M 115 ((4 : Int32) + x1).toNatClampNeg)) 116 x1.toNatClampNeg (gM (sM M 115 x1.toNatClampNeg (gM M 115 ((4 : Int32) + x1).toNatClampNeg)) 116 ((4 : Int32) + x1).toNatClampNeg)) (x1 + 1)
theorem tlX12_settles_88 {X : Cx} {ad : Nat → Nat} {cid : Nat → ClassId} (hC : Ok X ad cid cX12_settles RX12 2 none 0 0)   : ∀ (n : Nat) (M : Mem) (x1 : Int32), Jp X ad cid 2 (qm X ad (qV ad cid)) M 88 [some (.ref (ad 109)), some (.int x1)] [] (lX12_settles_88  n M x1) := by
  intro n
  induction n with
  | zero => intros; exact j_none
  | succ n ih => exact tsX12_settles_88 hC   ih
set_option maxRecDepth 20000 in
set_option maxHeartbeats 4000000 in
theorem tsX12_settles_29 {X : Cx} {ad : Nat → Nat} {cid : Nat → ClassId} (hC : Ok X ad cid cX12_settles RX12 2 none 0 0)  {rec29 : Mem → Int32 → Option (Mem)} (hrec29 : ∀ (M : Mem) (x1 : Int32), Jp X ad cid 2 (qm X ad (qV ad cid)) M 29 [some (.ref (ad 109)), some (.int x1)] [] (rec29 M x1)) (M : Mem) (x1 : Int32)  : Jp X ad cid 2 (qm X ad (qV ad cid)) M 29 [some (.ref (ad 109)), some (.int x1)] [] (sX12_settles_29  rec29 M x1) := by
  unfold sX12_settles_29
  refine j_iload_n (pc := 29) hC dX12_settles_29 rfl ?_
  refine j_bipush (pc := 30) hC dX12_settles_30 (v := 6) (by decide) ?_
  refine j_icmp_ge (pc := 32) hC dX12_settles_32 (tgt := 86) (by decide) (fun hb4 => ?_) (fun hb4 => ?_)
  · refine j_iconst (pc := 86) hC dX12_settles_86 (v := 0) (by decide) ?_
    refine j_istore_n (pc := 87) hC (lv' := [some (.ref (ad 109)), some (.int (0 : Int32))]) dX12_settles_87 (by decide) rfl rfl ?_
    exact tlX12_settles_88 hC fuel M (0 : Int32)
  · refine j_aload_n (pc := 35) hC dX12_settles_35 rfl ?_
    refine gX12_16 (pc := 36) hC dX12_settles_36 ?_
    refine j_iload_n (pc := 39) hC dX12_settles_39 rfl ?_
    refine j_aload_n (pc := 40) hC dX12_settles_40 rfl ?_
    refine gX12_16 (pc := 41) hC dX12_settles_41 ?_
    refine j_bipush (pc := 44) hC dX12_settles_44 (v := 6) (by decide) ?_
    refine j_iload_n (pc := 46) hC dX12_settles_46 rfl ?_
    refine j_iadd (pc := 47) hC dX12_settles_47 ?_
    refine j_ck (fun hi5 => ?_)
    refine j_iald (pc := 48) hC (n := 12) rfl rfl hi5 dX12_settles_48 ?_
    refine j_ck (fun hi6 => ?_)
    refine j_iast (pc := 49) hC (n := 12) rfl rfl hi6 dX12_settles_49 ?_
    refine j_aload_n (pc := 50) hC dX12_settles_50 rfl ?_
    refine gX12_19 (pc := 51) hC dX12_settles_51 ?_
    refine j_iload_n (pc := 54) hC dX12_settles_54 rfl ?_
    refine j_aload_n (pc := 55) hC dX12_settles_55 rfl ?_
    refine gX12_19 (pc := 56) hC dX12_settles_56 ?_
    refine j_bipush (pc := 59) hC dX12_settles_59 (v := 6) (by decide) ?_
    refine j_iload_n (pc := 61) hC dX12_settles_61 rfl ?_
    refine j_iadd (pc := 62) hC dX12_settles_62 ?_
    refine j_iald (pc := 63) hC (n := 12) rfl rfl hi5 dX12_settles_63 ?_
    refine j_iast (pc := 64) hC (n := 12) rfl rfl hi6 dX12_settles_64 ?_
    refine j_aload_n (pc := 65) hC dX12_settles_65 rfl ?_
    refine gX12_22 (pc := 66) hC dX12_settles_66 ?_
    refine j_iload_n (pc := 69) hC dX12_settles_69 rfl ?_
    refine j_aload_n (pc := 70) hC dX12_settles_70 rfl ?_
    refine gX12_22 (pc := 71) hC dX12_settles_71 ?_
    refine j_bipush (pc := 74) hC dX12_settles_74 (v := 6) (by decide) ?_
    refine j_iload_n (pc := 76) hC dX12_settles_76 rfl ?_
    refine j_iadd (pc := 77) hC dX12_settles_77 ?_
    refine j_iald (pc := 78) hC (n := 12) rfl rfl hi5 dX12_settles_78 ?_
    refine j_iast (pc := 79) hC (n := 12) rfl rfl hi6 dX12_settles_79 ?_
    refine j_iinc (pc := 80) hC (lv' := [some (.ref (ad 109)), some (.int (x1 + 1))]) dX12_settles_80 rfl (v := 1) (by decide) (by decide) rfl rfl ?_
    refine j_goto (pc := 83) hC dX12_settles_83 (tgt := 29) (by decide) ?_
    exact hrec29 (sM (sM (sM M 112 x1.toNatClampNeg (gM M 112 ((6 : Int32) + x1).toNatClampNeg)) 113 x1.toNatClampNeg (gM (sM M 112 x1.toNatClampNeg (gM M 112 ((6 : Int32) + x1).toNatClampNeg)) 113 ((6 : Int32) + x1).toNatClampNeg)) 114 x1.toNatClampNeg (gM (sM (sM M 112 x1.toNatClampNeg (gM M 112 ((6 : Int32) + x1).toNatClampNeg)) 113 x1.toNatClampNeg (gM (sM M 112 x1.toNatClampNeg (gM M 112 ((6 : Int32) + x1).toNatClampNeg)) 113 ((6 : Int32) + x1).toNatClampNeg)) 114 ((6 : Int32) + x1).toNatClampNeg)) (x1 + 1)
theorem tlX12_settles_29 {X : Cx} {ad : Nat → Nat} {cid : Nat → ClassId} (hC : Ok X ad cid cX12_settles RX12 2 none 0 0)   : ∀ (n : Nat) (M : Mem) (x1 : Int32), Jp X ad cid 2 (qm X ad (qV ad cid)) M 29 [some (.ref (ad 109)), some (.int x1)] [] (lX12_settles_29  n M x1) := by
  intro n
  induction n with
  | zero => intros; exact j_none
  | succ n ih => exact tsX12_settles_29 hC   ih
set_option maxRecDepth 20000 in
set_option maxHeartbeats 4000000 in
theorem tsX12_settles_2 {X : Cx} {ad : Nat → Nat} {cid : Nat → ClassId} (hC : Ok X ad cid cX12_settles RX12 2 none 0 0)  {rec2 : Mem → Int32 → Option (Mem)} (hrec2 : ∀ (M : Mem) (x1 : Int32), Jp X ad cid 2 (qm X ad (qV ad cid)) M 2 [some (.ref (ad 109)), some (.int x1)] [] (rec2 M x1)) (M : Mem) (x1 : Int32)  : Jp X ad cid 2 (qm X ad (qV ad cid)) M 2 [some (.ref (ad 109)), some (.int x1)] [] (sX12_settles_2  rec2 M x1) := by
  unfold sX12_settles_2
  refine j_iload_n (pc := 2) hC dX12_settles_2 rfl ?_
  refine j_iconst (pc := 3) hC dX12_settles_3 (v := 3) (by decide) ?_
  refine j_icmp_ge (pc := 4) hC dX12_settles_4 (tgt := 27) (by decide) (fun hb1 => ?_) (fun hb1 => ?_)
  · refine j_iconst (pc := 27) hC dX12_settles_27 (v := 0) (by decide) ?_
    refine j_istore_n (pc := 28) hC (lv' := [some (.ref (ad 109)), some (.int (0 : Int32))]) dX12_settles_28 (by decide) rfl rfl ?_
    exact tlX12_settles_29 hC fuel M (0 : Int32)
  · refine j_aload_n (pc := 7) hC dX12_settles_7 rfl ?_
    refine gX12_13 (pc := 8) hC dX12_settles_8 ?_
    refine j_iload_n (pc := 11) hC dX12_settles_11 rfl ?_
    refine j_aload_n (pc := 12) hC dX12_settles_12 rfl ?_
    refine gX12_13 (pc := 13) hC dX12_settles_13 ?_
    refine j_iconst (pc := 16) hC dX12_settles_16 (v := 3) (by decide) ?_
    refine j_iload_n (pc := 17) hC dX12_settles_17 rfl ?_
    refine j_iadd (pc := 18) hC dX12_settles_18 ?_
    refine j_ck (fun hi2 => ?_)
    refine j_iald (pc := 19) hC (n := 6) rfl rfl hi2 dX12_settles_19 ?_
    refine j_ck (fun hi3 => ?_)
    refine j_iast (pc := 20) hC (n := 6) rfl rfl hi3 dX12_settles_20 ?_
    refine j_iinc (pc := 21) hC (lv' := [some (.ref (ad 109)), some (.int (x1 + 1))]) dX12_settles_21 rfl (v := 1) (by decide) (by decide) rfl rfl ?_
    refine j_goto (pc := 24) hC dX12_settles_24 (tgt := 2) (by decide) ?_
    exact hrec2 (sM M 111 x1.toNatClampNeg (gM M 111 ((3 : Int32) + x1).toNatClampNeg)) (x1 + 1)
theorem tlX12_settles_2 {X : Cx} {ad : Nat → Nat} {cid : Nat → ClassId} (hC : Ok X ad cid cX12_settles RX12 2 none 0 0)   : ∀ (n : Nat) (M : Mem) (x1 : Int32), Jp X ad cid 2 (qm X ad (qV ad cid)) M 2 [some (.ref (ad 109)), some (.int x1)] [] (lX12_settles_2  n M x1) := by
  intro n
  induction n with
  | zero => intros; exact j_none
  | succ n ih => exact tsX12_settles_2 hC   ih
set_option maxRecDepth 20000 in
set_option maxHeartbeats 4000000 in
theorem kt_X12_settles {l : Launch} {ad : Nat → Nat} {cid : Nat → ClassId} {D : va_G} (hL : lyOk ad)  (M : Mem)  : Ct (qV ad cid) l ad cid D yX12_settles cX12_settles 2 none 0 0 [.ref (ad 109)] M (fX12_settles M ) := by
  refine ct_of (own := RX12) (lv := [some (.ref (ad 109)), none]) hL (by decide +kernel) rfl rfl (Nat.le_of_ble_eq_true rfl) (fun X hC => ?_)
  unfold fX12_settles
  refine j_iconst (pc := 0) hC dX12_settles_0 (v := 0) (by decide) ?_
  refine j_istore_n (pc := 1) hC (lv' := [some (.ref (ad 109)), some (.int (0 : Int32))]) dX12_settles_1 (by decide) rfl rfl ?_
  exact tlX12_settles_2 hC fuel M (0 : Int32)
/-! LastRowerModel.ferry()I -/
set_option maxRecDepth 20000 in
set_option maxHeartbeats 4000000 in
theorem tsX12_ferry_168 {X : Cx} {ad : Nat → Nat} {cid : Nat → ClassId} (hC : Ok X ad cid cX12_ferry RX12 3 (some .int) 5 109)   (M : Mem) (x1 : Int32)  : Jp X ad cid 3 (qm X ad (qI ad cid)) M 168 [some (.ref (ad 109)), some (.int x1), none] [] (sX12_ferry_168  M x1) := by
  unfold sX12_ferry_168
  refine j_aload_n (pc := 168) hC dX12_ferry_168 rfl ?_
  refine j_bI (pc := 169) (run_V hC (st := []) (kt_X12_isWell hC.ly M) vv_X12_isWell qw808 (by decide) sh_X12 rfl ⟨(Nat.le_of_ble_eq_true rfl), (Nat.le_of_ble_eq_true rfl)⟩ rfl rfl (Nat.le_of_ble_eq_true rfl) dX12_ferry_169) (fun M21 r22 => ?_)
  refine j_if_ne (pc := 172) hC dX12_ferry_172 (tgt := 183) (by decide) (fun hb23 => ?_) (fun hb23 => ?_)
  · refine j_aload_n (pc := 183) hC dX12_ferry_183 rfl ?_
    refine j_bV (pc := 184) (run_V hC (st := []) (kt_X12_settles hC.ly M21) vv_X12_settles qw828 (by decide) sh_X12 rfl ⟨(Nat.le_of_ble_eq_true rfl), (Nat.le_of_ble_eq_true rfl)⟩ rfl rfl (Nat.le_of_ble_eq_true rfl) dX12_ferry_184) (fun M24 => ?_)
    refine j_iload_n (pc := 187) hC dX12_ferry_187 rfl ?_
    exact j_iret (pc := 188) hC dX12_ferry_188
  · refine j_bipush (pc := 175) hC dX12_ferry_175 (v := (-10)) (by decide) ?_
    refine j_aload_n (pc := 177) hC dX12_ferry_177 rfl ?_
    refine gX12_86 (pc := 178) hC dX12_ferry_178 ?_
    refine j_isub (pc := 181) hC dX12_ferry_181 ?_
    exact j_iret (pc := 182) hC dX12_ferry_182
set_option maxRecDepth 20000 in
set_option maxHeartbeats 4000000 in
theorem tsX12_ferry_158 {X : Cx} {ad : Nat → Nat} {cid : Nat → ClassId} (hC : Ok X ad cid cX12_ferry RX12 3 (some .int) 5 109) {rec48 : Mem → Int32 → Option (Mem × Int32)} (hrec48 : ∀ (M : Mem) (x1 : Int32), Jp X ad cid 3 (qm X ad (qI ad cid)) M 48 [some (.ref (ad 109)), some (.int x1), none] [] (rec48 M x1))  (M : Mem) (x1 : Int32) (s1 : Int32)  : Jp X ad cid 3 (qm X ad (qI ad cid)) M 158 [some (.ref (ad 109)), some (.int x1), none] [.int s1, .ref (ad 109)] (sX12_ferry_158 rec48 M x1 s1) := by
  unfold sX12_ferry_158
  refine j_bI (pc := 158) (run_V hC (st := []) (kt_X12_takes hC.ly M s1) vv_X12_takes qw812 (by decide) sh_X12 rfl ⟨(Nat.le_of_ble_eq_true rfl), (Nat.le_of_ble_eq_true rfl)⟩ rfl rfl (Nat.le_of_ble_eq_true rfl) dX12_ferry_158) (fun M19 r20 => ?_)
  refine j_pop (pc := 161) hC dX12_ferry_161 rfl ?_
  refine j_iinc (pc := 162) hC (lv' := [some (.ref (ad 109)), some (.int (x1 + 1)), none]) dX12_ferry_162 rfl (v := 1) (by decide) (by decide) rfl rfl ?_
  refine j_goto (pc := 165) hC dX12_ferry_165 (tgt := 48) (by decide) ?_
  exact hrec48 M19 (x1 + 1)
set_option maxRecDepth 20000 in
set_option maxHeartbeats 4000000 in
theorem tsX12_ferry_144 {X : Cx} {ad : Nat → Nat} {cid : Nat → ClassId} (hC : Ok X ad cid cX12_ferry RX12 3 (some .int) 5 109) {rec48 : Mem → Int32 → Option (Mem × Int32)} (hrec48 : ∀ (M : Mem) (x1 : Int32), Jp X ad cid 3 (qm X ad (qI ad cid)) M 48 [some (.ref (ad 109)), some (.int x1), none] [] (rec48 M x1))  (M : Mem) (x1 : Int32)  : Jp X ad cid 3 (qm X ad (qI ad cid)) M 144 [some (.ref (ad 109)), some (.int x1), none] [] (sX12_ferry_144 rec48 M x1) := by
  unfold sX12_ferry_144
  refine j_aload_n (pc := 144) hC dX12_ferry_144 rfl ?_
  refine j_aload_n (pc := 145) hC dX12_ferry_145 rfl ?_
  refine gX12_80 (pc := 146) hC dX12_ferry_146 ?_
  refine j_iconst (pc := 149) hC dX12_ferry_149 (v := 3) (by decide) ?_
  refine j_icmp_ne (pc := 150) hC dX12_ferry_150 (tgt := 157) (by decide) (fun hb18 => ?_) (fun hb18 => ?_)
  · refine j_iconst (pc := 157) hC dX12_ferry_157 (v := 0) (by decide) ?_
    exact tsX12_ferry_158 hC hrec48 M x1 (0 : Int32)
  · refine j_iconst (pc := 153) hC dX12_ferry_153 (v := 1) (by decide) ?_
    refine j_goto (pc := 154) hC dX12_ferry_154 (tgt := 158) (by decide) ?_
    exact tsX12_ferry_158 hC hrec48 M x1 (1 : Int32)
set_option maxRecDepth 20000 in
set_option maxHeartbeats 4000000 in
theorem tsX12_ferry_128 {X : Cx} {ad : Nat → Nat} {cid : Nat → ClassId} (hC : Ok X ad cid cX12_ferry RX12 3 (some .int) 5 109) {rec48 : Mem → Int32 → Option (Mem × Int32)} (hrec48 : ∀ (M : Mem) (x1 : Int32), Jp X ad cid 3 (qm X ad (qI ad cid)) M 48 [some (.ref (ad 109)), some (.int x1), none] [] (rec48 M x1))  (M : Mem) (x1 : Int32) (s1 : Int32)  : Jp X ad cid 3 (qm X ad (qI ad cid)) M 128 [some (.ref (ad 109)), some (.int x1), none] [.int s1, .ref (ad 109)] (sX12_ferry_128 rec48 M x1 s1) := by
  unfold sX12_ferry_128
  refine j_bI (pc := 128) (run_V hC (st := []) (kt_X12_takes hC.ly M s1) vv_X12_takes qw812 (by decide) sh_X12 rfl ⟨(Nat.le_of_ble_eq_true rfl), (Nat.le_of_ble_eq_true rfl)⟩ rfl rfl (Nat.le_of_ble_eq_true rfl) dX12_ferry_128) (fun M12 r13 => ?_)
  refine j_istore_n (pc := 131) hC (lv' := [some (.ref (ad 109)), some (.int x1), some (.int r13)]) dX12_ferry_131 (by decide) rfl rfl ?_
  refine j_aload_n (pc := 132) hC dX12_ferry_132 rfl ?_
  refine j_bI (pc := 133) (run_V hC (st := []) (kt_X12_isWell hC.ly M12) vv_X12_isWell qw808 (by decide) sh_X12 rfl ⟨(Nat.le_of_ble_eq_true rfl), (Nat.le_of_ble_eq_true rfl)⟩ rfl rfl (Nat.le_of_ble_eq_true rfl) dX12_ferry_133) (fun M14 r15 => ?_)
  refine j_if_eq (pc := 136) hC dX12_ferry_136 (tgt := 144) (by decide) (fun hb16 => ?_) (fun hb16 => ?_)
  · refine j_mask [true, true, false] (lv' := [some (.ref (ad 109)), some (.int x1), none]) rfl ?_
    exact tsX12_ferry_144 hC hrec48 M14 x1
  · refine j_aload_n (pc := 139) hC dX12_ferry_139 rfl ?_
    refine j_iload_n (pc := 140) hC dX12_ferry_140 rfl ?_
    refine j_bV (pc := 141) (run_V hC (st := []) (kt_X12_readsItem hC.ly M14 r13) vv_X12_readsItem qw816 (by decide) sh_X12 rfl ⟨(Nat.le_of_ble_eq_true rfl), (Nat.le_of_ble_eq_true rfl)⟩ rfl rfl (Nat.le_of_ble_eq_true rfl) dX12_ferry_141) (fun M17 => ?_)
    refine j_mask [true, true, false] (lv' := [some (.ref (ad 109)), some (.int x1), none]) rfl ?_
    exact tsX12_ferry_144 hC hrec48 M17 x1
set_option maxRecDepth 20000 in
set_option maxHeartbeats 4000000 in
theorem tsX12_ferry_127 {X : Cx} {ad : Nat → Nat} {cid : Nat → ClassId} (hC : Ok X ad cid cX12_ferry RX12 3 (some .int) 5 109) {rec48 : Mem → Int32 → Option (Mem × Int32)} (hrec48 : ∀ (M : Mem) (x1 : Int32), Jp X ad cid 3 (qm X ad (qI ad cid)) M 48 [some (.ref (ad 109)), some (.int x1), none] [] (rec48 M x1))  (M : Mem) (x1 : Int32)  : Jp X ad cid 3 (qm X ad (qI ad cid)) M 127 [some (.ref (ad 109)), some (.int x1), none] [.ref (ad 109)] (sX12_ferry_127 rec48 M x1) := by
  unfold sX12_ferry_127
  refine j_iconst (pc := 127) hC dX12_ferry_127 (v := 0) (by decide) ?_
  exact tsX12_ferry_128 hC hrec48 M x1 (0 : Int32)
set_option maxRecDepth 20000 in
set_option maxHeartbeats 4000000 in
theorem tsX12_ferry_48 {X : Cx} {ad : Nat → Nat} {cid : Nat → ClassId} (hC : Ok X ad cid cX12_ferry RX12 3 (some .int) 5 109)  {rec48 : Mem → Int32 → Option (Mem × Int32)} (hrec48 : ∀ (M : Mem) (x1 : Int32), Jp X ad cid 3 (qm X ad (qI ad cid)) M 48 [some (.ref (ad 109)), some (.int x1), none] [] (rec48 M x1)) (M : Mem) (x1 : Int32)  : Jp X ad cid 3 (qm X ad (qI ad cid)) M 48 [some (.ref (ad 109)), some (.int x1), none] [] (sX12_ferry_48  rec48 M x1) := by
  unfold sX12_ferry_48
  refine j_aload_n (pc := 48) hC dX12_ferry_48 rfl ?_
  refine j_bI (pc := 49) (run_V hC (st := []) (kt_X12_isWell hC.ly M) vv_X12_isWell qw808 (by decide) sh_X12 rfl ⟨(Nat.le_of_ble_eq_true rfl), (Nat.le_of_ble_eq_true rfl)⟩ rfl rfl (Nat.le_of_ble_eq_true rfl) dX12_ferry_49) (fun M2 r3 => ?_)
  refine j_if_eq (pc := 52) hC dX12_ferry_52 (tgt := 168) (by decide) (fun hb4 => ?_) (fun hb4 => ?_)
  · exact tsX12_ferry_168 hC M2 x1
  · refine j_aload_n (pc := 55) hC dX12_ferry_55 rfl ?_
    refine gX12_80 (pc := 56) hC dX12_ferry_56 ?_
    refine j_if_eq (pc := 59) hC dX12_ferry_59 (tgt := 168) (by decide) (fun hb5 => ?_) (fun hb5 => ?_)
    · exact tsX12_ferry_168 hC M2 x1
    · refine j_aload_n (pc := 62) hC dX12_ferry_62 rfl ?_
      refine j_aload_n (pc := 63) hC dX12_ferry_63 rfl ?_
      refine gX12_80 (pc := 64) hC dX12_ferry_64 ?_
      refine j_iconst (pc := 67) hC dX12_ferry_67 (v := 1) (by decide) ?_
      refine j_icmp_ne (pc := 68) hC dX12_ferry_68 (tgt := 127) (by decide) (fun hb6 => ?_) (fun hb6 => ?_)
      · exact tsX12_ferry_127 hC hrec48 M2 x1
      · refine j_aload_n (pc := 71) hC dX12_ferry_71 rfl ?_
        refine gX12_83 (pc := 72) hC dX12_ferry_72 ?_
        refine j_bipush (pc := 75) hC dX12_ferry_75 (v := 112) (by decide) ?_
        refine j_icmp_ne (pc := 77) hC dX12_ferry_77 (tgt := 94) (by decide) (fun hb7 => ?_) (fun hb7 => ?_)
        · refine j_aload_n (pc := 94) hC dX12_ferry_94 rfl ?_
          refine gX12_83 (pc := 95) hC dX12_ferry_95 ?_
          refine j_bipush (pc := 98) hC dX12_ferry_98 (v := 99) (by decide) ?_
          refine j_icmp_ne (pc := 100) hC dX12_ferry_100 (tgt := 116) (by decide) (fun hb8 => ?_) (fun hb8 => ?_)
          · refine j_aload_n (pc := 116) hC dX12_ferry_116 rfl ?_
            refine gX12_107 (pc := 117) hC dX12_ferry_117 ?_
            refine j_if_ne (pc := 120) hC dX12_ferry_120 (tgt := 127) (by decide) (fun hb9 => ?_) (fun hb9 => ?_)
            · exact tsX12_ferry_127 hC hrec48 M2 x1
            · refine j_iconst (pc := 123) hC dX12_ferry_123 (v := 1) (by decide) ?_
              refine j_goto (pc := 124) hC dX12_ferry_124 (tgt := 128) (by decide) ?_
              exact tsX12_ferry_128 hC hrec48 M2 x1 (1 : Int32)
          · refine j_aload_n (pc := 103) hC dX12_ferry_103 rfl ?_
            refine gX12_13 (pc := 104) hC dX12_ferry_104 ?_
            refine j_iconst (pc := 107) hC dX12_ferry_107 (v := 5) (by decide) ?_
            refine j_ialdC (pc := 108) hC (n := 6) (e := 5) (by decide) rfl rfl (by decide) dX12_ferry_108 ?_
            refine j_iconst (pc := 109) hC dX12_ferry_109 (v := 4) (by decide) ?_
            refine j_icmp_ge (pc := 110) hC dX12_ferry_110 (tgt := 127) (by decide) (fun hb10 => ?_) (fun hb10 => ?_)
            · exact tsX12_ferry_127 hC hrec48 M2 x1
            · refine j_goto (pc := 113) hC dX12_ferry_113 (tgt := 123) (by decide) ?_
              refine j_iconst (pc := 123) hC dX12_ferry_123 (v := 1) (by decide) ?_
              refine j_goto (pc := 124) hC dX12_ferry_124 (tgt := 128) (by decide) ?_
              exact tsX12_ferry_128 hC hrec48 M2 x1 (1 : Int32)
        · refine j_aload_n (pc := 80) hC dX12_ferry_80 rfl ?_
          refine gX12_13 (pc := 81) hC dX12_ferry_81 ?_
          refine j_iconst (pc := 84) hC dX12_ferry_84 (v := 3) (by decide) ?_
          refine j_ialdC (pc := 85) hC (n := 6) (e := 3) (by decide) rfl rfl (by decide) dX12_ferry_85 ?_
          refine j_bipush (pc := 86) hC dX12_ferry_86 (v := 6) (by decide) ?_
          refine j_icmp_ge (pc := 88) hC dX12_ferry_88 (tgt := 127) (by decide) (fun hb11 => ?_) (fun hb11 => ?_)
          · exact tsX12_ferry_127 hC hrec48 M2 x1
          · refine j_goto (pc := 91) hC dX12_ferry_91 (tgt := 123) (by decide) ?_
            refine j_iconst (pc := 123) hC dX12_ferry_123 (v := 1) (by decide) ?_
            refine j_goto (pc := 124) hC dX12_ferry_124 (tgt := 128) (by decide) ?_
            exact tsX12_ferry_128 hC hrec48 M2 x1 (1 : Int32)
theorem tlX12_ferry_48 {X : Cx} {ad : Nat → Nat} {cid : Nat → ClassId} (hC : Ok X ad cid cX12_ferry RX12 3 (some .int) 5 109)   : ∀ (n : Nat) (M : Mem) (x1 : Int32), Jp X ad cid 3 (qm X ad (qI ad cid)) M 48 [some (.ref (ad 109)), some (.int x1), none] [] (lX12_ferry_48  n M x1) := by
  intro n
  induction n with
  | zero => intros; exact j_none
  | succ n ih => exact tsX12_ferry_48 hC   ih
set_option maxRecDepth 20000 in
set_option maxHeartbeats 4000000 in
theorem kt_X12_ferry {l : Launch} {ad : Nat → Nat} {cid : Nat → ClassId} {D : va_G} (hL : lyOk ad)  (M : Mem)  : Ct (qI ad cid) l ad cid D yX12_ferry cX12_ferry 3 (some .int) 5 109 [.ref (ad 109)] M (fX12_ferry M ) := by
  refine ct_of (own := RX12) (lv := [some (.ref (ad 109)), none, none]) hL (by decide +kernel) rfl rfl (Nat.le_of_ble_eq_true rfl) (fun X hC => ?_)
  unfold fX12_ferry
  refine j_aload_n (pc := 0) hC dX12_ferry_0 rfl ?_
  refine j_iconst (pc := 1) hC dX12_ferry_1 (v := 0) (by decide) ?_
  refine pX12_59 (pc := 2) hC dX12_ferry_2 ?_
  refine j_aload_n (pc := 5) hC dX12_ferry_5 rfl ?_
  refine j_iconst (pc := 6) hC dX12_ferry_6 (v := (-1)) (by decide) ?_
  refine pX12_86 (pc := 7) hC dX12_ferry_7 ?_
  refine j_aload_n (pc := 10) hC dX12_ferry_10 rfl ?_
  refine j_iconst (pc := 11) hC dX12_ferry_11 (v := 0) (by decide) ?_
  refine pX12_70 (pc := 12) hC dX12_ferry_12 ?_
  refine j_iconst (pc := 15) hC dX12_ferry_15 (v := 0) (by decide) ?_
  refine j_istore_n (pc := 16) hC (lv' := [some (.ref (ad 109)), some (.int (0 : Int32)), none]) dX12_ferry_16 (by decide) rfl rfl ?_
  refine j_aload_n (pc := 17) hC dX12_ferry_17 rfl ?_
  refine gX12_13 (pc := 18) hC dX12_ferry_18 ?_
  refine j_iconst (pc := 21) hC dX12_ferry_21 (v := 3) (by decide) ?_
  refine j_iconst (pc := 22) hC dX12_ferry_22 (v := 0) (by decide) ?_
  refine j_iastC (pc := 23) hC (n := 6) (e := 3) (by decide) rfl rfl (by decide) dX12_ferry_23 ?_
  refine j_aload_n (pc := 24) hC dX12_ferry_24 rfl ?_
  refine gX12_13 (pc := 25) hC dX12_ferry_25 ?_
  refine j_iconst (pc := 28) hC dX12_ferry_28 (v := 4) (by decide) ?_
  refine j_bipush (pc := 29) hC dX12_ferry_29 (v := 60) (by decide) ?_
  refine j_iastC (pc := 31) hC (n := 6) (e := 4) (by decide) rfl rfl (by decide) dX12_ferry_31 ?_
  refine j_aload_n (pc := 32) hC dX12_ferry_32 rfl ?_
  refine gX12_13 (pc := 33) hC dX12_ferry_33 ?_
  refine j_iconst (pc := 36) hC dX12_ferry_36 (v := 5) (by decide) ?_
  refine j_iconst (pc := 37) hC dX12_ferry_37 (v := 0) (by decide) ?_
  refine j_iastC (pc := 38) hC (n := 6) (e := 5) (by decide) rfl rfl (by decide) dX12_ferry_38 ?_
  refine j_aload_n (pc := 39) hC dX12_ferry_39 rfl ?_
  refine j_iconst (pc := 40) hC dX12_ferry_40 (v := 0) (by decide) ?_
  refine pX12_107 (pc := 41) hC (by decide) dX12_ferry_41 ?_
  refine j_aload_n (pc := 44) hC dX12_ferry_44 rfl ?_
  refine j_bV (pc := 45) (run_V hC (st := []) (kt_X12_advances hC.ly (sM (sM (sM (sM (sM (sM (sM M 109 0 (0 : Int32)) 109 8 (-1 : Int32)) 109 4 (0 : Int32)) 111 3 (0 : Int32)) 111 4 (60 : Int32)) 111 5 (0 : Int32)) 109 15 (0 : Int32))) vv_X12_advances qw800 (by decide) sh_X12 rfl ⟨(Nat.le_of_ble_eq_true rfl), (Nat.le_of_ble_eq_true rfl)⟩ rfl rfl (Nat.le_of_ble_eq_true rfl) dX12_ferry_45) (fun M1 => ?_)
  exact tlX12_ferry_48 hC fuel M1 (0 : Int32)
/-! LastRowerModel.first(I)I -/
set_option maxRecDepth 20000 in
set_option maxHeartbeats 4000000 in
theorem tsX12_first_115 {X : Cx} {ad : Nat → Nat} {cid : Nat → ClassId} (hC : Ok X ad cid cX12_first RX12 6 (some .int) 1 22)   (M : Mem) (x1 : Int32) (x2 : Int32) (x3 : Int32)  : Jp X ad cid 6 (qm X ad (qI ad cid)) M 115 [none, some (.int x1), some (.int x2), some (.int x3), none, none] [] (sX12_first_115  M x1 x2 x3) := by
  unfold sX12_first_115
  refine j_iload_n (pc := 115) hC dX12_first_115 rfl ?_
  refine j_bipush (pc := 116) hC dX12_first_116 (v := (-9)) (by decide) ?_
  refine j_icmp_eq (pc := 118) hC dX12_first_118 (tgt := 125) (by decide) (fun hb12 => ?_) (fun hb12 => ?_)
  · refine j_iload_n (pc := 125) hC dX12_first_125 rfl ?_
    refine j_goto (pc := 126) hC dX12_first_126 (tgt := 130) (by decide) ?_
    exact j_iret (pc := 130) hC dX12_first_130
  · refine j_iload_n (pc := 121) hC dX12_first_121 rfl ?_
    refine j_if_ne (pc := 122) hC dX12_first_122 (tgt := 129) (by decide) (fun hb13 => ?_) (fun hb13 => ?_)
    · refine j_iload_n (pc := 129) hC dX12_first_129 rfl ?_
      exact j_iret (pc := 130) hC dX12_first_130
    · refine j_iload_n (pc := 125) hC dX12_first_125 rfl ?_
      refine j_goto (pc := 126) hC dX12_first_126 (tgt := 130) (by decide) ?_
      exact j_iret (pc := 130) hC dX12_first_130
set_option maxRecDepth 20000 in
set_option maxHeartbeats 4000000 in
theorem tsX12_first_89 {X : Cx} {ad : Nat → Nat} {cid : Nat → ClassId} (hC : Ok X ad cid cX12_first RX12 6 (some .int) 1 22) {rec24 : Mem → Int32 → Int32 → Int32 → Int32 → Option (Mem × Int32)} (hrec24 : ∀ (M : Mem) (x1 : Int32) (x2 : Int32) (x3 : Int32) (x4 : Int32), Jp X ad cid 6 (qm X ad (qI ad cid)) M 24 [some (.ref (ad 109)), some (.int x1), some (.int x2), some (.int x3), some (.int x4), none] [] (rec24 M x1 x2 x3 x4))  (M : Mem) (x1 : Int32) (x2 : Int32) (x4 : Int32) (x5 : Int32) (s0 : Int32)  : Jp X ad cid 6 (qm X ad (qI ad cid)) M 89 [some (.ref (ad 109)), some (.int x1), some (.int x2), none, some (.int x4), some (.int x5)] [.int s0] (sX12_first_89 rec24 M x1 x2 x4 x5 s0) := by
  unfold sX12_first_89
  refine j_istore_n (pc := 89) hC (lv' := [some (.ref (ad 109)), some (.int x1), some (.int x2), some (.int s0), some (.int x4), some (.int x5)]) dX12_first_89 (by decide) rfl rfl ?_
  refine j_iload_n (pc := 90) hC dX12_first_90 rfl ?_
  refine j_bipush (pc := 91) hC dX12_first_91 (v := (-9)) (by decide) ?_
  refine j_icmp_eq (pc := 93) hC dX12_first_93 (tgt := 102) (by decide) (fun hb10 => ?_) (fun hb10 => ?_)
  · refine j_iload (pc := 102) hC dX12_first_102 rfl ?_
    refine j_goto (pc := 104) hC dX12_first_104 (tgt := 108) (by decide) ?_
    refine j_istore_n (pc := 108) hC (lv' := [some (.ref (ad 109)), some (.int x1), some (.int x5), some (.int s0), some (.int x4), some (.int x5)]) dX12_first_108 (by decide) rfl rfl ?_
    refine j_iinc (pc := 109) hC (lv' := [some (.ref (ad 109)), some (.int x1), some (.int x5), some (.int s0), some (.int (x4 + 1)), some (.int x5)]) dX12_first_109 rfl (v := 1) (by decide) (by decide) rfl rfl ?_
    refine j_goto (pc := 112) hC dX12_first_112 (tgt := 24) (by decide) ?_
    refine j_mask [true, true, true, true, true, false] (lv' := [some (.ref (ad 109)), some (.int x1), some (.int x5), some (.int s0), some (.int (x4 + 1)), none]) rfl ?_
    exact hrec24 M x1 x5 s0 (x4 + 1)
  · refine j_iload (pc := 96) hC dX12_first_96 rfl ?_
    refine j_iload_n (pc := 98) hC dX12_first_98 rfl ?_
    refine j_icmp_ge (pc := 99) hC dX12_first_99 (tgt := 107) (by decide) (fun hb11 => ?_) (fun hb11 => ?_)
    · refine j_iload_n (pc := 107) hC dX12_first_107 rfl ?_
      refine j_istore_n (pc := 108) hC (lv' := [some (.ref (ad 109)), some (.int x1), some (.int x2), some (.int s0), some (.int x4), some (.int x5)]) dX12_first_108 (by decide) rfl rfl ?_
      refine j_iinc (pc := 109) hC (lv' := [some (.ref (ad 109)), some (.int x1), some (.int x2), some (.int s0), some (.int (x4 + 1)), some (.int x5)]) dX12_first_109 rfl (v := 1) (by decide) (by decide) rfl rfl ?_
      refine j_goto (pc := 112) hC dX12_first_112 (tgt := 24) (by decide) ?_
      refine j_mask [true, true, true, true, true, false] (lv' := [some (.ref (ad 109)), some (.int x1), some (.int x2), some (.int s0), some (.int (x4 + 1)), none]) rfl ?_
      exact hrec24 M x1 x2 s0 (x4 + 1)
    · refine j_iload (pc := 102) hC dX12_first_102 rfl ?_
      refine j_goto (pc := 104) hC dX12_first_104 (tgt := 108) (by decide) ?_
      refine j_istore_n (pc := 108) hC (lv' := [some (.ref (ad 109)), some (.int x1), some (.int x5), some (.int s0), some (.int x4), some (.int x5)]) dX12_first_108 (by decide) rfl rfl ?_
      refine j_iinc (pc := 109) hC (lv' := [some (.ref (ad 109)), some (.int x1), some (.int x5), some (.int s0), some (.int (x4 + 1)), some (.int x5)]) dX12_first_109 rfl (v := 1) (by decide) (by decide) rfl rfl ?_
      refine j_goto (pc := 112) hC dX12_first_112 (tgt := 24) (by decide) ?_
      refine j_mask [true, true, true, true, true, false] (lv' := [some (.ref (ad 109)), some (.int x1), some (.int x5), some (.int s0), some (.int (x4 + 1)), none]) rfl ?_
      exact hrec24 M x1 x5 s0 (x4 + 1)
set_option maxRecDepth 20000 in
set_option maxHeartbeats 4000000 in
theorem tsX12_first_66 {X : Cx} {ad : Nat → Nat} {cid : Nat → ClassId} (hC : Ok X ad cid cX12_first RX12 6 (some .int) 1 22) {rec24 : Mem → Int32 → Int32 → Int32 → Int32 → Option (Mem × Int32)} (hrec24 : ∀ (M : Mem) (x1 : Int32) (x2 : Int32) (x3 : Int32) (x4 : Int32), Jp X ad cid 6 (qm X ad (qI ad cid)) M 24 [some (.ref (ad 109)), some (.int x1), some (.int x2), some (.int x3), some (.int x4), none] [] (rec24 M x1 x2 x3 x4))  (M : Mem) (x1 : Int32) (x2 : Int32) (x4 : Int32) (x5 : Int32)  : Jp X ad cid 6 (qm X ad (qI ad cid)) M 66 [some (.ref (ad 109)), some (.int x1), some (.int x2), none, some (.int x4), some (.int x5)] [] (sX12_first_66 rec24 M x1 x2 x4 x5) := by
  unfold sX12_first_66
  refine j_iconst (pc := 66) hC dX12_first_66 (v := 1) (by decide) ?_
  refine j_iload (pc := 67) hC dX12_first_67 rfl ?_
  refine j_ishl (pc := 69) hC dX12_first_69 ?_
  refine j_goto (pc := 70) hC dX12_first_70 (tgt := 89) (by decide) ?_
  exact tsX12_first_89 hC hrec24 M x1 x2 x4 x5 ((1 : Int32) <<< (x4 &&& 31))
set_option maxRecDepth 20000 in
set_option maxHeartbeats 4000000 in
theorem tsX12_first_24 {X : Cx} {ad : Nat → Nat} {cid : Nat → ClassId} (hC : Ok X ad cid cX12_first RX12 6 (some .int) 1 22)  {rec24 : Mem → Int32 → Int32 → Int32 → Int32 → Option (Mem × Int32)} (hrec24 : ∀ (M : Mem) (x1 : Int32) (x2 : Int32) (x3 : Int32) (x4 : Int32), Jp X ad cid 6 (qm X ad (qI ad cid)) M 24 [some (.ref (ad 109)), some (.int x1), some (.int x2), some (.int x3), some (.int x4), none] [] (rec24 M x1 x2 x3 x4)) (M : Mem) (x1 : Int32) (x2 : Int32) (x3 : Int32) (x4 : Int32)  : Jp X ad cid 6 (qm X ad (qI ad cid)) M 24 [some (.ref (ad 109)), some (.int x1), some (.int x2), some (.int x3), some (.int x4), none] [] (sX12_first_24  rec24 M x1 x2 x3 x4) := by
  unfold sX12_first_24
  refine j_iload (pc := 24) hC dX12_first_24 rfl ?_
  refine j_aload_n (pc := 26) hC dX12_first_26 rfl ?_
  refine gX12_13 (pc := 27) hC dX12_first_27 ?_
  refine j_iconst (pc := 30) hC dX12_first_30 (v := 0) (by decide) ?_
  refine j_ialdC (pc := 31) hC (n := 6) (e := 0) (by decide) rfl rfl (by decide) dX12_first_31 ?_
  refine j_icmp_ge (pc := 32) hC dX12_first_32 (tgt := 115) (by decide) (fun hb4 => ?_) (fun hb4 => ?_)
  · refine j_mask [false, true, true, true, false, false] (lv' := [none, some (.int x1), some (.int x2), some (.int x3), none, none]) rfl ?_
    exact tsX12_first_115 hC M x1 x2 x3
  · refine j_aload_n (pc := 35) hC dX12_first_35 rfl ?_
    refine gX12_19 (pc := 36) hC dX12_first_36 ?_
    refine j_iload (pc := 39) hC dX12_first_39 rfl ?_
    refine j_ck (fun hi5 => ?_)
    refine j_iald (pc := 41) hC (n := 12) rfl rfl hi5 dX12_first_41 ?_
    refine j_aload_n (pc := 42) hC dX12_first_42 rfl ?_
    refine gX12_31 (pc := 43) hC dX12_first_43 ?_
    refine j_iconst (pc := 46) hC dX12_first_46 (v := 3) (by decide) ?_
    refine j_iload (pc := 47) hC dX12_first_47 rfl ?_
    refine j_iadd (pc := 49) hC dX12_first_49 ?_
    refine j_ck (fun hi6 => ?_)
    refine j_iald (pc := 50) hC (n := 15) rfl rfl hi6 dX12_first_50 ?_
    refine j_isub (pc := 51) hC dX12_first_51 ?_
    refine j_istore (pc := 52) hC (lv' := [some (.ref (ad 109)), some (.int x1), some (.int x2), some (.int x3), some (.int x4), some (.int ((gM M 113 x4.toNatClampNeg) - (gM M 117 ((3 : Int32) + x4).toNatClampNeg)))]) dX12_first_52 (by decide) rfl rfl ?_
    refine j_iload_n (pc := 54) hC dX12_first_54 rfl ?_
    refine j_bipush (pc := 55) hC dX12_first_55 (v := (-9)) (by decide) ?_
    refine j_icmp_eq (pc := 57) hC dX12_first_57 (tgt := 66) (by decide) (fun hb7 => ?_) (fun hb7 => ?_)
    · refine j_mask [true, true, true, false, true, true] (lv' := [some (.ref (ad 109)), some (.int x1), some (.int x2), none, some (.int x4), some (.int ((gM M 113 x4.toNatClampNeg) - (gM M 117 ((3 : Int32) + x4).toNatClampNeg)))]) rfl ?_
      exact tsX12_first_66 hC hrec24 M x1 x2 x4 ((gM M 113 x4.toNatClampNeg) - (gM M 117 ((3 : Int32) + x4).toNatClampNeg))
    · refine j_iload (pc := 60) hC dX12_first_60 rfl ?_
      refine j_iload_n (pc := 62) hC dX12_first_62 rfl ?_
      refine j_icmp_ge (pc := 63) hC dX12_first_63 (tgt := 73) (by decide) (fun hb8 => ?_) (fun hb8 => ?_)
      · refine j_iload (pc := 73) hC dX12_first_73 rfl ?_
        refine j_iload_n (pc := 75) hC dX12_first_75 rfl ?_
        refine j_icmp_ne (pc := 76) hC dX12_first_76 (tgt := 88) (by decide) (fun hb9 => ?_) (fun hb9 => ?_)
        · refine j_iload_n (pc := 88) hC dX12_first_88 rfl ?_
          refine j_mask [true, true, true, false, true, true] (lv' := [some (.ref (ad 109)), some (.int x1), some (.int x2), none, some (.int x4), some (.int ((gM M 113 x4.toNatClampNeg) - (gM M 117 ((3 : Int32) + x4).toNatClampNeg)))]) rfl ?_
          exact tsX12_first_89 hC hrec24 M x1 x2 x4 ((gM M 113 x4.toNatClampNeg) - (gM M 117 ((3 : Int32) + x4).toNatClampNeg)) x3
        · refine j_iload_n (pc := 79) hC dX12_first_79 rfl ?_
          refine j_iconst (pc := 80) hC dX12_first_80 (v := 1) (by decide) ?_
          refine j_iload (pc := 81) hC dX12_first_81 rfl ?_
          refine j_ishl (pc := 83) hC dX12_first_83 ?_
          refine j_ior (pc := 84) hC dX12_first_84 ?_
          refine j_goto (pc := 85) hC dX12_first_85 (tgt := 89) (by decide) ?_
          refine j_mask [true, true, true, false, true, true] (lv' := [some (.ref (ad 109)), some (.int x1), some (.int x2), none, some (.int x4), some (.int ((gM M 113 x4.toNatClampNeg) - (gM M 117 ((3 : Int32) + x4).toNatClampNeg)))]) rfl ?_
          exact tsX12_first_89 hC hrec24 M x1 x2 x4 ((gM M 113 x4.toNatClampNeg) - (gM M 117 ((3 : Int32) + x4).toNatClampNeg)) (x3 ||| ((1 : Int32) <<< (x4 &&& 31)))
      · refine j_mask [true, true, true, false, true, true] (lv' := [some (.ref (ad 109)), some (.int x1), some (.int x2), none, some (.int x4), some (.int ((gM M 113 x4.toNatClampNeg) - (gM M 117 ((3 : Int32) + x4).toNatClampNeg)))]) rfl ?_
        exact tsX12_first_66 hC hrec24 M x1 x2 x4 ((gM M 113 x4.toNatClampNeg) - (gM M 117 ((3 : Int32) + x4).toNatClampNeg))
theorem tlX12_first_24 {X : Cx} {ad : Nat → Nat} {cid : Nat → ClassId} (hC : Ok X ad cid cX12_first RX12 6 (some .int) 1 22)   : ∀ (n : Nat) (M : Mem) (x1 : Int32) (x2 : Int32) (x3 : Int32) (x4 : Int32), Jp X ad cid 6 (qm X ad (qI ad cid)) M 24 [some (.ref (ad 109)), some (.int x1), some (.int x2), some (.int x3), some (.int x4), none] [] (lX12_first_24  n M x1 x2 x3 x4) := by
  intro n
  induction n with
  | zero => intros; exact j_none
  | succ n ih => exact tsX12_first_24 hC   ih
set_option maxRecDepth 20000 in
set_option maxHeartbeats 4000000 in
theorem kt_X12_first {l : Launch} {ad : Nat → Nat} {cid : Nat → ClassId} {D : va_G} (hL : lyOk ad)  (M : Mem) (x1 : Int32) : Ct (qI ad cid) l ad cid D yX12_first cX12_first 6 (some .int) 1 22 [.ref (ad 109), .int x1] M (fX12_first M x1) := by
  refine ct_of (own := RX12) (lv := [some (.ref (ad 109)), some (.int x1), none, none, none, none]) hL (by decide +kernel) rfl rfl (Nat.le_of_ble_eq_true rfl) (fun X hC => ?_)
  unfold fX12_first
  refine j_aload_n (pc := 0) hC dX12_first_0 rfl ?_
  refine j_iconst (pc := 1) hC dX12_first_1 (v := 0) (by decide) ?_
  refine pX12_59 (pc := 2) hC dX12_first_2 ?_
  refine j_iload_n (pc := 5) hC dX12_first_5 rfl ?_
  refine j_iconst (pc := 6) hC dX12_first_6 (v := 0) (by decide) ?_
  refine j_iconst (pc := 7) hC dX12_first_7 (v := 1) (by decide) ?_
  refine j_bI (pc := 8) (run_S hC (st := []) (kt_X12_in hC.ly (sM M 109 0 (0 : Int32)) x1 (0 : Int32) (1 : Int32)) vs_X12_in qw789 ⟨(Nat.le_of_ble_eq_true rfl), (Nat.le_of_ble_eq_true rfl)⟩ rfl rfl (Nat.le_of_ble_eq_true rfl) dX12_first_8) (fun M1 r2 => ?_)
  refine j_if_ne (pc := 11) hC dX12_first_11 (tgt := 16) (by decide) (fun hb3 => ?_) (fun hb3 => ?_)
  · refine j_bipush (pc := 16) hC dX12_first_16 (v := (-9)) (by decide) ?_
    refine j_istore_n (pc := 18) hC (lv' := [some (.ref (ad 109)), some (.int x1), some (.int (-9 : Int32)), none, none, none]) dX12_first_18 (by decide) rfl rfl ?_
    refine j_iconst (pc := 19) hC dX12_first_19 (v := 0) (by decide) ?_
    refine j_istore_n (pc := 20) hC (lv' := [some (.ref (ad 109)), some (.int x1), some (.int (-9 : Int32)), some (.int (0 : Int32)), none, none]) dX12_first_20 (by decide) rfl rfl ?_
    refine j_iconst (pc := 21) hC dX12_first_21 (v := 0) (by decide) ?_
    refine j_istore (pc := 22) hC (lv' := [some (.ref (ad 109)), some (.int x1), some (.int (-9 : Int32)), some (.int (0 : Int32)), some (.int (0 : Int32)), none]) dX12_first_22 (by decide) rfl rfl ?_
    exact tlX12_first_24 hC fuel M1 x1 (-9 : Int32) (0 : Int32) (0 : Int32)
  · refine j_iconst (pc := 14) hC dX12_first_14 (v := (-1)) (by decide) ?_
    exact j_iret (pc := 15) hC dX12_first_15
/-! LastRowerModel.forget()I -/
set_option maxRecDepth 20000 in
set_option maxHeartbeats 4000000 in
theorem kt_X12_forget {l : Launch} {ad : Nat → Nat} {cid : Nat → ClassId} {D : va_G} (hL : lyOk ad)  (M : Mem)  : Ct (qI ad cid) l ad cid D yX12_forget cX12_forget 2 (some .int) 0 0 [.ref (ad 109)] M (fX12_forget M ) := by
  refine ct_of (own := RX12) (lv := [some (.ref (ad 109)), none]) hL (by decide +kernel) rfl rfl (Nat.le_of_ble_eq_true rfl) (fun X hC => ?_)
  unfold fX12_forget
  refine j_aload_n (pc := 0) hC dX12_forget_0 rfl ?_
  refine j_iconst (pc := 1) hC dX12_forget_1 (v := 0) (by decide) ?_
  refine pX12_59 (pc := 2) hC dX12_forget_2 ?_
  refine j_aload_n (pc := 5) hC dX12_forget_5 rfl ?_
  refine gX12_118 (pc := 6) hC dX12_forget_6 ?_
  refine j_istore_n (pc := 9) hC (lv' := [some (.ref (ad 109)), some (.int (gM (sM M 109 0 (0 : Int32)) 109 24))]) dX12_forget_9 (by decide) rfl rfl ?_
  refine j_aload_n (pc := 10) hC dX12_forget_10 rfl ?_
  refine j_iconst (pc := 11) hC dX12_forget_11 (v := 0) (by decide) ?_
  refine pX12_118 (pc := 12) hC dX12_forget_12 ?_
  refine j_iload_n (pc := 15) hC dX12_forget_15 rfl ?_
  exact j_iret (pc := 16) hC dX12_forget_16
