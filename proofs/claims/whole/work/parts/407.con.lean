/-! LastRowerModel.quarrels(II)I -/
set_option maxRecDepth 20000 in
set_option maxHeartbeats 4000000 in
theorem kt_X12_quarrels {l : Launch} {ad : Nat → Nat} {cid : Nat → ClassId} {D : va_G} (hL : lyOk ad)  (M : Mem) (x1 : Int32) (x2 : Int32) : Ct (qI ad cid) l ad cid D yX12_quarrels cX12_quarrels 3 (some .int) 2 43 [.ref (ad 109), .int x1, .int x2] M (fX12_quarrels M x1 x2) := by
  refine ct_of (own := RX12) (lv := [some (.ref (ad 109)), some (.int x1), some (.int x2)]) hL (by decide +kernel) rfl rfl (Nat.le_of_ble_eq_true rfl) (fun X hC => ?_)
  unfold fX12_quarrels
  refine j_aload_n (pc := 0) hC dX12_quarrels_0 rfl ?_
  refine j_iconst (pc := 1) hC dX12_quarrels_1 (v := 0) (by decide) ?_
  refine pX12_59 (pc := 2) hC dX12_quarrels_2 ?_
  refine j_aload_n (pc := 5) hC dX12_quarrels_5 rfl ?_
  refine j_iload_n (pc := 6) hC dX12_quarrels_6 rfl ?_
  refine j_bI (pc := 7) (run_V hC (st := []) (kt_X12_isPassenger hC.ly (sM M 109 0 (0 : Int32)) x1) vv_X12_isPassenger qw836 (by decide) sh_X12 rfl ⟨(Nat.le_of_ble_eq_true rfl), (Nat.le_of_ble_eq_true rfl)⟩ rfl rfl (Nat.le_of_ble_eq_true rfl) dX12_quarrels_7) (fun M1 r2 => ?_)
  refine j_if_eq (pc := 10) hC dX12_quarrels_10 (tgt := 26) (by decide) (fun hb3 => ?_) (fun hb3 => ?_)
  · refine j_iconst (pc := 26) hC dX12_quarrels_26 (v := (-1)) (by decide) ?_
    exact j_iret (pc := 27) hC dX12_quarrels_27
  · refine j_aload_n (pc := 13) hC dX12_quarrels_13 rfl ?_
    refine j_iload_n (pc := 14) hC dX12_quarrels_14 rfl ?_
    refine j_bI (pc := 15) (run_V hC (st := []) (kt_X12_isPassenger hC.ly M1 x2) vv_X12_isPassenger qw836 (by decide) sh_X12 rfl ⟨(Nat.le_of_ble_eq_true rfl), (Nat.le_of_ble_eq_true rfl)⟩ rfl rfl (Nat.le_of_ble_eq_true rfl) dX12_quarrels_15) (fun M4 r5 => ?_)
    refine j_if_eq (pc := 18) hC dX12_quarrels_18 (tgt := 26) (by decide) (fun hb6 => ?_) (fun hb6 => ?_)
    · refine j_iconst (pc := 26) hC dX12_quarrels_26 (v := (-1)) (by decide) ?_
      exact j_iret (pc := 27) hC dX12_quarrels_27
    · refine j_iload_n (pc := 21) hC dX12_quarrels_21 rfl ?_
      refine j_iload_n (pc := 22) hC dX12_quarrels_22 rfl ?_
      refine j_icmp_ne (pc := 23) hC dX12_quarrels_23 (tgt := 28) (by decide) (fun hb7 => ?_) (fun hb7 => ?_)
      · refine j_aload_n (pc := 28) hC dX12_quarrels_28 rfl ?_
        refine j_aload_n (pc := 29) hC dX12_quarrels_29 rfl ?_
        refine gX12_31 (pc := 30) hC dX12_quarrels_30 ?_
        refine j_bI (pc := 33) (run_V hC (st := []) (kt_X12_isOver hC.ly r_117 M4) vv_X12_isOver qw856 (by decide) sh_X12 rfl ⟨(Nat.le_of_ble_eq_true rfl), (Nat.le_of_ble_eq_true rfl)⟩ rfl rfl (Nat.le_of_ble_eq_true rfl) dX12_quarrels_33) (fun M8 r9 => ?_)
        refine j_if_eq (pc := 36) hC dX12_quarrels_36 (tgt := 42) (by decide) (fun hb10 => ?_) (fun hb10 => ?_)
        · refine j_aload_n (pc := 42) hC dX12_quarrels_42 rfl ?_
          refine j_bV (pc := 43) (run_V hC (st := []) (kt_X12_notes hC.ly M8) vv_X12_notes qw868 (by decide) sh_X12 rfl ⟨(Nat.le_of_ble_eq_true rfl), (Nat.le_of_ble_eq_true rfl)⟩ rfl rfl (Nat.le_of_ble_eq_true rfl) dX12_quarrels_43) (fun M11 => ?_)
          refine j_aload_n (pc := 46) hC dX12_quarrels_46 rfl ?_
          refine j_aload_n (pc := 47) hC dX12_quarrels_47 rfl ?_
          refine gX12_31 (pc := 48) hC dX12_quarrels_48 ?_
          refine j_iconst (pc := 51) hC dX12_quarrels_51 (v := 1) (by decide) ?_
          refine j_iload_n (pc := 52) hC dX12_quarrels_52 rfl ?_
          refine j_ishl (pc := 53) hC dX12_quarrels_53 ?_
          refine j_iconst (pc := 54) hC dX12_quarrels_54 (v := 1) (by decide) ?_
          refine j_iload_n (pc := 55) hC dX12_quarrels_55 rfl ?_
          refine j_ishl (pc := 56) hC dX12_quarrels_56 ?_
          refine j_ior (pc := 57) hC dX12_quarrels_57 ?_
          refine j_bV (pc := 58) (run_V hC (st := []) (kt_X12_speak hC.ly r_117 M11 (((1 : Int32) <<< (x1 &&& 31)) ||| ((1 : Int32) <<< (x2 &&& 31)))) vv_X12_speak qw880 (by decide) sh_X12 rfl ⟨(Nat.le_of_ble_eq_true rfl), (Nat.le_of_ble_eq_true rfl)⟩ rfl rfl (Nat.le_of_ble_eq_true rfl) dX12_quarrels_58) (fun M12 => ?_)
          refine j_aload_n (pc := 61) hC dX12_quarrels_61 rfl ?_
          refine j_aload_n (pc := 62) hC dX12_quarrels_62 rfl ?_
          refine gX12_31 (pc := 63) hC dX12_quarrels_63 ?_
          refine j_iconst (pc := 66) hC dX12_quarrels_66 (v := 2) (by decide) ?_
          refine j_ialdC (pc := 67) hC (n := 15) (e := 2) (by decide) rfl rfl (by decide) dX12_quarrels_67 ?_
          refine j_bI (pc := 68) (run_V hC (st := []) (kt_X12_pullOf hC.ly M12 (gM M12 117 2)) vv_X12_pullOf qw852 (by decide) sh_X12 rfl ⟨(Nat.le_of_ble_eq_true rfl), (Nat.le_of_ble_eq_true rfl)⟩ rfl rfl (Nat.le_of_ble_eq_true rfl) dX12_quarrels_68) (fun M13 r14 => ?_)
          exact j_iret (pc := 71) hC dX12_quarrels_71
        · refine j_bipush (pc := 39) hC dX12_quarrels_39 (v := (-2)) (by decide) ?_
          exact j_iret (pc := 41) hC dX12_quarrels_41
      · refine j_iconst (pc := 26) hC dX12_quarrels_26 (v := (-1)) (by decide) ?_
        exact j_iret (pc := 27) hC dX12_quarrels_27
/-! LastRowerModel.rate(II)I -/
set_option maxRecDepth 20000 in
set_option maxHeartbeats 4000000 in
theorem tsX12_rate_116 {X : Cx} {ad : Nat → Nat} {cid : Nat → ClassId} (hC : Ok X ad cid cX12_rate RX12 5 (some .int) 2 43)   (M : Mem) (x1 : Int32) (x2 : Int32) (x3 : Int32) (x4 : Int32) (s1 : Int64) (s2 : Int64)  : Jp X ad cid 5 (qm X ad (qI ad cid)) M 116 [some (.ref (ad 109)), some (.int x1), some (.int x2), some (.int x3), some (.int x4)] [.long s2, .long s1, .ref (ad 109)] (sX12_rate_116  M x1 x2 x3 x4 s1 s2) := by
  unfold sX12_rate_116
  refine j_ladd (pc := 116) hC dX12_rate_116 ?_
  refine pX12_175 (pc := 117) hC dX12_rate_117 ?_
  refine j_iload_n (pc := 120) hC dX12_rate_120 rfl ?_
  refine j_if_ne (pc := 121) hC dX12_rate_121 (tgt := 133) (by decide) (fun hb14 => ?_) (fun hb14 => ?_)
  · refine j_iload_n (pc := 133) hC dX12_rate_133 rfl ?_
    refine j_iconst (pc := 134) hC dX12_rate_134 (v := 1) (by decide) ?_
    refine j_icmp_ne (pc := 135) hC dX12_rate_135 (tgt := 142) (by decide) (fun hb15 => ?_) (fun hb15 => ?_)
    · refine j_iload_n (pc := 142) hC dX12_rate_142 rfl ?_
      refine j_iconst (pc := 143) hC dX12_rate_143 (v := 2) (by decide) ?_
      refine j_icmp_ne (pc := 144) hC dX12_rate_144 (tgt := 152) (by decide) (fun hb16 => ?_) (fun hb16 => ?_)
      · refine j_iload_n (pc := 152) hC dX12_rate_152 rfl ?_
        refine j_iconst (pc := 153) hC dX12_rate_153 (v := 3) (by decide) ?_
        refine j_icmp_ne (pc := 154) hC dX12_rate_154 (tgt := 163) (by decide) (fun hb17 => ?_) (fun hb17 => ?_)
        · refine j_iload_n (pc := 163) hC dX12_rate_163 rfl ?_
          refine j_iconst (pc := 164) hC dX12_rate_164 (v := 4) (by decide) ?_
          refine j_icmp_ne (pc := 165) hC dX12_rate_165 (tgt := 175) (by decide) (fun hb18 => ?_) (fun hb18 => ?_)
          · refine j_aload_n (pc := 175) hC dX12_rate_175 rfl ?_
            refine gX12_16 (pc := 176) hC dX12_rate_176 ?_
            refine j_iload_n (pc := 179) hC dX12_rate_179 rfl ?_
            refine j_ck (fun hi19 => ?_)
            refine j_iald (pc := 180) hC (n := 12) rfl rfl hi19 dX12_rate_180 ?_
            refine j_aload_n (pc := 181) hC dX12_rate_181 rfl ?_
            refine gX12_31 (pc := 182) hC dX12_rate_182 ?_
            refine j_bipush (pc := 185) hC dX12_rate_185 (v := 9) (by decide) ?_
            refine j_iload_n (pc := 187) hC dX12_rate_187 rfl ?_
            refine j_iadd (pc := 188) hC dX12_rate_188 ?_
            refine j_ck (fun hi20 => ?_)
            refine j_iald (pc := 189) hC (n := 15) rfl rfl hi20 dX12_rate_189 ?_
            refine j_iadd (pc := 190) hC dX12_rate_190 ?_
            exact j_iret (pc := 191) hC dX12_rate_191
          · refine j_iload (pc := 168) hC dX12_rate_168 rfl ?_
            refine j_iload_n (pc := 170) hC dX12_rate_170 rfl ?_
            refine j_iadd (pc := 171) hC dX12_rate_171 ?_
            refine j_goto (pc := 172) hC dX12_rate_172 (tgt := 191) (by decide) ?_
            exact j_iret (pc := 191) hC dX12_rate_191
        · refine j_iconst (pc := 157) hC dX12_rate_157 (v := 2) (by decide) ?_
          refine j_iload_n (pc := 158) hC dX12_rate_158 rfl ?_
          refine j_imul (pc := 159) hC dX12_rate_159 ?_
          refine j_goto (pc := 160) hC dX12_rate_160 (tgt := 191) (by decide) ?_
          exact j_iret (pc := 191) hC dX12_rate_191
      · refine j_iload (pc := 147) hC dX12_rate_147 rfl ?_
        refine j_goto (pc := 149) hC dX12_rate_149 (tgt := 191) (by decide) ?_
        exact j_iret (pc := 191) hC dX12_rate_191
    · refine j_iload_n (pc := 138) hC dX12_rate_138 rfl ?_
      refine j_goto (pc := 139) hC dX12_rate_139 (tgt := 191) (by decide) ?_
      exact j_iret (pc := 191) hC dX12_rate_191
  · refine j_aload_n (pc := 124) hC dX12_rate_124 rfl ?_
    refine gX12_16 (pc := 125) hC dX12_rate_125 ?_
    refine j_iload_n (pc := 128) hC dX12_rate_128 rfl ?_
    refine j_ck (fun hi21 => ?_)
    refine j_iald (pc := 129) hC (n := 12) rfl rfl hi21 dX12_rate_129 ?_
    refine j_goto (pc := 130) hC dX12_rate_130 (tgt := 191) (by decide) ?_
    exact j_iret (pc := 191) hC dX12_rate_191
set_option maxRecDepth 20000 in
set_option maxHeartbeats 4000000 in
theorem kt_X12_rate {l : Launch} {ad : Nat → Nat} {cid : Nat → ClassId} {D : va_G} (hL : lyOk ad)  (M : Mem) (x1 : Int32) (x2 : Int32) : Ct (qI ad cid) l ad cid D yX12_rate cX12_rate 5 (some .int) 2 43 [.ref (ad 109), .int x1, .int x2] M (fX12_rate M x1 x2) := by
  refine ct_of (own := RX12) (lv := [some (.ref (ad 109)), some (.int x1), some (.int x2), none, none]) hL (by decide +kernel) rfl rfl (Nat.le_of_ble_eq_true rfl) (fun X hC => ?_)
  unfold fX12_rate
  refine j_aload_n (pc := 0) hC dX12_rate_0 rfl ?_
  refine j_iconst (pc := 1) hC dX12_rate_1 (v := 0) (by decide) ?_
  refine pX12_59 (pc := 2) hC dX12_rate_2 ?_
  refine j_iload_n (pc := 5) hC dX12_rate_5 rfl ?_
  refine j_iconst (pc := 6) hC dX12_rate_6 (v := 0) (by decide) ?_
  refine j_iconst (pc := 7) hC dX12_rate_7 (v := 5) (by decide) ?_
  refine j_bI (pc := 8) (run_S hC (st := []) (kt_X12_in hC.ly (sM M 109 0 (0 : Int32)) x1 (0 : Int32) (5 : Int32)) vs_X12_in qw789 ⟨(Nat.le_of_ble_eq_true rfl), (Nat.le_of_ble_eq_true rfl)⟩ rfl rfl (Nat.le_of_ble_eq_true rfl) dX12_rate_8) (fun M1 r2 => ?_)
  refine j_if_eq (pc := 11) hC dX12_rate_11 (tgt := 22) (by decide) (fun hb3 => ?_) (fun hb3 => ?_)
  · refine j_ldc (pc := 22) hC qcX12_174 rfl dX12_rate_22 ?_
    exact j_iret (pc := 24) hC dX12_rate_24
  · refine j_aload_n (pc := 14) hC dX12_rate_14 rfl ?_
    refine j_iload_n (pc := 15) hC dX12_rate_15 rfl ?_
    refine j_bI (pc := 16) (run_V hC (st := []) (kt_X12_isPassenger hC.ly M1 x2) vv_X12_isPassenger qw836 (by decide) sh_X12 rfl ⟨(Nat.le_of_ble_eq_true rfl), (Nat.le_of_ble_eq_true rfl)⟩ rfl rfl (Nat.le_of_ble_eq_true rfl) dX12_rate_16) (fun M4 r5 => ?_)
    refine j_if_ne (pc := 19) hC dX12_rate_19 (tgt := 25) (by decide) (fun hb6 => ?_) (fun hb6 => ?_)
    · refine j_aload_n (pc := 25) hC dX12_rate_25 rfl ?_
      refine gX12_16 (pc := 26) hC dX12_rate_26 ?_
      refine j_iload_n (pc := 29) hC dX12_rate_29 rfl ?_
      refine j_ck (fun hi7 => ?_)
      refine j_iald (pc := 30) hC (n := 12) rfl rfl hi7 dX12_rate_30 ?_
      refine j_aload_n (pc := 31) hC dX12_rate_31 rfl ?_
      refine gX12_31 (pc := 32) hC dX12_rate_32 ?_
      refine j_iconst (pc := 35) hC dX12_rate_35 (v := 3) (by decide) ?_
      refine j_iload_n (pc := 36) hC dX12_rate_36 rfl ?_
      refine j_iadd (pc := 37) hC dX12_rate_37 ?_
      refine j_ck (fun hi8 => ?_)
      refine j_iald (pc := 38) hC (n := 15) rfl rfl hi8 dX12_rate_38 ?_
      refine j_iadd (pc := 39) hC dX12_rate_39 ?_
      refine j_istore_n (pc := 40) hC (lv' := [some (.ref (ad 109)), some (.int x1), some (.int x2), some (.int ((gM M4 112 x2.toNatClampNeg) + (gM M4 117 ((3 : Int32) + x2).toNatClampNeg))), none]) dX12_rate_40 (by decide) rfl rfl ?_
      refine j_aload_n (pc := 41) hC dX12_rate_41 rfl ?_
      refine gX12_16 (pc := 42) hC dX12_rate_42 ?_
      refine j_iload_n (pc := 45) hC dX12_rate_45 rfl ?_
      refine j_iald (pc := 46) hC (n := 12) rfl rfl hi7 dX12_rate_46 ?_
      refine j_aload_n (pc := 47) hC dX12_rate_47 rfl ?_
      refine gX12_19 (pc := 48) hC dX12_rate_48 ?_
      refine j_iload_n (pc := 51) hC dX12_rate_51 rfl ?_
      refine j_iald (pc := 52) hC (n := 12) rfl rfl hi7 dX12_rate_52 ?_
      refine j_isub (pc := 53) hC dX12_rate_53 ?_
      refine j_istore (pc := 54) hC (lv' := [some (.ref (ad 109)), some (.int x1), some (.int x2), some (.int ((gM M4 112 x2.toNatClampNeg) + (gM M4 117 ((3 : Int32) + x2).toNatClampNeg))), some (.int ((gM M4 112 x2.toNatClampNeg) - (gM M4 113 x2.toNatClampNeg)))]) dX12_rate_54 (by decide) rfl rfl ?_
      refine j_aload_n (pc := 56) hC dX12_rate_56 rfl ?_
      refine j_dup (pc := 57) hC dX12_rate_57 rfl ?_
      refine gX12_175 (pc := 58) hC dX12_rate_58 ?_
      refine j_iload_n (pc := 61) hC dX12_rate_61 rfl ?_
      refine j_if_ne (pc := 62) hC dX12_rate_62 (tgt := 69) (by decide) (fun hb9 => ?_) (fun hb9 => ?_)
      · refine j_iload_n (pc := 69) hC dX12_rate_69 rfl ?_
        refine j_iconst (pc := 70) hC dX12_rate_70 (v := 1) (by decide) ?_
        refine j_icmp_ne (pc := 71) hC dX12_rate_71 (tgt := 80) (by decide) (fun hb10 => ?_) (fun hb10 => ?_)
        · refine j_iload_n (pc := 80) hC dX12_rate_80 rfl ?_
          refine j_iconst (pc := 81) hC dX12_rate_81 (v := 2) (by decide) ?_
          refine j_icmp_ne (pc := 82) hC dX12_rate_82 (tgt := 91) (by decide) (fun hb11 => ?_) (fun hb11 => ?_)
          · refine j_iload_n (pc := 91) hC dX12_rate_91 rfl ?_
            refine j_iconst (pc := 92) hC dX12_rate_92 (v := 3) (by decide) ?_
            refine j_icmp_ne (pc := 93) hC dX12_rate_93 (tgt := 102) (by decide) (fun hb12 => ?_) (fun hb12 => ?_)
            · refine j_iload_n (pc := 102) hC dX12_rate_102 rfl ?_
              refine j_iconst (pc := 103) hC dX12_rate_103 (v := 4) (by decide) ?_
              refine j_icmp_ne (pc := 104) hC dX12_rate_104 (tgt := 113) (by decide) (fun hb13 => ?_) (fun hb13 => ?_)
              · refine j_ldc2 (pc := 113) hC qlX12_187 rfl dX12_rate_113 ?_
                exact tsX12_rate_116 hC M4 x1 x2 ((gM M4 112 x2.toNatClampNeg) + (gM M4 117 ((3 : Int32) + x2).toNatClampNeg)) ((gM M4 112 x2.toNatClampNeg) - (gM M4 113 x2.toNatClampNeg)) (gL M4 109) (100001 : Int64)
              · refine j_ldc2 (pc := 107) hC qlX12_185 rfl dX12_rate_107 ?_
                refine j_goto (pc := 110) hC dX12_rate_110 (tgt := 116) (by decide) ?_
                exact tsX12_rate_116 hC M4 x1 x2 ((gM M4 112 x2.toNatClampNeg) + (gM M4 117 ((3 : Int32) + x2).toNatClampNeg)) ((gM M4 112 x2.toNatClampNeg) - (gM M4 113 x2.toNatClampNeg)) (gL M4 109) (10101 : Int64)
            · refine j_ldc2 (pc := 96) hC qlX12_183 rfl dX12_rate_96 ?_
              refine j_goto (pc := 99) hC dX12_rate_99 (tgt := 116) (by decide) ?_
              exact tsX12_rate_116 hC M4 x1 x2 ((gM M4 112 x2.toNatClampNeg) + (gM M4 117 ((3 : Int32) + x2).toNatClampNeg)) ((gM M4 112 x2.toNatClampNeg) - (gM M4 113 x2.toNatClampNeg)) (gL M4 109) (1011 : Int64)
          · refine j_ldc2 (pc := 85) hC qlX12_181 rfl dX12_rate_85 ?_
            refine j_goto (pc := 88) hC dX12_rate_88 (tgt := 116) (by decide) ?_
            exact tsX12_rate_116 hC M4 x1 x2 ((gM M4 112 x2.toNatClampNeg) + (gM M4 117 ((3 : Int32) + x2).toNatClampNeg)) ((gM M4 112 x2.toNatClampNeg) - (gM M4 113 x2.toNatClampNeg)) (gL M4 109) (101 : Int64)
        · refine j_ldc2 (pc := 74) hC qlX12_179 rfl dX12_rate_74 ?_
          refine j_goto (pc := 77) hC dX12_rate_77 (tgt := 116) (by decide) ?_
          exact tsX12_rate_116 hC M4 x1 x2 ((gM M4 112 x2.toNatClampNeg) + (gM M4 117 ((3 : Int32) + x2).toNatClampNeg)) ((gM M4 112 x2.toNatClampNeg) - (gM M4 113 x2.toNatClampNeg)) (gL M4 109) (11 : Int64)
      · refine j_lconst (pc := 65) hC dX12_rate_65 (v := 1) (by decide) ?_
        refine j_goto (pc := 66) hC dX12_rate_66 (tgt := 116) (by decide) ?_
        exact tsX12_rate_116 hC M4 x1 x2 ((gM M4 112 x2.toNatClampNeg) + (gM M4 117 ((3 : Int32) + x2).toNatClampNeg)) ((gM M4 112 x2.toNatClampNeg) - (gM M4 113 x2.toNatClampNeg)) (gL M4 109) (1 : Int64)
    · refine j_ldc (pc := 22) hC qcX12_174 rfl dX12_rate_22 ?_
      exact j_iret (pc := 24) hC dX12_rate_24
/-! LastRowerModel.ring()I -/
set_option maxRecDepth 20000 in
set_option maxHeartbeats 4000000 in
theorem tsX12_ring_67 {X : Cx} {ad : Nat → Nat} {cid : Nat → ClassId} (hC : Ok X ad cid cX12_ring RX12 4 (some .int) 2 46) {rec11 : Mem → Int32 → Option (Mem × Int32)} (hrec11 : ∀ (M : Mem) (x1 : Int32), Jp X ad cid 4 (qm X ad (qI ad cid)) M 11 [some (.ref (ad 109)), some (.int x1), none, none] [] (rec11 M x1))  (M : Mem) (x1 : Int32) (x2 : Int32)  : Jp X ad cid 4 (qm X ad (qI ad cid)) M 67 [some (.ref (ad 109)), some (.int x1), some (.int x2), none] [] (sX12_ring_67 rec11 M x1 x2) := by
  unfold sX12_ring_67
  refine j_iload_n (pc := 67) hC dX12_ring_67 rfl ?_
  refine j_if_eq (pc := 68) hC dX12_ring_68 (tgt := 73) (by decide) (fun hb8 => ?_) (fun hb8 => ?_)
  · refine j_iinc (pc := 73) hC (lv' := [some (.ref (ad 109)), some (.int (x1 + 1)), some (.int x2), none]) dX12_ring_73 rfl (v := 1) (by decide) (by decide) rfl rfl ?_
    refine j_goto (pc := 76) hC dX12_ring_76 (tgt := 11) (by decide) ?_
    refine j_mask [true, true, false, false] (lv' := [some (.ref (ad 109)), some (.int (x1 + 1)), none, none]) rfl ?_
    exact hrec11 M (x1 + 1)
  · refine j_iload_n (pc := 71) hC dX12_ring_71 rfl ?_
    exact j_iret (pc := 72) hC dX12_ring_72
set_option maxRecDepth 20000 in
set_option maxHeartbeats 4000000 in
theorem tsX12_ring_59 {X : Cx} {ad : Nat → Nat} {cid : Nat → ClassId} (hC : Ok X ad cid cX12_ring RX12 4 (some .int) 2 46) {rec30 : Mem → Int32 → Int32 → Int32 → Option (Mem × Int32)} (hrec30 : ∀ (M : Mem) (x1 : Int32) (x2 : Int32) (x3 : Int32), Jp X ad cid 4 (qm X ad (qI ad cid)) M 30 [some (.ref (ad 109)), some (.int x1), some (.int x2), some (.int x3)] [] (rec30 M x1 x2 x3))  (M : Mem) (x1 : Int32) (x3 : Int32)  : Jp X ad cid 4 (qm X ad (qI ad cid)) M 59 [some (.ref (ad 109)), some (.int x1), none, some (.int x3)] [] (sX12_ring_59 rec30 M x1 x3) := by
  unfold sX12_ring_59
  refine j_iconst (pc := 59) hC dX12_ring_59 (v := 0) (by decide) ?_
  refine j_istore_n (pc := 60) hC (lv' := [some (.ref (ad 109)), some (.int x1), some (.int (0 : Int32)), some (.int x3)]) dX12_ring_60 (by decide) rfl rfl ?_
  refine j_iinc (pc := 61) hC (lv' := [some (.ref (ad 109)), some (.int x1), some (.int (0 : Int32)), some (.int (x3 + 1))]) dX12_ring_61 rfl (v := 1) (by decide) (by decide) rfl rfl ?_
  refine j_goto (pc := 64) hC dX12_ring_64 (tgt := 30) (by decide) ?_
  exact hrec30 M x1 (0 : Int32) (x3 + 1)
set_option maxRecDepth 20000 in
set_option maxHeartbeats 4000000 in
theorem tsX12_ring_30 {X : Cx} {ad : Nat → Nat} {cid : Nat → ClassId} (hC : Ok X ad cid cX12_ring RX12 4 (some .int) 2 46) {rec11 : Mem → Int32 → Option (Mem × Int32)} (hrec11 : ∀ (M : Mem) (x1 : Int32), Jp X ad cid 4 (qm X ad (qI ad cid)) M 11 [some (.ref (ad 109)), some (.int x1), none, none] [] (rec11 M x1)) {rec30 : Mem → Int32 → Int32 → Int32 → Option (Mem × Int32)} (hrec30 : ∀ (M : Mem) (x1 : Int32) (x2 : Int32) (x3 : Int32), Jp X ad cid 4 (qm X ad (qI ad cid)) M 30 [some (.ref (ad 109)), some (.int x1), some (.int x2), some (.int x3)] [] (rec30 M x1 x2 x3)) (M : Mem) (x1 : Int32) (x2 : Int32) (x3 : Int32)  : Jp X ad cid 4 (qm X ad (qI ad cid)) M 30 [some (.ref (ad 109)), some (.int x1), some (.int x2), some (.int x3)] [] (sX12_ring_30 rec11 rec30 M x1 x2 x3) := by
  unfold sX12_ring_30
  refine j_iload_n (pc := 30) hC dX12_ring_30 rfl ?_
  refine j_bipush (pc := 31) hC dX12_ring_31 (v := 9) (by decide) ?_
  refine j_icmp_ge (pc := 33) hC dX12_ring_33 (tgt := 67) (by decide) (fun hb4 => ?_) (fun hb4 => ?_)
  · refine j_mask [true, true, true, false] (lv' := [some (.ref (ad 109)), some (.int x1), some (.int x2), none]) rfl ?_
    exact tsX12_ring_67 hC hrec11 M x1 x2
  · refine j_iload_n (pc := 36) hC dX12_ring_36 rfl ?_
    refine j_if_eq (pc := 37) hC dX12_ring_37 (tgt := 59) (by decide) (fun hb5 => ?_) (fun hb5 => ?_)
    · refine j_mask [true, true, false, true] (lv' := [some (.ref (ad 109)), some (.int x1), none, some (.int x3)]) rfl ?_
      exact tsX12_ring_59 hC hrec30 M x1 x3
    · refine j_aload_n (pc := 40) hC dX12_ring_40 rfl ?_
      refine gX12_34 (pc := 41) hC dX12_ring_41 ?_
      refine j_iload_n (pc := 44) hC dX12_ring_44 rfl ?_
      refine j_ck (fun hi6 => ?_)
      refine j_iald (pc := 45) hC (n := 15) rfl rfl hi6 dX12_ring_45 ?_
      refine j_aload_n (pc := 46) hC dX12_ring_46 rfl ?_
      refine gX12_31 (pc := 47) hC dX12_ring_47 ?_
      refine j_iload_n (pc := 50) hC dX12_ring_50 rfl ?_
      refine j_iald (pc := 51) hC (n := 15) rfl rfl hi6 dX12_ring_51 ?_
      refine j_icmp_ne (pc := 52) hC dX12_ring_52 (tgt := 59) (by decide) (fun hb7 => ?_) (fun hb7 => ?_)
      · refine j_mask [true, true, false, true] (lv' := [some (.ref (ad 109)), some (.int x1), none, some (.int x3)]) rfl ?_
        exact tsX12_ring_59 hC hrec30 M x1 x3
      · refine j_iconst (pc := 55) hC dX12_ring_55 (v := 1) (by decide) ?_
        refine j_goto (pc := 56) hC dX12_ring_56 (tgt := 60) (by decide) ?_
        refine j_istore_n (pc := 60) hC (lv' := [some (.ref (ad 109)), some (.int x1), some (.int (1 : Int32)), some (.int x3)]) dX12_ring_60 (by decide) rfl rfl ?_
        refine j_iinc (pc := 61) hC (lv' := [some (.ref (ad 109)), some (.int x1), some (.int (1 : Int32)), some (.int (x3 + 1))]) dX12_ring_61 rfl (v := 1) (by decide) (by decide) rfl rfl ?_
        refine j_goto (pc := 64) hC dX12_ring_64 (tgt := 30) (by decide) ?_
        exact hrec30 M x1 (1 : Int32) (x3 + 1)
theorem tlX12_ring_30 {X : Cx} {ad : Nat → Nat} {cid : Nat → ClassId} (hC : Ok X ad cid cX12_ring RX12 4 (some .int) 2 46) {rec11 : Mem → Int32 → Option (Mem × Int32)} (hrec11 : ∀ (M : Mem) (x1 : Int32), Jp X ad cid 4 (qm X ad (qI ad cid)) M 11 [some (.ref (ad 109)), some (.int x1), none, none] [] (rec11 M x1))  : ∀ (n : Nat) (M : Mem) (x1 : Int32) (x2 : Int32) (x3 : Int32), Jp X ad cid 4 (qm X ad (qI ad cid)) M 30 [some (.ref (ad 109)), some (.int x1), some (.int x2), some (.int x3)] [] (lX12_ring_30 rec11 n M x1 x2 x3) := by
  intro n
  induction n with
  | zero => intros; exact j_none
  | succ n ih => exact tsX12_ring_30 hC hrec11  ih
set_option maxRecDepth 20000 in
set_option maxHeartbeats 4000000 in
theorem tsX12_ring_11 {X : Cx} {ad : Nat → Nat} {cid : Nat → ClassId} (hC : Ok X ad cid cX12_ring RX12 4 (some .int) 2 46)  {rec11 : Mem → Int32 → Option (Mem × Int32)} (hrec11 : ∀ (M : Mem) (x1 : Int32), Jp X ad cid 4 (qm X ad (qI ad cid)) M 11 [some (.ref (ad 109)), some (.int x1), none, none] [] (rec11 M x1)) (M : Mem) (x1 : Int32)  : Jp X ad cid 4 (qm X ad (qI ad cid)) M 11 [some (.ref (ad 109)), some (.int x1), none, none] [] (sX12_ring_11  rec11 M x1) := by
  unfold sX12_ring_11
  refine j_iload_n (pc := 11) hC dX12_ring_11 rfl ?_
  refine j_sipush (pc := 12) hC dX12_ring_12 (v := 400) (by decide) ?_
  refine j_icmp_gt (pc := 15) hC dX12_ring_15 (tgt := 79) (by decide) (fun hb2 => ?_) (fun hb2 => ?_)
  · refine j_bipush (pc := 79) hC dX12_ring_79 (v := (-9)) (by decide) ?_
    exact j_iret (pc := 81) hC dX12_ring_81
  · refine j_aload_n (pc := 18) hC dX12_ring_18 rfl ?_
    refine j_aload_n (pc := 19) hC dX12_ring_19 rfl ?_
    refine gX12_34 (pc := 20) hC dX12_ring_20 ?_
    refine j_bV (pc := 23) (run_V hC (st := []) (kt_X12_hushes hC.ly r_118 M) vv_X12_hushes qw876 (by decide) sh_X12 rfl ⟨(Nat.le_of_ble_eq_true rfl), (Nat.le_of_ble_eq_true rfl)⟩ rfl rfl (Nat.le_of_ble_eq_true rfl) dX12_ring_23) (fun M3 => ?_)
    refine j_iconst (pc := 26) hC dX12_ring_26 (v := 1) (by decide) ?_
    refine j_istore_n (pc := 27) hC (lv' := [some (.ref (ad 109)), some (.int x1), some (.int (1 : Int32)), none]) dX12_ring_27 (by decide) rfl rfl ?_
    refine j_iconst (pc := 28) hC dX12_ring_28 (v := 2) (by decide) ?_
    refine j_istore_n (pc := 29) hC (lv' := [some (.ref (ad 109)), some (.int x1), some (.int (1 : Int32)), some (.int (2 : Int32))]) dX12_ring_29 (by decide) rfl rfl ?_
    exact tlX12_ring_30 hC hrec11 fuel M3 x1 (1 : Int32) (2 : Int32)
theorem tlX12_ring_11 {X : Cx} {ad : Nat → Nat} {cid : Nat → ClassId} (hC : Ok X ad cid cX12_ring RX12 4 (some .int) 2 46)   : ∀ (n : Nat) (M : Mem) (x1 : Int32), Jp X ad cid 4 (qm X ad (qI ad cid)) M 11 [some (.ref (ad 109)), some (.int x1), none, none] [] (lX12_ring_11  n M x1) := by
  intro n
  induction n with
  | zero => intros; exact j_none
  | succ n ih => exact tsX12_ring_11 hC   ih
set_option maxRecDepth 20000 in
set_option maxHeartbeats 4000000 in
theorem kt_X12_ring {l : Launch} {ad : Nat → Nat} {cid : Nat → ClassId} {D : va_G} (hL : lyOk ad)  (M : Mem)  : Ct (qI ad cid) l ad cid D yX12_ring cX12_ring 4 (some .int) 2 46 [.ref (ad 109)] M (fX12_ring M ) := by
  refine ct_of (own := RX12) (lv := [some (.ref (ad 109)), none, none, none]) hL (by decide +kernel) rfl rfl (Nat.le_of_ble_eq_true rfl) (fun X hC => ?_)
  unfold fX12_ring
  refine j_aload_n (pc := 0) hC dX12_ring_0 rfl ?_
  refine j_iconst (pc := 1) hC dX12_ring_1 (v := 0) (by decide) ?_
  refine pX12_59 (pc := 2) hC dX12_ring_2 ?_
  refine j_aload_n (pc := 5) hC dX12_ring_5 rfl ?_
  refine j_bV (pc := 6) (run_V hC (st := []) (kt_X12_asNow hC.ly (sM M 109 0 (0 : Int32))) vv_X12_asNow qw904 (by decide) sh_X12 rfl ⟨(Nat.le_of_ble_eq_true rfl), (Nat.le_of_ble_eq_true rfl)⟩ rfl rfl (Nat.le_of_ble_eq_true rfl) dX12_ring_6) (fun M1 => ?_)
  refine j_iconst (pc := 9) hC dX12_ring_9 (v := 1) (by decide) ?_
  refine j_istore_n (pc := 10) hC (lv' := [some (.ref (ad 109)), some (.int (1 : Int32)), none, none]) dX12_ring_10 (by decide) rfl rfl ?_
  exact tlX12_ring_11 hC fuel M1 (1 : Int32)
/-! LastRowerModel.seen(II)I -/
set_option maxRecDepth 20000 in
set_option maxHeartbeats 4000000 in
theorem kt_X12_seen {l : Launch} {ad : Nat → Nat} {cid : Nat → ClassId} {D : va_G} (hL : lyOk ad)  (M : Mem) (x1 : Int32) (x2 : Int32) : Ct (qI ad cid) l ad cid D yX12_seen cX12_seen 3 (some .int) 1 22 [.ref (ad 109), .int x1, .int x2] M (fX12_seen M x1 x2) := by
  refine ct_of (own := RX12) (lv := [some (.ref (ad 109)), some (.int x1), some (.int x2)]) hL (by decide +kernel) rfl rfl (Nat.le_of_ble_eq_true rfl) (fun X hC => ?_)
  unfold fX12_seen
  refine j_aload_n (pc := 0) hC dX12_seen_0 rfl ?_
  refine j_iconst (pc := 1) hC dX12_seen_1 (v := 0) (by decide) ?_
  refine pX12_59 (pc := 2) hC dX12_seen_2 ?_
  refine j_iload_n (pc := 5) hC dX12_seen_5 rfl ?_
  refine j_iconst (pc := 6) hC dX12_seen_6 (v := 0) (by decide) ?_
  refine j_bipush (pc := 7) hC dX12_seen_7 (v := 60) (by decide) ?_
  refine j_bI (pc := 9) (run_S hC (st := []) (kt_X12_in hC.ly (sM M 109 0 (0 : Int32)) x1 (0 : Int32) (60 : Int32)) vs_X12_in qw789 ⟨(Nat.le_of_ble_eq_true rfl), (Nat.le_of_ble_eq_true rfl)⟩ rfl rfl (Nat.le_of_ble_eq_true rfl) dX12_seen_9) (fun M1 r2 => ?_)
  refine j_if_eq (pc := 12) hC dX12_seen_12 (tgt := 33) (by decide) (fun hb3 => ?_) (fun hb3 => ?_)
  · refine j_iconst (pc := 33) hC dX12_seen_33 (v := (-1)) (by decide) ?_
    exact j_iret (pc := 34) hC dX12_seen_34
  · refine j_iload_n (pc := 15) hC dX12_seen_15 rfl ?_
    refine j_iconst (pc := 16) hC dX12_seen_16 (v := 0) (by decide) ?_
    refine j_iconst (pc := 17) hC dX12_seen_17 (v := 1) (by decide) ?_
    refine j_aload_n (pc := 18) hC dX12_seen_18 rfl ?_
    refine gX12_13 (pc := 19) hC dX12_seen_19 ?_
    refine j_iconst (pc := 22) hC dX12_seen_22 (v := 0) (by decide) ?_
    refine j_ialdC (pc := 23) hC (n := 6) (e := 0) (by decide) rfl rfl (by decide) dX12_seen_23 ?_
    refine j_ishl (pc := 24) hC dX12_seen_24 ?_
    refine j_iconst (pc := 25) hC dX12_seen_25 (v := 1) (by decide) ?_
    refine j_isub (pc := 26) hC dX12_seen_26 ?_
    refine j_bI (pc := 27) (run_S hC (st := []) (kt_X12_in hC.ly M1 x2 (0 : Int32) (((1 : Int32) <<< ((gM M1 111 0) &&& 31)) - (1 : Int32))) vs_X12_in qw789 ⟨(Nat.le_of_ble_eq_true rfl), (Nat.le_of_ble_eq_true rfl)⟩ rfl rfl (Nat.le_of_ble_eq_true rfl) dX12_seen_27) (fun M4 r5 => ?_)
    refine j_if_ne (pc := 30) hC dX12_seen_30 (tgt := 35) (by decide) (fun hb6 => ?_) (fun hb6 => ?_)
    · refine j_aload_n (pc := 35) hC dX12_seen_35 rfl ?_
      refine gX12_118 (pc := 36) hC dX12_seen_36 ?_
      refine j_iconst (pc := 39) hC dX12_seen_39 (v := 5) (by decide) ?_
      refine j_icmp_ne (pc := 40) hC dX12_seen_40 (tgt := 46) (by decide) (fun hb7 => ?_) (fun hb7 => ?_)
      · refine j_aload_n (pc := 46) hC dX12_seen_46 rfl ?_
        refine gX12_47 (pc := 47) hC dX12_seen_47 ?_
        refine j_aload_n (pc := 50) hC dX12_seen_50 rfl ?_
        refine gX12_118 (pc := 51) hC dX12_seen_51 ?_
        refine j_iload_n (pc := 54) hC dX12_seen_54 rfl ?_
        refine j_ck (fun hi8 => ?_)
        refine j_iast (pc := 55) hC (n := 5) rfl rfl hi8 dX12_seen_55 ?_
        refine j_aload_n (pc := 56) hC dX12_seen_56 rfl ?_
        refine gX12_50 (pc := 57) hC dX12_seen_57 ?_
        refine j_aload_n (pc := 60) hC dX12_seen_60 rfl ?_
        refine gX12_118 (pc := 61) hC dX12_seen_61 ?_
        refine j_iload_n (pc := 64) hC dX12_seen_64 rfl ?_
        refine j_ck (fun hi9 => ?_)
        refine j_iast (pc := 65) hC (n := 5) rfl rfl hi9 dX12_seen_65 ?_
        refine j_aload_n (pc := 66) hC dX12_seen_66 rfl ?_
        refine j_dup (pc := 67) hC dX12_seen_67 rfl ?_
        refine gX12_118 (pc := 68) hC dX12_seen_68 ?_
        refine j_iconst (pc := 71) hC dX12_seen_71 (v := 1) (by decide) ?_
        refine j_iadd (pc := 72) hC dX12_seen_72 ?_
        refine pX12_118 (pc := 73) hC dX12_seen_73 ?_
        refine j_aload_n (pc := 76) hC dX12_seen_76 rfl ?_
        refine gX12_118 (pc := 77) hC dX12_seen_77 ?_
        exact j_iret (pc := 80) hC dX12_seen_80
      · refine j_bipush (pc := 43) hC dX12_seen_43 (v := (-3)) (by decide) ?_
        exact j_iret (pc := 45) hC dX12_seen_45
    · refine j_iconst (pc := 33) hC dX12_seen_33 (v := (-1)) (by decide) ?_
      exact j_iret (pc := 34) hC dX12_seen_34
/-! LastRowerModel.sings(I)I -/
set_option maxRecDepth 20000 in
set_option maxHeartbeats 4000000 in
theorem tsX12_sings_56 {X : Cx} {ad : Nat → Nat} {cid : Nat → ClassId} (hC : Ok X ad cid cX12_sings RX12 4 (some .int) 1 26)   (M : Mem) (x2 : Int32)  : Jp X ad cid 4 (qm X ad (qI ad cid)) M 56 [some (.ref (ad 109)), none, some (.int x2), none] [] (sX12_sings_56  M x2) := by
  unfold sX12_sings_56
  refine j_aload_n (pc := 56) hC dX12_sings_56 rfl ?_
  refine j_aload_n (pc := 57) hC dX12_sings_57 rfl ?_
  refine gX12_31 (pc := 58) hC dX12_sings_58 ?_
  refine j_bI (pc := 61) (run_V hC (st := []) (kt_X12_isOver hC.ly r_117 M) vv_X12_isOver qw856 (by decide) sh_X12 rfl ⟨(Nat.le_of_ble_eq_true rfl), (Nat.le_of_ble_eq_true rfl)⟩ rfl rfl (Nat.le_of_ble_eq_true rfl) dX12_sings_61) (fun M7 r8 => ?_)
  refine j_if_ne (pc := 64) hC dX12_sings_64 (tgt := 71) (by decide) (fun hb9 => ?_) (fun hb9 => ?_)
  · refine j_bipush (pc := 71) hC dX12_sings_71 (v := (-2)) (by decide) ?_
    exact j_iret (pc := 73) hC dX12_sings_73
  · refine j_iload_n (pc := 67) hC dX12_sings_67 rfl ?_
    refine j_if_ne (pc := 68) hC dX12_sings_68 (tgt := 74) (by decide) (fun hb10 => ?_) (fun hb10 => ?_)
    · refine j_aload_n (pc := 74) hC dX12_sings_74 rfl ?_
      refine j_bV (pc := 75) (run_V hC (st := []) (kt_X12_notes hC.ly M7) vv_X12_notes qw868 (by decide) sh_X12 rfl ⟨(Nat.le_of_ble_eq_true rfl), (Nat.le_of_ble_eq_true rfl)⟩ rfl rfl (Nat.le_of_ble_eq_true rfl) dX12_sings_75) (fun M11 => ?_)
      refine j_aload_n (pc := 78) hC dX12_sings_78 rfl ?_
      refine j_aload_n (pc := 79) hC dX12_sings_79 rfl ?_
      refine gX12_31 (pc := 80) hC dX12_sings_80 ?_
      refine j_iload_n (pc := 83) hC dX12_sings_83 rfl ?_
      refine j_bV (pc := 84) (run_V hC (st := []) (kt_X12_speak hC.ly r_117 M11 x2) vv_X12_speak qw880 (by decide) sh_X12 rfl ⟨(Nat.le_of_ble_eq_true rfl), (Nat.le_of_ble_eq_true rfl)⟩ rfl rfl (Nat.le_of_ble_eq_true rfl) dX12_sings_84) (fun M12 => ?_)
      refine j_aload_n (pc := 87) hC dX12_sings_87 rfl ?_
      refine j_iload_n (pc := 88) hC dX12_sings_88 rfl ?_
      refine j_bI (pc := 89) (run_V hC (st := []) (kt_X12_pullOf hC.ly M12 x2) vv_X12_pullOf qw852 (by decide) sh_X12 rfl ⟨(Nat.le_of_ble_eq_true rfl), (Nat.le_of_ble_eq_true rfl)⟩ rfl rfl (Nat.le_of_ble_eq_true rfl) dX12_sings_89) (fun M13 r14 => ?_)
      exact j_iret (pc := 92) hC dX12_sings_92
    · refine j_bipush (pc := 71) hC dX12_sings_71 (v := (-2)) (by decide) ?_
      exact j_iret (pc := 73) hC dX12_sings_73
set_option maxRecDepth 20000 in
set_option maxHeartbeats 4000000 in
theorem tsX12_sings_48 {X : Cx} {ad : Nat → Nat} {cid : Nat → ClassId} (hC : Ok X ad cid cX12_sings RX12 4 (some .int) 1 26) {rec20 : Mem → Int32 → Int32 → Int32 → Option (Mem × Int32)} (hrec20 : ∀ (M : Mem) (x1 : Int32) (x2 : Int32) (x3 : Int32), Jp X ad cid 4 (qm X ad (qI ad cid)) M 20 [some (.ref (ad 109)), some (.int x1), some (.int x2), some (.int x3)] [] (rec20 M x1 x2 x3))  (M : Mem) (x1 : Int32) (x3 : Int32) (s0 : Int32) (s1 : Int32)  : Jp X ad cid 4 (qm X ad (qI ad cid)) M 48 [some (.ref (ad 109)), some (.int x1), none, some (.int x3)] [.int s1, .int s0] (sX12_sings_48 rec20 M x1 x3 s0 s1) := by
  unfold sX12_sings_48
  refine j_ior (pc := 48) hC dX12_sings_48 ?_
  refine j_istore_n (pc := 49) hC (lv' := [some (.ref (ad 109)), some (.int x1), some (.int (s0 ||| s1)), some (.int x3)]) dX12_sings_49 (by decide) rfl rfl ?_
  refine j_iinc (pc := 50) hC (lv' := [some (.ref (ad 109)), some (.int x1), some (.int (s0 ||| s1)), some (.int (x3 + 1))]) dX12_sings_50 rfl (v := 1) (by decide) (by decide) rfl rfl ?_
  refine j_goto (pc := 53) hC dX12_sings_53 (tgt := 20) (by decide) ?_
  exact hrec20 M x1 (s0 ||| s1) (x3 + 1)
set_option maxRecDepth 20000 in
set_option maxHeartbeats 4000000 in
theorem tsX12_sings_20 {X : Cx} {ad : Nat → Nat} {cid : Nat → ClassId} (hC : Ok X ad cid cX12_sings RX12 4 (some .int) 1 26)  {rec20 : Mem → Int32 → Int32 → Int32 → Option (Mem × Int32)} (hrec20 : ∀ (M : Mem) (x1 : Int32) (x2 : Int32) (x3 : Int32), Jp X ad cid 4 (qm X ad (qI ad cid)) M 20 [some (.ref (ad 109)), some (.int x1), some (.int x2), some (.int x3)] [] (rec20 M x1 x2 x3)) (M : Mem) (x1 : Int32) (x2 : Int32) (x3 : Int32)  : Jp X ad cid 4 (qm X ad (qI ad cid)) M 20 [some (.ref (ad 109)), some (.int x1), some (.int x2), some (.int x3)] [] (sX12_sings_20  rec20 M x1 x2 x3) := by
  unfold sX12_sings_20
  refine j_iload_n (pc := 20) hC dX12_sings_20 rfl ?_
  refine j_aload_n (pc := 21) hC dX12_sings_21 rfl ?_
  refine gX12_13 (pc := 22) hC dX12_sings_22 ?_
  refine j_iconst (pc := 25) hC dX12_sings_25 (v := 0) (by decide) ?_
  refine j_ialdC (pc := 26) hC (n := 6) (e := 0) (by decide) rfl rfl (by decide) dX12_sings_26 ?_
  refine j_icmp_ge (pc := 27) hC dX12_sings_27 (tgt := 56) (by decide) (fun hb4 => ?_) (fun hb4 => ?_)
  · refine j_mask [true, false, true, false] (lv' := [some (.ref (ad 109)), none, some (.int x2), none]) rfl ?_
    exact tsX12_sings_56 hC M x2
  · refine j_iload_n (pc := 30) hC dX12_sings_30 rfl ?_
    refine j_aload_n (pc := 31) hC dX12_sings_31 rfl ?_
    refine gX12_22 (pc := 32) hC dX12_sings_32 ?_
    refine j_iload_n (pc := 35) hC dX12_sings_35 rfl ?_
    refine j_ck (fun hi5 => ?_)
    refine j_iald (pc := 36) hC (n := 12) rfl rfl hi5 dX12_sings_36 ?_
    refine j_iload_n (pc := 37) hC dX12_sings_37 rfl ?_
    refine j_icmp_ne (pc := 38) hC dX12_sings_38 (tgt := 47) (by decide) (fun hb6 => ?_) (fun hb6 => ?_)
    · refine j_iconst (pc := 47) hC dX12_sings_47 (v := 0) (by decide) ?_
      refine j_mask [true, true, false, true] (lv' := [some (.ref (ad 109)), some (.int x1), none, some (.int x3)]) rfl ?_
      exact tsX12_sings_48 hC hrec20 M x1 x3 x2 (0 : Int32)
    · refine j_iconst (pc := 41) hC dX12_sings_41 (v := 1) (by decide) ?_
      refine j_iload_n (pc := 42) hC dX12_sings_42 rfl ?_
      refine j_ishl (pc := 43) hC dX12_sings_43 ?_
      refine j_goto (pc := 44) hC dX12_sings_44 (tgt := 48) (by decide) ?_
      refine j_mask [true, true, false, true] (lv' := [some (.ref (ad 109)), some (.int x1), none, some (.int x3)]) rfl ?_
      exact tsX12_sings_48 hC hrec20 M x1 x3 x2 ((1 : Int32) <<< (x3 &&& 31))
theorem tlX12_sings_20 {X : Cx} {ad : Nat → Nat} {cid : Nat → ClassId} (hC : Ok X ad cid cX12_sings RX12 4 (some .int) 1 26)   : ∀ (n : Nat) (M : Mem) (x1 : Int32) (x2 : Int32) (x3 : Int32), Jp X ad cid 4 (qm X ad (qI ad cid)) M 20 [some (.ref (ad 109)), some (.int x1), some (.int x2), some (.int x3)] [] (lX12_sings_20  n M x1 x2 x3) := by
  intro n
  induction n with
  | zero => intros; exact j_none
  | succ n ih => exact tsX12_sings_20 hC   ih
set_option maxRecDepth 20000 in
set_option maxHeartbeats 4000000 in
theorem kt_X12_sings {l : Launch} {ad : Nat → Nat} {cid : Nat → ClassId} {D : va_G} (hL : lyOk ad)  (M : Mem) (x1 : Int32) : Ct (qI ad cid) l ad cid D yX12_sings cX12_sings 4 (some .int) 1 26 [.ref (ad 109), .int x1] M (fX12_sings M x1) := by
  refine ct_of (own := RX12) (lv := [some (.ref (ad 109)), some (.int x1), none, none]) hL (by decide +kernel) rfl rfl (Nat.le_of_ble_eq_true rfl) (fun X hC => ?_)
  unfold fX12_sings
  refine j_aload_n (pc := 0) hC dX12_sings_0 rfl ?_
  refine j_iconst (pc := 1) hC dX12_sings_1 (v := 0) (by decide) ?_
  refine pX12_59 (pc := 2) hC dX12_sings_2 ?_
  refine j_iload_n (pc := 5) hC dX12_sings_5 rfl ?_
  refine j_iconst (pc := 6) hC dX12_sings_6 (v := 1) (by decide) ?_
  refine j_iconst (pc := 7) hC dX12_sings_7 (v := 3) (by decide) ?_
  refine j_bI (pc := 8) (run_S hC (st := []) (kt_X12_in hC.ly (sM M 109 0 (0 : Int32)) x1 (1 : Int32) (3 : Int32)) vs_X12_in qw789 ⟨(Nat.le_of_ble_eq_true rfl), (Nat.le_of_ble_eq_true rfl)⟩ rfl rfl (Nat.le_of_ble_eq_true rfl) dX12_sings_8) (fun M1 r2 => ?_)
  refine j_if_ne (pc := 11) hC dX12_sings_11 (tgt := 16) (by decide) (fun hb3 => ?_) (fun hb3 => ?_)
  · refine j_iconst (pc := 16) hC dX12_sings_16 (v := 0) (by decide) ?_
    refine j_istore_n (pc := 17) hC (lv' := [some (.ref (ad 109)), some (.int x1), some (.int (0 : Int32)), none]) dX12_sings_17 (by decide) rfl rfl ?_
    refine j_iconst (pc := 18) hC dX12_sings_18 (v := 0) (by decide) ?_
    refine j_istore_n (pc := 19) hC (lv' := [some (.ref (ad 109)), some (.int x1), some (.int (0 : Int32)), some (.int (0 : Int32))]) dX12_sings_19 (by decide) rfl rfl ?_
    exact tlX12_sings_20 hC fuel M1 x1 (0 : Int32) (0 : Int32)
  · refine j_iconst (pc := 14) hC dX12_sings_14 (v := (-1)) (by decide) ?_
    exact j_iret (pc := 15) hC dX12_sings_15
/-! LastRowerModel.trace()J -/
set_option maxRecDepth 20000 in
set_option maxHeartbeats 4000000 in
theorem kt_X12_trace {l : Launch} {ad : Nat → Nat} {cid : Nat → ClassId} {D : va_G} (hL : lyOk ad)  (M : Mem)  : Ct (qL ad cid) l ad cid D yX12_trace cX12_trace 1 (some .long) 0 0 [.ref (ad 109)] M (fX12_trace M ) := by
  refine ct_of (own := RX12) (lv := [some (.ref (ad 109))]) hL (by decide +kernel) rfl rfl (Nat.le_of_ble_eq_true rfl) (fun X hC => ?_)
  unfold fX12_trace
  refine j_aload_n (pc := 0) hC dX12_trace_0 rfl ?_
  refine j_iconst (pc := 1) hC dX12_trace_1 (v := 0) (by decide) ?_
  refine pX12_59 (pc := 2) hC dX12_trace_2 ?_
  refine j_aload_n (pc := 5) hC dX12_trace_5 rfl ?_
  refine gX12_175 (pc := 6) hC dX12_trace_6 ?_
  exact j_lret (pc := 9) hC dX12_trace_9
/-! LastRowerModel.type(I)I -/
set_option maxRecDepth 20000 in
set_option maxHeartbeats 4000000 in
theorem kt_X12_type {l : Launch} {ad : Nat → Nat} {cid : Nat → ClassId} {D : va_G} (hL : lyOk ad)  (M : Mem) (x1 : Int32) : Ct (qI ad cid) l ad cid D yX12_type cX12_type 2 (some .int) 1 22 [.ref (ad 109), .int x1] M (fX12_type M x1) := by
  refine ct_of (own := RX12) (lv := [some (.ref (ad 109)), some (.int x1)]) hL (by decide +kernel) rfl rfl (Nat.le_of_ble_eq_true rfl) (fun X hC => ?_)
  unfold fX12_type
  refine j_aload_n (pc := 0) hC dX12_type_0 rfl ?_
  refine j_iconst (pc := 1) hC dX12_type_1 (v := 0) (by decide) ?_
  refine pX12_59 (pc := 2) hC dX12_type_2 ?_
  refine j_iload_n (pc := 5) hC dX12_type_5 rfl ?_
  refine j_iconst (pc := 6) hC dX12_type_6 (v := 0) (by decide) ?_
  refine j_sipush (pc := 7) hC dX12_type_7 (v := 255) (by decide) ?_
  refine j_bI (pc := 10) (run_S hC (st := []) (kt_X12_in hC.ly (sM M 109 0 (0 : Int32)) x1 (0 : Int32) (255 : Int32)) vs_X12_in qw789 ⟨(Nat.le_of_ble_eq_true rfl), (Nat.le_of_ble_eq_true rfl)⟩ rfl rfl (Nat.le_of_ble_eq_true rfl) dX12_type_10) (fun M1 r2 => ?_)
  refine j_if_ne (pc := 13) hC dX12_type_13 (tgt := 18) (by decide) (fun hb3 => ?_) (fun hb3 => ?_)
  · refine j_aload_n (pc := 18) hC dX12_type_18 rfl ?_
    refine gX12_67 (pc := 19) hC dX12_type_19 ?_
    refine j_sipush (pc := 22) hC dX12_type_22 (v := 200) (by decide) ?_
    refine j_icmp_ne (pc := 25) hC dX12_type_25 (tgt := 31) (by decide) (fun hb4 => ?_) (fun hb4 => ?_)
    · refine j_aload_n (pc := 31) hC dX12_type_31 rfl ?_
      refine gX12_7 (pc := 32) hC dX12_type_32 ?_
      refine j_aload_n (pc := 35) hC dX12_type_35 rfl ?_
      refine gX12_67 (pc := 36) hC dX12_type_36 ?_
      refine j_iload_n (pc := 39) hC dX12_type_39 rfl ?_
      refine j_ck (fun hi5 => ?_)
      refine j_iast (pc := 40) hC (n := 200) rfl rfl hi5 dX12_type_40 ?_
      refine j_aload_n (pc := 41) hC dX12_type_41 rfl ?_
      refine j_dup (pc := 42) hC dX12_type_42 rfl ?_
      refine gX12_67 (pc := 43) hC dX12_type_43 ?_
      refine j_iconst (pc := 46) hC dX12_type_46 (v := 1) (by decide) ?_
      refine j_iadd (pc := 47) hC dX12_type_47 ?_
      refine pX12_67 (pc := 48) hC dX12_type_48 ?_
      refine j_aload_n (pc := 51) hC dX12_type_51 rfl ?_
      refine gX12_67 (pc := 52) hC dX12_type_52 ?_
      exact j_iret (pc := 55) hC dX12_type_55
    · refine j_bipush (pc := 28) hC dX12_type_28 (v := (-3)) (by decide) ?_
      exact j_iret (pc := 30) hC dX12_type_30
  · refine j_iconst (pc := 16) hC dX12_type_16 (v := (-1)) (by decide) ?_
    exact j_iret (pc := 17) hC dX12_type_17
/-! LastRowerModel.undo()I -/
set_option maxRecDepth 20000 in
set_option maxHeartbeats 4000000 in
theorem tsX12_undo_27 {X : Cx} {ad : Nat → Nat} {cid : Nat → ClassId} (hC : Ok X ad cid cX12_undo RX12 2 (some .int) 0 0)  {rec27 : Mem → Int32 → Option (Mem × Int32)} (hrec27 : ∀ (M : Mem) (x1 : Int32), Jp X ad cid 2 (qm X ad (qI ad cid)) M 27 [some (.ref (ad 109)), some (.int x1)] [] (rec27 M x1)) (M : Mem) (x1 : Int32)  : Jp X ad cid 2 (qm X ad (qI ad cid)) M 27 [some (.ref (ad 109)), some (.int x1)] [] (sX12_undo_27  rec27 M x1) := by
  unfold sX12_undo_27
  refine j_iload_n (pc := 27) hC dX12_undo_27 rfl ?_
  refine j_bipush (pc := 28) hC dX12_undo_28 (v := 15) (by decide) ?_
  refine j_icmp_ge (pc := 30) hC dX12_undo_30 (tgt := 59) (by decide) (fun hb2 => ?_) (fun hb2 => ?_)
  · refine j_aload_n (pc := 59) hC dX12_undo_59 rfl ?_
    refine gX12_121 (pc := 60) hC dX12_undo_60 ?_
    exact j_iret (pc := 63) hC dX12_undo_63
  · refine j_aload_n (pc := 33) hC dX12_undo_33 rfl ?_
    refine gX12_31 (pc := 34) hC dX12_undo_34 ?_
    refine j_iload_n (pc := 37) hC dX12_undo_37 rfl ?_
    refine j_aload_n (pc := 38) hC dX12_undo_38 rfl ?_
    refine gX12_44 (pc := 39) hC dX12_undo_39 ?_
    refine j_bipush (pc := 42) hC dX12_undo_42 (v := 15) (by decide) ?_
    refine j_aload_n (pc := 44) hC dX12_undo_44 rfl ?_
    refine gX12_121 (pc := 45) hC dX12_undo_45 ?_
    refine j_imul (pc := 48) hC dX12_undo_48 ?_
    refine j_iload_n (pc := 49) hC dX12_undo_49 rfl ?_
    refine j_iadd (pc := 50) hC dX12_undo_50 ?_
    refine j_ck (fun hi3 => ?_)
    refine j_iald (pc := 51) hC (n := 150) rfl rfl hi3 dX12_undo_51 ?_
    refine j_ck (fun hi4 => ?_)
    refine j_iast (pc := 52) hC (n := 15) rfl rfl hi4 dX12_undo_52 ?_
    refine j_iinc (pc := 53) hC (lv' := [some (.ref (ad 109)), some (.int (x1 + 1))]) dX12_undo_53 rfl (v := 1) (by decide) (by decide) rfl rfl ?_
    refine j_goto (pc := 56) hC dX12_undo_56 (tgt := 27) (by decide) ?_
    exact hrec27 (sM M 117 x1.toNatClampNeg (gM M 121 (((15 : Int32) * (gM M 109 21)) + x1).toNatClampNeg)) (x1 + 1)
theorem tlX12_undo_27 {X : Cx} {ad : Nat → Nat} {cid : Nat → ClassId} (hC : Ok X ad cid cX12_undo RX12 2 (some .int) 0 0)   : ∀ (n : Nat) (M : Mem) (x1 : Int32), Jp X ad cid 2 (qm X ad (qI ad cid)) M 27 [some (.ref (ad 109)), some (.int x1)] [] (lX12_undo_27  n M x1) := by
  intro n
  induction n with
  | zero => intros; exact j_none
  | succ n ih => exact tsX12_undo_27 hC   ih
set_option maxRecDepth 20000 in
set_option maxHeartbeats 4000000 in
theorem kt_X12_undo {l : Launch} {ad : Nat → Nat} {cid : Nat → ClassId} {D : va_G} (hL : lyOk ad)  (M : Mem)  : Ct (qI ad cid) l ad cid D yX12_undo cX12_undo 2 (some .int) 0 0 [.ref (ad 109)] M (fX12_undo M ) := by
  refine ct_of (own := RX12) (lv := [some (.ref (ad 109)), none]) hL (by decide +kernel) rfl rfl (Nat.le_of_ble_eq_true rfl) (fun X hC => ?_)
  unfold fX12_undo
  refine j_aload_n (pc := 0) hC dX12_undo_0 rfl ?_
  refine j_iconst (pc := 1) hC dX12_undo_1 (v := 0) (by decide) ?_
  refine pX12_59 (pc := 2) hC dX12_undo_2 ?_
  refine j_aload_n (pc := 5) hC dX12_undo_5 rfl ?_
  refine gX12_121 (pc := 6) hC dX12_undo_6 ?_
  refine j_if_ne (pc := 9) hC dX12_undo_9 (tgt := 15) (by decide) (fun hb1 => ?_) (fun hb1 => ?_)
  · refine j_aload_n (pc := 15) hC dX12_undo_15 rfl ?_
    refine j_dup (pc := 16) hC dX12_undo_16 rfl ?_
    refine gX12_121 (pc := 17) hC dX12_undo_17 ?_
    refine j_iconst (pc := 20) hC dX12_undo_20 (v := 1) (by decide) ?_
    refine j_isub (pc := 21) hC dX12_undo_21 ?_
    refine pX12_121 (pc := 22) hC dX12_undo_22 ?_
    refine j_iconst (pc := 25) hC dX12_undo_25 (v := 0) (by decide) ?_
    refine j_istore_n (pc := 26) hC (lv' := [some (.ref (ad 109)), some (.int (0 : Int32))]) dX12_undo_26 (by decide) rfl rfl ?_
    exact tlX12_undo_27 hC fuel (sM (sM M 109 0 (0 : Int32)) 109 21 ((gM (sM M 109 0 (0 : Int32)) 109 21) - (1 : Int32))) (0 : Int32)
  · refine j_bipush (pc := 12) hC dX12_undo_12 (v := (-2)) (by decide) ?_
    exact j_iret (pc := 14) hC dX12_undo_14
/-! LastRowerModel.who()I -/
set_option maxRecDepth 20000 in
set_option maxHeartbeats 4000000 in
theorem tsX12_who_76 {X : Cx} {ad : Nat → Nat} {cid : Nat → ClassId} (hC : Ok X ad cid cX12_who RX12 3 (some .int) 4 92) {rec25 : Mem → Int32 → Int32 → Option (Mem × Int32)} (hrec25 : ∀ (M : Mem) (x1 : Int32) (x2 : Int32), Jp X ad cid 3 (qm X ad (qI ad cid)) M 25 [some (.ref (ad 109)), some (.int x1), some (.int x2)] [] (rec25 M x1 x2))  (M : Mem) (x2 : Int32) (s0 : Int32) (s1 : Int32)  : Jp X ad cid 3 (qm X ad (qI ad cid)) M 76 [some (.ref (ad 109)), none, some (.int x2)] [.int s1, .int s0] (sX12_who_76 rec25 M x2 s0 s1) := by
  unfold sX12_who_76
  refine j_ior (pc := 76) hC dX12_who_76 ?_
  refine j_istore_n (pc := 77) hC (lv' := [some (.ref (ad 109)), some (.int (s0 ||| s1)), some (.int x2)]) dX12_who_77 (by decide) rfl rfl ?_
  refine j_iinc (pc := 78) hC (lv' := [some (.ref (ad 109)), some (.int (s0 ||| s1)), some (.int (x2 + 1))]) dX12_who_78 rfl (v := 1) (by decide) (by decide) rfl rfl ?_
  refine j_goto (pc := 81) hC dX12_who_81 (tgt := 25) (by decide) ?_
  exact hrec25 M (s0 ||| s1) (x2 + 1)
set_option maxRecDepth 20000 in
set_option maxHeartbeats 4000000 in
theorem tsX12_who_25 {X : Cx} {ad : Nat → Nat} {cid : Nat → ClassId} (hC : Ok X ad cid cX12_who RX12 3 (some .int) 4 92)  {rec25 : Mem → Int32 → Int32 → Option (Mem × Int32)} (hrec25 : ∀ (M : Mem) (x1 : Int32) (x2 : Int32), Jp X ad cid 3 (qm X ad (qI ad cid)) M 25 [some (.ref (ad 109)), some (.int x1), some (.int x2)] [] (rec25 M x1 x2)) (M : Mem) (x1 : Int32) (x2 : Int32)  : Jp X ad cid 3 (qm X ad (qI ad cid)) M 25 [some (.ref (ad 109)), some (.int x1), some (.int x2)] [] (sX12_who_25  rec25 M x1 x2) := by
  unfold sX12_who_25
  refine j_iload_n (pc := 25) hC dX12_who_25 rfl ?_
  refine j_aload_n (pc := 26) hC dX12_who_26 rfl ?_
  refine gX12_13 (pc := 27) hC dX12_who_27 ?_
  refine j_iconst (pc := 30) hC dX12_who_30 (v := 0) (by decide) ?_
  refine j_ialdC (pc := 31) hC (n := 6) (e := 0) (by decide) rfl rfl (by decide) dX12_who_31 ?_
  refine j_icmp_ge (pc := 32) hC dX12_who_32 (tgt := 84) (by decide) (fun hb5 => ?_) (fun hb5 => ?_)
  · refine j_iload_n (pc := 84) hC dX12_who_84 rfl ?_
    exact j_iret (pc := 85) hC dX12_who_85
  · refine j_aload_n (pc := 35) hC dX12_who_35 rfl ?_
    refine j_aload_n (pc := 36) hC dX12_who_36 rfl ?_
    refine gX12_31 (pc := 37) hC dX12_who_37 ?_
    refine j_bI (pc := 40) (run_V hC (st := []) (kt_X12_isOver hC.ly r_117 M) vv_X12_isOver qw856 (by decide) sh_X12 rfl ⟨(Nat.le_of_ble_eq_true rfl), (Nat.le_of_ble_eq_true rfl)⟩ rfl rfl (Nat.le_of_ble_eq_true rfl) dX12_who_40) (fun M6 r7 => ?_)
    refine j_if_ne (pc := 43) hC dX12_who_43 (tgt := 84) (by decide) (fun hb8 => ?_) (fun hb8 => ?_)
    · refine j_iload_n (pc := 84) hC dX12_who_84 rfl ?_
      exact j_iret (pc := 85) hC dX12_who_85
    · refine j_aload_n (pc := 46) hC dX12_who_46 rfl ?_
      refine j_bV (pc := 47) (run_V hC (st := []) (kt_X12_asNow hC.ly M6) vv_X12_asNow qw904 (by decide) sh_X12 rfl ⟨(Nat.le_of_ble_eq_true rfl), (Nat.le_of_ble_eq_true rfl)⟩ rfl rfl (Nat.le_of_ble_eq_true rfl) dX12_who_47) (fun M9 => ?_)
      refine j_aload_n (pc := 50) hC dX12_who_50 rfl ?_
      refine j_aload_n (pc := 51) hC dX12_who_51 rfl ?_
      refine gX12_34 (pc := 52) hC dX12_who_52 ?_
      refine j_iconst (pc := 55) hC dX12_who_55 (v := 1) (by decide) ?_
      refine j_iload_n (pc := 56) hC dX12_who_56 rfl ?_
      refine j_ishl (pc := 57) hC dX12_who_57 ?_
      refine j_bV (pc := 58) (run_V hC (st := []) (kt_X12_speak hC.ly r_118 M9 ((1 : Int32) <<< (x2 &&& 31))) vv_X12_speak qw880 (by decide) sh_X12 rfl ⟨(Nat.le_of_ble_eq_true rfl), (Nat.le_of_ble_eq_true rfl)⟩ rfl rfl (Nat.le_of_ble_eq_true rfl) dX12_who_58) (fun M10 => ?_)
      refine j_iload_n (pc := 61) hC dX12_who_61 rfl ?_
      refine j_aload_n (pc := 62) hC dX12_who_62 rfl ?_
      refine j_bI (pc := 63) (run_V hC (st := [.int x1]) (kt_X12_isAsSeen hC.ly M10) vv_X12_isAsSeen qw960 (by decide) sh_X12 rfl ⟨(Nat.le_of_ble_eq_true rfl), (Nat.le_of_ble_eq_true rfl)⟩ rfl rfl (Nat.le_of_ble_eq_true rfl) dX12_who_63) (fun M11 r12 => ?_)
      refine j_if_eq (pc := 66) hC dX12_who_66 (tgt := 75) (by decide) (fun hb13 => ?_) (fun hb13 => ?_)
      · refine j_iconst (pc := 75) hC dX12_who_75 (v := 0) (by decide) ?_
        refine j_mask [true, false, true] (lv' := [some (.ref (ad 109)), none, some (.int x2)]) rfl ?_
        exact tsX12_who_76 hC hrec25 M11 x2 x1 (0 : Int32)
      · refine j_iconst (pc := 69) hC dX12_who_69 (v := 1) (by decide) ?_
        refine j_iload_n (pc := 70) hC dX12_who_70 rfl ?_
        refine j_ishl (pc := 71) hC dX12_who_71 ?_
        refine j_goto (pc := 72) hC dX12_who_72 (tgt := 76) (by decide) ?_
        refine j_mask [true, false, true] (lv' := [some (.ref (ad 109)), none, some (.int x2)]) rfl ?_
        exact tsX12_who_76 hC hrec25 M11 x2 x1 ((1 : Int32) <<< (x2 &&& 31))
theorem tlX12_who_25 {X : Cx} {ad : Nat → Nat} {cid : Nat → ClassId} (hC : Ok X ad cid cX12_who RX12 3 (some .int) 4 92)   : ∀ (n : Nat) (M : Mem) (x1 : Int32) (x2 : Int32), Jp X ad cid 3 (qm X ad (qI ad cid)) M 25 [some (.ref (ad 109)), some (.int x1), some (.int x2)] [] (lX12_who_25  n M x1 x2) := by
  intro n
  induction n with
  | zero => intros; exact j_none
  | succ n ih => exact tsX12_who_25 hC   ih
set_option maxRecDepth 20000 in
set_option maxHeartbeats 4000000 in
theorem kt_X12_who {l : Launch} {ad : Nat → Nat} {cid : Nat → ClassId} {D : va_G} (hL : lyOk ad)  (M : Mem)  : Ct (qI ad cid) l ad cid D yX12_who cX12_who 3 (some .int) 4 92 [.ref (ad 109)] M (fX12_who M ) := by
  refine ct_of (own := RX12) (lv := [some (.ref (ad 109)), none, none]) hL (by decide +kernel) rfl rfl (Nat.le_of_ble_eq_true rfl) (fun X hC => ?_)
  unfold fX12_who
  refine j_aload_n (pc := 0) hC dX12_who_0 rfl ?_
  refine j_iconst (pc := 1) hC dX12_who_1 (v := 0) (by decide) ?_
  refine pX12_59 (pc := 2) hC dX12_who_2 ?_
  refine j_aload_n (pc := 5) hC dX12_who_5 rfl ?_
  refine j_bV (pc := 6) (run_V hC (st := []) (kt_X12_asNow hC.ly (sM M 109 0 (0 : Int32))) vv_X12_asNow qw904 (by decide) sh_X12 rfl ⟨(Nat.le_of_ble_eq_true rfl), (Nat.le_of_ble_eq_true rfl)⟩ rfl rfl (Nat.le_of_ble_eq_true rfl) dX12_who_6) (fun M1 => ?_)
  refine j_aload_n (pc := 9) hC dX12_who_9 rfl ?_
  refine j_bI (pc := 10) (run_V hC (st := []) (kt_X12_isAsSeen hC.ly M1) vv_X12_isAsSeen qw960 (by decide) sh_X12 rfl ⟨(Nat.le_of_ble_eq_true rfl), (Nat.le_of_ble_eq_true rfl)⟩ rfl rfl (Nat.le_of_ble_eq_true rfl) dX12_who_10) (fun M2 r3 => ?_)
  refine j_if_eq (pc := 13) hC dX12_who_13 (tgt := 21) (by decide) (fun hb4 => ?_) (fun hb4 => ?_)
  · refine j_iconst (pc := 21) hC dX12_who_21 (v := 0) (by decide) ?_
    refine j_istore_n (pc := 22) hC (lv' := [some (.ref (ad 109)), some (.int (0 : Int32)), none]) dX12_who_22 (by decide) rfl rfl ?_
    refine j_iconst (pc := 23) hC dX12_who_23 (v := 0) (by decide) ?_
    refine j_istore_n (pc := 24) hC (lv' := [some (.ref (ad 109)), some (.int (0 : Int32)), some (.int (0 : Int32))]) dX12_who_24 (by decide) rfl rfl ?_
    exact tlX12_who_25 hC fuel M2 (0 : Int32) (0 : Int32)
  · refine j_bipush (pc := 16) hC dX12_who_16 (v := 64) (by decide) ?_
    refine j_goto (pc := 18) hC dX12_who_18 (tgt := 22) (by decide) ?_
    refine j_istore_n (pc := 22) hC (lv' := [some (.ref (ad 109)), some (.int (64 : Int32)), none]) dX12_who_22 (by decide) rfl rfl ?_
    refine j_iconst (pc := 23) hC dX12_who_23 (v := 0) (by decide) ?_
    refine j_istore_n (pc := 24) hC (lv' := [some (.ref (ad 109)), some (.int (64 : Int32)), some (.int (0 : Int32))]) dX12_who_24 (by decide) rfl rfl ?_
    exact tlX12_who_25 hC fuel M2 (64 : Int32) (0 : Int32)
