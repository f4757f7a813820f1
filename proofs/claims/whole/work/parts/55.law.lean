/-! the law: words, rows, its loop as a function -/
theorem qw318 : Cond.methodLink RL 13 yX11_type ∈ wAll := wAll_of (List.mem_of_getElem? (i := 318) (by decide +kernel)) (by decide +kernel)
theorem qw326 : Cond.methodLink RL 18 yX11_clear ∈ wAll := wAll_of (List.mem_of_getElem? (i := 326) (by decide +kernel)) (by decide +kernel)
theorem qw330 : Cond.methodLink RL 23 yX11_ferry ∈ wAll := wAll_of (List.mem_of_getElem? (i := 330) (by decide +kernel)) (by decide +kernel)
theorem qw419 : Cond.methodLink RL 27 yX11_passenger ∈ wAll := wAll_of (List.mem_of_getElem? (i := 419) (by decide +kernel)) (by decide +kernel)
theorem qw431 : Cond.methodLink RL 32 yX11_current ∈ wAll := wAll_of (List.mem_of_getElem? (i := 431) (by decide +kernel)) (by decide +kernel)
theorem qw440 : Cond.methodLink RL 36 yX11_now ∈ wAll := wAll_of (List.mem_of_getElem? (i := 440) (by decide +kernel)) (by decide +kernel)
theorem qw460 : Cond.methodLink RL 40 yX11_beat ∈ wAll := wAll_of (List.mem_of_getElem? (i := 460) (by decide +kernel)) (by decide +kernel)
theorem qw491 : Cond.methodLink RL 44 yX11_pinches ∈ wAll := wAll_of (List.mem_of_getElem? (i := 491) (by decide +kernel)) (by decide +kernel)
theorem qw500 : Cond.methodLink RL 48 yX11_quarrels ∈ wAll := wAll_of (List.mem_of_getElem? (i := 500) (by decide +kernel)) (by decide +kernel)
theorem qw504 : Cond.methodLink RL 52 yX11_sings ∈ wAll := wAll_of (List.mem_of_getElem? (i := 504) (by decide +kernel)) (by decide +kernel)
theorem qw512 : Cond.methodLink RL 56 yX11_undo ∈ wAll := wAll_of (List.mem_of_getElem? (i := 512) (by decide +kernel)) (by decide +kernel)
theorem qw520 : Cond.methodLink RL 60 yX11_inBeats ∈ wAll := wAll_of (List.mem_of_getElem? (i := 520) (by decide +kernel)) (by decide +kernel)
theorem qw529 : Cond.methodLink RL 64 yX11_ends ∈ wAll := wAll_of (List.mem_of_getElem? (i := 529) (by decide +kernel)) (by decide +kernel)
theorem qw538 : Cond.methodLink RL 68 yX11_last ∈ wAll := wAll_of (List.mem_of_getElem? (i := 538) (by decide +kernel)) (by decide +kernel)
theorem qw542 : Cond.methodLink RL 72 yX11_first ∈ wAll := wAll_of (List.mem_of_getElem? (i := 542) (by decide +kernel)) (by decide +kernel)
theorem qw547 : Cond.methodLink RL 76 yX11_ring ∈ wAll := wAll_of (List.mem_of_getElem? (i := 547) (by decide +kernel)) (by decide +kernel)
theorem qw557 : Cond.methodLink RL 80 yX11_drift ∈ wAll := wAll_of (List.mem_of_getElem? (i := 557) (by decide +kernel)) (by decide +kernel)
theorem qw561 : Cond.methodLink RL 84 yX11_plan ∈ wAll := wAll_of (List.mem_of_getElem? (i := 561) (by decide +kernel)) (by decide +kernel)
theorem qw585 : Cond.methodLink RL 89 yX11_best ∈ wAll := wAll_of (List.mem_of_getElem? (i := 585) (by decide +kernel)) (by decide +kernel)
theorem qw597 : Cond.methodLink RL 93 yX11_mute ∈ wAll := wAll_of (List.mem_of_getElem? (i := 597) (by decide +kernel)) (by decide +kernel)
theorem qw605 : Cond.methodLink RL 97 yX11_seen ∈ wAll := wAll_of (List.mem_of_getElem? (i := 605) (by decide +kernel)) (by decide +kernel)
theorem qw609 : Cond.methodLink RL 101 yX11_forget ∈ wAll := wAll_of (List.mem_of_getElem? (i := 609) (by decide +kernel)) (by decide +kernel)
theorem qw613 : Cond.methodLink RL 105 yX11_who ∈ wAll := wAll_of (List.mem_of_getElem? (i := 613) (by decide +kernel)) (by decide +kernel)
theorem qw630 : Cond.methodLink RL 109 yX11_odds ∈ wAll := wAll_of (List.mem_of_getElem? (i := 630) (by decide +kernel)) (by decide +kernel)
theorem qw644 : Cond.methodLink RL 114 yX11_rate ∈ wAll := wAll_of (List.mem_of_getElem? (i := 644) (by decide +kernel)) (by decide +kernel)
theorem qw680 : Cond.methodLink RL 118 yX11_keep ∈ wAll := wAll_of (List.mem_of_getElem? (i := 680) (by decide +kernel)) (by decide +kernel)
theorem qw684 : Cond.methodLink RL 122 yX11_back ∈ wAll := wAll_of (List.mem_of_getElem? (i := 684) (by decide +kernel)) (by decide +kernel)
theorem qw688 : Cond.methodLink RL 126 yX11_count ∈ wAll := wAll_of (List.mem_of_getElem? (i := 688) (by decide +kernel)) (by decide +kernel)
theorem qw692 : Cond.methodLink RL 130 yX11_trace ∈ wAll := wAll_of (List.mem_of_getElem? (i := 692) (by decide +kernel)) (by decide +kernel)
theorem qw785 : Cond.methodLink RL 17 yX12_type ∈ wAll := wAll_of (List.mem_of_getElem? (i := 785) (by decide +kernel)) (by decide +kernel)
theorem qw792 : Cond.methodLink RL 22 yX12_clear ∈ wAll := wAll_of (List.mem_of_getElem? (i := 792) (by decide +kernel)) (by decide +kernel)
theorem qw796 : Cond.methodLink RL 26 yX12_ferry ∈ wAll := wAll_of (List.mem_of_getElem? (i := 796) (by decide +kernel)) (by decide +kernel)
theorem qw832 : Cond.methodLink RL 31 yX12_passenger ∈ wAll := wAll_of (List.mem_of_getElem? (i := 832) (by decide +kernel)) (by decide +kernel)
theorem qw840 : Cond.methodLink RL 35 yX12_current ∈ wAll := wAll_of (List.mem_of_getElem? (i := 840) (by decide +kernel)) (by decide +kernel)
theorem qw848 : Cond.methodLink RL 39 yX12_now ∈ wAll := wAll_of (List.mem_of_getElem? (i := 848) (by decide +kernel)) (by decide +kernel)
theorem qw864 : Cond.methodLink RL 43 yX12_beat ∈ wAll := wAll_of (List.mem_of_getElem? (i := 864) (by decide +kernel)) (by decide +kernel)
theorem qw884 : Cond.methodLink RL 47 yX12_pinches ∈ wAll := wAll_of (List.mem_of_getElem? (i := 884) (by decide +kernel)) (by decide +kernel)
theorem qw888 : Cond.methodLink RL 51 yX12_quarrels ∈ wAll := wAll_of (List.mem_of_getElem? (i := 888) (by decide +kernel)) (by decide +kernel)
theorem qw892 : Cond.methodLink RL 55 yX12_sings ∈ wAll := wAll_of (List.mem_of_getElem? (i := 892) (by decide +kernel)) (by decide +kernel)
theorem qw896 : Cond.methodLink RL 59 yX12_undo ∈ wAll := wAll_of (List.mem_of_getElem? (i := 896) (by decide +kernel)) (by decide +kernel)
theorem qw900 : Cond.methodLink RL 63 yX12_inBeats ∈ wAll := wAll_of (List.mem_of_getElem? (i := 900) (by decide +kernel)) (by decide +kernel)
theorem qw908 : Cond.methodLink RL 67 yX12_ends ∈ wAll := wAll_of (List.mem_of_getElem? (i := 908) (by decide +kernel)) (by decide +kernel)
theorem qw916 : Cond.methodLink RL 71 yX12_last ∈ wAll := wAll_of (List.mem_of_getElem? (i := 916) (by decide +kernel)) (by decide +kernel)
theorem qw920 : Cond.methodLink RL 75 yX12_first ∈ wAll := wAll_of (List.mem_of_getElem? (i := 920) (by decide +kernel)) (by decide +kernel)
theorem qw924 : Cond.methodLink RL 79 yX12_ring ∈ wAll := wAll_of (List.mem_of_getElem? (i := 924) (by decide +kernel)) (by decide +kernel)
theorem qw928 : Cond.methodLink RL 83 yX12_drift ∈ wAll := wAll_of (List.mem_of_getElem? (i := 928) (by decide +kernel)) (by decide +kernel)
theorem qw932 : Cond.methodLink RL 88 yX12_plan ∈ wAll := wAll_of (List.mem_of_getElem? (i := 932) (by decide +kernel)) (by decide +kernel)
theorem qw940 : Cond.methodLink RL 92 yX12_best ∈ wAll := wAll_of (List.mem_of_getElem? (i := 940) (by decide +kernel)) (by decide +kernel)
theorem qw944 : Cond.methodLink RL 96 yX12_mute ∈ wAll := wAll_of (List.mem_of_getElem? (i := 944) (by decide +kernel)) (by decide +kernel)
theorem qw948 : Cond.methodLink RL 100 yX12_seen ∈ wAll := wAll_of (List.mem_of_getElem? (i := 948) (by decide +kernel)) (by decide +kernel)
theorem qw952 : Cond.methodLink RL 104 yX12_forget ∈ wAll := wAll_of (List.mem_of_getElem? (i := 952) (by decide +kernel)) (by decide +kernel)
theorem qw956 : Cond.methodLink RL 108 yX12_who ∈ wAll := wAll_of (List.mem_of_getElem? (i := 956) (by decide +kernel)) (by decide +kernel)
theorem qw964 : Cond.methodLink RL 113 yX12_odds ∈ wAll := wAll_of (List.mem_of_getElem? (i := 964) (by decide +kernel)) (by decide +kernel)
theorem qw974 : Cond.methodLink RL 117 yX12_rate ∈ wAll := wAll_of (List.mem_of_getElem? (i := 974) (by decide +kernel)) (by decide +kernel)
theorem qw984 : Cond.methodLink RL 121 yX12_keep ∈ wAll := wAll_of (List.mem_of_getElem? (i := 984) (by decide +kernel)) (by decide +kernel)
theorem qw988 : Cond.methodLink RL 125 yX12_back ∈ wAll := wAll_of (List.mem_of_getElem? (i := 988) (by decide +kernel)) (by decide +kernel)
theorem qw992 : Cond.methodLink RL 129 yX12_count ∈ wAll := wAll_of (List.mem_of_getElem? (i := 992) (by decide +kernel)) (by decide +kernel)
theorem qw996 : Cond.methodLink RL 134 yX12_trace ∈ wAll := wAll_of (List.mem_of_getElem? (i := 996) (by decide +kernel)) (by decide +kernel)
/-- the script: L ints xs at the cell sb, old and untouched -/
def scOk (X : Cx) (ad : Nat → Nat) (sb L : Nat) (xs : Nat → Int32) : Prop := va_X sb L xs (cxS X) (cxS X).heap ∧ sb < (cxS X).heap.size ∧ ¬ iA ad sb
section JL
variable {X : Cx} {ad : Nat → Nat} {cid : Nat → ClassId} {cc : ByteArray} {own : String} {nL : Nat} {ret : Option FieldType} {fr lo : Nat} {α : Type} {Q : α → State → Prop} {M : Mem} {pc : Nat} {lv : List (Option Value)} {st : List Value} {res : Option α} {sb L : Nat} {xs : Nat → Int32}
theorem j_slen (hC : Ok X ad cid cc own nL ret fr lo) (hS : scOk X ad sb L xs) (hd : decode cc pc = .ok (.arraylength, 1)) (k : Jp X ad cid nL Q M (pc + 1) lv (.int (Int32.ofNat L) :: st) res) : Jp X ad cid nL Q M pc lv (.ref sb :: st) res :=
  fun out ho ls H locs hl hP hS1 => va_slen hC.x hC.b hS.1 hS.2.1 hS.2.2 hS1 hd (k out ho ls H locs hl hP hS1)
theorem j_sld (hC : Ok X ad cid cc own nL ret fr lo) (hS : scOk X ad sb L xs) {x : Int32} (hb : inB x L) (hd : decode cc pc = .ok (.iaload, 1)) (k : Jp X ad cid nL Q M (pc + 1) lv (.int (xs x.toNatClampNeg) :: st) res) : Jp X ad cid nL Q M pc lv (.int x :: .ref sb :: st) res :=
  fun out ho ls H locs hl hP hS1 => va_sld hC.x hC.b hS.1 hS.2.1 hS.2.2 hS1 (vp_in_iff.mpr hb) hd (k out ho ls H locs hl hP hS1)
theorem j_lcmp (hC : Ok X ad cid cc own nL ret fr lo) {x y : Int64} (hd : decode cc pc = .ok (.lcmp, 1)) (k : Jp X ad cid nL Q M (pc + 1) lv (.int (lg_cmp x y) :: st) res) : Jp X ad cid nL Q M pc lv (.long y :: .long x :: st) res :=
  fun out ho ls H locs hl hP hS1 => W.lcmp hC.x hC.b hd (k out ho ls H locs hl hP hS1)
end JL
def sL_law (xs : Nat → Int32) (L : Nat) (rec18 : Mem → Int32 → Option Unit) (M : Mem) (x3 : Int32) : Option Unit :=
  if ((Int32.ofNat L) - (5 : Int32)) < x3 then
    some ()
  else
    if inB x3 L then
      if ((xs x3.toNatClampNeg) &&& (31 : Int32)) = 0 then
        if inB (x3 + (1 : Int32)) L then
          bI (fX11_type M (xs (x3 + (1 : Int32)).toNatClampNeg)) fun M5 r6 =>
            bI (fX12_type M5 (xs (x3 + (1 : Int32)).toNatClampNeg)) fun M7 r8 =>
              if r6 = r8 then
                rec18 M7 (x3 + 5)
              else
                none
        else none
      else if ((xs x3.toNatClampNeg) &&& (31 : Int32)) = 1 then
        bI (fX11_clear M) fun M11 r12 =>
          bI (fX12_clear M11) fun M13 r14 =>
            if r12 = r14 then
              rec18 M13 (x3 + 5)
            else
              none
      else if ((xs x3.toNatClampNeg) &&& (31 : Int32)) = 2 then
        bI (fX11_ferry M) fun M17 r18 =>
          bI (fX12_ferry M17) fun M19 r20 =>
            if r18 = r20 then
              rec18 M19 (x3 + 5)
            else
              none
      else if ((xs x3.toNatClampNeg) &&& (31 : Int32)) = 3 then
        if inB (x3 + (1 : Int32)) L then
          if inB (x3 + (2 : Int32)) L then
            bI (fX11_passenger M (xs (x3 + (1 : Int32)).toNatClampNeg) (xs (x3 + (2 : Int32)).toNatClampNeg)) fun M25 r26 =>
              bI (fX12_passenger M25 (xs (x3 + (1 : Int32)).toNatClampNeg) (xs (x3 + (2 : Int32)).toNatClampNeg)) fun M27 r28 =>
                if r26 = r28 then
                  rec18 M27 (x3 + 5)
                else
                  none
          else none
        else none
      else if ((xs x3.toNatClampNeg) &&& (31 : Int32)) = 4 then
        if inB (x3 + (1 : Int32)) L then
          bI (fX11_current M (xs (x3 + (1 : Int32)).toNatClampNeg)) fun M32 r33 =>
            bI (fX12_current M32 (xs (x3 + (1 : Int32)).toNatClampNeg)) fun M34 r35 =>
              if r33 = r35 then
                rec18 M34 (x3 + 5)
              else
                none
        else none
      else if ((xs x3.toNatClampNeg) &&& (31 : Int32)) = 5 then
        if inB (x3 + (1 : Int32)) L then
          bI (fX11_now M (xs (x3 + (1 : Int32)).toNatClampNeg)) fun M39 r40 =>
            bI (fX12_now M39 (xs (x3 + (1 : Int32)).toNatClampNeg)) fun M41 r42 =>
              if r40 = r42 then
                rec18 M41 (x3 + 5)
              else
                none
        else none
      else if ((xs x3.toNatClampNeg) &&& (31 : Int32)) = 6 then
        bI (fX11_beat M) fun M45 r46 =>
          bI (fX12_beat M45) fun M47 r48 =>
            if r46 = r48 then
              rec18 M47 (x3 + 5)
            else
              none
      else if ((xs x3.toNatClampNeg) &&& (31 : Int32)) = 7 then
        if inB (x3 + (1 : Int32)) L then
          bI (fX11_pinches M (xs (x3 + (1 : Int32)).toNatClampNeg)) fun M52 r53 =>
            bI (fX12_pinches M52 (xs (x3 + (1 : Int32)).toNatClampNeg)) fun M54 r55 =>
              if r53 = r55 then
                rec18 M54 (x3 + 5)
              else
                none
        else none
      else if ((xs x3.toNatClampNeg) &&& (31 : Int32)) = 8 then
        if inB (x3 + (1 : Int32)) L then
          if inB (x3 + (2 : Int32)) L then
            bI (fX11_quarrels M (xs (x3 + (1 : Int32)).toNatClampNeg) (xs (x3 + (2 : Int32)).toNatClampNeg)) fun M60 r61 =>
              bI (fX12_quarrels M60 (xs (x3 + (1 : Int32)).toNatClampNeg) (xs (x3 + (2 : Int32)).toNatClampNeg)) fun M62 r63 =>
                if r61 = r63 then
                  rec18 M62 (x3 + 5)
                else
                  none
          else none
        else none
      else if ((xs x3.toNatClampNeg) &&& (31 : Int32)) = 9 then
        if inB (x3 + (1 : Int32)) L then
          bI (fX11_sings M (xs (x3 + (1 : Int32)).toNatClampNeg)) fun M67 r68 =>
            bI (fX12_sings M67 (xs (x3 + (1 : Int32)).toNatClampNeg)) fun M69 r70 =>
              if r68 = r70 then
                rec18 M69 (x3 + 5)
              else
                none
        else none
      else if ((xs x3.toNatClampNeg) &&& (31 : Int32)) = 10 then
        bI (fX11_undo M) fun M73 r74 =>
          bI (fX12_undo M73) fun M75 r76 =>
            if r74 = r76 then
              rec18 M75 (x3 + 5)
            else
              none
      else if ((xs x3.toNatClampNeg) &&& (31 : Int32)) = 11 then
        if inB (x3 + (1 : Int32)) L then
          if inB (x3 + (2 : Int32)) L then
            bI (fX11_inBeats M (xs (x3 + (1 : Int32)).toNatClampNeg) (xs (x3 + (2 : Int32)).toNatClampNeg)) fun M81 r82 =>
              bI (fX12_inBeats M81 (xs (x3 + (1 : Int32)).toNatClampNeg) (xs (x3 + (2 : Int32)).toNatClampNeg)) fun M83 r84 =>
                if r82 = r84 then
                  rec18 M83 (x3 + 5)
                else
                  none
          else none
        else none
      else if ((xs x3.toNatClampNeg) &&& (31 : Int32)) = 12 then
        bI (fX11_ends M) fun M87 r88 =>
          bI (fX12_ends M87) fun M89 r90 =>
            if r88 = r90 then
              rec18 M89 (x3 + 5)
            else
              none
      else if ((xs x3.toNatClampNeg) &&& (31 : Int32)) = 13 then
        bI (fX11_last M) fun M93 r94 =>
          bI (fX12_last M93) fun M95 r96 =>
            if r94 = r96 then
              rec18 M95 (x3 + 5)
            else
              none
      else if ((xs x3.toNatClampNeg) &&& (31 : Int32)) = 14 then
        if inB (x3 + (1 : Int32)) L then
          bI (fX11_first M (xs (x3 + (1 : Int32)).toNatClampNeg)) fun M100 r101 =>
            bI (fX12_first M100 (xs (x3 + (1 : Int32)).toNatClampNeg)) fun M102 r103 =>
              if r101 = r103 then
                rec18 M102 (x3 + 5)
              else
                none
        else none
      else if ((xs x3.toNatClampNeg) &&& (31 : Int32)) = 15 then
        bI (fX11_ring M) fun M106 r107 =>
          bI (fX12_ring M106) fun M108 r109 =>
            if r107 = r109 then
              rec18 M108 (x3 + 5)
            else
              none
      else if ((xs x3.toNatClampNeg) &&& (31 : Int32)) = 16 then
        bI (fX11_drift M) fun M112 r113 =>
          bI (fX12_drift M112) fun M114 r115 =>
            if r113 = r115 then
              rec18 M114 (x3 + 5)
            else
              none
      else if ((xs x3.toNatClampNeg) &&& (31 : Int32)) = 17 then
        if inB (x3 + (1 : Int32)) L then
          if inB (x3 + (2 : Int32)) L then
            if inB (x3 + (3 : Int32)) L then
              bI (fX11_plan M (xs (x3 + (1 : Int32)).toNatClampNeg) (xs (x3 + (2 : Int32)).toNatClampNeg) (xs (x3 + (3 : Int32)).toNatClampNeg)) fun M121 r122 =>
                bI (fX12_plan M121 (xs (x3 + (1 : Int32)).toNatClampNeg) (xs (x3 + (2 : Int32)).toNatClampNeg) (xs (x3 + (3 : Int32)).toNatClampNeg)) fun M123 r124 =>
                  if r122 = r124 then
                    rec18 M123 (x3 + 5)
                  else
                    none
            else none
          else none
        else none
      else if ((xs x3.toNatClampNeg) &&& (31 : Int32)) = 18 then
        bI (fX11_best M) fun M127 r128 =>
          bI (fX12_best M127) fun M129 r130 =>
            if r128 = r130 then
              rec18 M129 (x3 + 5)
            else
              none
      else if ((xs x3.toNatClampNeg) &&& (31 : Int32)) = 19 then
        if inB (x3 + (1 : Int32)) L then
          bI (fX11_mute M (xs (x3 + (1 : Int32)).toNatClampNeg)) fun M134 r135 =>
            bI (fX12_mute M134 (xs (x3 + (1 : Int32)).toNatClampNeg)) fun M136 r137 =>
              if r135 = r137 then
                rec18 M136 (x3 + 5)
              else
                none
        else none
      else if ((xs x3.toNatClampNeg) &&& (31 : Int32)) = 20 then
        if inB (x3 + (1 : Int32)) L then
          if inB (x3 + (2 : Int32)) L then
            bI (fX11_seen M (xs (x3 + (1 : Int32)).toNatClampNeg) (xs (x3 + (2 : Int32)).toNatClampNeg)) fun M142 r143 =>
              bI (fX12_seen M142 (xs (x3 + (1 : Int32)).toNatClampNeg) (xs (x3 + (2 : Int32)).toNatClampNeg)) fun M144 r145 =>
                if r143 = r145 then
                  rec18 M144 (x3 + 5)
                else
                  none
          else none
        else none
      else if ((xs x3.toNatClampNeg) &&& (31 : Int32)) = 21 then
        bI (fX11_forget M) fun M148 r149 =>
          bI (fX12_forget M148) fun M150 r151 =>
            if r149 = r151 then
              rec18 M150 (x3 + 5)
            else
              none
      else if ((xs x3.toNatClampNeg) &&& (31 : Int32)) = 22 then
        bI (fX11_who M) fun M154 r155 =>
          bI (fX12_who M154) fun M156 r157 =>
            if r155 = r157 then
              rec18 M156 (x3 + 5)
            else
              none
      else if ((xs x3.toNatClampNeg) &&& (31 : Int32)) = 23 then
        if inB (x3 + (1 : Int32)) L then
          if inB (x3 + (2 : Int32)) L then
            if inB (x3 + (3 : Int32)) L then
              if inB (x3 + (4 : Int32)) L then
                bI (fX11_odds M (xs (x3 + (1 : Int32)).toNatClampNeg) (xs (x3 + (2 : Int32)).toNatClampNeg) (xs (x3 + (3 : Int32)).toNatClampNeg) (xs (x3 + (4 : Int32)).toNatClampNeg)) fun M164 r165 =>
                  bI (fX12_odds M164 (xs (x3 + (1 : Int32)).toNatClampNeg) (xs (x3 + (2 : Int32)).toNatClampNeg) (xs (x3 + (3 : Int32)).toNatClampNeg) (xs (x3 + (4 : Int32)).toNatClampNeg)) fun M166 r167 =>
                    if r165 = r167 then
                      rec18 M166 (x3 + 5)
                    else
                      none
              else none
            else none
          else none
        else none
      else if ((xs x3.toNatClampNeg) &&& (31 : Int32)) = 24 then
        if inB (x3 + (1 : Int32)) L then
          if inB (x3 + (2 : Int32)) L then
            bI (fX11_rate M (xs (x3 + (1 : Int32)).toNatClampNeg) (xs (x3 + (2 : Int32)).toNatClampNeg)) fun M172 r173 =>
              bI (fX12_rate M172 (xs (x3 + (1 : Int32)).toNatClampNeg) (xs (x3 + (2 : Int32)).toNatClampNeg)) fun M174 r175 =>
                if r173 = r175 then
                  rec18 M174 (x3 + 5)
                else
                  none
          else none
        else none
      else if ((xs x3.toNatClampNeg) &&& (31 : Int32)) = 25 then
        if inB (x3 + (1 : Int32)) L then
          bI (fX11_keep M (xs (x3 + (1 : Int32)).toNatClampNeg)) fun M179 r180 =>
            bI (fX12_keep M179 (xs (x3 + (1 : Int32)).toNatClampNeg)) fun M181 r182 =>
              if r180 = r182 then
                rec18 M181 (x3 + 5)
              else
                none
        else none
      else if ((xs x3.toNatClampNeg) &&& (31 : Int32)) = 26 then
        if inB (x3 + (1 : Int32)) L then
          bI (fX11_back M (xs (x3 + (1 : Int32)).toNatClampNeg)) fun M186 r187 =>
            bI (fX12_back M186 (xs (x3 + (1 : Int32)).toNatClampNeg)) fun M188 r189 =>
              if r187 = r189 then
                rec18 M188 (x3 + 5)
              else
                none
        else none
      else if ((xs x3.toNatClampNeg) &&& (31 : Int32)) = 27 then
        if inB (x3 + (1 : Int32)) L then
          bI (fX11_count M (xs (x3 + (1 : Int32)).toNatClampNeg)) fun M193 r194 =>
            bI (fX12_count M193 (xs (x3 + (1 : Int32)).toNatClampNeg)) fun M195 r196 =>
              if r194 = r196 then
                rec18 M195 (x3 + 5)
              else
                none
        else none
      else if ((xs x3.toNatClampNeg) &&& (31 : Int32)) = 28 then
        bL (fX11_trace M) fun M199 r200 =>
          bL (fX12_trace M199) fun M201 r202 =>
            if (lg_cmp r200 r202) = 0 then
              rec18 M201 (x3 + 5)
            else
              none
      else
        rec18 M (x3 + 5)
    else none
def lL_law (xs : Nat → Int32) (L : Nat) (n : Nat) : Mem → Int32 → Option Unit := itr (sL_law xs L) (fun _ _ => none) n
set_option maxRecDepth 20000 in
set_option maxHeartbeats 8000000 in
theorem tsL_law {X : Cx} {ad : Nat → Nat} {cid : Nat → ClassId} {sb L : Nat} {xs : Nat → Int32} {Q : Unit → State → Prop} (hC : Ok X ad cid cL_law RL 4 (some .boolean) 20 600) (hS : scOk X ad sb L xs) (hQ : ∀ (M : Mem) (pc : Nat) (lv : List (Option Value)), decode cL_law pc = .ok (.ireturn, 1) → Jp X ad cid 4 Q M pc lv [.int 1] (some ())) {rec18 : Mem → Int32 → Option Unit} (hrec18 : ∀ (M : Mem) (x3 : Int32), Jp X ad cid 4 Q M 18 [some (.ref sb), some (.ref (ad 0)), some (.ref (ad 109)), some (.int x3)] [] (rec18 M x3)) (M : Mem) (x3 : Int32) : Jp X ad cid 4 Q M 18 [some (.ref sb), some (.ref (ad 0)), some (.ref (ad 109)), some (.int x3)] [] (sL_law xs L rec18 M x3) := by
  unfold sL_law
  refine j_iload_n (pc := 18) hC dL_law_18 rfl ?_
  refine j_aload_n (pc := 19) hC dL_law_19 rfl ?_
  refine j_slen (pc := 20) hC hS dL_law_20 ?_
  refine j_iconst (pc := 21) hC dL_law_21 (v := 5) (by decide) ?_
  refine j_isub (pc := 22) hC dL_law_22 ?_
  refine j_icmp_gt (pc := 23) hC dL_law_23 (tgt := 818) (by decide) (fun hb1 => ?_) (fun hb1 => ?_)
  · refine j_iconst (pc := 818) hC dL_law_818 (v := 1) (by decide) ?_
    exact hQ _ 819 _ dL_law_819
  · refine j_aload_n (pc := 26) hC dL_law_26 rfl ?_
    refine j_iload_n (pc := 27) hC dL_law_27 rfl ?_
    refine j_ck (fun hi2 => ?_)
    refine j_sld (pc := 28) hC hS hi2 dL_law_28 ?_
    refine j_bipush (pc := 29) hC dL_law_29 (v := 31) (by decide) ?_
    refine j_iand (pc := 31) hC dL_law_31 ?_
    refine j_ite (fun hb3 => ?_) (fun hb3 => ?_)
    · refine j_tabIn (pc := 32) hC dL_law_32 hb3 (by decide) (by decide) rfl (tgt := 164) (by decide) ?_
      refine j_aload_n (pc := 164) hC dL_law_164 rfl ?_
      refine j_aload_n (pc := 165) hC dL_law_165 rfl ?_
      refine j_iload_n (pc := 166) hC dL_law_166 rfl ?_
      refine j_iconst (pc := 167) hC dL_law_167 (v := 1) (by decide) ?_
      refine j_iadd (pc := 168) hC dL_law_168 ?_
      refine j_ck (fun hi4 => ?_)
      refine j_sld (pc := 169) hC hS hi4 dL_law_169 ?_
      refine j_bI (pc := 170) (run_V hC (st := []) (kt_X11_type hC.ly M (xs (x3 + (1 : Int32)).toNatClampNeg)) vv_X11_type qw318 (by decide) sh_X11 rfl ⟨(Nat.le_of_ble_eq_true rfl), (Nat.le_of_ble_eq_true rfl)⟩ rfl rfl (Nat.le_of_ble_eq_true rfl) dL_law_170) (fun M5 r6 => ?_)
      refine j_aload_n (pc := 173) hC dL_law_173 rfl ?_
      refine j_aload_n (pc := 174) hC dL_law_174 rfl ?_
      refine j_iload_n (pc := 175) hC dL_law_175 rfl ?_
      refine j_iconst (pc := 176) hC dL_law_176 (v := 1) (by decide) ?_
      refine j_iadd (pc := 177) hC dL_law_177 ?_
      refine j_sld (pc := 178) hC hS hi4 dL_law_178 ?_
      refine j_bI (pc := 179) (run_V hC (st := [.int r6]) (kt_X12_type hC.ly M5 (xs (x3 + (1 : Int32)).toNatClampNeg)) vv_X12_type qw785 (by decide) sh_X12 rfl ⟨(Nat.le_of_ble_eq_true rfl), (Nat.le_of_ble_eq_true rfl)⟩ rfl rfl (Nat.le_of_ble_eq_true rfl) dL_law_179) (fun M7 r8 => ?_)
      refine j_icmp_eq (pc := 182) hC dL_law_182 (tgt := 812) (by decide) (fun hb9 => ?_) (fun hb9 => ?_)
      · refine j_iinc (pc := 812) hC (lv' := [some (.ref sb), some (.ref (ad 0)), some (.ref (ad 109)), some (.int (x3 + 5))]) dL_law_812 rfl (v := 5) (by decide) (by decide) rfl rfl ?_
        refine j_goto (pc := 815) hC dL_law_815 (tgt := 18) (by decide) ?_
        exact hrec18 M7 (x3 + 5)
      · refine j_iconst (pc := 185) hC dL_law_185 (v := 0) (by decide) ?_
        exact j_none
    refine j_ite (fun hb10 => ?_) (fun hb10 => ?_)
    · refine j_tabIn (pc := 32) hC dL_law_32 hb10 (by decide) (by decide) rfl (tgt := 187) (by decide) ?_
      refine j_aload_n (pc := 187) hC dL_law_187 rfl ?_
      refine j_bI (pc := 188) (run_V hC (st := []) (kt_X11_clear hC.ly M) vv_X11_clear qw326 (by decide) sh_X11 rfl ⟨(Nat.le_of_ble_eq_true rfl), (Nat.le_of_ble_eq_true rfl)⟩ rfl rfl (Nat.le_of_ble_eq_true rfl) dL_law_188) (fun M11 r12 => ?_)
      refine j_aload_n (pc := 191) hC dL_law_191 rfl ?_
      refine j_bI (pc := 192) (run_V hC (st := [.int r12]) (kt_X12_clear hC.ly M11) vv_X12_clear qw792 (by decide) sh_X12 rfl ⟨(Nat.le_of_ble_eq_true rfl), (Nat.le_of_ble_eq_true rfl)⟩ rfl rfl (Nat.le_of_ble_eq_true rfl) dL_law_192) (fun M13 r14 => ?_)
      refine j_icmp_eq (pc := 195) hC dL_law_195 (tgt := 812) (by decide) (fun hb15 => ?_) (fun hb15 => ?_)
      · refine j_iinc (pc := 812) hC (lv' := [some (.ref sb), some (.ref (ad 0)), some (.ref (ad 109)), some (.int (x3 + 5))]) dL_law_812 rfl (v := 5) (by decide) (by decide) rfl rfl ?_
        refine j_goto (pc := 815) hC dL_law_815 (tgt := 18) (by decide) ?_
        exact hrec18 M13 (x3 + 5)
      · refine j_iconst (pc := 198) hC dL_law_198 (v := 0) (by decide) ?_
        exact j_none
    refine j_ite (fun hb16 => ?_) (fun hb16 => ?_)
    · refine j_tabIn (pc := 32) hC dL_law_32 hb16 (by decide) (by decide) rfl (tgt := 200) (by decide) ?_
      refine j_aload_n (pc := 200) hC dL_law_200 rfl ?_
      refine j_bI (pc := 201) (run_V hC (st := []) (kt_X11_ferry hC.ly M) vv_X11_ferry qw330 (by decide) sh_X11 rfl ⟨(Nat.le_of_ble_eq_true rfl), (Nat.le_of_ble_eq_true rfl)⟩ rfl rfl (Nat.le_of_ble_eq_true rfl) dL_law_201) (fun M17 r18 => ?_)
      refine j_aload_n (pc := 204) hC dL_law_204 rfl ?_
      refine j_bI (pc := 205) (run_V hC (st := [.int r18]) (kt_X12_ferry hC.ly M17) vv_X12_ferry qw796 (by decide) sh_X12 rfl ⟨(Nat.le_of_ble_eq_true rfl), (Nat.le_of_ble_eq_true rfl)⟩ rfl rfl (Nat.le_of_ble_eq_true rfl) dL_law_205) (fun M19 r20 => ?_)
      refine j_icmp_eq (pc := 208) hC dL_law_208 (tgt := 812) (by decide) (fun hb21 => ?_) (fun hb21 => ?_)
      · refine j_iinc (pc := 812) hC (lv' := [some (.ref sb), some (.ref (ad 0)), some (.ref (ad 109)), some (.int (x3 + 5))]) dL_law_812 rfl (v := 5) (by decide) (by decide) rfl rfl ?_
        refine j_goto (pc := 815) hC dL_law_815 (tgt := 18) (by decide) ?_
        exact hrec18 M19 (x3 + 5)
      · refine j_iconst (pc := 211) hC dL_law_211 (v := 0) (by decide) ?_
        exact j_none
    refine j_ite (fun hb22 => ?_) (fun hb22 => ?_)
    · refine j_tabIn (pc := 32) hC dL_law_32 hb22 (by decide) (by decide) rfl (tgt := 213) (by decide) ?_
      refine j_aload_n (pc := 213) hC dL_law_213 rfl ?_
      refine j_aload_n (pc := 214) hC dL_law_214 rfl ?_
      refine j_iload_n (pc := 215) hC dL_law_215 rfl ?_
      refine j_iconst (pc := 216) hC dL_law_216 (v := 1) (by decide) ?_
      refine j_iadd (pc := 217) hC dL_law_217 ?_
      refine j_ck (fun hi23 => ?_)
      refine j_sld (pc := 218) hC hS hi23 dL_law_218 ?_
      refine j_aload_n (pc := 219) hC dL_law_219 rfl ?_
      refine j_iload_n (pc := 220) hC dL_law_220 rfl ?_
      refine j_iconst (pc := 221) hC dL_law_221 (v := 2) (by decide) ?_
      refine j_iadd (pc := 222) hC dL_law_222 ?_
      refine j_ck (fun hi24 => ?_)
      refine j_sld (pc := 223) hC hS hi24 dL_law_223 ?_
      refine j_bI (pc := 224) (run_V hC (st := []) (kt_X11_passenger hC.ly M (xs (x3 + (1 : Int32)).toNatClampNeg) (xs (x3 + (2 : Int32)).toNatClampNeg)) vv_X11_passenger qw419 (by decide) sh_X11 rfl ⟨(Nat.le_of_ble_eq_true rfl), (Nat.le_of_ble_eq_true rfl)⟩ rfl rfl (Nat.le_of_ble_eq_true rfl) dL_law_224) (fun M25 r26 => ?_)
      refine j_aload_n (pc := 227) hC dL_law_227 rfl ?_
      refine j_aload_n (pc := 228) hC dL_law_228 rfl ?_
      refine j_iload_n (pc := 229) hC dL_law_229 rfl ?_
      refine j_iconst (pc := 230) hC dL_law_230 (v := 1) (by decide) ?_
      refine j_iadd (pc := 231) hC dL_law_231 ?_
      refine j_sld (pc := 232) hC hS hi23 dL_law_232 ?_
      refine j_aload_n (pc := 233) hC dL_law_233 rfl ?_
      refine j_iload_n (pc := 234) hC dL_law_234 rfl ?_
      refine j_iconst (pc := 235) hC dL_law_235 (v := 2) (by decide) ?_
      refine j_iadd (pc := 236) hC dL_law_236 ?_
      refine j_sld (pc := 237) hC hS hi24 dL_law_237 ?_
      refine j_bI (pc := 238) (run_V hC (st := [.int r26]) (kt_X12_passenger hC.ly M25 (xs (x3 + (1 : Int32)).toNatClampNeg) (xs (x3 + (2 : Int32)).toNatClampNeg)) vv_X12_passenger qw832 (by decide) sh_X12 rfl ⟨(Nat.le_of_ble_eq_true rfl), (Nat.le_of_ble_eq_true rfl)⟩ rfl rfl (Nat.le_of_ble_eq_true rfl) dL_law_238) (fun M27 r28 => ?_)
      refine j_icmp_eq (pc := 241) hC dL_law_241 (tgt := 812) (by decide) (fun hb29 => ?_) (fun hb29 => ?_)
      · refine j_iinc (pc := 812) hC (lv' := [some (.ref sb), some (.ref (ad 0)), some (.ref (ad 109)), some (.int (x3 + 5))]) dL_law_812 rfl (v := 5) (by decide) (by decide) rfl rfl ?_
        refine j_goto (pc := 815) hC dL_law_815 (tgt := 18) (by decide) ?_
        exact hrec18 M27 (x3 + 5)
      · refine j_iconst (pc := 244) hC dL_law_244 (v := 0) (by decide) ?_
        exact j_none
    refine j_ite (fun hb30 => ?_) (fun hb30 => ?_)
    · refine j_tabIn (pc := 32) hC dL_law_32 hb30 (by decide) (by decide) rfl (tgt := 246) (by decide) ?_
      refine j_aload_n (pc := 246) hC dL_law_246 rfl ?_
      refine j_aload_n (pc := 247) hC dL_law_247 rfl ?_
      refine j_iload_n (pc := 248) hC dL_law_248 rfl ?_
      refine j_iconst (pc := 249) hC dL_law_249 (v := 1) (by decide) ?_
      refine j_iadd (pc := 250) hC dL_law_250 ?_
      refine j_ck (fun hi31 => ?_)
      refine j_sld (pc := 251) hC hS hi31 dL_law_251 ?_
      refine j_bI (pc := 252) (run_V hC (st := []) (kt_X11_current hC.ly M (xs (x3 + (1 : Int32)).toNatClampNeg)) vv_X11_current qw431 (by decide) sh_X11 rfl ⟨(Nat.le_of_ble_eq_true rfl), (Nat.le_of_ble_eq_true rfl)⟩ rfl rfl (Nat.le_of_ble_eq_true rfl) dL_law_252) (fun M32 r33 => ?_)
      refine j_aload_n (pc := 255) hC dL_law_255 rfl ?_
      refine j_aload_n (pc := 256) hC dL_law_256 rfl ?_
      refine j_iload_n (pc := 257) hC dL_law_257 rfl ?_
      refine j_iconst (pc := 258) hC dL_law_258 (v := 1) (by decide) ?_
      refine j_iadd (pc := 259) hC dL_law_259 ?_
      refine j_sld (pc := 260) hC hS hi31 dL_law_260 ?_
      refine j_bI (pc := 261) (run_V hC (st := [.int r33]) (kt_X12_current hC.ly M32 (xs (x3 + (1 : Int32)).toNatClampNeg)) vv_X12_current qw840 (by decide) sh_X12 rfl ⟨(Nat.le_of_ble_eq_true rfl), (Nat.le_of_ble_eq_true rfl)⟩ rfl rfl (Nat.le_of_ble_eq_true rfl) dL_law_261) (fun M34 r35 => ?_)
      refine j_icmp_eq (pc := 264) hC dL_law_264 (tgt := 812) (by decide) (fun hb36 => ?_) (fun hb36 => ?_)
      · refine j_iinc (pc := 812) hC (lv' := [some (.ref sb), some (.ref (ad 0)), some (.ref (ad 109)), some (.int (x3 + 5))]) dL_law_812 rfl (v := 5) (by decide) (by decide) rfl rfl ?_
        refine j_goto (pc := 815) hC dL_law_815 (tgt := 18) (by decide) ?_
        exact hrec18 M34 (x3 + 5)
      · refine j_iconst (pc := 267) hC dL_law_267 (v := 0) (by decide) ?_
        exact j_none
    refine j_ite (fun hb37 => ?_) (fun hb37 => ?_)
    · refine j_tabIn (pc := 32) hC dL_law_32 hb37 (by decide) (by decide) rfl (tgt := 269) (by decide) ?_
      refine j_aload_n (pc := 269) hC dL_law_269 rfl ?_
      refine j_aload_n (pc := 270) hC dL_law_270 rfl ?_
      refine j_iload_n (pc := 271) hC dL_law_271 rfl ?_
      refine j_iconst (pc := 272) hC dL_law_272 (v := 1) (by decide) ?_
      refine j_iadd (pc := 273) hC dL_law_273 ?_
      refine j_ck (fun hi38 => ?_)
      refine j_sld (pc := 274) hC hS hi38 dL_law_274 ?_
      refine j_bI (pc := 275) (run_V hC (st := []) (kt_X11_now hC.ly M (xs (x3 + (1 : Int32)).toNatClampNeg)) vv_X11_now qw440 (by decide) sh_X11 rfl ⟨(Nat.le_of_ble_eq_true rfl), (Nat.le_of_ble_eq_true rfl)⟩ rfl rfl (Nat.le_of_ble_eq_true rfl) dL_law_275) (fun M39 r40 => ?_)
      refine j_aload_n (pc := 278) hC dL_law_278 rfl ?_
      refine j_aload_n (pc := 279) hC dL_law_279 rfl ?_
      refine j_iload_n (pc := 280) hC dL_law_280 rfl ?_
      refine j_iconst (pc := 281) hC dL_law_281 (v := 1) (by decide) ?_
      refine j_iadd (pc := 282) hC dL_law_282 ?_
      refine j_sld (pc := 283) hC hS hi38 dL_law_283 ?_
      refine j_bI (pc := 284) (run_V hC (st := [.int r40]) (kt_X12_now hC.ly M39 (xs (x3 + (1 : Int32)).toNatClampNeg)) vv_X12_now qw848 (by decide) sh_X12 rfl ⟨(Nat.le_of_ble_eq_true rfl), (Nat.le_of_ble_eq_true rfl)⟩ rfl rfl (Nat.le_of_ble_eq_true rfl) dL_law_284) (fun M41 r42 => ?_)
      refine j_icmp_eq (pc := 287) hC dL_law_287 (tgt := 812) (by decide) (fun hb43 => ?_) (fun hb43 => ?_)
      · refine j_iinc (pc := 812) hC (lv' := [some (.ref sb), some (.ref (ad 0)), some (.ref (ad 109)), some (.int (x3 + 5))]) dL_law_812 rfl (v := 5) (by decide) (by decide) rfl rfl ?_
        refine j_goto (pc := 815) hC dL_law_815 (tgt := 18) (by decide) ?_
        exact hrec18 M41 (x3 + 5)
      · refine j_iconst (pc := 290) hC dL_law_290 (v := 0) (by decide) ?_
        exact j_none
    refine j_ite (fun hb44 => ?_) (fun hb44 => ?_)
    · refine j_tabIn (pc := 32) hC dL_law_32 hb44 (by decide) (by decide) rfl (tgt := 292) (by decide) ?_
      refine j_aload_n (pc := 292) hC dL_law_292 rfl ?_
      refine j_bI (pc := 293) (run_V hC (st := []) (kt_X11_beat hC.ly M) vv_X11_beat qw460 (by decide) sh_X11 rfl ⟨(Nat.le_of_ble_eq_true rfl), (Nat.le_of_ble_eq_true rfl)⟩ rfl rfl (Nat.le_of_ble_eq_true rfl) dL_law_293) (fun M45 r46 => ?_)
      refine j_aload_n (pc := 296) hC dL_law_296 rfl ?_
      refine j_bI (pc := 297) (run_V hC (st := [.int r46]) (kt_X12_beat hC.ly M45) vv_X12_beat qw864 (by decide) sh_X12 rfl ⟨(Nat.le_of_ble_eq_true rfl), (Nat.le_of_ble_eq_true rfl)⟩ rfl rfl (Nat.le_of_ble_eq_true rfl) dL_law_297) (fun M47 r48 => ?_)
      refine j_icmp_eq (pc := 300) hC dL_law_300 (tgt := 812) (by decide) (fun hb49 => ?_) (fun hb49 => ?_)
      · refine j_iinc (pc := 812) hC (lv' := [some (.ref sb), some (.ref (ad 0)), some (.ref (ad 109)), some (.int (x3 + 5))]) dL_law_812 rfl (v := 5) (by decide) (by decide) rfl rfl ?_
        refine j_goto (pc := 815) hC dL_law_815 (tgt := 18) (by decide) ?_
        exact hrec18 M47 (x3 + 5)
      · refine j_iconst (pc := 303) hC dL_law_303 (v := 0) (by decide) ?_
        exact j_none
    refine j_ite (fun hb50 => ?_) (fun hb50 => ?_)
    · refine j_tabIn (pc := 32) hC dL_law_32 hb50 (by decide) (by decide) rfl (tgt := 305) (by decide) ?_
      refine j_aload_n (pc := 305) hC dL_law_305 rfl ?_
      refine j_aload_n (pc := 306) hC dL_law_306 rfl ?_
      refine j_iload_n (pc := 307) hC dL_law_307 rfl ?_
      refine j_iconst (pc := 308) hC dL_law_308 (v := 1) (by decide) ?_
      refine j_iadd (pc := 309) hC dL_law_309 ?_
      refine j_ck (fun hi51 => ?_)
      refine j_sld (pc := 310) hC hS hi51 dL_law_310 ?_
      refine j_bI (pc := 311) (run_V hC (st := []) (kt_X11_pinches hC.ly M (xs (x3 + (1 : Int32)).toNatClampNeg)) vv_X11_pinches qw491 (by decide) sh_X11 rfl ⟨(Nat.le_of_ble_eq_true rfl), (Nat.le_of_ble_eq_true rfl)⟩ rfl rfl (Nat.le_of_ble_eq_true rfl) dL_law_311) (fun M52 r53 => ?_)
      refine j_aload_n (pc := 314) hC dL_law_314 rfl ?_
      refine j_aload_n (pc := 315) hC dL_law_315 rfl ?_
      refine j_iload_n (pc := 316) hC dL_law_316 rfl ?_
      refine j_iconst (pc := 317) hC dL_law_317 (v := 1) (by decide) ?_
      refine j_iadd (pc := 318) hC dL_law_318 ?_
      refine j_sld (pc := 319) hC hS hi51 dL_law_319 ?_
      refine j_bI (pc := 320) (run_V hC (st := [.int r53]) (kt_X12_pinches hC.ly M52 (xs (x3 + (1 : Int32)).toNatClampNeg)) vv_X12_pinches qw884 (by decide) sh_X12 rfl ⟨(Nat.le_of_ble_eq_true rfl), (Nat.le_of_ble_eq_true rfl)⟩ rfl rfl (Nat.le_of_ble_eq_true rfl) dL_law_320) (fun M54 r55 => ?_)
      refine j_icmp_eq (pc := 323) hC dL_law_323 (tgt := 812) (by decide) (fun hb56 => ?_) (fun hb56 => ?_)
      · refine j_iinc (pc := 812) hC (lv' := [some (.ref sb), some (.ref (ad 0)), some (.ref (ad 109)), some (.int (x3 + 5))]) dL_law_812 rfl (v := 5) (by decide) (by decide) rfl rfl ?_
        refine j_goto (pc := 815) hC dL_law_815 (tgt := 18) (by decide) ?_
        exact hrec18 M54 (x3 + 5)
      · refine j_iconst (pc := 326) hC dL_law_326 (v := 0) (by decide) ?_
        exact j_none
    refine j_ite (fun hb57 => ?_) (fun hb57 => ?_)
    · refine j_tabIn (pc := 32) hC dL_law_32 hb57 (by decide) (by decide) rfl (tgt := 328) (by decide) ?_
      refine j_aload_n (pc := 328) hC dL_law_328 rfl ?_
      refine j_aload_n (pc := 329) hC dL_law_329 rfl ?_
      refine j_iload_n (pc := 330) hC dL_law_330 rfl ?_
      refine j_iconst (pc := 331) hC dL_law_331 (v := 1) (by decide) ?_
      refine j_iadd (pc := 332) hC dL_law_332 ?_
      refine j_ck (fun hi58 => ?_)
      refine j_sld (pc := 333) hC hS hi58 dL_law_333 ?_
      refine j_aload_n (pc := 334) hC dL_law_334 rfl ?_
      refine j_iload_n (pc := 335) hC dL_law_335 rfl ?_
      refine j_iconst (pc := 336) hC dL_law_336 (v := 2) (by decide) ?_
      refine j_iadd (pc := 337) hC dL_law_337 ?_
      refine j_ck (fun hi59 => ?_)
      refine j_sld (pc := 338) hC hS hi59 dL_law_338 ?_
      refine j_bI (pc := 339) (run_V hC (st := []) (kt_X11_quarrels hC.ly M (xs (x3 + (1 : Int32)).toNatClampNeg) (xs (x3 + (2 : Int32)).toNatClampNeg)) vv_X11_quarrels qw500 (by decide) sh_X11 rfl ⟨(Nat.le_of_ble_eq_true rfl), (Nat.le_of_ble_eq_true rfl)⟩ rfl rfl (Nat.le_of_ble_eq_true rfl) dL_law_339) (fun M60 r61 => ?_)
      refine j_aload_n (pc := 342) hC dL_law_342 rfl ?_
      refine j_aload_n (pc := 343) hC dL_law_343 rfl ?_
      refine j_iload_n (pc := 344) hC dL_law_344 rfl ?_
      refine j_iconst (pc := 345) hC dL_law_345 (v := 1) (by decide) ?_
      refine j_iadd (pc := 346) hC dL_law_346 ?_
      refine j_sld (pc := 347) hC hS hi58 dL_law_347 ?_
      refine j_aload_n (pc := 348) hC dL_law_348 rfl ?_
      refine j_iload_n (pc := 349) hC dL_law_349 rfl ?_
      refine j_iconst (pc := 350) hC dL_law_350 (v := 2) (by decide) ?_
      refine j_iadd (pc := 351) hC dL_law_351 ?_
      refine j_sld (pc := 352) hC hS hi59 dL_law_352 ?_
      refine j_bI (pc := 353) (run_V hC (st := [.int r61]) (kt_X12_quarrels hC.ly M60 (xs (x3 + (1 : Int32)).toNatClampNeg) (xs (x3 + (2 : Int32)).toNatClampNeg)) vv_X12_quarrels qw888 (by decide) sh_X12 rfl ⟨(Nat.le_of_ble_eq_true rfl), (Nat.le_of_ble_eq_true rfl)⟩ rfl rfl (Nat.le_of_ble_eq_true rfl) dL_law_353) (fun M62 r63 => ?_)
      refine j_icmp_eq (pc := 356) hC dL_law_356 (tgt := 812) (by decide) (fun hb64 => ?_) (fun hb64 => ?_)
      · refine j_iinc (pc := 812) hC (lv' := [some (.ref sb), some (.ref (ad 0)), some (.ref (ad 109)), some (.int (x3 + 5))]) dL_law_812 rfl (v := 5) (by decide) (by decide) rfl rfl ?_
        refine j_goto (pc := 815) hC dL_law_815 (tgt := 18) (by decide) ?_
        exact hrec18 M62 (x3 + 5)
      · refine j_iconst (pc := 359) hC dL_law_359 (v := 0) (by decide) ?_
        exact j_none
    refine j_ite (fun hb65 => ?_) (fun hb65 => ?_)
    · refine j_tabIn (pc := 32) hC dL_law_32 hb65 (by decide) (by decide) rfl (tgt := 361) (by decide) ?_
      refine j_aload_n (pc := 361) hC dL_law_361 rfl ?_
      refine j_aload_n (pc := 362) hC dL_law_362 rfl ?_
      refine j_iload_n (pc := 363) hC dL_law_363 rfl ?_
      refine j_iconst (pc := 364) hC dL_law_364 (v := 1) (by decide) ?_
      refine j_iadd (pc := 365) hC dL_law_365 ?_
      refine j_ck (fun hi66 => ?_)
      refine j_sld (pc := 366) hC hS hi66 dL_law_366 ?_
      refine j_bI (pc := 367) (run_V hC (st := []) (kt_X11_sings hC.ly M (xs (x3 + (1 : Int32)).toNatClampNeg)) vv_X11_sings qw504 (by decide) sh_X11 rfl ⟨(Nat.le_of_ble_eq_true rfl), (Nat.le_of_ble_eq_true rfl)⟩ rfl rfl (Nat.le_of_ble_eq_true rfl) dL_law_367) (fun M67 r68 => ?_)
      refine j_aload_n (pc := 370) hC dL_law_370 rfl ?_
      refine j_aload_n (pc := 371) hC dL_law_371 rfl ?_
      refine j_iload_n (pc := 372) hC dL_law_372 rfl ?_
      refine j_iconst (pc := 373) hC dL_law_373 (v := 1) (by decide) ?_
      refine j_iadd (pc := 374) hC dL_law_374 ?_
      refine j_sld (pc := 375) hC hS hi66 dL_law_375 ?_
      refine j_bI (pc := 376) (run_V hC (st := [.int r68]) (kt_X12_sings hC.ly M67 (xs (x3 + (1 : Int32)).toNatClampNeg)) vv_X12_sings qw892 (by decide) sh_X12 rfl ⟨(Nat.le_of_ble_eq_true rfl), (Nat.le_of_ble_eq_true rfl)⟩ rfl rfl (Nat.le_of_ble_eq_true rfl) dL_law_376) (fun M69 r70 => ?_)
      refine j_icmp_eq (pc := 379) hC dL_law_379 (tgt := 812) (by decide) (fun hb71 => ?_) (fun hb71 => ?_)
      · refine j_iinc (pc := 812) hC (lv' := [some (.ref sb), some (.ref (ad 0)), some (.ref (ad 109)), some (.int (x3 + 5))]) dL_law_812 rfl (v := 5) (by decide) (by decide) rfl rfl ?_
        refine j_goto (pc := 815) hC dL_law_815 (tgt := 18) (by decide) ?_
        exact hrec18 M69 (x3 + 5)
      · refine j_iconst (pc := 382) hC dL_law_382 (v := 0) (by decide) ?_
        exact j_none
    refine j_ite (fun hb72 => ?_) (fun hb72 => ?_)
    · refine j_tabIn (pc := 32) hC dL_law_32 hb72 (by decide) (by decide) rfl (tgt := 384) (by decide) ?_
      refine j_aload_n (pc := 384) hC dL_law_384 rfl ?_
      refine j_bI (pc := 385) (run_V hC (st := []) (kt_X11_undo hC.ly M) vv_X11_undo qw512 (by decide) sh_X11 rfl ⟨(Nat.le_of_ble_eq_true rfl), (Nat.le_of_ble_eq_true rfl)⟩ rfl rfl (Nat.le_of_ble_eq_true rfl) dL_law_385) (fun M73 r74 => ?_)
      refine j_aload_n (pc := 388) hC dL_law_388 rfl ?_
      refine j_bI (pc := 389) (run_V hC (st := [.int r74]) (kt_X12_undo hC.ly M73) vv_X12_undo qw896 (by decide) sh_X12 rfl ⟨(Nat.le_of_ble_eq_true rfl), (Nat.le_of_ble_eq_true rfl)⟩ rfl rfl (Nat.le_of_ble_eq_true rfl) dL_law_389) (fun M75 r76 => ?_)
      refine j_icmp_eq (pc := 392) hC dL_law_392 (tgt := 812) (by decide) (fun hb77 => ?_) (fun hb77 => ?_)
      · refine j_iinc (pc := 812) hC (lv' := [some (.ref sb), some (.ref (ad 0)), some (.ref (ad 109)), some (.int (x3 + 5))]) dL_law_812 rfl (v := 5) (by decide) (by decide) rfl rfl ?_
        refine j_goto (pc := 815) hC dL_law_815 (tgt := 18) (by decide) ?_
        exact hrec18 M75 (x3 + 5)
      · refine j_iconst (pc := 395) hC dL_law_395 (v := 0) (by decide) ?_
        exact j_none
    refine j_ite (fun hb78 => ?_) (fun hb78 => ?_)
    · refine j_tabIn (pc := 32) hC dL_law_32 hb78 (by decide) (by decide) rfl (tgt := 397) (by decide) ?_
      refine j_aload_n (pc := 397) hC dL_law_397 rfl ?_
      refine j_aload_n (pc := 398) hC dL_law_398 rfl ?_
      refine j_iload_n (pc := 399) hC dL_law_399 rfl ?_
      refine j_iconst (pc := 400) hC dL_law_400 (v := 1) (by decide) ?_
      refine j_iadd (pc := 401) hC dL_law_401 ?_
      refine j_ck (fun hi79 => ?_)
      refine j_sld (pc := 402) hC hS hi79 dL_law_402 ?_
      refine j_aload_n (pc := 403) hC dL_law_403 rfl ?_
      refine j_iload_n (pc := 404) hC dL_law_404 rfl ?_
      refine j_iconst (pc := 405) hC dL_law_405 (v := 2) (by decide) ?_
      refine j_iadd (pc := 406) hC dL_law_406 ?_
      refine j_ck (fun hi80 => ?_)
      refine j_sld (pc := 407) hC hS hi80 dL_law_407 ?_
      refine j_bI (pc := 408) (run_V hC (st := []) (kt_X11_inBeats hC.ly M (xs (x3 + (1 : Int32)).toNatClampNeg) (xs (x3 + (2 : Int32)).toNatClampNeg)) vv_X11_inBeats qw520 (by decide) sh_X11 rfl ⟨(Nat.le_of_ble_eq_true rfl), (Nat.le_of_ble_eq_true rfl)⟩ rfl rfl (Nat.le_of_ble_eq_true rfl) dL_law_408) (fun M81 r82 => ?_)
      refine j_aload_n (pc := 411) hC dL_law_411 rfl ?_
      refine j_aload_n (pc := 412) hC dL_law_412 rfl ?_
      refine j_iload_n (pc := 413) hC dL_law_413 rfl ?_
      refine j_iconst (pc := 414) hC dL_law_414 (v := 1) (by decide) ?_
      refine j_iadd (pc := 415) hC dL_law_415 ?_
      refine j_sld (pc := 416) hC hS hi79 dL_law_416 ?_
      refine j_aload_n (pc := 417) hC dL_law_417 rfl ?_
      refine j_iload_n (pc := 418) hC dL_law_418 rfl ?_
      refine j_iconst (pc := 419) hC dL_law_419 (v := 2) (by decide) ?_
      refine j_iadd (pc := 420) hC dL_law_420 ?_
      refine j_sld (pc := 421) hC hS hi80 dL_law_421 ?_
      refine j_bI (pc := 422) (run_V hC (st := [.int r82]) (kt_X12_inBeats hC.ly M81 (xs (x3 + (1 : Int32)).toNatClampNeg) (xs (x3 + (2 : Int32)).toNatClampNeg)) vv_X12_inBeats qw900 (by decide) sh_X12 rfl ⟨(Nat.le_of_ble_eq_true rfl), (Nat.le_of_ble_eq_true rfl)⟩ rfl rfl (Nat.le_of_ble_eq_true rfl) dL_law_422) (fun M83 r84 => ?_)
      refine j_icmp_eq (pc := 425) hC dL_law_425 (tgt := 812) (by decide) (fun hb85 => ?_) (fun hb85 => ?_)
      · refine j_iinc (pc := 812) hC (lv' := [some (.ref sb), some (.ref (ad 0)), some (.ref (ad 109)), some (.int (x3 + 5))]) dL_law_812 rfl (v := 5) (by decide) (by decide) rfl rfl ?_
        refine j_goto (pc := 815) hC dL_law_815 (tgt := 18) (by decide) ?_
        exact hrec18 M83 (x3 + 5)
      · refine j_iconst (pc := 428) hC dL_law_428 (v := 0) (by decide) ?_
        exact j_none
    refine j_ite (fun hb86 => ?_) (fun hb86 => ?_)
    · refine j_tabIn (pc := 32) hC dL_law_32 hb86 (by decide) (by decide) rfl (tgt := 430) (by decide) ?_
      refine j_aload_n (pc := 430) hC dL_law_430 rfl ?_
      refine j_bI (pc := 431) (run_V hC (st := []) (kt_X11_ends hC.ly M) vv_X11_ends qw529 (by decide) sh_X11 rfl ⟨(Nat.le_of_ble_eq_true rfl), (Nat.le_of_ble_eq_true rfl)⟩ rfl rfl (Nat.le_of_ble_eq_true rfl) dL_law_431) (fun M87 r88 => ?_)
      refine j_aload_n (pc := 434) hC dL_law_434 rfl ?_
      refine j_bI (pc := 435) (run_V hC (st := [.int r88]) (kt_X12_ends hC.ly M87) vv_X12_ends qw908 (by decide) sh_X12 rfl ⟨(Nat.le_of_ble_eq_true rfl), (Nat.le_of_ble_eq_true rfl)⟩ rfl rfl (Nat.le_of_ble_eq_true rfl) dL_law_435) (fun M89 r90 => ?_)
      refine j_icmp_eq (pc := 438) hC dL_law_438 (tgt := 812) (by decide) (fun hb91 => ?_) (fun hb91 => ?_)
      · refine j_iinc (pc := 812) hC (lv' := [some (.ref sb), some (.ref (ad 0)), some (.ref (ad 109)), some (.int (x3 + 5))]) dL_law_812 rfl (v := 5) (by decide) (by decide) rfl rfl ?_
        refine j_goto (pc := 815) hC dL_law_815 (tgt := 18) (by decide) ?_
        exact hrec18 M89 (x3 + 5)
      · refine j_iconst (pc := 441) hC dL_law_441 (v := 0) (by decide) ?_
        exact j_none
    refine j_ite (fun hb92 => ?_) (fun hb92 => ?_)
    · refine j_tabIn (pc := 32) hC dL_law_32 hb92 (by decide) (by decide) rfl (tgt := 443) (by decide) ?_
      refine j_aload_n (pc := 443) hC dL_law_443 rfl ?_
      refine j_bI (pc := 444) (run_V hC (st := []) (kt_X11_last hC.ly M) vv_X11_last qw538 (by decide) sh_X11 rfl ⟨(Nat.le_of_ble_eq_true rfl), (Nat.le_of_ble_eq_true rfl)⟩ rfl rfl (Nat.le_of_ble_eq_true rfl) dL_law_444) (fun M93 r94 => ?_)
      refine j_aload_n (pc := 447) hC dL_law_447 rfl ?_
      refine j_bI (pc := 448) (run_V hC (st := [.int r94]) (kt_X12_last hC.ly M93) vv_X12_last qw916 (by decide) sh_X12 rfl ⟨(Nat.le_of_ble_eq_true rfl), (Nat.le_of_ble_eq_true rfl)⟩ rfl rfl (Nat.le_of_ble_eq_true rfl) dL_law_448) (fun M95 r96 => ?_)
      refine j_icmp_eq (pc := 451) hC dL_law_451 (tgt := 812) (by decide) (fun hb97 => ?_) (fun hb97 => ?_)
      · refine j_iinc (pc := 812) hC (lv' := [some (.ref sb), some (.ref (ad 0)), some (.ref (ad 109)), some (.int (x3 + 5))]) dL_law_812 rfl (v := 5) (by decide) (by decide) rfl rfl ?_
        refine j_goto (pc := 815) hC dL_law_815 (tgt := 18) (by decide) ?_
        exact hrec18 M95 (x3 + 5)
      · refine j_iconst (pc := 454) hC dL_law_454 (v := 0) (by decide) ?_
        exact j_none
    refine j_ite (fun hb98 => ?_) (fun hb98 => ?_)
    · refine j_tabIn (pc := 32) hC dL_law_32 hb98 (by decide) (by decide) rfl (tgt := 456) (by decide) ?_
      refine j_aload_n (pc := 456) hC dL_law_456 rfl ?_
      refine j_aload_n (pc := 457) hC dL_law_457 rfl ?_
      refine j_iload_n (pc := 458) hC dL_law_458 rfl ?_
      refine j_iconst (pc := 459) hC dL_law_459 (v := 1) (by decide) ?_
      refine j_iadd (pc := 460) hC dL_law_460 ?_
      refine j_ck (fun hi99 => ?_)
      refine j_sld (pc := 461) hC hS hi99 dL_law_461 ?_
      refine j_bI (pc := 462) (run_V hC (st := []) (kt_X11_first hC.ly M (xs (x3 + (1 : Int32)).toNatClampNeg)) vv_X11_first qw542 (by decide) sh_X11 rfl ⟨(Nat.le_of_ble_eq_true rfl), (Nat.le_of_ble_eq_true rfl)⟩ rfl rfl (Nat.le_of_ble_eq_true rfl) dL_law_462) (fun M100 r101 => ?_)
      refine j_aload_n (pc := 465) hC dL_law_465 rfl ?_
      refine j_aload_n (pc := 466) hC dL_law_466 rfl ?_
      refine j_iload_n (pc := 467) hC dL_law_467 rfl ?_
      refine j_iconst (pc := 468) hC dL_law_468 (v := 1) (by decide) ?_
      refine j_iadd (pc := 469) hC dL_law_469 ?_
      refine j_sld (pc := 470) hC hS hi99 dL_law_470 ?_
      refine j_bI (pc := 471) (run_V hC (st := [.int r101]) (kt_X12_first hC.ly M100 (xs (x3 + (1 : Int32)).toNatClampNeg)) vv_X12_first qw920 (by decide) sh_X12 rfl ⟨(Nat.le_of_ble_eq_true rfl), (Nat.le_of_ble_eq_true rfl)⟩ rfl rfl (Nat.le_of_ble_eq_true rfl) dL_law_471) (fun M102 r103 => ?_)
      refine j_icmp_eq (pc := 474) hC dL_law_474 (tgt := 812) (by decide) (fun hb104 => ?_) (fun hb104 => ?_)
      · refine j_iinc (pc := 812) hC (lv' := [some (.ref sb), some (.ref (ad 0)), some (.ref (ad 109)), some (.int (x3 + 5))]) dL_law_812 rfl (v := 5) (by decide) (by decide) rfl rfl ?_
        refine j_goto (pc := 815) hC dL_law_815 (tgt := 18) (by decide) ?_
        exact hrec18 M102 (x3 + 5)
      · refine j_iconst (pc := 477) hC dL_law_477 (v := 0) (by decide) ?_
        exact j_none
    refine j_ite (fun hb105 => ?_) (fun hb105 => ?_)
    · refine j_tabIn (pc := 32) hC dL_law_32 hb105 (by decide) (by decide) rfl (tgt := 479) (by decide) ?_
      refine j_aload_n (pc := 479) hC dL_law_479 rfl ?_
      refine j_bI (pc := 480) (run_V hC (st := []) (kt_X11_ring hC.ly M) vv_X11_ring qw547 (by decide) sh_X11 rfl ⟨(Nat.le_of_ble_eq_true rfl), (Nat.le_of_ble_eq_true rfl)⟩ rfl rfl (Nat.le_of_ble_eq_true rfl) dL_law_480) (fun M106 r107 => ?_)
      refine j_aload_n (pc := 483) hC dL_law_483 rfl ?_
      refine j_bI (pc := 484) (run_V hC (st := [.int r107]) (kt_X12_ring hC.ly M106) vv_X12_ring qw924 (by decide) sh_X12 rfl ⟨(Nat.le_of_ble_eq_true rfl), (Nat.le_of_ble_eq_true rfl)⟩ rfl rfl (Nat.le_of_ble_eq_true rfl) dL_law_484) (fun M108 r109 => ?_)
      refine j_icmp_eq (pc := 487) hC dL_law_487 (tgt := 812) (by decide) (fun hb110 => ?_) (fun hb110 => ?_)
      · refine j_iinc (pc := 812) hC (lv' := [some (.ref sb), some (.ref (ad 0)), some (.ref (ad 109)), some (.int (x3 + 5))]) dL_law_812 rfl (v := 5) (by decide) (by decide) rfl rfl ?_
        refine j_goto (pc := 815) hC dL_law_815 (tgt := 18) (by decide) ?_
        exact hrec18 M108 (x3 + 5)
      · refine j_iconst (pc := 490) hC dL_law_490 (v := 0) (by decide) ?_
        exact j_none
    refine j_ite (fun hb111 => ?_) (fun hb111 => ?_)
    · refine j_tabIn (pc := 32) hC dL_law_32 hb111 (by decide) (by decide) rfl (tgt := 492) (by decide) ?_
      refine j_aload_n (pc := 492) hC dL_law_492 rfl ?_
      refine j_bI (pc := 493) (run_V hC (st := []) (kt_X11_drift hC.ly M) vv_X11_drift qw557 (by decide) sh_X11 rfl ⟨(Nat.le_of_ble_eq_true rfl), (Nat.le_of_ble_eq_true rfl)⟩ rfl rfl (Nat.le_of_ble_eq_true rfl) dL_law_493) (fun M112 r113 => ?_)
      refine j_aload_n (pc := 496) hC dL_law_496 rfl ?_
      refine j_bI (pc := 497) (run_V hC (st := [.int r113]) (kt_X12_drift hC.ly M112) vv_X12_drift qw928 (by decide) sh_X12 rfl ⟨(Nat.le_of_ble_eq_true rfl), (Nat.le_of_ble_eq_true rfl)⟩ rfl rfl (Nat.le_of_ble_eq_true rfl) dL_law_497) (fun M114 r115 => ?_)
      refine j_icmp_eq (pc := 500) hC dL_law_500 (tgt := 812) (by decide) (fun hb116 => ?_) (fun hb116 => ?_)
      · refine j_iinc (pc := 812) hC (lv' := [some (.ref sb), some (.ref (ad 0)), some (.ref (ad 109)), some (.int (x3 + 5))]) dL_law_812 rfl (v := 5) (by decide) (by decide) rfl rfl ?_
        refine j_goto (pc := 815) hC dL_law_815 (tgt := 18) (by decide) ?_
        exact hrec18 M114 (x3 + 5)
      · refine j_iconst (pc := 503) hC dL_law_503 (v := 0) (by decide) ?_
        exact j_none
    refine j_ite (fun hb117 => ?_) (fun hb117 => ?_)
    · refine j_tabIn (pc := 32) hC dL_law_32 hb117 (by decide) (by decide) rfl (tgt := 505) (by decide) ?_
      refine j_aload_n (pc := 505) hC dL_law_505 rfl ?_
      refine j_aload_n (pc := 506) hC dL_law_506 rfl ?_
      refine j_iload_n (pc := 507) hC dL_law_507 rfl ?_
      refine j_iconst (pc := 508) hC dL_law_508 (v := 1) (by decide) ?_
      refine j_iadd (pc := 509) hC dL_law_509 ?_
      refine j_ck (fun hi118 => ?_)
      refine j_sld (pc := 510) hC hS hi118 dL_law_510 ?_
      refine j_aload_n (pc := 511) hC dL_law_511 rfl ?_
      refine j_iload_n (pc := 512) hC dL_law_512 rfl ?_
      refine j_iconst (pc := 513) hC dL_law_513 (v := 2) (by decide) ?_
      refine j_iadd (pc := 514) hC dL_law_514 ?_
      refine j_ck (fun hi119 => ?_)
      refine j_sld (pc := 515) hC hS hi119 dL_law_515 ?_
      refine j_aload_n (pc := 516) hC dL_law_516 rfl ?_
      refine j_iload_n (pc := 517) hC dL_law_517 rfl ?_
      refine j_iconst (pc := 518) hC dL_law_518 (v := 3) (by decide) ?_
      refine j_iadd (pc := 519) hC dL_law_519 ?_
      refine j_ck (fun hi120 => ?_)
      refine j_sld (pc := 520) hC hS hi120 dL_law_520 ?_
      refine j_bI (pc := 521) (run_V hC (st := []) (kt_X11_plan hC.ly M (xs (x3 + (1 : Int32)).toNatClampNeg) (xs (x3 + (2 : Int32)).toNatClampNeg) (xs (x3 + (3 : Int32)).toNatClampNeg)) vv_X11_plan qw561 (by decide) sh_X11 rfl ⟨(Nat.le_of_ble_eq_true rfl), (Nat.le_of_ble_eq_true rfl)⟩ rfl rfl (Nat.le_of_ble_eq_true rfl) dL_law_521) (fun M121 r122 => ?_)
      refine j_aload_n (pc := 524) hC dL_law_524 rfl ?_
      refine j_aload_n (pc := 525) hC dL_law_525 rfl ?_
      refine j_iload_n (pc := 526) hC dL_law_526 rfl ?_
      refine j_iconst (pc := 527) hC dL_law_527 (v := 1) (by decide) ?_
      refine j_iadd (pc := 528) hC dL_law_528 ?_
      refine j_sld (pc := 529) hC hS hi118 dL_law_529 ?_
      refine j_aload_n (pc := 530) hC dL_law_530 rfl ?_
      refine j_iload_n (pc := 531) hC dL_law_531 rfl ?_
      refine j_iconst (pc := 532) hC dL_law_532 (v := 2) (by decide) ?_
      refine j_iadd (pc := 533) hC dL_law_533 ?_
      refine j_sld (pc := 534) hC hS hi119 dL_law_534 ?_
      refine j_aload_n (pc := 535) hC dL_law_535 rfl ?_
      refine j_iload_n (pc := 536) hC dL_law_536 rfl ?_
      refine j_iconst (pc := 537) hC dL_law_537 (v := 3) (by decide) ?_
      refine j_iadd (pc := 538) hC dL_law_538 ?_
      refine j_sld (pc := 539) hC hS hi120 dL_law_539 ?_
      refine j_bI (pc := 540) (run_V hC (st := [.int r122]) (kt_X12_plan hC.ly M121 (xs (x3 + (1 : Int32)).toNatClampNeg) (xs (x3 + (2 : Int32)).toNatClampNeg) (xs (x3 + (3 : Int32)).toNatClampNeg)) vv_X12_plan qw932 (by decide) sh_X12 rfl ⟨(Nat.le_of_ble_eq_true rfl), (Nat.le_of_ble_eq_true rfl)⟩ rfl rfl (Nat.le_of_ble_eq_true rfl) dL_law_540) (fun M123 r124 => ?_)
      refine j_icmp_eq (pc := 543) hC dL_law_543 (tgt := 812) (by decide) (fun hb125 => ?_) (fun hb125 => ?_)
      · refine j_iinc (pc := 812) hC (lv' := [some (.ref sb), some (.ref (ad 0)), some (.ref (ad 109)), some (.int (x3 + 5))]) dL_law_812 rfl (v := 5) (by decide) (by decide) rfl rfl ?_
        refine j_goto (pc := 815) hC dL_law_815 (tgt := 18) (by decide) ?_
        exact hrec18 M123 (x3 + 5)
      · refine j_iconst (pc := 546) hC dL_law_546 (v := 0) (by decide) ?_
        exact j_none
    refine j_ite (fun hb126 => ?_) (fun hb126 => ?_)
    · refine j_tabIn (pc := 32) hC dL_law_32 hb126 (by decide) (by decide) rfl (tgt := 548) (by decide) ?_
      refine j_aload_n (pc := 548) hC dL_law_548 rfl ?_
      refine j_bI (pc := 549) (run_V hC (st := []) (kt_X11_best hC.ly M) vv_X11_best qw585 (by decide) sh_X11 rfl ⟨(Nat.le_of_ble_eq_true rfl), (Nat.le_of_ble_eq_true rfl)⟩ rfl rfl (Nat.le_of_ble_eq_true rfl) dL_law_549) (fun M127 r128 => ?_)
      refine j_aload_n (pc := 552) hC dL_law_552 rfl ?_
      refine j_bI (pc := 553) (run_V hC (st := [.int r128]) (kt_X12_best hC.ly M127) vv_X12_best qw940 (by decide) sh_X12 rfl ⟨(Nat.le_of_ble_eq_true rfl), (Nat.le_of_ble_eq_true rfl)⟩ rfl rfl (Nat.le_of_ble_eq_true rfl) dL_law_553) (fun M129 r130 => ?_)
      refine j_icmp_eq (pc := 556) hC dL_law_556 (tgt := 812) (by decide) (fun hb131 => ?_) (fun hb131 => ?_)
      · refine j_iinc (pc := 812) hC (lv' := [some (.ref sb), some (.ref (ad 0)), some (.ref (ad 109)), some (.int (x3 + 5))]) dL_law_812 rfl (v := 5) (by decide) (by decide) rfl rfl ?_
        refine j_goto (pc := 815) hC dL_law_815 (tgt := 18) (by decide) ?_
        exact hrec18 M129 (x3 + 5)
      · refine j_iconst (pc := 559) hC dL_law_559 (v := 0) (by decide) ?_
        exact j_none
    refine j_ite (fun hb132 => ?_) (fun hb132 => ?_)
    · refine j_tabIn (pc := 32) hC dL_law_32 hb132 (by decide) (by decide) rfl (tgt := 561) (by decide) ?_
      refine j_aload_n (pc := 561) hC dL_law_561 rfl ?_
      refine j_aload_n (pc := 562) hC dL_law_562 rfl ?_
      refine j_iload_n (pc := 563) hC dL_law_563 rfl ?_
      refine j_iconst (pc := 564) hC dL_law_564 (v := 1) (by decide) ?_
      refine j_iadd (pc := 565) hC dL_law_565 ?_
      refine j_ck (fun hi133 => ?_)
      refine j_sld (pc := 566) hC hS hi133 dL_law_566 ?_
      refine j_bI (pc := 567) (run_V hC (st := []) (kt_X11_mute hC.ly M (xs (x3 + (1 : Int32)).toNatClampNeg)) vv_X11_mute qw597 (by decide) sh_X11 rfl ⟨(Nat.le_of_ble_eq_true rfl), (Nat.le_of_ble_eq_true rfl)⟩ rfl rfl (Nat.le_of_ble_eq_true rfl) dL_law_567) (fun M134 r135 => ?_)
      refine j_aload_n (pc := 570) hC dL_law_570 rfl ?_
      refine j_aload_n (pc := 571) hC dL_law_571 rfl ?_
      refine j_iload_n (pc := 572) hC dL_law_572 rfl ?_
      refine j_iconst (pc := 573) hC dL_law_573 (v := 1) (by decide) ?_
      refine j_iadd (pc := 574) hC dL_law_574 ?_
      refine j_sld (pc := 575) hC hS hi133 dL_law_575 ?_
      refine j_bI (pc := 576) (run_V hC (st := [.int r135]) (kt_X12_mute hC.ly M134 (xs (x3 + (1 : Int32)).toNatClampNeg)) vv_X12_mute qw944 (by decide) sh_X12 rfl ⟨(Nat.le_of_ble_eq_true rfl), (Nat.le_of_ble_eq_true rfl)⟩ rfl rfl (Nat.le_of_ble_eq_true rfl) dL_law_576) (fun M136 r137 => ?_)
      refine j_icmp_eq (pc := 579) hC dL_law_579 (tgt := 812) (by decide) (fun hb138 => ?_) (fun hb138 => ?_)
      · refine j_iinc (pc := 812) hC (lv' := [some (.ref sb), some (.ref (ad 0)), some (.ref (ad 109)), some (.int (x3 + 5))]) dL_law_812 rfl (v := 5) (by decide) (by decide) rfl rfl ?_
        refine j_goto (pc := 815) hC dL_law_815 (tgt := 18) (by decide) ?_
        exact hrec18 M136 (x3 + 5)
      · refine j_iconst (pc := 582) hC dL_law_582 (v := 0) (by decide) ?_
        exact j_none
    refine j_ite (fun hb139 => ?_) (fun hb139 => ?_)
    · refine j_tabIn (pc := 32) hC dL_law_32 hb139 (by decide) (by decide) rfl (tgt := 584) (by decide) ?_
      refine j_aload_n (pc := 584) hC dL_law_584 rfl ?_
      refine j_aload_n (pc := 585) hC dL_law_585 rfl ?_
      refine j_iload_n (pc := 586) hC dL_law_586 rfl ?_
      refine j_iconst (pc := 587) hC dL_law_587 (v := 1) (by decide) ?_
      refine j_iadd (pc := 588) hC dL_law_588 ?_
      refine j_ck (fun hi140 => ?_)
      refine j_sld (pc := 589) hC hS hi140 dL_law_589 ?_
      refine j_aload_n (pc := 590) hC dL_law_590 rfl ?_
      refine j_iload_n (pc := 591) hC dL_law_591 rfl ?_
      refine j_iconst (pc := 592) hC dL_law_592 (v := 2) (by decide) ?_
      refine j_iadd (pc := 593) hC dL_law_593 ?_
      refine j_ck (fun hi141 => ?_)
      refine j_sld (pc := 594) hC hS hi141 dL_law_594 ?_
      refine j_bI (pc := 595) (run_V hC (st := []) (kt_X11_seen hC.ly M (xs (x3 + (1 : Int32)).toNatClampNeg) (xs (x3 + (2 : Int32)).toNatClampNeg)) vv_X11_seen qw605 (by decide) sh_X11 rfl ⟨(Nat.le_of_ble_eq_true rfl), (Nat.le_of_ble_eq_true rfl)⟩ rfl rfl (Nat.le_of_ble_eq_true rfl) dL_law_595) (fun M142 r143 => ?_)
      refine j_aload_n (pc := 598) hC dL_law_598 rfl ?_
      refine j_aload_n (pc := 599) hC dL_law_599 rfl ?_
      refine j_iload_n (pc := 600) hC dL_law_600 rfl ?_
      refine j_iconst (pc := 601) hC dL_law_601 (v := 1) (by decide) ?_
      refine j_iadd (pc := 602) hC dL_law_602 ?_
      refine j_sld (pc := 603) hC hS hi140 dL_law_603 ?_
      refine j_aload_n (pc := 604) hC dL_law_604 rfl ?_
      refine j_iload_n (pc := 605) hC dL_law_605 rfl ?_
      refine j_iconst (pc := 606) hC dL_law_606 (v := 2) (by decide) ?_
      refine j_iadd (pc := 607) hC dL_law_607 ?_
      refine j_sld (pc := 608) hC hS hi141 dL_law_608 ?_
      refine j_bI (pc := 609) (run_V hC (st := [.int r143]) (kt_X12_seen hC.ly M142 (xs (x3 + (1 : Int32)).toNatClampNeg) (xs (x3 + (2 : Int32)).toNatClampNeg)) vv_X12_seen qw948 (by decide) sh_X12 rfl ⟨(Nat.le_of_ble_eq_true rfl), (Nat.le_of_ble_eq_true rfl)⟩ rfl rfl (Nat.le_of_ble_eq_true rfl) dL_law_609) (fun M144 r145 => ?_)
      refine j_icmp_eq (pc := 612) hC dL_law_612 (tgt := 812) (by decide) (fun hb146 => ?_) (fun hb146 => ?_)
      · refine j_iinc (pc := 812) hC (lv' := [some (.ref sb), some (.ref (ad 0)), some (.ref (ad 109)), some (.int (x3 + 5))]) dL_law_812 rfl (v := 5) (by decide) (by decide) rfl rfl ?_
        refine j_goto (pc := 815) hC dL_law_815 (tgt := 18) (by decide) ?_
        exact hrec18 M144 (x3 + 5)
      · refine j_iconst (pc := 615) hC dL_law_615 (v := 0) (by decide) ?_
        exact j_none
    refine j_ite (fun hb147 => ?_) (fun hb147 => ?_)
    · refine j_tabIn (pc := 32) hC dL_law_32 hb147 (by decide) (by decide) rfl (tgt := 617) (by decide) ?_
      refine j_aload_n (pc := 617) hC dL_law_617 rfl ?_
      refine j_bI (pc := 618) (run_V hC (st := []) (kt_X11_forget hC.ly M) vv_X11_forget qw609 (by decide) sh_X11 rfl ⟨(Nat.le_of_ble_eq_true rfl), (Nat.le_of_ble_eq_true rfl)⟩ rfl rfl (Nat.le_of_ble_eq_true rfl) dL_law_618) (fun M148 r149 => ?_)
      refine j_aload_n (pc := 621) hC dL_law_621 rfl ?_
      refine j_bI (pc := 622) (run_V hC (st := [.int r149]) (kt_X12_forget hC.ly M148) vv_X12_forget qw952 (by decide) sh_X12 rfl ⟨(Nat.le_of_ble_eq_true rfl), (Nat.le_of_ble_eq_true rfl)⟩ rfl rfl (Nat.le_of_ble_eq_true rfl) dL_law_622) (fun M150 r151 => ?_)
      refine j_icmp_eq (pc := 625) hC dL_law_625 (tgt := 812) (by decide) (fun hb152 => ?_) (fun hb152 => ?_)
      · refine j_iinc (pc := 812) hC (lv' := [some (.ref sb), some (.ref (ad 0)), some (.ref (ad 109)), some (.int (x3 + 5))]) dL_law_812 rfl (v := 5) (by decide) (by decide) rfl rfl ?_
        refine j_goto (pc := 815) hC dL_law_815 (tgt := 18) (by decide) ?_
        exact hrec18 M150 (x3 + 5)
      · refine j_iconst (pc := 628) hC dL_law_628 (v := 0) (by decide) ?_
        exact j_none
    refine j_ite (fun hb153 => ?_) (fun hb153 => ?_)
    · refine j_tabIn (pc := 32) hC dL_law_32 hb153 (by decide) (by decide) rfl (tgt := 630) (by decide) ?_
      refine j_aload_n (pc := 630) hC dL_law_630 rfl ?_
      refine j_bI (pc := 631) (run_V hC (st := []) (kt_X11_who hC.ly M) vv_X11_who qw613 (by decide) sh_X11 rfl ⟨(Nat.le_of_ble_eq_true rfl), (Nat.le_of_ble_eq_true rfl)⟩ rfl rfl (Nat.le_of_ble_eq_true rfl) dL_law_631) (fun M154 r155 => ?_)
      refine j_aload_n (pc := 634) hC dL_law_634 rfl ?_
      refine j_bI (pc := 635) (run_V hC (st := [.int r155]) (kt_X12_who hC.ly M154) vv_X12_who qw956 (by decide) sh_X12 rfl ⟨(Nat.le_of_ble_eq_true rfl), (Nat.le_of_ble_eq_true rfl)⟩ rfl rfl (Nat.le_of_ble_eq_true rfl) dL_law_635) (fun M156 r157 => ?_)
      refine j_icmp_eq (pc := 638) hC dL_law_638 (tgt := 812) (by decide) (fun hb158 => ?_) (fun hb158 => ?_)
      · refine j_iinc (pc := 812) hC (lv' := [some (.ref sb), some (.ref (ad 0)), some (.ref (ad 109)), some (.int (x3 + 5))]) dL_law_812 rfl (v := 5) (by decide) (by decide) rfl rfl ?_
        refine j_goto (pc := 815) hC dL_law_815 (tgt := 18) (by decide) ?_
        exact hrec18 M156 (x3 + 5)
      · refine j_iconst (pc := 641) hC dL_law_641 (v := 0) (by decide) ?_
        exact j_none
    refine j_ite (fun hb159 => ?_) (fun hb159 => ?_)
    · refine j_tabIn (pc := 32) hC dL_law_32 hb159 (by decide) (by decide) rfl (tgt := 643) (by decide) ?_
      refine j_aload_n (pc := 643) hC dL_law_643 rfl ?_
      refine j_aload_n (pc := 644) hC dL_law_644 rfl ?_
      refine j_iload_n (pc := 645) hC dL_law_645 rfl ?_
      refine j_iconst (pc := 646) hC dL_law_646 (v := 1) (by decide) ?_
      refine j_iadd (pc := 647) hC dL_law_647 ?_
      refine j_ck (fun hi160 => ?_)
      refine j_sld (pc := 648) hC hS hi160 dL_law_648 ?_
      refine j_aload_n (pc := 649) hC dL_law_649 rfl ?_
      refine j_iload_n (pc := 650) hC dL_law_650 rfl ?_
      refine j_iconst (pc := 651) hC dL_law_651 (v := 2) (by decide) ?_
      refine j_iadd (pc := 652) hC dL_law_652 ?_
      refine j_ck (fun hi161 => ?_)
      refine j_sld (pc := 653) hC hS hi161 dL_law_653 ?_
      refine j_aload_n (pc := 654) hC dL_law_654 rfl ?_
      refine j_iload_n (pc := 655) hC dL_law_655 rfl ?_
      refine j_iconst (pc := 656) hC dL_law_656 (v := 3) (by decide) ?_
      refine j_iadd (pc := 657) hC dL_law_657 ?_
      refine j_ck (fun hi162 => ?_)
      refine j_sld (pc := 658) hC hS hi162 dL_law_658 ?_
      refine j_aload_n (pc := 659) hC dL_law_659 rfl ?_
      refine j_iload_n (pc := 660) hC dL_law_660 rfl ?_
      refine j_iconst (pc := 661) hC dL_law_661 (v := 4) (by decide) ?_
      refine j_iadd (pc := 662) hC dL_law_662 ?_
      refine j_ck (fun hi163 => ?_)
      refine j_sld (pc := 663) hC hS hi163 dL_law_663 ?_
      refine j_bI (pc := 664) (run_V hC (st := []) (kt_X11_odds hC.ly M (xs (x3 + (1 : Int32)).toNatClampNeg) (xs (x3 + (2 : Int32)).toNatClampNeg) (xs (x3 + (3 : Int32)).toNatClampNeg) (xs (x3 + (4 : Int32)).toNatClampNeg)) vv_X11_odds qw630 (by decide) sh_X11 rfl ⟨(Nat.le_of_ble_eq_true rfl), (Nat.le_of_ble_eq_true rfl)⟩ rfl rfl (Nat.le_of_ble_eq_true rfl) dL_law_664) (fun M164 r165 => ?_)
      refine j_aload_n (pc := 667) hC dL_law_667 rfl ?_
      refine j_aload_n (pc := 668) hC dL_law_668 rfl ?_
      refine j_iload_n (pc := 669) hC dL_law_669 rfl ?_
      refine j_iconst (pc := 670) hC dL_law_670 (v := 1) (by decide) ?_
      refine j_iadd (pc := 671) hC dL_law_671 ?_
      refine j_sld (pc := 672) hC hS hi160 dL_law_672 ?_
      refine j_aload_n (pc := 673) hC dL_law_673 rfl ?_
      refine j_iload_n (pc := 674) hC dL_law_674 rfl ?_
      refine j_iconst (pc := 675) hC dL_law_675 (v := 2) (by decide) ?_
      refine j_iadd (pc := 676) hC dL_law_676 ?_
      refine j_sld (pc := 677) hC hS hi161 dL_law_677 ?_
      refine j_aload_n (pc := 678) hC dL_law_678 rfl ?_
      refine j_iload_n (pc := 679) hC dL_law_679 rfl ?_
      refine j_iconst (pc := 680) hC dL_law_680 (v := 3) (by decide) ?_
      refine j_iadd (pc := 681) hC dL_law_681 ?_
      refine j_sld (pc := 682) hC hS hi162 dL_law_682 ?_
      refine j_aload_n (pc := 683) hC dL_law_683 rfl ?_
      refine j_iload_n (pc := 684) hC dL_law_684 rfl ?_
      refine j_iconst (pc := 685) hC dL_law_685 (v := 4) (by decide) ?_
      refine j_iadd (pc := 686) hC dL_law_686 ?_
      refine j_sld (pc := 687) hC hS hi163 dL_law_687 ?_
      refine j_bI (pc := 688) (run_V hC (st := [.int r165]) (kt_X12_odds hC.ly M164 (xs (x3 + (1 : Int32)).toNatClampNeg) (xs (x3 + (2 : Int32)).toNatClampNeg) (xs (x3 + (3 : Int32)).toNatClampNeg) (xs (x3 + (4 : Int32)).toNatClampNeg)) vv_X12_odds qw964 (by decide) sh_X12 rfl ⟨(Nat.le_of_ble_eq_true rfl), (Nat.le_of_ble_eq_true rfl)⟩ rfl rfl (Nat.le_of_ble_eq_true rfl) dL_law_688) (fun M166 r167 => ?_)
      refine j_icmp_eq (pc := 691) hC dL_law_691 (tgt := 812) (by decide) (fun hb168 => ?_) (fun hb168 => ?_)
      · refine j_iinc (pc := 812) hC (lv' := [some (.ref sb), some (.ref (ad 0)), some (.ref (ad 109)), some (.int (x3 + 5))]) dL_law_812 rfl (v := 5) (by decide) (by decide) rfl rfl ?_
        refine j_goto (pc := 815) hC dL_law_815 (tgt := 18) (by decide) ?_
        exact hrec18 M166 (x3 + 5)
      · refine j_iconst (pc := 694) hC dL_law_694 (v := 0) (by decide) ?_
        exact j_none
    refine j_ite (fun hb169 => ?_) (fun hb169 => ?_)
    · refine j_tabIn (pc := 32) hC dL_law_32 hb169 (by decide) (by decide) rfl (tgt := 696) (by decide) ?_
      refine j_aload_n (pc := 696) hC dL_law_696 rfl ?_
      refine j_aload_n (pc := 697) hC dL_law_697 rfl ?_
      refine j_iload_n (pc := 698) hC dL_law_698 rfl ?_
      refine j_iconst (pc := 699) hC dL_law_699 (v := 1) (by decide) ?_
      refine j_iadd (pc := 700) hC dL_law_700 ?_
      refine j_ck (fun hi170 => ?_)
      refine j_sld (pc := 701) hC hS hi170 dL_law_701 ?_
      refine j_aload_n (pc := 702) hC dL_law_702 rfl ?_
      refine j_iload_n (pc := 703) hC dL_law_703 rfl ?_
      refine j_iconst (pc := 704) hC dL_law_704 (v := 2) (by decide) ?_
      refine j_iadd (pc := 705) hC dL_law_705 ?_
      refine j_ck (fun hi171 => ?_)
      refine j_sld (pc := 706) hC hS hi171 dL_law_706 ?_
      refine j_bI (pc := 707) (run_V hC (st := []) (kt_X11_rate hC.ly M (xs (x3 + (1 : Int32)).toNatClampNeg) (xs (x3 + (2 : Int32)).toNatClampNeg)) vv_X11_rate qw644 (by decide) sh_X11 rfl ⟨(Nat.le_of_ble_eq_true rfl), (Nat.le_of_ble_eq_true rfl)⟩ rfl rfl (Nat.le_of_ble_eq_true rfl) dL_law_707) (fun M172 r173 => ?_)
      refine j_aload_n (pc := 710) hC dL_law_710 rfl ?_
      refine j_aload_n (pc := 711) hC dL_law_711 rfl ?_
      refine j_iload_n (pc := 712) hC dL_law_712 rfl ?_
      refine j_iconst (pc := 713) hC dL_law_713 (v := 1) (by decide) ?_
      refine j_iadd (pc := 714) hC dL_law_714 ?_
      refine j_sld (pc := 715) hC hS hi170 dL_law_715 ?_
      refine j_aload_n (pc := 716) hC dL_law_716 rfl ?_
      refine j_iload_n (pc := 717) hC dL_law_717 rfl ?_
      refine j_iconst (pc := 718) hC dL_law_718 (v := 2) (by decide) ?_
      refine j_iadd (pc := 719) hC dL_law_719 ?_
      refine j_sld (pc := 720) hC hS hi171 dL_law_720 ?_
      refine j_bI (pc := 721) (run_V hC (st := [.int r173]) (kt_X12_rate hC.ly M172 (xs (x3 + (1 : Int32)).toNatClampNeg) (xs (x3 + (2 : Int32)).toNatClampNeg)) vv_X12_rate qw974 (by decide) sh_X12 rfl ⟨(Nat.le_of_ble_eq_true rfl), (Nat.le_of_ble_eq_true rfl)⟩ rfl rfl (Nat.le_of_ble_eq_true rfl) dL_law_721) (fun M174 r175 => ?_)
      refine j_icmp_eq (pc := 724) hC dL_law_724 (tgt := 812) (by decide) (fun hb176 => ?_) (fun hb176 => ?_)
      · refine j_iinc (pc := 812) hC (lv' := [some (.ref sb), some (.ref (ad 0)), some (.ref (ad 109)), some (.int (x3 + 5))]) dL_law_812 rfl (v := 5) (by decide) (by decide) rfl rfl ?_
        refine j_goto (pc := 815) hC dL_law_815 (tgt := 18) (by decide) ?_
        exact hrec18 M174 (x3 + 5)
      · refine j_iconst (pc := 727) hC dL_law_727 (v := 0) (by decide) ?_
        exact j_none
    refine j_ite (fun hb177 => ?_) (fun hb177 => ?_)
    · refine j_tabIn (pc := 32) hC dL_law_32 hb177 (by decide) (by decide) rfl (tgt := 729) (by decide) ?_
      refine j_aload_n (pc := 729) hC dL_law_729 rfl ?_
      refine j_aload_n (pc := 730) hC dL_law_730 rfl ?_
      refine j_iload_n (pc := 731) hC dL_law_731 rfl ?_
      refine j_iconst (pc := 732) hC dL_law_732 (v := 1) (by decide) ?_
      refine j_iadd (pc := 733) hC dL_law_733 ?_
      refine j_ck (fun hi178 => ?_)
      refine j_sld (pc := 734) hC hS hi178 dL_law_734 ?_
      refine j_bI (pc := 735) (run_V hC (st := []) (kt_X11_keep hC.ly M (xs (x3 + (1 : Int32)).toNatClampNeg)) vv_X11_keep qw680 (by decide) sh_X11 rfl ⟨(Nat.le_of_ble_eq_true rfl), (Nat.le_of_ble_eq_true rfl)⟩ rfl rfl (Nat.le_of_ble_eq_true rfl) dL_law_735) (fun M179 r180 => ?_)
      refine j_aload_n (pc := 738) hC dL_law_738 rfl ?_
      refine j_aload_n (pc := 739) hC dL_law_739 rfl ?_
      refine j_iload_n (pc := 740) hC dL_law_740 rfl ?_
      refine j_iconst (pc := 741) hC dL_law_741 (v := 1) (by decide) ?_
      refine j_iadd (pc := 742) hC dL_law_742 ?_
      refine j_sld (pc := 743) hC hS hi178 dL_law_743 ?_
      refine j_bI (pc := 744) (run_V hC (st := [.int r180]) (kt_X12_keep hC.ly M179 (xs (x3 + (1 : Int32)).toNatClampNeg)) vv_X12_keep qw984 (by decide) sh_X12 rfl ⟨(Nat.le_of_ble_eq_true rfl), (Nat.le_of_ble_eq_true rfl)⟩ rfl rfl (Nat.le_of_ble_eq_true rfl) dL_law_744) (fun M181 r182 => ?_)
      refine j_icmp_eq (pc := 747) hC dL_law_747 (tgt := 812) (by decide) (fun hb183 => ?_) (fun hb183 => ?_)
      · refine j_iinc (pc := 812) hC (lv' := [some (.ref sb), some (.ref (ad 0)), some (.ref (ad 109)), some (.int (x3 + 5))]) dL_law_812 rfl (v := 5) (by decide) (by decide) rfl rfl ?_
        refine j_goto (pc := 815) hC dL_law_815 (tgt := 18) (by decide) ?_
        exact hrec18 M181 (x3 + 5)
      · refine j_iconst (pc := 750) hC dL_law_750 (v := 0) (by decide) ?_
        exact j_none
    refine j_ite (fun hb184 => ?_) (fun hb184 => ?_)
    · refine j_tabIn (pc := 32) hC dL_law_32 hb184 (by decide) (by decide) rfl (tgt := 752) (by decide) ?_
      refine j_aload_n (pc := 752) hC dL_law_752 rfl ?_
      refine j_aload_n (pc := 753) hC dL_law_753 rfl ?_
      refine j_iload_n (pc := 754) hC dL_law_754 rfl ?_
      refine j_iconst (pc := 755) hC dL_law_755 (v := 1) (by decide) ?_
      refine j_iadd (pc := 756) hC dL_law_756 ?_
      refine j_ck (fun hi185 => ?_)
      refine j_sld (pc := 757) hC hS hi185 dL_law_757 ?_
      refine j_bI (pc := 758) (run_V hC (st := []) (kt_X11_back hC.ly M (xs (x3 + (1 : Int32)).toNatClampNeg)) vv_X11_back qw684 (by decide) sh_X11 rfl ⟨(Nat.le_of_ble_eq_true rfl), (Nat.le_of_ble_eq_true rfl)⟩ rfl rfl (Nat.le_of_ble_eq_true rfl) dL_law_758) (fun M186 r187 => ?_)
      refine j_aload_n (pc := 761) hC dL_law_761 rfl ?_
      refine j_aload_n (pc := 762) hC dL_law_762 rfl ?_
      refine j_iload_n (pc := 763) hC dL_law_763 rfl ?_
      refine j_iconst (pc := 764) hC dL_law_764 (v := 1) (by decide) ?_
      refine j_iadd (pc := 765) hC dL_law_765 ?_
      refine j_sld (pc := 766) hC hS hi185 dL_law_766 ?_
      refine j_bI (pc := 767) (run_V hC (st := [.int r187]) (kt_X12_back hC.ly M186 (xs (x3 + (1 : Int32)).toNatClampNeg)) vv_X12_back qw988 (by decide) sh_X12 rfl ⟨(Nat.le_of_ble_eq_true rfl), (Nat.le_of_ble_eq_true rfl)⟩ rfl rfl (Nat.le_of_ble_eq_true rfl) dL_law_767) (fun M188 r189 => ?_)
      refine j_icmp_eq (pc := 770) hC dL_law_770 (tgt := 812) (by decide) (fun hb190 => ?_) (fun hb190 => ?_)
      · refine j_iinc (pc := 812) hC (lv' := [some (.ref sb), some (.ref (ad 0)), some (.ref (ad 109)), some (.int (x3 + 5))]) dL_law_812 rfl (v := 5) (by decide) (by decide) rfl rfl ?_
        refine j_goto (pc := 815) hC dL_law_815 (tgt := 18) (by decide) ?_
        exact hrec18 M188 (x3 + 5)
      · refine j_iconst (pc := 773) hC dL_law_773 (v := 0) (by decide) ?_
        exact j_none
    refine j_ite (fun hb191 => ?_) (fun hb191 => ?_)
    · refine j_tabIn (pc := 32) hC dL_law_32 hb191 (by decide) (by decide) rfl (tgt := 775) (by decide) ?_
      refine j_aload_n (pc := 775) hC dL_law_775 rfl ?_
      refine j_aload_n (pc := 776) hC dL_law_776 rfl ?_
      refine j_iload_n (pc := 777) hC dL_law_777 rfl ?_
      refine j_iconst (pc := 778) hC dL_law_778 (v := 1) (by decide) ?_
      refine j_iadd (pc := 779) hC dL_law_779 ?_
      refine j_ck (fun hi192 => ?_)
      refine j_sld (pc := 780) hC hS hi192 dL_law_780 ?_
      refine j_bI (pc := 781) (run_V hC (st := []) (kt_X11_count hC.ly M (xs (x3 + (1 : Int32)).toNatClampNeg)) vv_X11_count qw688 (by decide) sh_X11 rfl ⟨(Nat.le_of_ble_eq_true rfl), (Nat.le_of_ble_eq_true rfl)⟩ rfl rfl (Nat.le_of_ble_eq_true rfl) dL_law_781) (fun M193 r194 => ?_)
      refine j_aload_n (pc := 784) hC dL_law_784 rfl ?_
      refine j_aload_n (pc := 785) hC dL_law_785 rfl ?_
      refine j_iload_n (pc := 786) hC dL_law_786 rfl ?_
      refine j_iconst (pc := 787) hC dL_law_787 (v := 1) (by decide) ?_
      refine j_iadd (pc := 788) hC dL_law_788 ?_
      refine j_sld (pc := 789) hC hS hi192 dL_law_789 ?_
      refine j_bI (pc := 790) (run_V hC (st := [.int r194]) (kt_X12_count hC.ly M193 (xs (x3 + (1 : Int32)).toNatClampNeg)) vv_X12_count qw992 (by decide) sh_X12 rfl ⟨(Nat.le_of_ble_eq_true rfl), (Nat.le_of_ble_eq_true rfl)⟩ rfl rfl (Nat.le_of_ble_eq_true rfl) dL_law_790) (fun M195 r196 => ?_)
      refine j_icmp_eq (pc := 793) hC dL_law_793 (tgt := 812) (by decide) (fun hb197 => ?_) (fun hb197 => ?_)
      · refine j_iinc (pc := 812) hC (lv' := [some (.ref sb), some (.ref (ad 0)), some (.ref (ad 109)), some (.int (x3 + 5))]) dL_law_812 rfl (v := 5) (by decide) (by decide) rfl rfl ?_
        refine j_goto (pc := 815) hC dL_law_815 (tgt := 18) (by decide) ?_
        exact hrec18 M195 (x3 + 5)
      · refine j_iconst (pc := 796) hC dL_law_796 (v := 0) (by decide) ?_
        exact j_none
    refine j_ite (fun hb198 => ?_) (fun hb198 => ?_)
    · refine j_tabIn (pc := 32) hC dL_law_32 hb198 (by decide) (by decide) rfl (tgt := 798) (by decide) ?_
      refine j_aload_n (pc := 798) hC dL_law_798 rfl ?_
      refine j_bL (pc := 799) (run_V hC (st := []) (kt_X11_trace hC.ly M) vv_X11_trace qw692 (by decide) sh_X11 rfl ⟨(Nat.le_of_ble_eq_true rfl), (Nat.le_of_ble_eq_true rfl)⟩ rfl rfl (Nat.le_of_ble_eq_true rfl) dL_law_799) (fun M199 r200 => ?_)
      refine j_aload_n (pc := 802) hC dL_law_802 rfl ?_
      refine j_bL (pc := 803) (run_V hC (st := [.long r200]) (kt_X12_trace hC.ly M199) vv_X12_trace qw996 (by decide) sh_X12 rfl ⟨(Nat.le_of_ble_eq_true rfl), (Nat.le_of_ble_eq_true rfl)⟩ rfl rfl (Nat.le_of_ble_eq_true rfl) dL_law_803) (fun M201 r202 => ?_)
      refine j_lcmp (pc := 806) hC dL_law_806 ?_
      refine j_if_eq (pc := 807) hC dL_law_807 (tgt := 812) (by decide) (fun hb203 => ?_) (fun hb203 => ?_)
      · refine j_iinc (pc := 812) hC (lv' := [some (.ref sb), some (.ref (ad 0)), some (.ref (ad 109)), some (.int (x3 + 5))]) dL_law_812 rfl (v := 5) (by decide) (by decide) rfl rfl ?_
        refine j_goto (pc := 815) hC dL_law_815 (tgt := 18) (by decide) ?_
        exact hrec18 M201 (x3 + 5)
      · refine j_iconst (pc := 810) hC dL_law_810 (v := 0) (by decide) ?_
        exact j_none
    refine j_tabOut (pc := 32) hC dL_law_32 (by have z0 := ne_i (n := 0) hb3 (by decide); have z1 := ne_i (n := 1) hb10 (by decide); have z2 := ne_i (n := 2) hb16 (by decide); have z3 := ne_i (n := 3) hb22 (by decide); have z4 := ne_i (n := 4) hb30 (by decide); have z5 := ne_i (n := 5) hb37 (by decide); have z6 := ne_i (n := 6) hb44 (by decide); have z7 := ne_i (n := 7) hb50 (by decide); have z8 := ne_i (n := 8) hb57 (by decide); have z9 := ne_i (n := 9) hb65 (by decide); have z10 := ne_i (n := 10) hb72 (by decide); have z11 := ne_i (n := 11) hb78 (by decide); have z12 := ne_i (n := 12) hb86 (by decide); have z13 := ne_i (n := 13) hb92 (by decide); have z14 := ne_i (n := 14) hb98 (by decide); have z15 := ne_i (n := 15) hb105 (by decide); have z16 := ne_i (n := 16) hb111 (by decide); have z17 := ne_i (n := 17) hb117 (by decide); have z18 := ne_i (n := 18) hb126 (by decide); have z19 := ne_i (n := 19) hb132 (by decide); have z20 := ne_i (n := 20) hb139 (by decide); have z21 := ne_i (n := 21) hb147 (by decide); have z22 := ne_i (n := 22) hb153 (by decide); have z23 := ne_i (n := 23) hb159 (by decide); have z24 := ne_i (n := 24) hb169 (by decide); have z25 := ne_i (n := 25) hb177 (by decide); have z26 := ne_i (n := 26) hb184 (by decide); have z27 := ne_i (n := 27) hb191 (by decide); have z28 := ne_i (n := 28) hb198 (by decide); omega) (tgt := 812) (by decide) ?_
    refine j_iinc (pc := 812) hC (lv' := [some (.ref sb), some (.ref (ad 0)), some (.ref (ad 109)), some (.int (x3 + 5))]) dL_law_812 rfl (v := 5) (by decide) (by decide) rfl rfl ?_
    refine j_goto (pc := 815) hC dL_law_815 (tgt := 18) (by decide) ?_
    exact hrec18 M (x3 + 5)
theorem tlL_law {X : Cx} {ad : Nat → Nat} {cid : Nat → ClassId} {sb L : Nat} {xs : Nat → Int32} {Q : Unit → State → Prop} (hC : Ok X ad cid cL_law RL 4 (some .boolean) 20 600) (hS : scOk X ad sb L xs) (hQ : ∀ (M : Mem) (pc : Nat) (lv : List (Option Value)), decode cL_law pc = .ok (.ireturn, 1) → Jp X ad cid 4 Q M pc lv [.int 1] (some ())) : ∀ (n : Nat) (M : Mem) (x3 : Int32), Jp X ad cid 4 Q M 18 [some (.ref sb), some (.ref (ad 0)), some (.ref (ad 109)), some (.int x3)] [] (lL_law xs L n M x3) := by
  intro n
  induction n with
  | zero => intros; exact j_none
  | succ n ih => exact tsL_law hC hS hQ ih
