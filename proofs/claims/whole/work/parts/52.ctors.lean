theorem vi_X7 : cI yX7_init cX7_init 1 := ⟨⟨rfl, by decide +kernel, by decide +kernel, by decide +kernel⟩, xw235, xw49, xw236⟩
set_option maxRecDepth 20000 in
set_option maxHeartbeats 4000000 in
theorem kc_X7 {l : Launch} {cid : Nat → ClassId} {D : va_G} {z0 : Nat} (i : Nat) {n : Nat} (hn : 0 < n) {sh : Nat → va_E} : CtC l cid D z0 yX7_init cX7_init 1 1 12 0 0 i n sh n sh := by
  refine ctc_of (own := RX7) (lv := [some (.ref (z0 + i))]) (by decide +kernel) rfl rfl rfl (by decide) (fun X hC hN hR hK hS => ?_)
  refine k_aload_n (pc := 0) hC dX7_init_0 rfl ?_
  refine k_obj (pc := 1) hC xw237 xob_i xob_c dX7_init_1 (Nat.le_of_ble_eq_true rfl) (Nat.le_of_ble_eq_true rfl) ?_
  exact k_vret (pc := 4) hC hR hK hS dX7_init_4
theorem vi_X5 : cI yX5_init cX5_init 1 := ⟨⟨rfl, by decide +kernel, by decide +kernel, by decide +kernel⟩, xw243, xw50, xw244⟩
set_option maxRecDepth 20000 in
set_option maxHeartbeats 4000000 in
theorem kc_X5 {l : Launch} {cid : Nat → ClassId} {D : va_G} {z0 : Nat} (i : Nat) {n : Nat} (hn : 0 < n) {sh : Nat → va_E} : CtC l cid D z0 yX5_init cX5_init 1 2 32 0 0 i n sh n sh := by
  refine ctc_of (own := RX5) (lv := [some (.ref (z0 + i))]) (by decide +kernel) rfl rfl rfl (by decide) (fun X hC hN hR hK hS => ?_)
  refine k_aload_n (pc := 0) hC dX5_init_0 rfl ?_
  refine k_initN (n := n) (k := 0) (sl := 0) (pc := 1) hC (i := i) (kc_X7 i (by omega)) vi_X7 xn245 (by omega) rfl ⟨(Nat.le_of_ble_eq_true rfl), (Nat.le_of_ble_eq_true rfl)⟩ (by decide) (by decide) (Nat.le_of_ble_eq_true rfl) dX5_init_1 ?_
  exact k_vret (pc := 4) hC hR hK hS dX5_init_4
theorem vi_X1 : cI yX1_init cX1_init 1 := ⟨⟨rfl, by decide +kernel, by decide +kernel, by decide +kernel⟩, xw250, xw51, xw251⟩
set_option maxRecDepth 20000 in
set_option maxHeartbeats 4000000 in
theorem kc_X1 {l : Launch} {cid : Nat → ClassId} {D : va_G} {z0 : Nat} (i : Nat) {n : Nat} (hn : 0 < n) {sh : Nat → va_E} : CtC l cid D z0 yX1_init cX1_init 1 2 32 0 0 i n sh n sh := by
  refine ctc_of (own := RX1) (lv := [some (.ref (z0 + i))]) (by decide +kernel) rfl rfl rfl (by decide) (fun X hC hN hR hK hS => ?_)
  refine k_aload_n (pc := 0) hC dX1_init_0 rfl ?_
  refine k_initN (n := n) (k := 0) (sl := 0) (pc := 1) hC (i := i) (kc_X7 i (by omega)) vi_X7 xn252 (by omega) rfl ⟨(Nat.le_of_ble_eq_true rfl), (Nat.le_of_ble_eq_true rfl)⟩ (by decide) (by decide) (Nat.le_of_ble_eq_true rfl) dX1_init_1 ?_
  exact k_vret (pc := 4) hC hR hK hS dX1_init_4
theorem vi_X3 : cI yX3_init cX3_init 1 := ⟨⟨rfl, by decide +kernel, by decide +kernel, by decide +kernel⟩, xw257, xw52, xw258⟩
set_option maxRecDepth 20000 in
set_option maxHeartbeats 4000000 in
theorem kc_X3 {l : Launch} {cid : Nat → ClassId} {D : va_G} {z0 : Nat} (i : Nat) {n : Nat} (hn : 0 < n) {sh : Nat → va_E} : CtC l cid D z0 yX3_init cX3_init 1 3 52 0 0 i n sh n sh := by
  refine ctc_of (own := RX3) (lv := [some (.ref (z0 + i))]) (by decide +kernel) rfl rfl rfl (by decide) (fun X hC hN hR hK hS => ?_)
  refine k_aload_n (pc := 0) hC dX3_init_0 rfl ?_
  refine k_initN (n := n) (k := 0) (sl := 0) (pc := 1) hC (i := i) (kc_X5 i (by omega)) vi_X5 xn259 (by omega) rfl ⟨(Nat.le_of_ble_eq_true rfl), (Nat.le_of_ble_eq_true rfl)⟩ (by decide) (by decide) (Nat.le_of_ble_eq_true rfl) dX3_init_1 ?_
  exact k_vret (pc := 4) hC hR hK hS dX3_init_4
theorem vi_X6 : cI yX6_init cX6_init 1 := ⟨⟨rfl, by decide +kernel, by decide +kernel, by decide +kernel⟩, xw264, xw53, xw265⟩
set_option maxRecDepth 20000 in
set_option maxHeartbeats 4000000 in
theorem kc_X6 {l : Launch} {cid : Nat → ClassId} {D : va_G} {z0 : Nat} (i : Nat) {n : Nat} (hn : 0 < n) {sh : Nat → va_E} : CtC l cid D z0 yX6_init cX6_init 1 3 52 0 0 i n sh n sh := by
  refine ctc_of (own := RX6) (lv := [some (.ref (z0 + i))]) (by decide +kernel) rfl rfl rfl (by decide) (fun X hC hN hR hK hS => ?_)
  refine k_aload_n (pc := 0) hC dX6_init_0 rfl ?_
  refine k_initN (n := n) (k := 0) (sl := 0) (pc := 1) hC (i := i) (kc_X1 i (by omega)) vi_X1 xn266 (by omega) rfl ⟨(Nat.le_of_ble_eq_true rfl), (Nat.le_of_ble_eq_true rfl)⟩ (by decide) (by decide) (Nat.le_of_ble_eq_true rfl) dX6_init_1 ?_
  exact k_vret (pc := 4) hC hR hK hS dX6_init_4
theorem vi_X0 : cI yX0_init cX0_init 1 := ⟨⟨rfl, by decide +kernel, by decide +kernel, by decide +kernel⟩, xw271, xw54, xw272⟩
set_option maxRecDepth 20000 in
set_option maxHeartbeats 4000000 in
theorem kc_X0 {l : Launch} {cid : Nat → ClassId} {D : va_G} {z0 : Nat} (i : Nat) {n : Nat} (hn : 0 < n) {sh : Nat → va_E} : CtC l cid D z0 yX0_init cX0_init 1 2 32 0 0 i n sh n sh := by
  refine ctc_of (own := RX0) (lv := [some (.ref (z0 + i))]) (by decide +kernel) rfl rfl rfl (by decide) (fun X hC hN hR hK hS => ?_)
  refine k_aload_n (pc := 0) hC dX0_init_0 rfl ?_
  refine k_initN (n := n) (k := 0) (sl := 0) (pc := 1) hC (i := i) (kc_X7 i (by omega)) vi_X7 xn273 (by omega) rfl ⟨(Nat.le_of_ble_eq_true rfl), (Nat.le_of_ble_eq_true rfl)⟩ (by decide) (by decide) (Nat.le_of_ble_eq_true rfl) dX0_init_1 ?_
  exact k_vret (pc := 4) hC hR hK hS dX0_init_4
theorem vi_X10 : cI yX10_init cX10_init 1 := ⟨⟨rfl, by decide +kernel, by decide +kernel, by decide +kernel⟩, xw69, xw44, xw70⟩
def uX10 (z0 : Nat) (cid : Nat → ClassId) (i : Nat) (sh : Nat → va_E) : Nat → va_E := (up (up sh (i + 1) (.inl (cid 0, 200, .inl (fun _ => 0)))) i (.inr (10, [.ref (z0 + (i + 1)), .int 0, .int 0, .int 0, .int 0, .int 0])))
set_option maxRecDepth 20000 in
set_option maxHeartbeats 4000000 in
theorem kc_X10 {l : Launch} {cid : Nat → ClassId} {D : va_G} {z0 : Nat} (i : Nat) (sh : Nat → va_E) (h0 : sh i = .inr (10, [.null, .int 0, .int 0, .int 0, .int 0, .int 0])) : CtC l cid D z0 yX10_init cX10_init 1 1 12 1 200 i (i + 1) sh (i + 2) (uX10 z0 cid i sh) := by
  refine ctc_of (own := RX10) (lv := [some (.ref (z0 + i))]) (by decide +kernel) rfl rfl rfl (by decide) (fun X hC hN hR hK hS => ?_)
  refine k_aload_n (pc := 0) hC dX10_init_0 rfl ?_
  refine k_obj (pc := 1) hC xw71 xob_i xob_c dX10_init_1 (Nat.le_of_ble_eq_true rfl) (Nat.le_of_ble_eq_true rfl) ?_
  refine k_aload_n (pc := 4) hC dX10_init_4 rfl ?_
  refine k_sipush (pc := 5) hC dX10_init_5 (v := 200) (by decide) ?_
  refine k_newa (n := (i + 1)) (k := 0) (sl := 0) (pc := 8) hC (t0 := 0) (ty := .int) rfl (fun _ _ h => h) xw92 rfl (N := 200) (a0 := (200, .inl (fun _ => 0))) (fun _ => rfl) (by decide) (by decide) (by decide) (by decide) (by decide) dX10_init_8 ?_
  refine k_putF (n := (i + 2)) (pc := 10) hC hN (ci := 10) (i := i) (fs := [.null, .int 0, .int 0, .int 0, .int 0, .int 0]) (ty := .array .int) tyX10 0 (by omega) (by simp [up, h0]) rfl in_X10 tyX10_ok nmX10 (by decide) rfl xw72 rfl rfl (by decide +kernel) rfl rfl (Nat.le_of_ble_eq_true rfl) dX10_init_10 ?_
  exact k_vret (pc := 13) hC hR hK hS dX10_init_13
theorem vi_X2 : cI yX2_init cX2_init 1 := ⟨⟨rfl, by decide +kernel, by decide +kernel, by decide +kernel⟩, xw96, xw45, xw97⟩
def uX2 (z0 : Nat) (cid : Nat → ClassId) (i : Nat) (sh : Nat → va_E) : Nat → va_E := (up (up (up (up (up (up (up (up (up (up (up (up (up (up (up sh (i + 1) (.inl (cid 0, 6, .inl (fun _ => 0)))) i (.inr (2, [.int 0, .ref (z0 + (i + 1)), .null, .null, .int 0, .null, .null, .int 0, .int 0, .null, .null]))) (i + 2) (.inl (cid 0, 6, .inl (fun _ => 0)))) i (.inr (2, [.int 0, .ref (z0 + (i + 1)), .ref (z0 + (i + 2)), .null, .int 0, .null, .null, .int 0, .int 0, .null, .null]))) (i + 3) (.inl (cid 0, 6, .inl (fun _ => 0)))) i (.inr (2, [.int 0, .ref (z0 + (i + 1)), .ref (z0 + (i + 2)), .ref (z0 + (i + 3)), .int 0, .null, .null, .int 0, .int 0, .null, .null]))) (i + 4) (.inl (cid 0, 4, .inl (fun _ => 0)))) i (.inr (2, [.int 0, .ref (z0 + (i + 1)), .ref (z0 + (i + 2)), .ref (z0 + (i + 3)), .int 0, .ref (z0 + (i + 4)), .null, .int 0, .int 0, .null, .null]))) (i + 5) (.inl (cid 0, 4, .inl (fun _ => 0)))) i (.inr (2, [.int 0, .ref (z0 + (i + 1)), .ref (z0 + (i + 2)), .ref (z0 + (i + 3)), .int 0, .ref (z0 + (i + 4)), .ref (z0 + (i + 5)), .int 0, .int 0, .null, .null]))) i (.inr (2, [.int 0, .ref (z0 + (i + 1)), .ref (z0 + (i + 2)), .ref (z0 + (i + 3)), .int 0, .ref (z0 + (i + 4)), .ref (z0 + (i + 5)), .int 60, .int 0, .null, .null]))) (i + 6) (.inl (cid 0, 64, .inl (fun _ => 0)))) i (.inr (2, [.int 0, .ref (z0 + (i + 1)), .ref (z0 + (i + 2)), .ref (z0 + (i + 3)), .int 0, .ref (z0 + (i + 4)), .ref (z0 + (i + 5)), .int 60, .int 0, .ref (z0 + (i + 6)), .null]))) (i + 7) (.inl (cid 0, 200, .inl (fun _ => 0)))) i (.inr (2, [.int 0, .ref (z0 + (i + 1)), .ref (z0 + (i + 2)), .ref (z0 + (i + 3)), .int 0, .ref (z0 + (i + 4)), .ref (z0 + (i + 5)), .int 60, .int 0, .ref (z0 + (i + 6)), .ref (z0 + (i + 7))])))
set_option maxRecDepth 20000 in
set_option maxHeartbeats 4000000 in
theorem kc_X2 {l : Launch} {cid : Nat → ClassId} {D : va_G} {z0 : Nat} (i : Nat) (sh : Nat → va_E) (h0 : sh i = .inr (2, [.int 0, .null, .null, .null, .int 0, .null, .null, .int 0, .int 0, .null, .null])) : CtC l cid D z0 yX2_init cX2_init 1 1 12 7 290 i (i + 1) sh (i + 8) (uX2 z0 cid i sh) := by
  refine ctc_of (own := RX2) (lv := [some (.ref (z0 + i))]) (by decide +kernel) rfl rfl rfl (by decide) (fun X hC hN hR hK hS => ?_)
  refine k_aload_n (pc := 0) hC dX2_init_0 rfl ?_
  refine k_obj (pc := 1) hC xw98 xob_i xob_c dX2_init_1 (Nat.le_of_ble_eq_true rfl) (Nat.le_of_ble_eq_true rfl) ?_
  refine k_aload_n (pc := 4) hC dX2_init_4 rfl ?_
  refine k_bipush (pc := 5) hC dX2_init_5 (v := 6) (by decide) ?_
  refine k_newa (n := (i + 1)) (k := 0) (sl := 0) (pc := 7) hC (t0 := 0) (ty := .int) rfl (fun _ _ h => h) xw92 rfl (N := 6) (a0 := (6, .inl (fun _ => 0))) (fun _ => rfl) (by decide) (by decide) (by decide) (by decide) (by decide) dX2_init_7 ?_
  refine k_putF (n := (i + 2)) (pc := 9) hC hN (ci := 2) (i := i) (fs := [.int 0, .null, .null, .null, .int 0, .null, .null, .int 0, .int 0, .null, .null]) (ty := .array .int) tyX2 1 (by omega) (by simp [up, h0]) rfl in_X2 tyX2_ok nmX2 (by decide) rfl xw104 rfl rfl (by decide +kernel) rfl rfl (Nat.le_of_ble_eq_true rfl) dX2_init_9 ?_
  refine k_aload_n (pc := 12) hC dX2_init_12 rfl ?_
  refine k_bipush (pc := 13) hC dX2_init_13 (v := 6) (by decide) ?_
  refine k_newa (n := (i + 2)) (k := 1) (sl := 6) (pc := 15) hC (t0 := 0) (ty := .int) rfl (fun _ _ h => h) xw92 rfl (N := 6) (a0 := (6, .inl (fun _ => 0))) (fun _ => rfl) (by decide) (by decide) (by decide) (by decide) (by decide) dX2_init_15 ?_
  refine k_putF (n := (i + 3)) (pc := 17) hC hN (ci := 2) (i := i) (fs := [.int 0, .ref (z0 + (i + 1)), .null, .null, .int 0, .null, .null, .int 0, .int 0, .null, .null]) (ty := .array .int) tyX2 2 (by omega) (by simp [up]) rfl in_X2 tyX2_ok nmX2 (by decide) rfl xw107 rfl rfl (by decide +kernel) rfl rfl (Nat.le_of_ble_eq_true rfl) dX2_init_17 ?_
  refine k_aload_n (pc := 20) hC dX2_init_20 rfl ?_
  refine k_bipush (pc := 21) hC dX2_init_21 (v := 6) (by decide) ?_
  refine k_newa (n := (i + 3)) (k := 2) (sl := 12) (pc := 23) hC (t0 := 0) (ty := .int) rfl (fun _ _ h => h) xw92 rfl (N := 6) (a0 := (6, .inl (fun _ => 0))) (fun _ => rfl) (by decide) (by decide) (by decide) (by decide) (by decide) dX2_init_23 ?_
  refine k_putF (n := (i + 4)) (pc := 25) hC hN (ci := 2) (i := i) (fs := [.int 0, .ref (z0 + (i + 1)), .ref (z0 + (i + 2)), .null, .int 0, .null, .null, .int 0, .int 0, .null, .null]) (ty := .array .int) tyX2 3 (by omega) (by simp [up]) rfl in_X2 tyX2_ok nmX2 (by decide) rfl xw111 rfl rfl (by decide +kernel) rfl rfl (Nat.le_of_ble_eq_true rfl) dX2_init_25 ?_
  refine k_aload_n (pc := 28) hC dX2_init_28 rfl ?_
  refine k_iconst (pc := 29) hC dX2_init_29 (v := 4) (by decide) ?_
  refine k_newa (n := (i + 4)) (k := 3) (sl := 18) (pc := 30) hC (t0 := 0) (ty := .int) rfl (fun _ _ h => h) xw92 rfl (N := 4) (a0 := (4, .inl (fun _ => 0))) (fun _ => rfl) (by decide) (by decide) (by decide) (by decide) (by decide) dX2_init_30 ?_
  refine k_putF (n := (i + 5)) (pc := 32) hC hN (ci := 2) (i := i) (fs := [.int 0, .ref (z0 + (i + 1)), .ref (z0 + (i + 2)), .ref (z0 + (i + 3)), .int 0, .null, .null, .int 0, .int 0, .null, .null]) (ty := .array .int) tyX2 5 (by omega) (by simp [up]) rfl in_X2 tyX2_ok nmX2 (by decide) rfl xw116 rfl rfl (by decide +kernel) rfl rfl (Nat.le_of_ble_eq_true rfl) dX2_init_32 ?_
  refine k_aload_n (pc := 35) hC dX2_init_35 rfl ?_
  refine k_iconst (pc := 36) hC dX2_init_36 (v := 4) (by decide) ?_
  refine k_newa (n := (i + 5)) (k := 4) (sl := 22) (pc := 37) hC (t0 := 0) (ty := .int) rfl (fun _ _ h => h) xw92 rfl (N := 4) (a0 := (4, .inl (fun _ => 0))) (fun _ => rfl) (by decide) (by decide) (by decide) (by decide) (by decide) dX2_init_37 ?_
  refine k_putF (n := (i + 6)) (pc := 39) hC hN (ci := 2) (i := i) (fs := [.int 0, .ref (z0 + (i + 1)), .ref (z0 + (i + 2)), .ref (z0 + (i + 3)), .int 0, .ref (z0 + (i + 4)), .null, .int 0, .int 0, .null, .null]) (ty := .array .int) tyX2 6 (by omega) (by simp [up]) rfl in_X2 tyX2_ok nmX2 (by decide) rfl xw117 rfl rfl (by decide +kernel) rfl rfl (Nat.le_of_ble_eq_true rfl) dX2_init_39 ?_
  refine k_aload_n (pc := 42) hC dX2_init_42 rfl ?_
  refine k_bipush (pc := 43) hC dX2_init_43 (v := 60) (by decide) ?_
  refine k_put (n := (i + 6)) (pc := 45) hC (ci := 2) (i := i) (fs := [.int 0, .ref (z0 + (i + 1)), .ref (z0 + (i + 2)), .ref (z0 + (i + 3)), .int 0, .ref (z0 + (i + 4)), .ref (z0 + (i + 5)), .int 0, .int 0, .null, .null]) (ty := .int) tyX2 7 (by omega) (by simp [up]) rfl in_X2 tyX2_ok nmX2 (by decide) rfl xw118 rfl (by decide +kernel) rfl rfl (Nat.le_of_ble_eq_true rfl) dX2_init_45 ?_
  refine k_aload_n (pc := 48) hC dX2_init_48 rfl ?_
  refine k_bipush (pc := 49) hC dX2_init_49 (v := 64) (by decide) ?_
  refine k_newa (n := (i + 6)) (k := 5) (sl := 26) (pc := 51) hC (t0 := 0) (ty := .int) rfl (fun _ _ h => h) xw92 rfl (N := 64) (a0 := (64, .inl (fun _ => 0))) (fun _ => rfl) (by decide) (by decide) (by decide) (by decide) (by decide) dX2_init_51 ?_
  refine k_putF (n := (i + 7)) (pc := 53) hC hN (ci := 2) (i := i) (fs := [.int 0, .ref (z0 + (i + 1)), .ref (z0 + (i + 2)), .ref (z0 + (i + 3)), .int 0, .ref (z0 + (i + 4)), .ref (z0 + (i + 5)), .int 60, .int 0, .null, .null]) (ty := .array .int) tyX2 9 (by omega) (by simp [up]) rfl in_X2 tyX2_ok nmX2 (by decide) rfl xw123 rfl rfl (by decide +kernel) rfl rfl (Nat.le_of_ble_eq_true rfl) dX2_init_53 ?_
  refine k_aload_n (pc := 56) hC dX2_init_56 rfl ?_
  refine k_sipush (pc := 57) hC dX2_init_57 (v := 200) (by decide) ?_
  refine k_newa (n := (i + 7)) (k := 6) (sl := 90) (pc := 60) hC (t0 := 0) (ty := .int) rfl (fun _ _ h => h) xw92 rfl (N := 200) (a0 := (200, .inl (fun _ => 0))) (fun _ => rfl) (by decide) (by decide) (by decide) (by decide) (by decide) dX2_init_60 ?_
  refine k_putF (n := (i + 8)) (pc := 62) hC hN (ci := 2) (i := i) (fs := [.int 0, .ref (z0 + (i + 1)), .ref (z0 + (i + 2)), .ref (z0 + (i + 3)), .int 0, .ref (z0 + (i + 4)), .ref (z0 + (i + 5)), .int 60, .int 0, .ref (z0 + (i + 6)), .null]) (ty := .array .int) tyX2 10 (by omega) (by simp [up]) rfl in_X2 tyX2_ok nmX2 (by decide) rfl xw124 rfl rfl (by decide +kernel) rfl rfl (Nat.le_of_ble_eq_true rfl) dX2_init_62 ?_
  exact k_vret (pc := 65) hC hR hK hS dX2_init_65
theorem vi_X4 : cI yX4_init cX4_init 1 := ⟨⟨rfl, by decide +kernel, by decide +kernel, by decide +kernel⟩, xw151, xw46, xw152⟩
def uX4 (z0 : Nat) (cid : Nat → ClassId) (i : Nat) (sh : Nat → va_E) : Nat → va_E := (up (up (up (up (up sh (i + 1) (.inl (cid 0, 6, .inl (fun _ => 0)))) i (.inr (4, [.int 0, .int 0, .int 0, .ref (z0 + (i + 1)), .null, .int 0]))) (i + 2) (.inl (cid 0, 6, .inl (fun _ => 0)))) i (.inr (4, [.int 0, .int 0, .int 0, .ref (z0 + (i + 1)), .ref (z0 + (i + 2)), .int 0]))) i (.inr (4, [.int 0, .int 0, .int 0, .ref (z0 + (i + 1)), .ref (z0 + (i + 2)), .int 1000000000])))
set_option maxRecDepth 20000 in
set_option maxHeartbeats 4000000 in
theorem kc_X4 {l : Launch} {cid : Nat → ClassId} {D : va_G} {z0 : Nat} (i : Nat) (sh : Nat → va_E) (h0 : sh i = .inr (4, [.int 0, .int 0, .int 0, .null, .null, .int 0])) : CtC l cid D z0 yX4_init cX4_init 1 1 12 2 12 i (i + 1) sh (i + 3) (uX4 z0 cid i sh) := by
  refine ctc_of (own := RX4) (lv := [some (.ref (z0 + i))]) (by decide +kernel) rfl rfl rfl (by decide) (fun X hC hN hR hK hS => ?_)
  refine k_aload_n (pc := 0) hC dX4_init_0 rfl ?_
  refine k_obj (pc := 1) hC xw153 xob_i xob_c dX4_init_1 (Nat.le_of_ble_eq_true rfl) (Nat.le_of_ble_eq_true rfl) ?_
  refine k_aload_n (pc := 4) hC dX4_init_4 rfl ?_
  refine k_bipush (pc := 5) hC dX4_init_5 (v := 6) (by decide) ?_
  refine k_newa (n := (i + 1)) (k := 0) (sl := 0) (pc := 7) hC (t0 := 0) (ty := .int) rfl (fun _ _ h => h) xw92 rfl (N := 6) (a0 := (6, .inl (fun _ => 0))) (fun _ => rfl) (by decide) (by decide) (by decide) (by decide) (by decide) dX4_init_7 ?_
  refine k_putF (n := (i + 2)) (pc := 9) hC hN (ci := 4) (i := i) (fs := [.int 0, .int 0, .int 0, .null, .null, .int 0]) (ty := .array .int) tyX4 3 (by omega) (by simp [up, h0]) rfl in_X4 tyX4_ok nmX4 (by decide) rfl xw163 rfl rfl (by decide +kernel) rfl rfl (Nat.le_of_ble_eq_true rfl) dX4_init_9 ?_
  refine k_aload_n (pc := 12) hC dX4_init_12 rfl ?_
  refine k_bipush (pc := 13) hC dX4_init_13 (v := 6) (by decide) ?_
  refine k_newa (n := (i + 2)) (k := 1) (sl := 6) (pc := 15) hC (t0 := 0) (ty := .int) rfl (fun _ _ h => h) xw92 rfl (N := 6) (a0 := (6, .inl (fun _ => 0))) (fun _ => rfl) (by decide) (by decide) (by decide) (by decide) (by decide) dX4_init_15 ?_
  refine k_putF (n := (i + 3)) (pc := 17) hC hN (ci := 4) (i := i) (fs := [.int 0, .int 0, .int 0, .ref (z0 + (i + 1)), .null, .int 0]) (ty := .array .int) tyX4 4 (by omega) (by simp [up]) rfl in_X4 tyX4_ok nmX4 (by decide) rfl xw164 rfl rfl (by decide +kernel) rfl rfl (Nat.le_of_ble_eq_true rfl) dX4_init_17 ?_
  refine k_aload_n (pc := 20) hC dX4_init_20 rfl ?_
  refine k_ldc (pc := 21) hC xcX4_18 rfl dX4_init_21 ?_
  refine k_put (n := (i + 3)) (pc := 23) hC (ci := 4) (i := i) (fs := [.int 0, .int 0, .int 0, .ref (z0 + (i + 1)), .ref (z0 + (i + 2)), .int 0]) (ty := .int) tyX4 5 (by omega) (by simp [up]) rfl in_X4 tyX4_ok nmX4 (by decide) rfl xw167 rfl (by decide +kernel) rfl rfl (Nat.le_of_ble_eq_true rfl) dX4_init_23 ?_
  exact k_vret (pc := 26) hC hR hK hS dX4_init_26
theorem vi_X8 : cI yX8_init cX8_init 2 := ⟨⟨rfl, by decide +kernel, by decide +kernel, by decide +kernel⟩, xw185, xw47, xw186⟩
def uX8 (z0 : Nat) (cid : Nat → ClassId) (sh : Nat → va_E) : Nat → va_E := (up (uX4 z0 cid 51 (up (up (uX4 z0 cid 48 (up (up (uX4 z0 cid 45 (up (up (uX4 z0 cid 42 (up (up (uX4 z0 cid 39 (up (up (uX4 z0 cid 36 (up (up (uX4 z0 cid 33 (up (up (uX4 z0 cid 30 (up (up (uX4 z0 cid 27 (up (up (uX4 z0 cid 24 (up (up (up sh 23 (.inl (cid 3, 10, .inr (.inr (.inr (.inr (fun _ => none))))))) 22 (.inr (8, [.ref (z0 + 23), .int 0, .int 0]))) 24 (.inr (4, [.int 0, .int 0, .int 0, .null, .null, .int 0])))) 23 (.inl (cid 3, 10, .inr (.inr (.inr (.inr (va_up (fun _ => none) (0 : Int32).toNatClampNeg (some (z0 + 24))))))))) 27 (.inr (4, [.int 0, .int 0, .int 0, .null, .null, .int 0])))) 23 (.inl (cid 3, 10, .inr (.inr (.inr (.inr (va_up (va_up (fun _ => none) (0 : Int32).toNatClampNeg (some (z0 + 24))) (1 : Int32).toNatClampNeg (some (z0 + 27))))))))) 30 (.inr (4, [.int 0, .int 0, .int 0, .null, .null, .int 0])))) 23 (.inl (cid 3, 10, .inr (.inr (.inr (.inr (va_up (va_up (va_up (fun _ => none) (0 : Int32).toNatClampNeg (some (z0 + 24))) (1 : Int32).toNatClampNeg (some (z0 + 27))) (2 : Int32).toNatClampNeg (some (z0 + 30))))))))) 33 (.inr (4, [.int 0, .int 0, .int 0, .null, .null, .int 0])))) 23 (.inl (cid 3, 10, .inr (.inr (.inr (.inr (va_up (va_up (va_up (va_up (fun _ => none) (0 : Int32).toNatClampNeg (some (z0 + 24))) (1 : Int32).toNatClampNeg (some (z0 + 27))) (2 : Int32).toNatClampNeg (some (z0 + 30))) (3 : Int32).toNatClampNeg (some (z0 + 33))))))))) 36 (.inr (4, [.int 0, .int 0, .int 0, .null, .null, .int 0])))) 23 (.inl (cid 3, 10, .inr (.inr (.inr (.inr (va_up (va_up (va_up (va_up (va_up (fun _ => none) (0 : Int32).toNatClampNeg (some (z0 + 24))) (1 : Int32).toNatClampNeg (some (z0 + 27))) (2 : Int32).toNatClampNeg (some (z0 + 30))) (3 : Int32).toNatClampNeg (some (z0 + 33))) (4 : Int32).toNatClampNeg (some (z0 + 36))))))))) 39 (.inr (4, [.int 0, .int 0, .int 0, .null, .null, .int 0])))) 23 (.inl (cid 3, 10, .inr (.inr (.inr (.inr (va_up (va_up (va_up (va_up (va_up (va_up (fun _ => none) (0 : Int32).toNatClampNeg (some (z0 + 24))) (1 : Int32).toNatClampNeg (some (z0 + 27))) (2 : Int32).toNatClampNeg (some (z0 + 30))) (3 : Int32).toNatClampNeg (some (z0 + 33))) (4 : Int32).toNatClampNeg (some (z0 + 36))) (5 : Int32).toNatClampNeg (some (z0 + 39))))))))) 42 (.inr (4, [.int 0, .int 0, .int 0, .null, .null, .int 0])))) 23 (.inl (cid 3, 10, .inr (.inr (.inr (.inr (va_up (va_up (va_up (va_up (va_up (va_up (va_up (fun _ => none) (0 : Int32).toNatClampNeg (some (z0 + 24))) (1 : Int32).toNatClampNeg (some (z0 + 27))) (2 : Int32).toNatClampNeg (some (z0 + 30))) (3 : Int32).toNatClampNeg (some (z0 + 33))) (4 : Int32).toNatClampNeg (some (z0 + 36))) (5 : Int32).toNatClampNeg (some (z0 + 39))) (6 : Int32).toNatClampNeg (some (z0 + 42))))))))) 45 (.inr (4, [.int 0, .int 0, .int 0, .null, .null, .int 0])))) 23 (.inl (cid 3, 10, .inr (.inr (.inr (.inr (va_up (va_up (va_up (va_up (va_up (va_up (va_up (va_up (fun _ => none) (0 : Int32).toNatClampNeg (some (z0 + 24))) (1 : Int32).toNatClampNeg (some (z0 + 27))) (2 : Int32).toNatClampNeg (some (z0 + 30))) (3 : Int32).toNatClampNeg (some (z0 + 33))) (4 : Int32).toNatClampNeg (some (z0 + 36))) (5 : Int32).toNatClampNeg (some (z0 + 39))) (6 : Int32).toNatClampNeg (some (z0 + 42))) (7 : Int32).toNatClampNeg (some (z0 + 45))))))))) 48 (.inr (4, [.int 0, .int 0, .int 0, .null, .null, .int 0])))) 23 (.inl (cid 3, 10, .inr (.inr (.inr (.inr (va_up (va_up (va_up (va_up (va_up (va_up (va_up (va_up (va_up (fun _ => none) (0 : Int32).toNatClampNeg (some (z0 + 24))) (1 : Int32).toNatClampNeg (some (z0 + 27))) (2 : Int32).toNatClampNeg (some (z0 + 30))) (3 : Int32).toNatClampNeg (some (z0 + 33))) (4 : Int32).toNatClampNeg (some (z0 + 36))) (5 : Int32).toNatClampNeg (some (z0 + 39))) (6 : Int32).toNatClampNeg (some (z0 + 42))) (7 : Int32).toNatClampNeg (some (z0 + 45))) (8 : Int32).toNatClampNeg (some (z0 + 48))))))))) 51 (.inr (4, [.int 0, .int 0, .int 0, .null, .null, .int 0])))) 23 (.inl (cid 3, 10, .inr (.inr (.inr (.inr (va_up (va_up (va_up (va_up (va_up (va_up (va_up (va_up (va_up (va_up (fun _ => none) (0 : Int32).toNatClampNeg (some (z0 + 24))) (1 : Int32).toNatClampNeg (some (z0 + 27))) (2 : Int32).toNatClampNeg (some (z0 + 30))) (3 : Int32).toNatClampNeg (some (z0 + 33))) (4 : Int32).toNatClampNeg (some (z0 + 36))) (5 : Int32).toNatClampNeg (some (z0 + 39))) (6 : Int32).toNatClampNeg (some (z0 + 42))) (7 : Int32).toNatClampNeg (some (z0 + 45))) (8 : Int32).toNatClampNeg (some (z0 + 48))) (9 : Int32).toNatClampNeg (some (z0 + 51)))))))))
set_option maxRecDepth 20000 in
set_option maxHeartbeats 4000000 in
theorem kc_X8 {l : Launch} {cid : Nat → ClassId} {D : va_G} {z0 : Nat} (sh : Nat → va_E) (h0 : sh 22 = .inr (8, [.null, .int 0, .int 0])) : CtC l cid D z0 yX8_init cX8_init 2 2 32 31 190 22 23 sh 54 (uX8 z0 cid sh) := by
  refine ctc_of (own := RX8) (lv := [some (.ref (z0 + 22)), none]) (by decide +kernel) rfl rfl rfl (by decide) (fun X hC hN hR hK hS => ?_)
  refine k_aload_n (pc := 0) hC dX8_init_0 rfl ?_
  refine k_obj (pc := 1) hC xw187 xob_i xob_c dX8_init_1 (Nat.le_of_ble_eq_true rfl) (Nat.le_of_ble_eq_true rfl) ?_
  refine k_aload_n (pc := 4) hC dX8_init_4 rfl ?_
  refine k_bipush (pc := 5) hC dX8_init_5 (v := 10) (by decide) ?_
  refine k_anew (n := 23) (k := 0) (sl := 0) (pc := 7) hC (t0 := 3) (C := RX4) rfl hC.aux.1 xw188 (N := 10) (by decide) (by decide) (by decide) (by decide) (by decide) dX8_init_7 ?_
  refine k_putF (n := 24) (pc := 10) hC hN (ci := 8) (i := 22) (fs := [.null, .int 0, .int 0]) (ty := .array (.object "LastRower$Moment")) tyX8 0 (by decide) h0 rfl in_X8 tyX8_ok nmX8 (by decide) rfl xw191 rfl rfl (by decide +kernel) rfl rfl (Nat.le_of_ble_eq_true rfl) dX8_init_10 ?_
  refine k_iconst (pc := 13) hC dX8_init_13 (v := 0) (by decide) ?_
  refine k_istore_n (pc := 14) hC (lv' := [some (.ref (z0 + 22)), some (.int 0)]) dX8_init_14 (by decide) rfl rfl ?_
  refine k_iload_n (pc := 15) hC dX8_init_15 rfl ?_
  refine k_bipush (pc := 16) hC dX8_init_16 (v := 10) (by decide) ?_
  refine k_geN (pc := 18) hC (by decide) dX8_init_18 (tgt := 40) (by decide) ?_
  refine k_aload_n (pc := 21) hC dX8_init_21 rfl ?_
  refine k_get (n := 24) (pc := 22) hC (ci := 8) (i := 22) (fs := [.ref (z0 + 23), .int 0, .int 0]) 0 (by decide) rfl rfl in_X8 (by decide) rfl xw191 rfl dX8_init_22 ?_
  refine k_iload_n (pc := 25) hC dX8_init_25 rfl ?_
  refine k_new (n := 24) (k := 1) (sl := 10) (pc := 26) hC (ci := 4) (C := RX4) (T := TX4) (N := 6) (fs := [.int 0, .int 0, .int 0, .null, .null, .int 0]) tyX4 tyX4_ok in_X4 xw188 xw149 xw46 rfl (by decide +kernel) (by decide) (by decide) dX8_init_26 ?_
  refine k_dup (pc := 29) hC dX8_init_29 rfl ?_
  refine k_initN (n := 25) (k := 2) (sl := 16) (pc := 30) hC (i := 24) (kc_X4 24 _ rfl) vi_X4 xn190 (by decide) rfl ⟨(Nat.le_of_ble_eq_true rfl), (Nat.le_of_ble_eq_true rfl)⟩ (by decide) (by decide) (Nat.le_of_ble_eq_true rfl) dX8_init_30 ?_
  refine k_aast (n := 27) (pc := 33) hC (i := 23) (t0 := 3) (N := 10) (qk := 24) (ci := 4) (r := (RX4, TX4, 6)) (by decide) rfl rfl (by decide) rfl rfl (by decide) dX8_init_33 ?_
  refine k_iinc (pc := 34) hC (lv' := [some (.ref (z0 + 22)), some (.int 1)]) dX8_init_34 rfl (w := 1) (by decide) (by decide) rfl rfl ?_
  refine k_goto (pc := 37) hC dX8_init_37 (tgt := 15) (by decide) ?_
  refine k_iload_n (pc := 15) hC dX8_init_15 rfl ?_
  refine k_bipush (pc := 16) hC dX8_init_16 (v := 10) (by decide) ?_
  refine k_geN (pc := 18) hC (by decide) dX8_init_18 (tgt := 40) (by decide) ?_
  refine k_aload_n (pc := 21) hC dX8_init_21 rfl ?_
  refine k_get (n := 27) (pc := 22) hC (ci := 8) (i := 22) (fs := [.ref (z0 + 23), .int 0, .int 0]) 0 (by decide) rfl rfl in_X8 (by decide) rfl xw191 rfl dX8_init_22 ?_
  refine k_iload_n (pc := 25) hC dX8_init_25 rfl ?_
  refine k_new (n := 27) (k := 4) (sl := 28) (pc := 26) hC (ci := 4) (C := RX4) (T := TX4) (N := 6) (fs := [.int 0, .int 0, .int 0, .null, .null, .int 0]) tyX4 tyX4_ok in_X4 xw188 xw149 xw46 rfl (by decide +kernel) (by decide) (by decide) dX8_init_26 ?_
  refine k_dup (pc := 29) hC dX8_init_29 rfl ?_
  refine k_initN (n := 28) (k := 5) (sl := 34) (pc := 30) hC (i := 27) (kc_X4 27 _ rfl) vi_X4 xn190 (by decide) rfl ⟨(Nat.le_of_ble_eq_true rfl), (Nat.le_of_ble_eq_true rfl)⟩ (by decide) (by decide) (Nat.le_of_ble_eq_true rfl) dX8_init_30 ?_
  refine k_aast (n := 30) (pc := 33) hC (i := 23) (t0 := 3) (N := 10) (qk := 27) (ci := 4) (r := (RX4, TX4, 6)) (by decide) rfl rfl (by decide) rfl rfl (by decide) dX8_init_33 ?_
  refine k_iinc (pc := 34) hC (lv' := [some (.ref (z0 + 22)), some (.int 2)]) dX8_init_34 rfl (w := 2) (by decide) (by decide) rfl rfl ?_
  refine k_goto (pc := 37) hC dX8_init_37 (tgt := 15) (by decide) ?_
  refine k_iload_n (pc := 15) hC dX8_init_15 rfl ?_
  refine k_bipush (pc := 16) hC dX8_init_16 (v := 10) (by decide) ?_
  refine k_geN (pc := 18) hC (by decide) dX8_init_18 (tgt := 40) (by decide) ?_
  refine k_aload_n (pc := 21) hC dX8_init_21 rfl ?_
  refine k_get (n := 30) (pc := 22) hC (ci := 8) (i := 22) (fs := [.ref (z0 + 23), .int 0, .int 0]) 0 (by decide) rfl rfl in_X8 (by decide) rfl xw191 rfl dX8_init_22 ?_
  refine k_iload_n (pc := 25) hC dX8_init_25 rfl ?_
  refine k_new (n := 30) (k := 7) (sl := 46) (pc := 26) hC (ci := 4) (C := RX4) (T := TX4) (N := 6) (fs := [.int 0, .int 0, .int 0, .null, .null, .int 0]) tyX4 tyX4_ok in_X4 xw188 xw149 xw46 rfl (by decide +kernel) (by decide) (by decide) dX8_init_26 ?_
  refine k_dup (pc := 29) hC dX8_init_29 rfl ?_
  refine k_initN (n := 31) (k := 8) (sl := 52) (pc := 30) hC (i := 30) (kc_X4 30 _ rfl) vi_X4 xn190 (by decide) rfl ⟨(Nat.le_of_ble_eq_true rfl), (Nat.le_of_ble_eq_true rfl)⟩ (by decide) (by decide) (Nat.le_of_ble_eq_true rfl) dX8_init_30 ?_
  refine k_aast (n := 33) (pc := 33) hC (i := 23) (t0 := 3) (N := 10) (qk := 30) (ci := 4) (r := (RX4, TX4, 6)) (by decide) rfl rfl (by decide) rfl rfl (by decide) dX8_init_33 ?_
  refine k_iinc (pc := 34) hC (lv' := [some (.ref (z0 + 22)), some (.int 3)]) dX8_init_34 rfl (w := 3) (by decide) (by decide) rfl rfl ?_
  refine k_goto (pc := 37) hC dX8_init_37 (tgt := 15) (by decide) ?_
  refine k_iload_n (pc := 15) hC dX8_init_15 rfl ?_
  refine k_bipush (pc := 16) hC dX8_init_16 (v := 10) (by decide) ?_
  refine k_geN (pc := 18) hC (by decide) dX8_init_18 (tgt := 40) (by decide) ?_
  refine k_aload_n (pc := 21) hC dX8_init_21 rfl ?_
  refine k_get (n := 33) (pc := 22) hC (ci := 8) (i := 22) (fs := [.ref (z0 + 23), .int 0, .int 0]) 0 (by decide) rfl rfl in_X8 (by decide) rfl xw191 rfl dX8_init_22 ?_
  refine k_iload_n (pc := 25) hC dX8_init_25 rfl ?_
  refine k_new (n := 33) (k := 10) (sl := 64) (pc := 26) hC (ci := 4) (C := RX4) (T := TX4) (N := 6) (fs := [.int 0, .int 0, .int 0, .null, .null, .int 0]) tyX4 tyX4_ok in_X4 xw188 xw149 xw46 rfl (by decide +kernel) (by decide) (by decide) dX8_init_26 ?_
  refine k_dup (pc := 29) hC dX8_init_29 rfl ?_
  refine k_initN (n := 34) (k := 11) (sl := 70) (pc := 30) hC (i := 33) (kc_X4 33 _ rfl) vi_X4 xn190 (by decide) rfl ⟨(Nat.le_of_ble_eq_true rfl), (Nat.le_of_ble_eq_true rfl)⟩ (by decide) (by decide) (Nat.le_of_ble_eq_true rfl) dX8_init_30 ?_
  refine k_aast (n := 36) (pc := 33) hC (i := 23) (t0 := 3) (N := 10) (qk := 33) (ci := 4) (r := (RX4, TX4, 6)) (by decide) rfl rfl (by decide) rfl rfl (by decide) dX8_init_33 ?_
  refine k_iinc (pc := 34) hC (lv' := [some (.ref (z0 + 22)), some (.int 4)]) dX8_init_34 rfl (w := 4) (by decide) (by decide) rfl rfl ?_
  refine k_goto (pc := 37) hC dX8_init_37 (tgt := 15) (by decide) ?_
  refine k_iload_n (pc := 15) hC dX8_init_15 rfl ?_
  refine k_bipush (pc := 16) hC dX8_init_16 (v := 10) (by decide) ?_
  refine k_geN (pc := 18) hC (by decide) dX8_init_18 (tgt := 40) (by decide) ?_
  refine k_aload_n (pc := 21) hC dX8_init_21 rfl ?_
  refine k_get (n := 36) (pc := 22) hC (ci := 8) (i := 22) (fs := [.ref (z0 + 23), .int 0, .int 0]) 0 (by decide) rfl rfl in_X8 (by decide) rfl xw191 rfl dX8_init_22 ?_
  refine k_iload_n (pc := 25) hC dX8_init_25 rfl ?_
  refine k_new (n := 36) (k := 13) (sl := 82) (pc := 26) hC (ci := 4) (C := RX4) (T := TX4) (N := 6) (fs := [.int 0, .int 0, .int 0, .null, .null, .int 0]) tyX4 tyX4_ok in_X4 xw188 xw149 xw46 rfl (by decide +kernel) (by decide) (by decide) dX8_init_26 ?_
  refine k_dup (pc := 29) hC dX8_init_29 rfl ?_
  refine k_initN (n := 37) (k := 14) (sl := 88) (pc := 30) hC (i := 36) (kc_X4 36 _ rfl) vi_X4 xn190 (by decide) rfl ⟨(Nat.le_of_ble_eq_true rfl), (Nat.le_of_ble_eq_true rfl)⟩ (by decide) (by decide) (Nat.le_of_ble_eq_true rfl) dX8_init_30 ?_
  refine k_aast (n := 39) (pc := 33) hC (i := 23) (t0 := 3) (N := 10) (qk := 36) (ci := 4) (r := (RX4, TX4, 6)) (by decide) rfl rfl (by decide) rfl rfl (by decide) dX8_init_33 ?_
  refine k_iinc (pc := 34) hC (lv' := [some (.ref (z0 + 22)), some (.int 5)]) dX8_init_34 rfl (w := 5) (by decide) (by decide) rfl rfl ?_
  refine k_goto (pc := 37) hC dX8_init_37 (tgt := 15) (by decide) ?_
  refine k_iload_n (pc := 15) hC dX8_init_15 rfl ?_
  refine k_bipush (pc := 16) hC dX8_init_16 (v := 10) (by decide) ?_
  refine k_geN (pc := 18) hC (by decide) dX8_init_18 (tgt := 40) (by decide) ?_
  refine k_aload_n (pc := 21) hC dX8_init_21 rfl ?_
  refine k_get (n := 39) (pc := 22) hC (ci := 8) (i := 22) (fs := [.ref (z0 + 23), .int 0, .int 0]) 0 (by decide) rfl rfl in_X8 (by decide) rfl xw191 rfl dX8_init_22 ?_
  refine k_iload_n (pc := 25) hC dX8_init_25 rfl ?_
  refine k_new (n := 39) (k := 16) (sl := 100) (pc := 26) hC (ci := 4) (C := RX4) (T := TX4) (N := 6) (fs := [.int 0, .int 0, .int 0, .null, .null, .int 0]) tyX4 tyX4_ok in_X4 xw188 xw149 xw46 rfl (by decide +kernel) (by decide) (by decide) dX8_init_26 ?_
  refine k_dup (pc := 29) hC dX8_init_29 rfl ?_
  refine k_initN (n := 40) (k := 17) (sl := 106) (pc := 30) hC (i := 39) (kc_X4 39 _ rfl) vi_X4 xn190 (by decide) rfl ⟨(Nat.le_of_ble_eq_true rfl), (Nat.le_of_ble_eq_true rfl)⟩ (by decide) (by decide) (Nat.le_of_ble_eq_true rfl) dX8_init_30 ?_
  refine k_aast (n := 42) (pc := 33) hC (i := 23) (t0 := 3) (N := 10) (qk := 39) (ci := 4) (r := (RX4, TX4, 6)) (by decide) rfl rfl (by decide) rfl rfl (by decide) dX8_init_33 ?_
  refine k_iinc (pc := 34) hC (lv' := [some (.ref (z0 + 22)), some (.int 6)]) dX8_init_34 rfl (w := 6) (by decide) (by decide) rfl rfl ?_
  refine k_goto (pc := 37) hC dX8_init_37 (tgt := 15) (by decide) ?_
  refine k_iload_n (pc := 15) hC dX8_init_15 rfl ?_
  refine k_bipush (pc := 16) hC dX8_init_16 (v := 10) (by decide) ?_
  refine k_geN (pc := 18) hC (by decide) dX8_init_18 (tgt := 40) (by decide) ?_
  refine k_aload_n (pc := 21) hC dX8_init_21 rfl ?_
  refine k_get (n := 42) (pc := 22) hC (ci := 8) (i := 22) (fs := [.ref (z0 + 23), .int 0, .int 0]) 0 (by decide) rfl rfl in_X8 (by decide) rfl xw191 rfl dX8_init_22 ?_
  refine k_iload_n (pc := 25) hC dX8_init_25 rfl ?_
  refine k_new (n := 42) (k := 19) (sl := 118) (pc := 26) hC (ci := 4) (C := RX4) (T := TX4) (N := 6) (fs := [.int 0, .int 0, .int 0, .null, .null, .int 0]) tyX4 tyX4_ok in_X4 xw188 xw149 xw46 rfl (by decide +kernel) (by decide) (by decide) dX8_init_26 ?_
  refine k_dup (pc := 29) hC dX8_init_29 rfl ?_
  refine k_initN (n := 43) (k := 20) (sl := 124) (pc := 30) hC (i := 42) (kc_X4 42 _ rfl) vi_X4 xn190 (by decide) rfl ⟨(Nat.le_of_ble_eq_true rfl), (Nat.le_of_ble_eq_true rfl)⟩ (by decide) (by decide) (Nat.le_of_ble_eq_true rfl) dX8_init_30 ?_
  refine k_aast (n := 45) (pc := 33) hC (i := 23) (t0 := 3) (N := 10) (qk := 42) (ci := 4) (r := (RX4, TX4, 6)) (by decide) rfl rfl (by decide) rfl rfl (by decide) dX8_init_33 ?_
  refine k_iinc (pc := 34) hC (lv' := [some (.ref (z0 + 22)), some (.int 7)]) dX8_init_34 rfl (w := 7) (by decide) (by decide) rfl rfl ?_
  refine k_goto (pc := 37) hC dX8_init_37 (tgt := 15) (by decide) ?_
  refine k_iload_n (pc := 15) hC dX8_init_15 rfl ?_
  refine k_bipush (pc := 16) hC dX8_init_16 (v := 10) (by decide) ?_
  refine k_geN (pc := 18) hC (by decide) dX8_init_18 (tgt := 40) (by decide) ?_
  refine k_aload_n (pc := 21) hC dX8_init_21 rfl ?_
  refine k_get (n := 45) (pc := 22) hC (ci := 8) (i := 22) (fs := [.ref (z0 + 23), .int 0, .int 0]) 0 (by decide) rfl rfl in_X8 (by decide) rfl xw191 rfl dX8_init_22 ?_
  refine k_iload_n (pc := 25) hC dX8_init_25 rfl ?_
  refine k_new (n := 45) (k := 22) (sl := 136) (pc := 26) hC (ci := 4) (C := RX4) (T := TX4) (N := 6) (fs := [.int 0, .int 0, .int 0, .null, .null, .int 0]) tyX4 tyX4_ok in_X4 xw188 xw149 xw46 rfl (by decide +kernel) (by decide) (by decide) dX8_init_26 ?_
  refine k_dup (pc := 29) hC dX8_init_29 rfl ?_
  refine k_initN (n := 46) (k := 23) (sl := 142) (pc := 30) hC (i := 45) (kc_X4 45 _ rfl) vi_X4 xn190 (by decide) rfl ⟨(Nat.le_of_ble_eq_true rfl), (Nat.le_of_ble_eq_true rfl)⟩ (by decide) (by decide) (Nat.le_of_ble_eq_true rfl) dX8_init_30 ?_
  refine k_aast (n := 48) (pc := 33) hC (i := 23) (t0 := 3) (N := 10) (qk := 45) (ci := 4) (r := (RX4, TX4, 6)) (by decide) rfl rfl (by decide) rfl rfl (by decide) dX8_init_33 ?_
  refine k_iinc (pc := 34) hC (lv' := [some (.ref (z0 + 22)), some (.int 8)]) dX8_init_34 rfl (w := 8) (by decide) (by decide) rfl rfl ?_
  refine k_goto (pc := 37) hC dX8_init_37 (tgt := 15) (by decide) ?_
  refine k_iload_n (pc := 15) hC dX8_init_15 rfl ?_
  refine k_bipush (pc := 16) hC dX8_init_16 (v := 10) (by decide) ?_
  refine k_geN (pc := 18) hC (by decide) dX8_init_18 (tgt := 40) (by decide) ?_
  refine k_aload_n (pc := 21) hC dX8_init_21 rfl ?_
  refine k_get (n := 48) (pc := 22) hC (ci := 8) (i := 22) (fs := [.ref (z0 + 23), .int 0, .int 0]) 0 (by decide) rfl rfl in_X8 (by decide) rfl xw191 rfl dX8_init_22 ?_
  refine k_iload_n (pc := 25) hC dX8_init_25 rfl ?_
  refine k_new (n := 48) (k := 25) (sl := 154) (pc := 26) hC (ci := 4) (C := RX4) (T := TX4) (N := 6) (fs := [.int 0, .int 0, .int 0, .null, .null, .int 0]) tyX4 tyX4_ok in_X4 xw188 xw149 xw46 rfl (by decide +kernel) (by decide) (by decide) dX8_init_26 ?_
  refine k_dup (pc := 29) hC dX8_init_29 rfl ?_
  refine k_initN (n := 49) (k := 26) (sl := 160) (pc := 30) hC (i := 48) (kc_X4 48 _ rfl) vi_X4 xn190 (by decide) rfl ⟨(Nat.le_of_ble_eq_true rfl), (Nat.le_of_ble_eq_true rfl)⟩ (by decide) (by decide) (Nat.le_of_ble_eq_true rfl) dX8_init_30 ?_
  refine k_aast (n := 51) (pc := 33) hC (i := 23) (t0 := 3) (N := 10) (qk := 48) (ci := 4) (r := (RX4, TX4, 6)) (by decide) rfl rfl (by decide) rfl rfl (by decide) dX8_init_33 ?_
  refine k_iinc (pc := 34) hC (lv' := [some (.ref (z0 + 22)), some (.int 9)]) dX8_init_34 rfl (w := 9) (by decide) (by decide) rfl rfl ?_
  refine k_goto (pc := 37) hC dX8_init_37 (tgt := 15) (by decide) ?_
  refine k_iload_n (pc := 15) hC dX8_init_15 rfl ?_
  refine k_bipush (pc := 16) hC dX8_init_16 (v := 10) (by decide) ?_
  refine k_geN (pc := 18) hC (by decide) dX8_init_18 (tgt := 40) (by decide) ?_
  refine k_aload_n (pc := 21) hC dX8_init_21 rfl ?_
  refine k_get (n := 51) (pc := 22) hC (ci := 8) (i := 22) (fs := [.ref (z0 + 23), .int 0, .int 0]) 0 (by decide) rfl rfl in_X8 (by decide) rfl xw191 rfl dX8_init_22 ?_
  refine k_iload_n (pc := 25) hC dX8_init_25 rfl ?_
  refine k_new (n := 51) (k := 28) (sl := 172) (pc := 26) hC (ci := 4) (C := RX4) (T := TX4) (N := 6) (fs := [.int 0, .int 0, .int 0, .null, .null, .int 0]) tyX4 tyX4_ok in_X4 xw188 xw149 xw46 rfl (by decide +kernel) (by decide) (by decide) dX8_init_26 ?_
  refine k_dup (pc := 29) hC dX8_init_29 rfl ?_
  refine k_initN (n := 52) (k := 29) (sl := 178) (pc := 30) hC (i := 51) (kc_X4 51 _ rfl) vi_X4 xn190 (by decide) rfl ⟨(Nat.le_of_ble_eq_true rfl), (Nat.le_of_ble_eq_true rfl)⟩ (by decide) (by decide) (Nat.le_of_ble_eq_true rfl) dX8_init_30 ?_
  refine k_aast (n := 54) (pc := 33) hC (i := 23) (t0 := 3) (N := 10) (qk := 51) (ci := 4) (r := (RX4, TX4, 6)) (by decide) rfl rfl (by decide) rfl rfl (by decide) dX8_init_33 ?_
  refine k_iinc (pc := 34) hC (lv' := [some (.ref (z0 + 22)), some (.int 10)]) dX8_init_34 rfl (w := 10) (by decide) (by decide) rfl rfl ?_
  refine k_goto (pc := 37) hC dX8_init_37 (tgt := 15) (by decide) ?_
  refine k_iload_n (pc := 15) hC dX8_init_15 rfl ?_
  refine k_bipush (pc := 16) hC dX8_init_16 (v := 10) (by decide) ?_
  refine k_geY (pc := 18) hC (by decide) dX8_init_18 (tgt := 40) (by decide) ?_
  exact k_vret (pc := 40) hC hR hK hS dX8_init_40
theorem vi_X9 : cI yX9_init cX9_init 2 := ⟨⟨rfl, by decide +kernel, by decide +kernel, by decide +kernel⟩, xw205, xw48, xw206⟩
def uX9 (z0 : Nat) (cid : Nat → ClassId) (sh : Nat → va_E) : Nat → va_E := (up (uX4 z0 cid 71 (up (up (uX4 z0 cid 68 (up (up (uX4 z0 cid 65 (up (up (uX4 z0 cid 62 (up (up (up (up (up (up (up sh 59 (.inl (cid 3, 4, .inr (.inr (.inr (.inr (fun _ => none))))))) 58 (.inr (9, [.ref (z0 + 59), .null, .null, .int 0, .int 0, .int 0]))) 60 (.inl (cid 0, 3, .inl (fun _ => 0)))) 58 (.inr (9, [.ref (z0 + 59), .ref (z0 + 60), .null, .int 0, .int 0, .int 0]))) 61 (.inl (cid 0, 3, .inl (fun _ => 0)))) 58 (.inr (9, [.ref (z0 + 59), .ref (z0 + 60), .ref (z0 + 61), .int 0, .int 0, .int 0]))) 62 (.inr (4, [.int 0, .int 0, .int 0, .null, .null, .int 0])))) 59 (.inl (cid 3, 4, .inr (.inr (.inr (.inr (va_up (fun _ => none) (0 : Int32).toNatClampNeg (some (z0 + 62))))))))) 65 (.inr (4, [.int 0, .int 0, .int 0, .null, .null, .int 0])))) 59 (.inl (cid 3, 4, .inr (.inr (.inr (.inr (va_up (va_up (fun _ => none) (0 : Int32).toNatClampNeg (some (z0 + 62))) (1 : Int32).toNatClampNeg (some (z0 + 65))))))))) 68 (.inr (4, [.int 0, .int 0, .int 0, .null, .null, .int 0])))) 59 (.inl (cid 3, 4, .inr (.inr (.inr (.inr (va_up (va_up (va_up (fun _ => none) (0 : Int32).toNatClampNeg (some (z0 + 62))) (1 : Int32).toNatClampNeg (some (z0 + 65))) (2 : Int32).toNatClampNeg (some (z0 + 68))))))))) 71 (.inr (4, [.int 0, .int 0, .int 0, .null, .null, .int 0])))) 59 (.inl (cid 3, 4, .inr (.inr (.inr (.inr (va_up (va_up (va_up (va_up (fun _ => none) (0 : Int32).toNatClampNeg (some (z0 + 62))) (1 : Int32).toNatClampNeg (some (z0 + 65))) (2 : Int32).toNatClampNeg (some (z0 + 68))) (3 : Int32).toNatClampNeg (some (z0 + 71)))))))))
set_option maxRecDepth 20000 in
set_option maxHeartbeats 4000000 in
theorem kc_X9 {l : Launch} {cid : Nat → ClassId} {D : va_G} {z0 : Nat} (sh : Nat → va_E) (h0 : sh 58 = .inr (9, [.null, .null, .null, .int 0, .int 0, .int 0])) : CtC l cid D z0 yX9_init cX9_init 2 2 32 15 82 58 59 sh 74 (uX9 z0 cid sh) := by
  refine ctc_of (own := RX9) (lv := [some (.ref (z0 + 58)), none]) (by decide +kernel) rfl rfl rfl (by decide) (fun X hC hN hR hK hS => ?_)
  refine k_aload_n (pc := 0) hC dX9_init_0 rfl ?_
  refine k_obj (pc := 1) hC xw207 xob_i xob_c dX9_init_1 (Nat.le_of_ble_eq_true rfl) (Nat.le_of_ble_eq_true rfl) ?_
  refine k_aload_n (pc := 4) hC dX9_init_4 rfl ?_
  refine k_iconst (pc := 5) hC dX9_init_5 (v := 4) (by decide) ?_
  refine k_anew (n := 59) (k := 0) (sl := 0) (pc := 6) hC (t0 := 3) (C := RX4) rfl hC.aux.1 xw208 (N := 4) (by decide) (by decide) (by decide) (by decide) (by decide) dX9_init_6 ?_
  refine k_putF (n := 60) (pc := 9) hC hN (ci := 9) (i := 58) (fs := [.null, .null, .null, .int 0, .int 0, .int 0]) (ty := .array (.object "LastRower$Moment")) tyX9 0 (by decide) h0 rfl in_X9 tyX9_ok nmX9 (by decide) rfl xw210 rfl rfl (by decide +kernel) rfl rfl (Nat.le_of_ble_eq_true rfl) dX9_init_9 ?_
  refine k_aload_n (pc := 12) hC dX9_init_12 rfl ?_
  refine k_iconst (pc := 13) hC dX9_init_13 (v := 3) (by decide) ?_
  refine k_newa (n := 60) (k := 1) (sl := 4) (pc := 14) hC (t0 := 0) (ty := .int) rfl (fun _ _ h => h) xw92 rfl (N := 3) (a0 := (3, .inl (fun _ => 0))) (fun _ => rfl) (by decide) (by decide) (by decide) (by decide) (by decide) dX9_init_14 ?_
  refine k_putF (n := 61) (pc := 16) hC hN (ci := 9) (i := 58) (fs := [.ref (z0 + 59), .null, .null, .int 0, .int 0, .int 0]) (ty := .array .int) tyX9 1 (by decide) rfl rfl in_X9 tyX9_ok nmX9 (by decide) rfl xw211 rfl rfl (by decide +kernel) rfl rfl (Nat.le_of_ble_eq_true rfl) dX9_init_16 ?_
  refine k_aload_n (pc := 19) hC dX9_init_19 rfl ?_
  refine k_iconst (pc := 20) hC dX9_init_20 (v := 3) (by decide) ?_
  refine k_newa (n := 61) (k := 2) (sl := 7) (pc := 21) hC (t0 := 0) (ty := .int) rfl (fun _ _ h => h) xw92 rfl (N := 3) (a0 := (3, .inl (fun _ => 0))) (fun _ => rfl) (by decide) (by decide) (by decide) (by decide) (by decide) dX9_init_21 ?_
  refine k_putF (n := 62) (pc := 23) hC hN (ci := 9) (i := 58) (fs := [.ref (z0 + 59), .ref (z0 + 60), .null, .int 0, .int 0, .int 0]) (ty := .array .int) tyX9 2 (by decide) rfl rfl in_X9 tyX9_ok nmX9 (by decide) rfl xw212 rfl rfl (by decide +kernel) rfl rfl (Nat.le_of_ble_eq_true rfl) dX9_init_23 ?_
  refine k_iconst (pc := 26) hC dX9_init_26 (v := 0) (by decide) ?_
  refine k_istore_n (pc := 27) hC (lv' := [some (.ref (z0 + 58)), some (.int 0)]) dX9_init_27 (by decide) rfl rfl ?_
  refine k_iload_n (pc := 28) hC dX9_init_28 rfl ?_
  refine k_aload_n (pc := 29) hC dX9_init_29 rfl ?_
  refine k_get (n := 62) (pc := 30) hC (ci := 9) (i := 58) (fs := [.ref (z0 + 59), .ref (z0 + 60), .ref (z0 + 61), .int 0, .int 0, .int 0]) 0 (by decide) rfl rfl in_X9 (by decide) rfl xw210 rfl dX9_init_30 ?_
  refine k_alen (n := 62) (pc := 33) hC (i := 59) (t0 := 3) (N := 4) (C := RX4) (by decide) rfl rfl (v := 4) rfl dX9_init_33 ?_
  refine k_geN (pc := 34) hC (by decide) dX9_init_34 (tgt := 56) (by decide) ?_
  refine k_aload_n (pc := 37) hC dX9_init_37 rfl ?_
  refine k_get (n := 62) (pc := 38) hC (ci := 9) (i := 58) (fs := [.ref (z0 + 59), .ref (z0 + 60), .ref (z0 + 61), .int 0, .int 0, .int 0]) 0 (by decide) rfl rfl in_X9 (by decide) rfl xw210 rfl dX9_init_38 ?_
  refine k_iload_n (pc := 41) hC dX9_init_41 rfl ?_
  refine k_new (n := 62) (k := 3) (sl := 10) (pc := 42) hC (ci := 4) (C := RX4) (T := TX4) (N := 6) (fs := [.int 0, .int 0, .int 0, .null, .null, .int 0]) tyX4 tyX4_ok in_X4 xw208 xw149 xw46 rfl (by decide +kernel) (by decide) (by decide) dX9_init_42 ?_
  refine k_dup (pc := 45) hC dX9_init_45 rfl ?_
  refine k_initN (n := 63) (k := 4) (sl := 16) (pc := 46) hC (i := 62) (kc_X4 62 _ rfl) vi_X4 xn209 (by decide) rfl ⟨(Nat.le_of_ble_eq_true rfl), (Nat.le_of_ble_eq_true rfl)⟩ (by decide) (by decide) (Nat.le_of_ble_eq_true rfl) dX9_init_46 ?_
  refine k_aast (n := 65) (pc := 49) hC (i := 59) (t0 := 3) (N := 4) (qk := 62) (ci := 4) (r := (RX4, TX4, 6)) (by decide) rfl rfl (by decide) rfl rfl (by decide) dX9_init_49 ?_
  refine k_iinc (pc := 50) hC (lv' := [some (.ref (z0 + 58)), some (.int 1)]) dX9_init_50 rfl (w := 1) (by decide) (by decide) rfl rfl ?_
  refine k_goto (pc := 53) hC dX9_init_53 (tgt := 28) (by decide) ?_
  refine k_iload_n (pc := 28) hC dX9_init_28 rfl ?_
  refine k_aload_n (pc := 29) hC dX9_init_29 rfl ?_
  refine k_get (n := 65) (pc := 30) hC (ci := 9) (i := 58) (fs := [.ref (z0 + 59), .ref (z0 + 60), .ref (z0 + 61), .int 0, .int 0, .int 0]) 0 (by decide) rfl rfl in_X9 (by decide) rfl xw210 rfl dX9_init_30 ?_
  refine k_alen (n := 65) (pc := 33) hC (i := 59) (t0 := 3) (N := 4) (C := RX4) (by decide) rfl rfl (v := 4) rfl dX9_init_33 ?_
  refine k_geN (pc := 34) hC (by decide) dX9_init_34 (tgt := 56) (by decide) ?_
  refine k_aload_n (pc := 37) hC dX9_init_37 rfl ?_
  refine k_get (n := 65) (pc := 38) hC (ci := 9) (i := 58) (fs := [.ref (z0 + 59), .ref (z0 + 60), .ref (z0 + 61), .int 0, .int 0, .int 0]) 0 (by decide) rfl rfl in_X9 (by decide) rfl xw210 rfl dX9_init_38 ?_
  refine k_iload_n (pc := 41) hC dX9_init_41 rfl ?_
  refine k_new (n := 65) (k := 6) (sl := 28) (pc := 42) hC (ci := 4) (C := RX4) (T := TX4) (N := 6) (fs := [.int 0, .int 0, .int 0, .null, .null, .int 0]) tyX4 tyX4_ok in_X4 xw208 xw149 xw46 rfl (by decide +kernel) (by decide) (by decide) dX9_init_42 ?_
  refine k_dup (pc := 45) hC dX9_init_45 rfl ?_
  refine k_initN (n := 66) (k := 7) (sl := 34) (pc := 46) hC (i := 65) (kc_X4 65 _ rfl) vi_X4 xn209 (by decide) rfl ⟨(Nat.le_of_ble_eq_true rfl), (Nat.le_of_ble_eq_true rfl)⟩ (by decide) (by decide) (Nat.le_of_ble_eq_true rfl) dX9_init_46 ?_
  refine k_aast (n := 68) (pc := 49) hC (i := 59) (t0 := 3) (N := 4) (qk := 65) (ci := 4) (r := (RX4, TX4, 6)) (by decide) rfl rfl (by decide) rfl rfl (by decide) dX9_init_49 ?_
  refine k_iinc (pc := 50) hC (lv' := [some (.ref (z0 + 58)), some (.int 2)]) dX9_init_50 rfl (w := 2) (by decide) (by decide) rfl rfl ?_
  refine k_goto (pc := 53) hC dX9_init_53 (tgt := 28) (by decide) ?_
  refine k_iload_n (pc := 28) hC dX9_init_28 rfl ?_
  refine k_aload_n (pc := 29) hC dX9_init_29 rfl ?_
  refine k_get (n := 68) (pc := 30) hC (ci := 9) (i := 58) (fs := [.ref (z0 + 59), .ref (z0 + 60), .ref (z0 + 61), .int 0, .int 0, .int 0]) 0 (by decide) rfl rfl in_X9 (by decide) rfl xw210 rfl dX9_init_30 ?_
  refine k_alen (n := 68) (pc := 33) hC (i := 59) (t0 := 3) (N := 4) (C := RX4) (by decide) rfl rfl (v := 4) rfl dX9_init_33 ?_
  refine k_geN (pc := 34) hC (by decide) dX9_init_34 (tgt := 56) (by decide) ?_
  refine k_aload_n (pc := 37) hC dX9_init_37 rfl ?_
  refine k_get (n := 68) (pc := 38) hC (ci := 9) (i := 58) (fs := [.ref (z0 + 59), .ref (z0 + 60), .ref (z0 + 61), .int 0, .int 0, .int 0]) 0 (by decide) rfl rfl in_X9 (by decide) rfl xw210 rfl dX9_init_38 ?_
  refine k_iload_n (pc := 41) hC dX9_init_41 rfl ?_
  refine k_new (n := 68) (k := 9) (sl := 46) (pc := 42) hC (ci := 4) (C := RX4) (T := TX4) (N := 6) (fs := [.int 0, .int 0, .int 0, .null, .null, .int 0]) tyX4 tyX4_ok in_X4 xw208 xw149 xw46 rfl (by decide +kernel) (by decide) (by decide) dX9_init_42 ?_
  refine k_dup (pc := 45) hC dX9_init_45 rfl ?_
  refine k_initN (n := 69) (k := 10) (sl := 52) (pc := 46) hC (i := 68) (kc_X4 68 _ rfl) vi_X4 xn209 (by decide) rfl ⟨(Nat.le_of_ble_eq_true rfl), (Nat.le_of_ble_eq_true rfl)⟩ (by decide) (by decide) (Nat.le_of_ble_eq_true rfl) dX9_init_46 ?_
  refine k_aast (n := 71) (pc := 49) hC (i := 59) (t0 := 3) (N := 4) (qk := 68) (ci := 4) (r := (RX4, TX4, 6)) (by decide) rfl rfl (by decide) rfl rfl (by decide) dX9_init_49 ?_
  refine k_iinc (pc := 50) hC (lv' := [some (.ref (z0 + 58)), some (.int 3)]) dX9_init_50 rfl (w := 3) (by decide) (by decide) rfl rfl ?_
  refine k_goto (pc := 53) hC dX9_init_53 (tgt := 28) (by decide) ?_
  refine k_iload_n (pc := 28) hC dX9_init_28 rfl ?_
  refine k_aload_n (pc := 29) hC dX9_init_29 rfl ?_
  refine k_get (n := 71) (pc := 30) hC (ci := 9) (i := 58) (fs := [.ref (z0 + 59), .ref (z0 + 60), .ref (z0 + 61), .int 0, .int 0, .int 0]) 0 (by decide) rfl rfl in_X9 (by decide) rfl xw210 rfl dX9_init_30 ?_
  refine k_alen (n := 71) (pc := 33) hC (i := 59) (t0 := 3) (N := 4) (C := RX4) (by decide) rfl rfl (v := 4) rfl dX9_init_33 ?_
  refine k_geN (pc := 34) hC (by decide) dX9_init_34 (tgt := 56) (by decide) ?_
  refine k_aload_n (pc := 37) hC dX9_init_37 rfl ?_
  refine k_get (n := 71) (pc := 38) hC (ci := 9) (i := 58) (fs := [.ref (z0 + 59), .ref (z0 + 60), .ref (z0 + 61), .int 0, .int 0, .int 0]) 0 (by decide) rfl rfl in_X9 (by decide) rfl xw210 rfl dX9_init_38 ?_
  refine k_iload_n (pc := 41) hC dX9_init_41 rfl ?_
  refine k_new (n := 71) (k := 12) (sl := 64) (pc := 42) hC (ci := 4) (C := RX4) (T := TX4) (N := 6) (fs := [.int 0, .int 0, .int 0, .null, .null, .int 0]) tyX4 tyX4_ok in_X4 xw208 xw149 xw46 rfl (by decide +kernel) (by decide) (by decide) dX9_init_42 ?_
  refine k_dup (pc := 45) hC dX9_init_45 rfl ?_
  refine k_initN (n := 72) (k := 13) (sl := 70) (pc := 46) hC (i := 71) (kc_X4 71 _ rfl) vi_X4 xn209 (by decide) rfl ⟨(Nat.le_of_ble_eq_true rfl), (Nat.le_of_ble_eq_true rfl)⟩ (by decide) (by decide) (Nat.le_of_ble_eq_true rfl) dX9_init_46 ?_
  refine k_aast (n := 74) (pc := 49) hC (i := 59) (t0 := 3) (N := 4) (qk := 71) (ci := 4) (r := (RX4, TX4, 6)) (by decide) rfl rfl (by decide) rfl rfl (by decide) dX9_init_49 ?_
  refine k_iinc (pc := 50) hC (lv' := [some (.ref (z0 + 58)), some (.int 4)]) dX9_init_50 rfl (w := 4) (by decide) (by decide) rfl rfl ?_
  refine k_goto (pc := 53) hC dX9_init_53 (tgt := 28) (by decide) ?_
  refine k_iload_n (pc := 28) hC dX9_init_28 rfl ?_
  refine k_aload_n (pc := 29) hC dX9_init_29 rfl ?_
  refine k_get (n := 74) (pc := 30) hC (ci := 9) (i := 58) (fs := [.ref (z0 + 59), .ref (z0 + 60), .ref (z0 + 61), .int 0, .int 0, .int 0]) 0 (by decide) rfl rfl in_X9 (by decide) rfl xw210 rfl dX9_init_30 ?_
  refine k_alen (n := 74) (pc := 33) hC (i := 59) (t0 := 3) (N := 4) (C := RX4) (by decide) rfl rfl (v := 4) rfl dX9_init_33 ?_
  refine k_geY (pc := 34) hC (by decide) dX9_init_34 (tgt := 56) (by decide) ?_
  exact k_vret (pc := 56) hC hR hK hS dX9_init_56
theorem vi_X11 : cI yX11_init cX11_init 2 := ⟨⟨rfl, by decide +kernel, by decide +kernel, by decide +kernel⟩, xw61, xw43, xw62⟩
def uX11 (z0 : Nat) (cid : Nat → ClassId) (sh : Nat → va_E) : Nat → va_E := (up (up (up (up (up (up (up (up (up (up (up (up (up (uX4 z0 cid 100 (up (up (uX4 z0 cid 97 (up (up (uX4 z0 cid 94 (up (up (uX4 z0 cid 91 (up (up (uX4 z0 cid 88 (up (up (uX4 z0 cid 85 (up (up (uX4 z0 cid 82 (up (up (uX4 z0 cid 79 (up (up (uX4 z0 cid 76 (up (up (up (up (up (up (uX9 z0 cid  (up (up (up (up (up (up (up (up (up (up (uX8 z0 cid  (up (up (uX4 z0 cid 19 (up (up (uX2 z0 cid 11 (up (up (uX2 z0 cid 3 (up (up (uX10 z0 cid 1 (up sh 1 (.inr (10, [.null, .int 0, .int 0, .int 0, .int 0, .int 0])))) 0 (.inr (11, [.ref (z0 + 1), .null, .null, .null, .null, .null, .int 0, .null, .null, .int 0, .null, .null, .null, .null]))) 3 (.inr (2, [.int 0, .null, .null, .null, .int 0, .null, .null, .int 0, .int 0, .null, .null])))) 0 (.inr (11, [.ref (z0 + 1), .ref (z0 + 3), .null, .null, .null, .null, .int 0, .null, .null, .int 0, .null, .null, .null, .null]))) 11 (.inr (2, [.int 0, .null, .null, .null, .int 0, .null, .null, .int 0, .int 0, .null, .null])))) 0 (.inr (11, [.ref (z0 + 1), .ref (z0 + 3), .ref (z0 + 11), .null, .null, .null, .int 0, .null, .null, .int 0, .null, .null, .null, .null]))) 19 (.inr (4, [.int 0, .int 0, .int 0, .null, .null, .int 0])))) 0 (.inr (11, [.ref (z0 + 1), .ref (z0 + 3), .ref (z0 + 11), .ref (z0 + 19), .null, .null, .int 0, .null, .null, .int 0, .null, .null, .null, .null]))) 22 (.inr (8, [.null, .int 0, .int 0])))) 0 (.inr (11, [.ref (z0 + 1), .ref (z0 + 3), .ref (z0 + 11), .ref (z0 + 19), .ref (z0 + 22), .null, .int 0, .null, .null, .int 0, .null, .null, .null, .null]))) 54 (.inl (cid 3, 2, .inr (.inr (.inr (.inr (fun _ => none))))))) 0 (.inr (11, [.ref (z0 + 1), .ref (z0 + 3), .ref (z0 + 11), .ref (z0 + 19), .ref (z0 + 22), .ref (z0 + 54), .int 0, .null, .null, .int 0, .null, .null, .null, .null]))) 55 (.inl (cid 0, 5, .inl (fun _ => 0)))) 0 (.inr (11, [.ref (z0 + 1), .ref (z0 + 3), .ref (z0 + 11), .ref (z0 + 19), .ref (z0 + 22), .ref (z0 + 54), .int 0, .ref (z0 + 55), .null, .int 0, .null, .null, .null, .null]))) 56 (.inl (cid 0, 5, .inl (fun _ => 0)))) 0 (.inr (11, [.ref (z0 + 1), .ref (z0 + 3), .ref (z0 + 11), .ref (z0 + 19), .ref (z0 + 22), .ref (z0 + 54), .int 0, .ref (z0 + 55), .ref (z0 + 56), .int 0, .null, .null, .null, .null]))) 57 (.inl (cid 3, 7, .inr (.inr (.inr (.inr (fun _ => none))))))) 0 (.inr (11, [.ref (z0 + 1), .ref (z0 + 3), .ref (z0 + 11), .ref (z0 + 19), .ref (z0 + 22), .ref (z0 + 54), .int 0, .ref (z0 + 55), .ref (z0 + 56), .int 0, .ref (z0 + 57), .null, .null, .null]))) 58 (.inr (9, [.null, .null, .null, .int 0, .int 0, .int 0])))) 0 (.inr (11, [.ref (z0 + 1), .ref (z0 + 3), .ref (z0 + 11), .ref (z0 + 19), .ref (z0 + 22), .ref (z0 + 54), .int 0, .ref (z0 + 55), .ref (z0 + 56), .int 0, .ref (z0 + 57), .ref (z0 + 58), .null, .null]))) 74 (.inl (cid 4, 6, .inr (.inr (.inr (.inr (fun _ => none))))))) 0 (.inr (11, [.ref (z0 + 1), .ref (z0 + 3), .ref (z0 + 11), .ref (z0 + 19), .ref (z0 + 22), .ref (z0 + 54), .int 0, .ref (z0 + 55), .ref (z0 + 56), .int 0, .ref (z0 + 57), .ref (z0 + 58), .ref (z0 + 74), .null]))) 75 (.inl (cid 2, 1, .inr (.inl (fun _ => 0))))) 0 (.inr (11, [.ref (z0 + 1), .ref (z0 + 3), .ref (z0 + 11), .ref (z0 + 19), .ref (z0 + 22), .ref (z0 + 54), .int 0, .ref (z0 + 55), .ref (z0 + 56), .int 0, .ref (z0 + 57), .ref (z0 + 58), .ref (z0 + 74), .ref (z0 + 75)]))) 76 (.inr (4, [.int 0, .int 0, .int 0, .null, .null, .int 0])))) 54 (.inl (cid 3, 2, .inr (.inr (.inr (.inr (va_up (fun _ => none) (0 : Int32).toNatClampNeg (some (z0 + 76))))))))) 79 (.inr (4, [.int 0, .int 0, .int 0, .null, .null, .int 0])))) 54 (.inl (cid 3, 2, .inr (.inr (.inr (.inr (va_up (va_up (fun _ => none) (0 : Int32).toNatClampNeg (some (z0 + 76))) (1 : Int32).toNatClampNeg (some (z0 + 79))))))))) 82 (.inr (4, [.int 0, .int 0, .int 0, .null, .null, .int 0])))) 57 (.inl (cid 3, 7, .inr (.inr (.inr (.inr (va_up (fun _ => none) (0 : Int32).toNatClampNeg (some (z0 + 82))))))))) 85 (.inr (4, [.int 0, .int 0, .int 0, .null, .null, .int 0])))) 57 (.inl (cid 3, 7, .inr (.inr (.inr (.inr (va_up (va_up (fun _ => none) (0 : Int32).toNatClampNeg (some (z0 + 82))) (1 : Int32).toNatClampNeg (some (z0 + 85))))))))) 88 (.inr (4, [.int 0, .int 0, .int 0, .null, .null, .int 0])))) 57 (.inl (cid 3, 7, .inr (.inr (.inr (.inr (va_up (va_up (va_up (fun _ => none) (0 : Int32).toNatClampNeg (some (z0 + 82))) (1 : Int32).toNatClampNeg (some (z0 + 85))) (2 : Int32).toNatClampNeg (some (z0 + 88))))))))) 91 (.inr (4, [.int 0, .int 0, .int 0, .null, .null, .int 0])))) 57 (.inl (cid 3, 7, .inr (.inr (.inr (.inr (va_up (va_up (va_up (va_up (fun _ => none) (0 : Int32).toNatClampNeg (some (z0 + 82))) (1 : Int32).toNatClampNeg (some (z0 + 85))) (2 : Int32).toNatClampNeg (some (z0 + 88))) (3 : Int32).toNatClampNeg (some (z0 + 91))))))))) 94 (.inr (4, [.int 0, .int 0, .int 0, .null, .null, .int 0])))) 57 (.inl (cid 3, 7, .inr (.inr (.inr (.inr (va_up (va_up (va_up (va_up (va_up (fun _ => none) (0 : Int32).toNatClampNeg (some (z0 + 82))) (1 : Int32).toNatClampNeg (some (z0 + 85))) (2 : Int32).toNatClampNeg (some (z0 + 88))) (3 : Int32).toNatClampNeg (some (z0 + 91))) (4 : Int32).toNatClampNeg (some (z0 + 94))))))))) 97 (.inr (4, [.int 0, .int 0, .int 0, .null, .null, .int 0])))) 57 (.inl (cid 3, 7, .inr (.inr (.inr (.inr (va_up (va_up (va_up (va_up (va_up (va_up (fun _ => none) (0 : Int32).toNatClampNeg (some (z0 + 82))) (1 : Int32).toNatClampNeg (some (z0 + 85))) (2 : Int32).toNatClampNeg (some (z0 + 88))) (3 : Int32).toNatClampNeg (some (z0 + 91))) (4 : Int32).toNatClampNeg (some (z0 + 94))) (5 : Int32).toNatClampNeg (some (z0 + 97))))))))) 100 (.inr (4, [.int 0, .int 0, .int 0, .null, .null, .int 0])))) 57 (.inl (cid 3, 7, .inr (.inr (.inr (.inr (va_up (va_up (va_up (va_up (va_up (va_up (va_up (fun _ => none) (0 : Int32).toNatClampNeg (some (z0 + 82))) (1 : Int32).toNatClampNeg (some (z0 + 85))) (2 : Int32).toNatClampNeg (some (z0 + 88))) (3 : Int32).toNatClampNeg (some (z0 + 91))) (4 : Int32).toNatClampNeg (some (z0 + 94))) (5 : Int32).toNatClampNeg (some (z0 + 97))) (6 : Int32).toNatClampNeg (some (z0 + 100))))))))) 103 (.inr (7, []))) 74 (.inl (cid 4, 6, .inr (.inr (.inr (.inr (va_up (fun _ => none) (0 : Int32).toNatClampNeg (some (z0 + 103))))))))) 104 (.inr (5, []))) 74 (.inl (cid 4, 6, .inr (.inr (.inr (.inr (va_up (va_up (fun _ => none) (0 : Int32).toNatClampNeg (some (z0 + 103))) (1 : Int32).toNatClampNeg (some (z0 + 104))))))))) 105 (.inr (1, []))) 74 (.inl (cid 4, 6, .inr (.inr (.inr (.inr (va_up (va_up (va_up (fun _ => none) (0 : Int32).toNatClampNeg (some (z0 + 103))) (1 : Int32).toNatClampNeg (some (z0 + 104))) (2 : Int32).toNatClampNeg (some (z0 + 105))))))))) 106 (.inr (3, []))) 74 (.inl (cid 4, 6, .inr (.inr (.inr (.inr (va_up (va_up (va_up (va_up (fun _ => none) (0 : Int32).toNatClampNeg (some (z0 + 103))) (1 : Int32).toNatClampNeg (some (z0 + 104))) (2 : Int32).toNatClampNeg (some (z0 + 105))) (3 : Int32).toNatClampNeg (some (z0 + 106))))))))) 107 (.inr (6, []))) 74 (.inl (cid 4, 6, .inr (.inr (.inr (.inr (va_up (va_up (va_up (va_up (va_up (fun _ => none) (0 : Int32).toNatClampNeg (some (z0 + 103))) (1 : Int32).toNatClampNeg (some (z0 + 104))) (2 : Int32).toNatClampNeg (some (z0 + 105))) (3 : Int32).toNatClampNeg (some (z0 + 106))) (4 : Int32).toNatClampNeg (some (z0 + 107))))))))) 108 (.inr (0, []))) 74 (.inl (cid 4, 6, .inr (.inr (.inr (.inr (va_up (va_up (va_up (va_up (va_up (va_up (fun _ => none) (0 : Int32).toNatClampNeg (some (z0 + 103))) (1 : Int32).toNatClampNeg (some (z0 + 104))) (2 : Int32).toNatClampNeg (some (z0 + 105))) (3 : Int32).toNatClampNeg (some (z0 + 106))) (4 : Int32).toNatClampNeg (some (z0 + 107))) (5 : Int32).toNatClampNeg (some (z0 + 108)))))))))
set_option maxRecDepth 20000 in
set_option maxHeartbeats 4000000 in
theorem kc_X11 {l : Launch} {cid : Nat → ClassId} {D : va_G} {z0 : Nat} (sh : Nat → va_E) (h0 : sh 0 = .inr (11, [.null, .null, .null, .null, .null, .null, .int 0, .null, .null, .int 0, .null, .null, .null, .null])) : CtC l cid D z0 yX11_init cX11_init 2 4 72 108 1295 0 1 sh 109 (uX11 z0 cid sh) := by
  refine ctc_of (own := RX11) (lv := [some (.ref (z0 + 0)), none]) (by decide +kernel) rfl rfl rfl (by decide) (fun X hC hN hR hK hS => ?_)
  refine k_aload_n (pc := 0) hC dX11_init_0 rfl ?_
  refine k_obj (pc := 1) hC xw63 xob_i xob_c dX11_init_1 (Nat.le_of_ble_eq_true rfl) (Nat.le_of_ble_eq_true rfl) ?_
  refine k_aload_n (pc := 4) hC dX11_init_4 rfl ?_
  refine k_new (n := 1) (k := 0) (sl := 0) (pc := 5) hC (ci := 10) (C := RX10) (T := TX10) (N := 6) (fs := [.null, .int 0, .int 0, .int 0, .int 0, .int 0]) tyX10 tyX10_ok in_X10 xw66 xw67 xw44 rfl (by decide +kernel) (by decide) (by decide) dX11_init_5 ?_
  refine k_dup (pc := 8) hC dX11_init_8 rfl ?_
  refine k_initN (n := 2) (k := 1) (sl := 6) (pc := 9) hC (i := 1) (kc_X10 1 _ rfl) vi_X10 xn68 (by decide) rfl ⟨(Nat.le_of_ble_eq_true rfl), (Nat.le_of_ble_eq_true rfl)⟩ (by decide) (by decide) (Nat.le_of_ble_eq_true rfl) dX11_init_9 ?_
  refine k_putF (n := 3) (pc := 12) hC hN (ci := 11) (i := 0) (fs := [.null, .null, .null, .null, .null, .null, .int 0, .null, .null, .int 0, .null, .null, .null, .null]) (ty := .object "LastRower$Reader") tyX11 0 (by decide) h0 rfl in_X11 tyX11_ok nmX11 (by decide) rfl xw275 rfl rfl (by decide +kernel) rfl rfl (Nat.le_of_ble_eq_true rfl) dX11_init_12 ?_
  refine k_aload_n (pc := 15) hC dX11_init_15 rfl ?_
  refine k_new (n := 3) (k := 2) (sl := 206) (pc := 16) hC (ci := 2) (C := RX2) (T := TX2) (N := 11) (fs := [.int 0, .null, .null, .null, .int 0, .null, .null, .int 0, .int 0, .null, .null]) tyX2 tyX2_ok in_X2 xw93 xw94 xw45 rfl (by decide +kernel) (by decide) (by decide) dX11_init_16 ?_
  refine k_dup (pc := 19) hC dX11_init_19 rfl ?_
  refine k_initN (n := 4) (k := 3) (sl := 217) (pc := 20) hC (i := 3) (kc_X2 3 _ rfl) vi_X2 xn95 (by decide) rfl ⟨(Nat.le_of_ble_eq_true rfl), (Nat.le_of_ble_eq_true rfl)⟩ (by decide) (by decide) (Nat.le_of_ble_eq_true rfl) dX11_init_20 ?_
  refine k_put (n := 11) (pc := 23) hC (ci := 11) (i := 0) (fs := [.ref (z0 + 1), .null, .null, .null, .null, .null, .int 0, .null, .null, .int 0, .null, .null, .null, .null]) (ty := .object "LastRower$Ferry") tyX11 1 (by decide) rfl rfl in_X11 tyX11_ok nmX11 (by decide) rfl xw276 rfl (by decide +kernel) rfl rfl (Nat.le_of_ble_eq_true rfl) dX11_init_23 ?_
  refine k_aload_n (pc := 26) hC dX11_init_26 rfl ?_
  refine k_new (n := 11) (k := 10) (sl := 507) (pc := 27) hC (ci := 2) (C := RX2) (T := TX2) (N := 11) (fs := [.int 0, .null, .null, .null, .int 0, .null, .null, .int 0, .int 0, .null, .null]) tyX2 tyX2_ok in_X2 xw93 xw94 xw45 rfl (by decide +kernel) (by decide) (by decide) dX11_init_27 ?_
  refine k_dup (pc := 30) hC dX11_init_30 rfl ?_
  refine k_initN (n := 12) (k := 11) (sl := 518) (pc := 31) hC (i := 11) (kc_X2 11 _ rfl) vi_X2 xn95 (by decide) rfl ⟨(Nat.le_of_ble_eq_true rfl), (Nat.le_of_ble_eq_true rfl)⟩ (by decide) (by decide) (Nat.le_of_ble_eq_true rfl) dX11_init_31 ?_
  refine k_put (n := 19) (pc := 34) hC (ci := 11) (i := 0) (fs := [.ref (z0 + 1), .ref (z0 + 3), .null, .null, .null, .null, .int 0, .null, .null, .int 0, .null, .null, .null, .null]) (ty := .object "LastRower$Ferry") tyX11 2 (by decide) rfl rfl in_X11 tyX11_ok nmX11 (by decide) rfl xw277 rfl (by decide +kernel) rfl rfl (Nat.le_of_ble_eq_true rfl) dX11_init_34 ?_
  refine k_aload_n (pc := 37) hC dX11_init_37 rfl ?_
  refine k_new (n := 19) (k := 18) (sl := 808) (pc := 38) hC (ci := 4) (C := RX4) (T := TX4) (N := 6) (fs := [.int 0, .int 0, .int 0, .null, .null, .int 0]) tyX4 tyX4_ok in_X4 xw148 xw149 xw46 rfl (by decide +kernel) (by decide) (by decide) dX11_init_38 ?_
  refine k_dup (pc := 41) hC dX11_init_41 rfl ?_
  refine k_initN (n := 20) (k := 19) (sl := 814) (pc := 42) hC (i := 19) (kc_X4 19 _ rfl) vi_X4 xn150 (by decide) rfl ⟨(Nat.le_of_ble_eq_true rfl), (Nat.le_of_ble_eq_true rfl)⟩ (by decide) (by decide) (Nat.le_of_ble_eq_true rfl) dX11_init_42 ?_
  refine k_putF (n := 22) (pc := 45) hC hN (ci := 11) (i := 0) (fs := [.ref (z0 + 1), .ref (z0 + 3), .ref (z0 + 11), .null, .null, .null, .int 0, .null, .null, .int 0, .null, .null, .null, .null]) (ty := .object "LastRower$Moment") tyX11 3 (by decide) rfl rfl in_X11 tyX11_ok nmX11 (by decide) rfl xw278 rfl rfl (by decide +kernel) rfl rfl (Nat.le_of_ble_eq_true rfl) dX11_init_45 ?_
  refine k_aload_n (pc := 48) hC dX11_init_48 rfl ?_
  refine k_new (n := 22) (k := 21) (sl := 826) (pc := 49) hC (ci := 8) (C := RX8) (T := TX8) (N := 3) (fs := [.null, .int 0, .int 0]) tyX8 tyX8_ok in_X8 xw182 xw183 xw47 rfl (by decide +kernel) (by decide) (by decide) dX11_init_49 ?_
  refine k_dup (pc := 52) hC dX11_init_52 rfl ?_
  refine k_init (n := 23) (k := 22) (sl := 829) (pc := 53) hC (i := 22) (kc_X8 _ rfl) vi_X8 xw184 (by decide) rfl ⟨(Nat.le_of_ble_eq_true rfl), (Nat.le_of_ble_eq_true rfl)⟩ (by decide) (by decide) (Nat.le_of_ble_eq_true rfl) dX11_init_53 ?_
  refine k_putF (n := 54) (pc := 56) hC hN (ci := 11) (i := 0) (fs := [.ref (z0 + 1), .ref (z0 + 3), .ref (z0 + 11), .ref (z0 + 19), .null, .null, .int 0, .null, .null, .int 0, .null, .null, .null, .null]) (ty := .object "LastRower$Past") tyX11 4 (by decide) rfl rfl in_X11 tyX11_ok nmX11 (by decide) rfl xw279 rfl rfl (by decide +kernel) rfl rfl (Nat.le_of_ble_eq_true rfl) dX11_init_56 ?_
  refine k_aload_n (pc := 59) hC dX11_init_59 rfl ?_
  refine k_iconst (pc := 60) hC dX11_init_60 (v := 2) (by decide) ?_
  refine k_anew (n := 54) (k := 53) (sl := 1019) (pc := 61) hC (t0 := 3) (C := RX4) rfl hC.aux.1 xw148 (N := 2) (by decide) (by decide) (by decide) (by decide) (by decide) dX11_init_61 ?_
  refine k_putF (n := 55) (pc := 64) hC hN (ci := 11) (i := 0) (fs := [.ref (z0 + 1), .ref (z0 + 3), .ref (z0 + 11), .ref (z0 + 19), .ref (z0 + 22), .null, .int 0, .null, .null, .int 0, .null, .null, .null, .null]) (ty := .array (.object "LastRower$Moment")) tyX11 5 (by decide) rfl rfl in_X11 tyX11_ok nmX11 (by decide) rfl xw280 rfl rfl (by decide +kernel) rfl rfl (Nat.le_of_ble_eq_true rfl) dX11_init_64 ?_
  refine k_aload_n (pc := 67) hC dX11_init_67 rfl ?_
  refine k_iconst (pc := 68) hC dX11_init_68 (v := 5) (by decide) ?_
  refine k_newa (n := 55) (k := 54) (sl := 1021) (pc := 69) hC (t0 := 0) (ty := .int) rfl (fun _ _ h => h) xw92 rfl (N := 5) (a0 := (5, .inl (fun _ => 0))) (fun _ => rfl) (by decide) (by decide) (by decide) (by decide) (by decide) dX11_init_69 ?_
  refine k_putF (n := 56) (pc := 71) hC hN (ci := 11) (i := 0) (fs := [.ref (z0 + 1), .ref (z0 + 3), .ref (z0 + 11), .ref (z0 + 19), .ref (z0 + 22), .ref (z0 + 54), .int 0, .null, .null, .int 0, .null, .null, .null, .null]) (ty := .array .int) tyX11 7 (by decide) rfl rfl in_X11 tyX11_ok nmX11 (by decide) rfl xw282 rfl rfl (by decide +kernel) rfl rfl (Nat.le_of_ble_eq_true rfl) dX11_init_71 ?_
  refine k_aload_n (pc := 74) hC dX11_init_74 rfl ?_
  refine k_iconst (pc := 75) hC dX11_init_75 (v := 5) (by decide) ?_
  refine k_newa (n := 56) (k := 55) (sl := 1026) (pc := 76) hC (t0 := 0) (ty := .int) rfl (fun _ _ h => h) xw92 rfl (N := 5) (a0 := (5, .inl (fun _ => 0))) (fun _ => rfl) (by decide) (by decide) (by decide) (by decide) (by decide) dX11_init_76 ?_
  refine k_putF (n := 57) (pc := 78) hC hN (ci := 11) (i := 0) (fs := [.ref (z0 + 1), .ref (z0 + 3), .ref (z0 + 11), .ref (z0 + 19), .ref (z0 + 22), .ref (z0 + 54), .int 0, .ref (z0 + 55), .null, .int 0, .null, .null, .null, .null]) (ty := .array .int) tyX11 8 (by decide) rfl rfl in_X11 tyX11_ok nmX11 (by decide) rfl xw283 rfl rfl (by decide +kernel) rfl rfl (Nat.le_of_ble_eq_true rfl) dX11_init_78 ?_
  refine k_aload_n (pc := 81) hC dX11_init_81 rfl ?_
  refine k_bipush (pc := 82) hC dX11_init_82 (v := 7) (by decide) ?_
  refine k_anew (n := 57) (k := 56) (sl := 1031) (pc := 84) hC (t0 := 3) (C := RX4) rfl hC.aux.1 xw148 (N := 7) (by decide) (by decide) (by decide) (by decide) (by decide) dX11_init_84 ?_
  refine k_putF (n := 58) (pc := 87) hC hN (ci := 11) (i := 0) (fs := [.ref (z0 + 1), .ref (z0 + 3), .ref (z0 + 11), .ref (z0 + 19), .ref (z0 + 22), .ref (z0 + 54), .int 0, .ref (z0 + 55), .ref (z0 + 56), .int 0, .null, .null, .null, .null]) (ty := .array (.object "LastRower$Moment")) tyX11 10 (by decide) rfl rfl in_X11 tyX11_ok nmX11 (by decide) rfl xw285 rfl rfl (by decide +kernel) rfl rfl (Nat.le_of_ble_eq_true rfl) dX11_init_87 ?_
  refine k_aload_n (pc := 90) hC dX11_init_90 rfl ?_
  refine k_new (n := 58) (k := 57) (sl := 1038) (pc := 91) hC (ci := 9) (C := RX9) (T := TX9) (N := 6) (fs := [.null, .null, .null, .int 0, .int 0, .int 0]) tyX9 tyX9_ok in_X9 xw202 xw203 xw48 rfl (by decide +kernel) (by decide) (by decide) dX11_init_91 ?_
  refine k_dup (pc := 94) hC dX11_init_94 rfl ?_
  refine k_init (n := 59) (k := 58) (sl := 1044) (pc := 95) hC (i := 58) (kc_X9 _ rfl) vi_X9 xw204 (by decide) rfl ⟨(Nat.le_of_ble_eq_true rfl), (Nat.le_of_ble_eq_true rfl)⟩ (by decide) (by decide) (Nat.le_of_ble_eq_true rfl) dX11_init_95 ?_
  refine k_putF (n := 74) (pc := 98) hC hN (ci := 11) (i := 0) (fs := [.ref (z0 + 1), .ref (z0 + 3), .ref (z0 + 11), .ref (z0 + 19), .ref (z0 + 22), .ref (z0 + 54), .int 0, .ref (z0 + 55), .ref (z0 + 56), .int 0, .ref (z0 + 57), .null, .null, .null]) (ty := .object "LastRower$Planner") tyX11 11 (by decide) rfl rfl in_X11 tyX11_ok nmX11 (by decide) rfl xw286 rfl rfl (by decide +kernel) rfl rfl (Nat.le_of_ble_eq_true rfl) dX11_init_98 ?_
  refine k_aload_n (pc := 101) hC dX11_init_101 rfl ?_
  refine k_bipush (pc := 102) hC dX11_init_102 (v := 6) (by decide) ?_
  refine k_anew (n := 74) (k := 73) (sl := 1126) (pc := 104) hC (t0 := 4) (C := RX7) rfl hC.aux.2.1 xw231 (N := 6) (by decide) (by decide) (by decide) (by decide) (by decide) dX11_init_104 ?_
  refine k_putF (n := 75) (pc := 107) hC hN (ci := 11) (i := 0) (fs := [.ref (z0 + 1), .ref (z0 + 3), .ref (z0 + 11), .ref (z0 + 19), .ref (z0 + 22), .ref (z0 + 54), .int 0, .ref (z0 + 55), .ref (z0 + 56), .int 0, .ref (z0 + 57), .ref (z0 + 58), .null, .null]) (ty := .array (.object "LastRower$Passenger")) tyX11 12 (by decide) rfl rfl in_X11 tyX11_ok nmX11 (by decide) rfl xw287 rfl rfl (by decide +kernel) rfl rfl (Nat.le_of_ble_eq_true rfl) dX11_init_107 ?_
  refine k_aload_n (pc := 110) hC dX11_init_110 rfl ?_
  refine k_iconst (pc := 111) hC dX11_init_111 (v := 1) (by decide) ?_
  refine k_newa (n := 75) (k := 74) (sl := 1132) (pc := 112) hC (t0 := 2) (ty := .long) rfl (fun _ _ h => h) xw239 rfl (N := 1) (a0 := (1, .inr (.inl (fun _ => 0)))) (fun _ => rfl) (by decide) (by decide) (by decide) (by decide) (by decide) dX11_init_112 ?_
  refine k_putF (n := 76) (pc := 114) hC hN (ci := 11) (i := 0) (fs := [.ref (z0 + 1), .ref (z0 + 3), .ref (z0 + 11), .ref (z0 + 19), .ref (z0 + 22), .ref (z0 + 54), .int 0, .ref (z0 + 55), .ref (z0 + 56), .int 0, .ref (z0 + 57), .ref (z0 + 58), .ref (z0 + 74), .null]) (ty := .array .long) tyX11 13 (by decide) rfl rfl in_X11 tyX11_ok nmX11 (by decide) rfl xw288 rfl rfl (by decide +kernel) rfl rfl (Nat.le_of_ble_eq_true rfl) dX11_init_114 ?_
  refine k_iconst (pc := 117) hC dX11_init_117 (v := 0) (by decide) ?_
  refine k_istore_n (pc := 118) hC (lv' := [some (.ref (z0 + 0)), some (.int 0)]) dX11_init_118 (by decide) rfl rfl ?_
  refine k_iload_n (pc := 119) hC dX11_init_119 rfl ?_
  refine k_aload_n (pc := 120) hC dX11_init_120 rfl ?_
  refine k_get (n := 76) (pc := 121) hC (ci := 11) (i := 0) (fs := [.ref (z0 + 1), .ref (z0 + 3), .ref (z0 + 11), .ref (z0 + 19), .ref (z0 + 22), .ref (z0 + 54), .int 0, .ref (z0 + 55), .ref (z0 + 56), .int 0, .ref (z0 + 57), .ref (z0 + 58), .ref (z0 + 74), .ref (z0 + 75)]) 5 (by decide) rfl rfl in_X11 (by decide) rfl xw280 rfl dX11_init_121 ?_
  refine k_alen (n := 76) (pc := 124) hC (i := 54) (t0 := 3) (N := 2) (C := RX4) (by decide) rfl rfl (v := 2) rfl dX11_init_124 ?_
  refine k_geN (pc := 125) hC (by decide) dX11_init_125 (tgt := 147) (by decide) ?_
  refine k_aload_n (pc := 128) hC dX11_init_128 rfl ?_
  refine k_get (n := 76) (pc := 129) hC (ci := 11) (i := 0) (fs := [.ref (z0 + 1), .ref (z0 + 3), .ref (z0 + 11), .ref (z0 + 19), .ref (z0 + 22), .ref (z0 + 54), .int 0, .ref (z0 + 55), .ref (z0 + 56), .int 0, .ref (z0 + 57), .ref (z0 + 58), .ref (z0 + 74), .ref (z0 + 75)]) 5 (by decide) rfl rfl in_X11 (by decide) rfl xw280 rfl dX11_init_129 ?_
  refine k_iload_n (pc := 132) hC dX11_init_132 rfl ?_
  refine k_new (n := 76) (k := 75) (sl := 1133) (pc := 133) hC (ci := 4) (C := RX4) (T := TX4) (N := 6) (fs := [.int 0, .int 0, .int 0, .null, .null, .int 0]) tyX4 tyX4_ok in_X4 xw148 xw149 xw46 rfl (by decide +kernel) (by decide) (by decide) dX11_init_133 ?_
  refine k_dup (pc := 136) hC dX11_init_136 rfl ?_
  refine k_initN (n := 77) (k := 76) (sl := 1139) (pc := 137) hC (i := 76) (kc_X4 76 _ rfl) vi_X4 xn150 (by decide) rfl ⟨(Nat.le_of_ble_eq_true rfl), (Nat.le_of_ble_eq_true rfl)⟩ (by decide) (by decide) (Nat.le_of_ble_eq_true rfl) dX11_init_137 ?_
  refine k_aast (n := 79) (pc := 140) hC (i := 54) (t0 := 3) (N := 2) (qk := 76) (ci := 4) (r := (RX4, TX4, 6)) (by decide) rfl rfl (by decide) rfl rfl (by decide) dX11_init_140 ?_
  refine k_iinc (pc := 141) hC (lv' := [some (.ref (z0 + 0)), some (.int 1)]) dX11_init_141 rfl (w := 1) (by decide) (by decide) rfl rfl ?_
  refine k_goto (pc := 144) hC dX11_init_144 (tgt := 119) (by decide) ?_
  refine k_iload_n (pc := 119) hC dX11_init_119 rfl ?_
  refine k_aload_n (pc := 120) hC dX11_init_120 rfl ?_
  refine k_get (n := 79) (pc := 121) hC (ci := 11) (i := 0) (fs := [.ref (z0 + 1), .ref (z0 + 3), .ref (z0 + 11), .ref (z0 + 19), .ref (z0 + 22), .ref (z0 + 54), .int 0, .ref (z0 + 55), .ref (z0 + 56), .int 0, .ref (z0 + 57), .ref (z0 + 58), .ref (z0 + 74), .ref (z0 + 75)]) 5 (by decide) rfl rfl in_X11 (by decide) rfl xw280 rfl dX11_init_121 ?_
  refine k_alen (n := 79) (pc := 124) hC (i := 54) (t0 := 3) (N := 2) (C := RX4) (by decide) rfl rfl (v := 2) rfl dX11_init_124 ?_
  refine k_geN (pc := 125) hC (by decide) dX11_init_125 (tgt := 147) (by decide) ?_
  refine k_aload_n (pc := 128) hC dX11_init_128 rfl ?_
  refine k_get (n := 79) (pc := 129) hC (ci := 11) (i := 0) (fs := [.ref (z0 + 1), .ref (z0 + 3), .ref (z0 + 11), .ref (z0 + 19), .ref (z0 + 22), .ref (z0 + 54), .int 0, .ref (z0 + 55), .ref (z0 + 56), .int 0, .ref (z0 + 57), .ref (z0 + 58), .ref (z0 + 74), .ref (z0 + 75)]) 5 (by decide) rfl rfl in_X11 (by decide) rfl xw280 rfl dX11_init_129 ?_
  refine k_iload_n (pc := 132) hC dX11_init_132 rfl ?_
  refine k_new (n := 79) (k := 78) (sl := 1151) (pc := 133) hC (ci := 4) (C := RX4) (T := TX4) (N := 6) (fs := [.int 0, .int 0, .int 0, .null, .null, .int 0]) tyX4 tyX4_ok in_X4 xw148 xw149 xw46 rfl (by decide +kernel) (by decide) (by decide) dX11_init_133 ?_
  refine k_dup (pc := 136) hC dX11_init_136 rfl ?_
  refine k_initN (n := 80) (k := 79) (sl := 1157) (pc := 137) hC (i := 79) (kc_X4 79 _ rfl) vi_X4 xn150 (by decide) rfl ⟨(Nat.le_of_ble_eq_true rfl), (Nat.le_of_ble_eq_true rfl)⟩ (by decide) (by decide) (Nat.le_of_ble_eq_true rfl) dX11_init_137 ?_
  refine k_aast (n := 82) (pc := 140) hC (i := 54) (t0 := 3) (N := 2) (qk := 79) (ci := 4) (r := (RX4, TX4, 6)) (by decide) rfl rfl (by decide) rfl rfl (by decide) dX11_init_140 ?_
  refine k_iinc (pc := 141) hC (lv' := [some (.ref (z0 + 0)), some (.int 2)]) dX11_init_141 rfl (w := 2) (by decide) (by decide) rfl rfl ?_
  refine k_goto (pc := 144) hC dX11_init_144 (tgt := 119) (by decide) ?_
  refine k_iload_n (pc := 119) hC dX11_init_119 rfl ?_
  refine k_aload_n (pc := 120) hC dX11_init_120 rfl ?_
  refine k_get (n := 82) (pc := 121) hC (ci := 11) (i := 0) (fs := [.ref (z0 + 1), .ref (z0 + 3), .ref (z0 + 11), .ref (z0 + 19), .ref (z0 + 22), .ref (z0 + 54), .int 0, .ref (z0 + 55), .ref (z0 + 56), .int 0, .ref (z0 + 57), .ref (z0 + 58), .ref (z0 + 74), .ref (z0 + 75)]) 5 (by decide) rfl rfl in_X11 (by decide) rfl xw280 rfl dX11_init_121 ?_
  refine k_alen (n := 82) (pc := 124) hC (i := 54) (t0 := 3) (N := 2) (C := RX4) (by decide) rfl rfl (v := 2) rfl dX11_init_124 ?_
  refine k_geY (pc := 125) hC (by decide) dX11_init_125 (tgt := 147) (by decide) ?_
  refine k_iconst (pc := 147) hC dX11_init_147 (v := 0) (by decide) ?_
  refine k_istore_n (pc := 148) hC (lv' := [some (.ref (z0 + 0)), some (.int 0)]) dX11_init_148 (by decide) rfl rfl ?_
  refine k_iload_n (pc := 149) hC dX11_init_149 rfl ?_
  refine k_aload_n (pc := 150) hC dX11_init_150 rfl ?_
  refine k_get (n := 82) (pc := 151) hC (ci := 11) (i := 0) (fs := [.ref (z0 + 1), .ref (z0 + 3), .ref (z0 + 11), .ref (z0 + 19), .ref (z0 + 22), .ref (z0 + 54), .int 0, .ref (z0 + 55), .ref (z0 + 56), .int 0, .ref (z0 + 57), .ref (z0 + 58), .ref (z0 + 74), .ref (z0 + 75)]) 10 (by decide) rfl rfl in_X11 (by decide) rfl xw285 rfl dX11_init_151 ?_
  refine k_alen (n := 82) (pc := 154) hC (i := 57) (t0 := 3) (N := 7) (C := RX4) (by decide) rfl rfl (v := 7) rfl dX11_init_154 ?_
  refine k_geN (pc := 155) hC (by decide) dX11_init_155 (tgt := 177) (by decide) ?_
  refine k_aload_n (pc := 158) hC dX11_init_158 rfl ?_
  refine k_get (n := 82) (pc := 159) hC (ci := 11) (i := 0) (fs := [.ref (z0 + 1), .ref (z0 + 3), .ref (z0 + 11), .ref (z0 + 19), .ref (z0 + 22), .ref (z0 + 54), .int 0, .ref (z0 + 55), .ref (z0 + 56), .int 0, .ref (z0 + 57), .ref (z0 + 58), .ref (z0 + 74), .ref (z0 + 75)]) 10 (by decide) rfl rfl in_X11 (by decide) rfl xw285 rfl dX11_init_159 ?_
  refine k_iload_n (pc := 162) hC dX11_init_162 rfl ?_
  refine k_new (n := 82) (k := 81) (sl := 1169) (pc := 163) hC (ci := 4) (C := RX4) (T := TX4) (N := 6) (fs := [.int 0, .int 0, .int 0, .null, .null, .int 0]) tyX4 tyX4_ok in_X4 xw148 xw149 xw46 rfl (by decide +kernel) (by decide) (by decide) dX11_init_163 ?_
  refine k_dup (pc := 166) hC dX11_init_166 rfl ?_
  refine k_initN (n := 83) (k := 82) (sl := 1175) (pc := 167) hC (i := 82) (kc_X4 82 _ rfl) vi_X4 xn150 (by decide) rfl ⟨(Nat.le_of_ble_eq_true rfl), (Nat.le_of_ble_eq_true rfl)⟩ (by decide) (by decide) (Nat.le_of_ble_eq_true rfl) dX11_init_167 ?_
  refine k_aast (n := 85) (pc := 170) hC (i := 57) (t0 := 3) (N := 7) (qk := 82) (ci := 4) (r := (RX4, TX4, 6)) (by decide) rfl rfl (by decide) rfl rfl (by decide) dX11_init_170 ?_
  refine k_iinc (pc := 171) hC (lv' := [some (.ref (z0 + 0)), some (.int 1)]) dX11_init_171 rfl (w := 1) (by decide) (by decide) rfl rfl ?_
  refine k_goto (pc := 174) hC dX11_init_174 (tgt := 149) (by decide) ?_
  refine k_iload_n (pc := 149) hC dX11_init_149 rfl ?_
  refine k_aload_n (pc := 150) hC dX11_init_150 rfl ?_
  refine k_get (n := 85) (pc := 151) hC (ci := 11) (i := 0) (fs := [.ref (z0 + 1), .ref (z0 + 3), .ref (z0 + 11), .ref (z0 + 19), .ref (z0 + 22), .ref (z0 + 54), .int 0, .ref (z0 + 55), .ref (z0 + 56), .int 0, .ref (z0 + 57), .ref (z0 + 58), .ref (z0 + 74), .ref (z0 + 75)]) 10 (by decide) rfl rfl in_X11 (by decide) rfl xw285 rfl dX11_init_151 ?_
  refine k_alen (n := 85) (pc := 154) hC (i := 57) (t0 := 3) (N := 7) (C := RX4) (by decide) rfl rfl (v := 7) rfl dX11_init_154 ?_
  refine k_geN (pc := 155) hC (by decide) dX11_init_155 (tgt := 177) (by decide) ?_
  refine k_aload_n (pc := 158) hC dX11_init_158 rfl ?_
  refine k_get (n := 85) (pc := 159) hC (ci := 11) (i := 0) (fs := [.ref (z0 + 1), .ref (z0 + 3), .ref (z0 + 11), .ref (z0 + 19), .ref (z0 + 22), .ref (z0 + 54), .int 0, .ref (z0 + 55), .ref (z0 + 56), .int 0, .ref (z0 + 57), .ref (z0 + 58), .ref (z0 + 74), .ref (z0 + 75)]) 10 (by decide) rfl rfl in_X11 (by decide) rfl xw285 rfl dX11_init_159 ?_
  refine k_iload_n (pc := 162) hC dX11_init_162 rfl ?_
  refine k_new (n := 85) (k := 84) (sl := 1187) (pc := 163) hC (ci := 4) (C := RX4) (T := TX4) (N := 6) (fs := [.int 0, .int 0, .int 0, .null, .null, .int 0]) tyX4 tyX4_ok in_X4 xw148 xw149 xw46 rfl (by decide +kernel) (by decide) (by decide) dX11_init_163 ?_
  refine k_dup (pc := 166) hC dX11_init_166 rfl ?_
  refine k_initN (n := 86) (k := 85) (sl := 1193) (pc := 167) hC (i := 85) (kc_X4 85 _ rfl) vi_X4 xn150 (by decide) rfl ⟨(Nat.le_of_ble_eq_true rfl), (Nat.le_of_ble_eq_true rfl)⟩ (by decide) (by decide) (Nat.le_of_ble_eq_true rfl) dX11_init_167 ?_
  refine k_aast (n := 88) (pc := 170) hC (i := 57) (t0 := 3) (N := 7) (qk := 85) (ci := 4) (r := (RX4, TX4, 6)) (by decide) rfl rfl (by decide) rfl rfl (by decide) dX11_init_170 ?_
  refine k_iinc (pc := 171) hC (lv' := [some (.ref (z0 + 0)), some (.int 2)]) dX11_init_171 rfl (w := 2) (by decide) (by decide) rfl rfl ?_
  refine k_goto (pc := 174) hC dX11_init_174 (tgt := 149) (by decide) ?_
  refine k_iload_n (pc := 149) hC dX11_init_149 rfl ?_
  refine k_aload_n (pc := 150) hC dX11_init_150 rfl ?_
  refine k_get (n := 88) (pc := 151) hC (ci := 11) (i := 0) (fs := [.ref (z0 + 1), .ref (z0 + 3), .ref (z0 + 11), .ref (z0 + 19), .ref (z0 + 22), .ref (z0 + 54), .int 0, .ref (z0 + 55), .ref (z0 + 56), .int 0, .ref (z0 + 57), .ref (z0 + 58), .ref (z0 + 74), .ref (z0 + 75)]) 10 (by decide) rfl rfl in_X11 (by decide) rfl xw285 rfl dX11_init_151 ?_
  refine k_alen (n := 88) (pc := 154) hC (i := 57) (t0 := 3) (N := 7) (C := RX4) (by decide) rfl rfl (v := 7) rfl dX11_init_154 ?_
  refine k_geN (pc := 155) hC (by decide) dX11_init_155 (tgt := 177) (by decide) ?_
  refine k_aload_n (pc := 158) hC dX11_init_158 rfl ?_
  refine k_get (n := 88) (pc := 159) hC (ci := 11) (i := 0) (fs := [.ref (z0 + 1), .ref (z0 + 3), .ref (z0 + 11), .ref (z0 + 19), .ref (z0 + 22), .ref (z0 + 54), .int 0, .ref (z0 + 55), .ref (z0 + 56), .int 0, .ref (z0 + 57), .ref (z0 + 58), .ref (z0 + 74), .ref (z0 + 75)]) 10 (by decide) rfl rfl in_X11 (by decide) rfl xw285 rfl dX11_init_159 ?_
  refine k_iload_n (pc := 162) hC dX11_init_162 rfl ?_
  refine k_new (n := 88) (k := 87) (sl := 1205) (pc := 163) hC (ci := 4) (C := RX4) (T := TX4) (N := 6) (fs := [.int 0, .int 0, .int 0, .null, .null, .int 0]) tyX4 tyX4_ok in_X4 xw148 xw149 xw46 rfl (by decide +kernel) (by decide) (by decide) dX11_init_163 ?_
  refine k_dup (pc := 166) hC dX11_init_166 rfl ?_
  refine k_initN (n := 89) (k := 88) (sl := 1211) (pc := 167) hC (i := 88) (kc_X4 88 _ rfl) vi_X4 xn150 (by decide) rfl ⟨(Nat.le_of_ble_eq_true rfl), (Nat.le_of_ble_eq_true rfl)⟩ (by decide) (by decide) (Nat.le_of_ble_eq_true rfl) dX11_init_167 ?_
  refine k_aast (n := 91) (pc := 170) hC (i := 57) (t0 := 3) (N := 7) (qk := 88) (ci := 4) (r := (RX4, TX4, 6)) (by decide) rfl rfl (by decide) rfl rfl (by decide) dX11_init_170 ?_
  refine k_iinc (pc := 171) hC (lv' := [some (.ref (z0 + 0)), some (.int 3)]) dX11_init_171 rfl (w := 3) (by decide) (by decide) rfl rfl ?_
  refine k_goto (pc := 174) hC dX11_init_174 (tgt := 149) (by decide) ?_
  refine k_iload_n (pc := 149) hC dX11_init_149 rfl ?_
  refine k_aload_n (pc := 150) hC dX11_init_150 rfl ?_
  refine k_get (n := 91) (pc := 151) hC (ci := 11) (i := 0) (fs := [.ref (z0 + 1), .ref (z0 + 3), .ref (z0 + 11), .ref (z0 + 19), .ref (z0 + 22), .ref (z0 + 54), .int 0, .ref (z0 + 55), .ref (z0 + 56), .int 0, .ref (z0 + 57), .ref (z0 + 58), .ref (z0 + 74), .ref (z0 + 75)]) 10 (by decide) rfl rfl in_X11 (by decide) rfl xw285 rfl dX11_init_151 ?_
  refine k_alen (n := 91) (pc := 154) hC (i := 57) (t0 := 3) (N := 7) (C := RX4) (by decide) rfl rfl (v := 7) rfl dX11_init_154 ?_
  refine k_geN (pc := 155) hC (by decide) dX11_init_155 (tgt := 177) (by decide) ?_
  refine k_aload_n (pc := 158) hC dX11_init_158 rfl ?_
  refine k_get (n := 91) (pc := 159) hC (ci := 11) (i := 0) (fs := [.ref (z0 + 1), .ref (z0 + 3), .ref (z0 + 11), .ref (z0 + 19), .ref (z0 + 22), .ref (z0 + 54), .int 0, .ref (z0 + 55), .ref (z0 + 56), .int 0, .ref (z0 + 57), .ref (z0 + 58), .ref (z0 + 74), .ref (z0 + 75)]) 10 (by decide) rfl rfl in_X11 (by decide) rfl xw285 rfl dX11_init_159 ?_
  refine k_iload_n (pc := 162) hC dX11_init_162 rfl ?_
  refine k_new (n := 91) (k := 90) (sl := 1223) (pc := 163) hC (ci := 4) (C := RX4) (T := TX4) (N := 6) (fs := [.int 0, .int 0, .int 0, .null, .null, .int 0]) tyX4 tyX4_ok in_X4 xw148 xw149 xw46 rfl (by decide +kernel) (by decide) (by decide) dX11_init_163 ?_
  refine k_dup (pc := 166) hC dX11_init_166 rfl ?_
  refine k_initN (n := 92) (k := 91) (sl := 1229) (pc := 167) hC (i := 91) (kc_X4 91 _ rfl) vi_X4 xn150 (by decide) rfl ⟨(Nat.le_of_ble_eq_true rfl), (Nat.le_of_ble_eq_true rfl)⟩ (by decide) (by decide) (Nat.le_of_ble_eq_true rfl) dX11_init_167 ?_
  refine k_aast (n := 94) (pc := 170) hC (i := 57) (t0 := 3) (N := 7) (qk := 91) (ci := 4) (r := (RX4, TX4, 6)) (by decide) rfl rfl (by decide) rfl rfl (by decide) dX11_init_170 ?_
  refine k_iinc (pc := 171) hC (lv' := [some (.ref (z0 + 0)), some (.int 4)]) dX11_init_171 rfl (w := 4) (by decide) (by decide) rfl rfl ?_
  refine k_goto (pc := 174) hC dX11_init_174 (tgt := 149) (by decide) ?_
  refine k_iload_n (pc := 149) hC dX11_init_149 rfl ?_
  refine k_aload_n (pc := 150) hC dX11_init_150 rfl ?_
  refine k_get (n := 94) (pc := 151) hC (ci := 11) (i := 0) (fs := [.ref (z0 + 1), .ref (z0 + 3), .ref (z0 + 11), .ref (z0 + 19), .ref (z0 + 22), .ref (z0 + 54), .int 0, .ref (z0 + 55), .ref (z0 + 56), .int 0, .ref (z0 + 57), .ref (z0 + 58), .ref (z0 + 74), .ref (z0 + 75)]) 10 (by decide) rfl rfl in_X11 (by decide) rfl xw285 rfl dX11_init_151 ?_
  refine k_alen (n := 94) (pc := 154) hC (i := 57) (t0 := 3) (N := 7) (C := RX4) (by decide) rfl rfl (v := 7) rfl dX11_init_154 ?_
  refine k_geN (pc := 155) hC (by decide) dX11_init_155 (tgt := 177) (by decide) ?_
  refine k_aload_n (pc := 158) hC dX11_init_158 rfl ?_
  refine k_get (n := 94) (pc := 159) hC (ci := 11) (i := 0) (fs := [.ref (z0 + 1), .ref (z0 + 3), .ref (z0 + 11), .ref (z0 + 19), .ref (z0 + 22), .ref (z0 + 54), .int 0, .ref (z0 + 55), .ref (z0 + 56), .int 0, .ref (z0 + 57), .ref (z0 + 58), .ref (z0 + 74), .ref (z0 + 75)]) 10 (by decide) rfl rfl in_X11 (by decide) rfl xw285 rfl dX11_init_159 ?_
  refine k_iload_n (pc := 162) hC dX11_init_162 rfl ?_
  refine k_new (n := 94) (k := 93) (sl := 1241) (pc := 163) hC (ci := 4) (C := RX4) (T := TX4) (N := 6) (fs := [.int 0, .int 0, .int 0, .null, .null, .int 0]) tyX4 tyX4_ok in_X4 xw148 xw149 xw46 rfl (by decide +kernel) (by decide) (by decide) dX11_init_163 ?_
  refine k_dup (pc := 166) hC dX11_init_166 rfl ?_
  refine k_initN (n := 95) (k := 94) (sl := 1247) (pc := 167) hC (i := 94) (kc_X4 94 _ rfl) vi_X4 xn150 (by decide) rfl ⟨(Nat.le_of_ble_eq_true rfl), (Nat.le_of_ble_eq_true rfl)⟩ (by decide) (by decide) (Nat.le_of_ble_eq_true rfl) dX11_init_167 ?_
  refine k_aast (n := 97) (pc := 170) hC (i := 57) (t0 := 3) (N := 7) (qk := 94) (ci := 4) (r := (RX4, TX4, 6)) (by decide) rfl rfl (by decide) rfl rfl (by decide) dX11_init_170 ?_
  refine k_iinc (pc := 171) hC (lv' := [some (.ref (z0 + 0)), some (.int 5)]) dX11_init_171 rfl (w := 5) (by decide) (by decide) rfl rfl ?_
  refine k_goto (pc := 174) hC dX11_init_174 (tgt := 149) (by decide) ?_
  refine k_iload_n (pc := 149) hC dX11_init_149 rfl ?_
  refine k_aload_n (pc := 150) hC dX11_init_150 rfl ?_
  refine k_get (n := 97) (pc := 151) hC (ci := 11) (i := 0) (fs := [.ref (z0 + 1), .ref (z0 + 3), .ref (z0 + 11), .ref (z0 + 19), .ref (z0 + 22), .ref (z0 + 54), .int 0, .ref (z0 + 55), .ref (z0 + 56), .int 0, .ref (z0 + 57), .ref (z0 + 58), .ref (z0 + 74), .ref (z0 + 75)]) 10 (by decide) rfl rfl in_X11 (by decide) rfl xw285 rfl dX11_init_151 ?_
  refine k_alen (n := 97) (pc := 154) hC (i := 57) (t0 := 3) (N := 7) (C := RX4) (by decide) rfl rfl (v := 7) rfl dX11_init_154 ?_
  refine k_geN (pc := 155) hC (by decide) dX11_init_155 (tgt := 177) (by decide) ?_
  refine k_aload_n (pc := 158) hC dX11_init_158 rfl ?_
  refine k_get (n := 97) (pc := 159) hC (ci := 11) (i := 0) (fs := [.ref (z0 + 1), .ref (z0 + 3), .ref (z0 + 11), .ref (z0 + 19), .ref (z0 + 22), .ref (z0 + 54), .int 0, .ref (z0 + 55), .ref (z0 + 56), .int 0, .ref (z0 + 57), .ref (z0 + 58), .ref (z0 + 74), .ref (z0 + 75)]) 10 (by decide) rfl rfl in_X11 (by decide) rfl xw285 rfl dX11_init_159 ?_
  refine k_iload_n (pc := 162) hC dX11_init_162 rfl ?_
  refine k_new (n := 97) (k := 96) (sl := 1259) (pc := 163) hC (ci := 4) (C := RX4) (T := TX4) (N := 6) (fs := [.int 0, .int 0, .int 0, .null, .null, .int 0]) tyX4 tyX4_ok in_X4 xw148 xw149 xw46 rfl (by decide +kernel) (by decide) (by decide) dX11_init_163 ?_
  refine k_dup (pc := 166) hC dX11_init_166 rfl ?_
  refine k_initN (n := 98) (k := 97) (sl := 1265) (pc := 167) hC (i := 97) (kc_X4 97 _ rfl) vi_X4 xn150 (by decide) rfl ⟨(Nat.le_of_ble_eq_true rfl), (Nat.le_of_ble_eq_true rfl)⟩ (by decide) (by decide) (Nat.le_of_ble_eq_true rfl) dX11_init_167 ?_
  refine k_aast (n := 100) (pc := 170) hC (i := 57) (t0 := 3) (N := 7) (qk := 97) (ci := 4) (r := (RX4, TX4, 6)) (by decide) rfl rfl (by decide) rfl rfl (by decide) dX11_init_170 ?_
  refine k_iinc (pc := 171) hC (lv' := [some (.ref (z0 + 0)), some (.int 6)]) dX11_init_171 rfl (w := 6) (by decide) (by decide) rfl rfl ?_
  refine k_goto (pc := 174) hC dX11_init_174 (tgt := 149) (by decide) ?_
  refine k_iload_n (pc := 149) hC dX11_init_149 rfl ?_
  refine k_aload_n (pc := 150) hC dX11_init_150 rfl ?_
  refine k_get (n := 100) (pc := 151) hC (ci := 11) (i := 0) (fs := [.ref (z0 + 1), .ref (z0 + 3), .ref (z0 + 11), .ref (z0 + 19), .ref (z0 + 22), .ref (z0 + 54), .int 0, .ref (z0 + 55), .ref (z0 + 56), .int 0, .ref (z0 + 57), .ref (z0 + 58), .ref (z0 + 74), .ref (z0 + 75)]) 10 (by decide) rfl rfl in_X11 (by decide) rfl xw285 rfl dX11_init_151 ?_
  refine k_alen (n := 100) (pc := 154) hC (i := 57) (t0 := 3) (N := 7) (C := RX4) (by decide) rfl rfl (v := 7) rfl dX11_init_154 ?_
  refine k_geN (pc := 155) hC (by decide) dX11_init_155 (tgt := 177) (by decide) ?_
  refine k_aload_n (pc := 158) hC dX11_init_158 rfl ?_
  refine k_get (n := 100) (pc := 159) hC (ci := 11) (i := 0) (fs := [.ref (z0 + 1), .ref (z0 + 3), .ref (z0 + 11), .ref (z0 + 19), .ref (z0 + 22), .ref (z0 + 54), .int 0, .ref (z0 + 55), .ref (z0 + 56), .int 0, .ref (z0 + 57), .ref (z0 + 58), .ref (z0 + 74), .ref (z0 + 75)]) 10 (by decide) rfl rfl in_X11 (by decide) rfl xw285 rfl dX11_init_159 ?_
  refine k_iload_n (pc := 162) hC dX11_init_162 rfl ?_
  refine k_new (n := 100) (k := 99) (sl := 1277) (pc := 163) hC (ci := 4) (C := RX4) (T := TX4) (N := 6) (fs := [.int 0, .int 0, .int 0, .null, .null, .int 0]) tyX4 tyX4_ok in_X4 xw148 xw149 xw46 rfl (by decide +kernel) (by decide) (by decide) dX11_init_163 ?_
  refine k_dup (pc := 166) hC dX11_init_166 rfl ?_
  refine k_initN (n := 101) (k := 100) (sl := 1283) (pc := 167) hC (i := 100) (kc_X4 100 _ rfl) vi_X4 xn150 (by decide) rfl ⟨(Nat.le_of_ble_eq_true rfl), (Nat.le_of_ble_eq_true rfl)⟩ (by decide) (by decide) (Nat.le_of_ble_eq_true rfl) dX11_init_167 ?_
  refine k_aast (n := 103) (pc := 170) hC (i := 57) (t0 := 3) (N := 7) (qk := 100) (ci := 4) (r := (RX4, TX4, 6)) (by decide) rfl rfl (by decide) rfl rfl (by decide) dX11_init_170 ?_
  refine k_iinc (pc := 171) hC (lv' := [some (.ref (z0 + 0)), some (.int 7)]) dX11_init_171 rfl (w := 7) (by decide) (by decide) rfl rfl ?_
  refine k_goto (pc := 174) hC dX11_init_174 (tgt := 149) (by decide) ?_
  refine k_iload_n (pc := 149) hC dX11_init_149 rfl ?_
  refine k_aload_n (pc := 150) hC dX11_init_150 rfl ?_
  refine k_get (n := 103) (pc := 151) hC (ci := 11) (i := 0) (fs := [.ref (z0 + 1), .ref (z0 + 3), .ref (z0 + 11), .ref (z0 + 19), .ref (z0 + 22), .ref (z0 + 54), .int 0, .ref (z0 + 55), .ref (z0 + 56), .int 0, .ref (z0 + 57), .ref (z0 + 58), .ref (z0 + 74), .ref (z0 + 75)]) 10 (by decide) rfl rfl in_X11 (by decide) rfl xw285 rfl dX11_init_151 ?_
  refine k_alen (n := 103) (pc := 154) hC (i := 57) (t0 := 3) (N := 7) (C := RX4) (by decide) rfl rfl (v := 7) rfl dX11_init_154 ?_
  refine k_geY (pc := 155) hC (by decide) dX11_init_155 (tgt := 177) (by decide) ?_
  refine k_aload_n (pc := 177) hC dX11_init_177 rfl ?_
  refine k_get (n := 103) (pc := 178) hC (ci := 11) (i := 0) (fs := [.ref (z0 + 1), .ref (z0 + 3), .ref (z0 + 11), .ref (z0 + 19), .ref (z0 + 22), .ref (z0 + 54), .int 0, .ref (z0 + 55), .ref (z0 + 56), .int 0, .ref (z0 + 57), .ref (z0 + 58), .ref (z0 + 74), .ref (z0 + 75)]) 12 (by decide) rfl rfl in_X11 (by decide) rfl xw287 rfl dX11_init_178 ?_
  refine k_iconst (pc := 181) hC dX11_init_181 (v := 0) (by decide) ?_
  refine k_new (n := 103) (k := 102) (sl := 1295) (pc := 182) hC (ci := 7) (C := RX7) (T := TX7) (N := 0) (fs := []) tyX7 tyX7_ok in_X7 xw231 xw233 xw49 rfl (by decide +kernel) (by decide) (by decide) dX11_init_182 ?_
  refine k_dup (pc := 185) hC dX11_init_185 rfl ?_
  refine k_initN (n := 104) (k := 103) (sl := 1295) (pc := 186) hC (i := 103) (kc_X7 103 (by omega)) vi_X7 xn234 (by decide) rfl ⟨(Nat.le_of_ble_eq_true rfl), (Nat.le_of_ble_eq_true rfl)⟩ (by decide) (by decide) (Nat.le_of_ble_eq_true rfl) dX11_init_186 ?_
  refine k_aast (n := 104) (pc := 189) hC (i := 74) (t0 := 4) (N := 6) (qk := 103) (ci := 7) (r := (RX7, TX7, 0)) (by decide) rfl rfl (by decide) rfl rfl (by decide) dX11_init_189 ?_
  refine k_aload_n (pc := 190) hC dX11_init_190 rfl ?_
  refine k_get (n := 104) (pc := 191) hC (ci := 11) (i := 0) (fs := [.ref (z0 + 1), .ref (z0 + 3), .ref (z0 + 11), .ref (z0 + 19), .ref (z0 + 22), .ref (z0 + 54), .int 0, .ref (z0 + 55), .ref (z0 + 56), .int 0, .ref (z0 + 57), .ref (z0 + 58), .ref (z0 + 74), .ref (z0 + 75)]) 12 (by decide) rfl rfl in_X11 (by decide) rfl xw287 rfl dX11_init_191 ?_
  refine k_iconst (pc := 194) hC dX11_init_194 (v := 1) (by decide) ?_
  refine k_new (n := 104) (k := 103) (sl := 1295) (pc := 195) hC (ci := 5) (C := RX5) (T := TX5) (N := 0) (fs := []) tyX5 tyX5_ok in_X5 xw240 xw241 xw50 rfl (by decide +kernel) (by decide) (by decide) dX11_init_195 ?_
  refine k_dup (pc := 198) hC dX11_init_198 rfl ?_
  refine k_initN (n := 105) (k := 104) (sl := 1295) (pc := 199) hC (i := 104) (kc_X5 104 (by omega)) vi_X5 xn242 (by decide) rfl ⟨(Nat.le_of_ble_eq_true rfl), (Nat.le_of_ble_eq_true rfl)⟩ (by decide) (by decide) (Nat.le_of_ble_eq_true rfl) dX11_init_199 ?_
  refine k_aastO (n := 105) (pc := 202) hC (i := 74) (t0 := 4) (N := 6) (qk := 104) (ci := 5) (E := RX7) (r := (RX5, TX5, 0)) (by decide) rfl rfl hC.aux.2.2.1 (by decide) rfl rfl (by decide) dX11_init_202 ?_
  refine k_aload_n (pc := 203) hC dX11_init_203 rfl ?_
  refine k_get (n := 105) (pc := 204) hC (ci := 11) (i := 0) (fs := [.ref (z0 + 1), .ref (z0 + 3), .ref (z0 + 11), .ref (z0 + 19), .ref (z0 + 22), .ref (z0 + 54), .int 0, .ref (z0 + 55), .ref (z0 + 56), .int 0, .ref (z0 + 57), .ref (z0 + 58), .ref (z0 + 74), .ref (z0 + 75)]) 12 (by decide) rfl rfl in_X11 (by decide) rfl xw287 rfl dX11_init_204 ?_
  refine k_iconst (pc := 207) hC dX11_init_207 (v := 2) (by decide) ?_
  refine k_new (n := 105) (k := 104) (sl := 1295) (pc := 208) hC (ci := 1) (C := RX1) (T := TX1) (N := 0) (fs := []) tyX1 tyX1_ok in_X1 xw247 xw248 xw51 rfl (by decide +kernel) (by decide) (by decide) dX11_init_208 ?_
  refine k_dup (pc := 211) hC dX11_init_211 rfl ?_
  refine k_initN (n := 106) (k := 105) (sl := 1295) (pc := 212) hC (i := 105) (kc_X1 105 (by omega)) vi_X1 xn249 (by decide) rfl ⟨(Nat.le_of_ble_eq_true rfl), (Nat.le_of_ble_eq_true rfl)⟩ (by decide) (by decide) (Nat.le_of_ble_eq_true rfl) dX11_init_212 ?_
  refine k_aastO (n := 106) (pc := 215) hC (i := 74) (t0 := 4) (N := 6) (qk := 105) (ci := 1) (E := RX7) (r := (RX1, TX1, 0)) (by decide) rfl rfl hC.aux.2.2.2.1 (by decide) rfl rfl (by decide) dX11_init_215 ?_
  refine k_aload_n (pc := 216) hC dX11_init_216 rfl ?_
  refine k_get (n := 106) (pc := 217) hC (ci := 11) (i := 0) (fs := [.ref (z0 + 1), .ref (z0 + 3), .ref (z0 + 11), .ref (z0 + 19), .ref (z0 + 22), .ref (z0 + 54), .int 0, .ref (z0 + 55), .ref (z0 + 56), .int 0, .ref (z0 + 57), .ref (z0 + 58), .ref (z0 + 74), .ref (z0 + 75)]) 12 (by decide) rfl rfl in_X11 (by decide) rfl xw287 rfl dX11_init_217 ?_
  refine k_iconst (pc := 220) hC dX11_init_220 (v := 3) (by decide) ?_
  refine k_new (n := 106) (k := 105) (sl := 1295) (pc := 221) hC (ci := 3) (C := RX3) (T := TX3) (N := 0) (fs := []) tyX3 tyX3_ok in_X3 xw254 xw255 xw52 rfl (by decide +kernel) (by decide) (by decide) dX11_init_221 ?_
  refine k_dup (pc := 224) hC dX11_init_224 rfl ?_
  refine k_initN (n := 107) (k := 106) (sl := 1295) (pc := 225) hC (i := 106) (kc_X3 106 (by omega)) vi_X3 xn256 (by decide) rfl ⟨(Nat.le_of_ble_eq_true rfl), (Nat.le_of_ble_eq_true rfl)⟩ (by decide) (by decide) (Nat.le_of_ble_eq_true rfl) dX11_init_225 ?_
  refine k_aastO (n := 107) (pc := 228) hC (i := 74) (t0 := 4) (N := 6) (qk := 106) (ci := 3) (E := RX7) (r := (RX3, TX3, 0)) (by decide) rfl rfl hC.aux.2.2.2.2.1 (by decide) rfl rfl (by decide) dX11_init_228 ?_
  refine k_aload_n (pc := 229) hC dX11_init_229 rfl ?_
  refine k_get (n := 107) (pc := 230) hC (ci := 11) (i := 0) (fs := [.ref (z0 + 1), .ref (z0 + 3), .ref (z0 + 11), .ref (z0 + 19), .ref (z0 + 22), .ref (z0 + 54), .int 0, .ref (z0 + 55), .ref (z0 + 56), .int 0, .ref (z0 + 57), .ref (z0 + 58), .ref (z0 + 74), .ref (z0 + 75)]) 12 (by decide) rfl rfl in_X11 (by decide) rfl xw287 rfl dX11_init_230 ?_
  refine k_iconst (pc := 233) hC dX11_init_233 (v := 4) (by decide) ?_
  refine k_new (n := 107) (k := 106) (sl := 1295) (pc := 234) hC (ci := 6) (C := RX6) (T := TX6) (N := 0) (fs := []) tyX6 tyX6_ok in_X6 xw261 xw262 xw53 rfl (by decide +kernel) (by decide) (by decide) dX11_init_234 ?_
  refine k_dup (pc := 237) hC dX11_init_237 rfl ?_
  refine k_initN (n := 108) (k := 107) (sl := 1295) (pc := 238) hC (i := 107) (kc_X6 107 (by omega)) vi_X6 xn263 (by decide) rfl ⟨(Nat.le_of_ble_eq_true rfl), (Nat.le_of_ble_eq_true rfl)⟩ (by decide) (by decide) (Nat.le_of_ble_eq_true rfl) dX11_init_238 ?_
  refine k_aastO (n := 108) (pc := 241) hC (i := 74) (t0 := 4) (N := 6) (qk := 107) (ci := 6) (E := RX7) (r := (RX6, TX6, 0)) (by decide) rfl rfl hC.aux.2.2.2.2.2.1 (by decide) rfl rfl (by decide) dX11_init_241 ?_
  refine k_aload_n (pc := 242) hC dX11_init_242 rfl ?_
  refine k_get (n := 108) (pc := 243) hC (ci := 11) (i := 0) (fs := [.ref (z0 + 1), .ref (z0 + 3), .ref (z0 + 11), .ref (z0 + 19), .ref (z0 + 22), .ref (z0 + 54), .int 0, .ref (z0 + 55), .ref (z0 + 56), .int 0, .ref (z0 + 57), .ref (z0 + 58), .ref (z0 + 74), .ref (z0 + 75)]) 12 (by decide) rfl rfl in_X11 (by decide) rfl xw287 rfl dX11_init_243 ?_
  refine k_iconst (pc := 246) hC dX11_init_246 (v := 5) (by decide) ?_
  refine k_new (n := 108) (k := 107) (sl := 1295) (pc := 247) hC (ci := 0) (C := RX0) (T := TX0) (N := 0) (fs := []) tyX0 tyX0_ok in_X0 xw268 xw269 xw54 rfl (by decide +kernel) (by decide) (by decide) dX11_init_247 ?_
  refine k_dup (pc := 250) hC dX11_init_250 rfl ?_
  refine k_initN (n := 109) (k := 108) (sl := 1295) (pc := 251) hC (i := 108) (kc_X0 108 (by omega)) vi_X0 xn270 (by decide) rfl ⟨(Nat.le_of_ble_eq_true rfl), (Nat.le_of_ble_eq_true rfl)⟩ (by decide) (by decide) (Nat.le_of_ble_eq_true rfl) dX11_init_251 ?_
  refine k_aastO (n := 109) (pc := 254) hC (i := 74) (t0 := 4) (N := 6) (qk := 108) (ci := 0) (E := RX7) (r := (RX0, TX0, 0)) (by decide) rfl rfl hC.aux.2.2.2.2.2.2 (by decide) rfl rfl (by decide) dX11_init_254 ?_
  exact k_vret (pc := 255) hC hR hK hS dX11_init_255
theorem vi_X12 : cI yX12_init cX12_init 1 := ⟨⟨rfl, by decide +kernel, by decide +kernel, by decide +kernel⟩, xw699, xw55, xw700⟩
def uX12 (z0 : Nat) (cid : Nat → ClassId) (sh : Nat → va_E) : Nat → va_E := (up (up (up (up (up (up (up (up (up (up (up (up (up (up (up (up (up (up (up (up (up (up (up (up (up (up (up (up (up (up (up (up (up sh 110 (.inl (cid 0, 200, .inl (fun _ => 0)))) 109 (.inr (12, [.int 0, .long 0, .ref (z0 + 110), .int 0, .int 0, .int 0, .int 0, .int 0, .int 0, .null, .null, .null, .null, .null, .null, .int 0, .null, .null, .null, .null, .null, .int 0, .null, .null, .int 0, .null, .null]))) 111 (.inl (cid 0, 6, .inl (fun _ => 0)))) 109 (.inr (12, [.int 0, .long 0, .ref (z0 + 110), .int 0, .int 0, .int 0, .int 0, .int 0, .int 0, .ref (z0 + 111), .null, .null, .null, .null, .null, .int 0, .null, .null, .null, .null, .null, .int 0, .null, .null, .int 0, .null, .null]))) 112 (.inl (cid 0, 12, .inl (fun _ => 0)))) 109 (.inr (12, [.int 0, .long 0, .ref (z0 + 110), .int 0, .int 0, .int 0, .int 0, .int 0, .int 0, .ref (z0 + 111), .ref (z0 + 112), .null, .null, .null, .null, .int 0, .null, .null, .null, .null, .null, .int 0, .null, .null, .int 0, .null, .null]))) 113 (.inl (cid 0, 12, .inl (fun _ => 0)))) 109 (.inr (12, [.int 0, .long 0, .ref (z0 + 110), .int 0, .int 0, .int 0, .int 0, .int 0, .int 0, .ref (z0 + 111), .ref (z0 + 112), .ref (z0 + 113), .null, .null, .null, .int 0, .null, .null, .null, .null, .null, .int 0, .null, .null, .int 0, .null, .null]))) 114 (.inl (cid 0, 12, .inl (fun _ => 0)))) 109 (.inr (12, [.int 0, .long 0, .ref (z0 + 110), .int 0, .int 0, .int 0, .int 0, .int 0, .int 0, .ref (z0 + 111), .ref (z0 + 112), .ref (z0 + 113), .ref (z0 + 114), .null, .null, .int 0, .null, .null, .null, .null, .null, .int 0, .null, .null, .int 0, .null, .null]))) 115 (.inl (cid 0, 8, .inl (fun _ => 0)))) 109 (.inr (12, [.int 0, .long 0, .ref (z0 + 110), .int 0, .int 0, .int 0, .int 0, .int 0, .int 0, .ref (z0 + 111), .ref (z0 + 112), .ref (z0 + 113), .ref (z0 + 114), .ref (z0 + 115), .null, .int 0, .null, .null, .null, .null, .null, .int 0, .null, .null, .int 0, .null, .null]))) 116 (.inl (cid 0, 8, .inl (fun _ => 0)))) 109 (.inr (12, [.int 0, .long 0, .ref (z0 + 110), .int 0, .int 0, .int 0, .int 0, .int 0, .int 0, .ref (z0 + 111), .ref (z0 + 112), .ref (z0 + 113), .ref (z0 + 114), .ref (z0 + 115), .ref (z0 + 116), .int 0, .null, .null, .null, .null, .null, .int 0, .null, .null, .int 0, .null, .null]))) 117 (.inl (cid 0, 15, .inl (fun _ => 0)))) 109 (.inr (12, [.int 0, .long 0, .ref (z0 + 110), .int 0, .int 0, .int 0, .int 0, .int 0, .int 0, .ref (z0 + 111), .ref (z0 + 112), .ref (z0 + 113), .ref (z0 + 114), .ref (z0 + 115), .ref (z0 + 116), .int 0, .ref (z0 + 117), .null, .null, .null, .null, .int 0, .null, .null, .int 0, .null, .null]))) 118 (.inl (cid 0, 15, .inl (fun _ => 0)))) 109 (.inr (12, [.int 0, .long 0, .ref (z0 + 110), .int 0, .int 0, .int 0, .int 0, .int 0, .int 0, .ref (z0 + 111), .ref (z0 + 112), .ref (z0 + 113), .ref (z0 + 114), .ref (z0 + 115), .ref (z0 + 116), .int 0, .ref (z0 + 117), .ref (z0 + 118), .null, .null, .null, .int 0, .null, .null, .int 0, .null, .null]))) 119 (.inl (cid 0, 30, .inl (fun _ => 0)))) 109 (.inr (12, [.int 0, .long 0, .ref (z0 + 110), .int 0, .int 0, .int 0, .int 0, .int 0, .int 0, .ref (z0 + 111), .ref (z0 + 112), .ref (z0 + 113), .ref (z0 + 114), .ref (z0 + 115), .ref (z0 + 116), .int 0, .ref (z0 + 117), .ref (z0 + 118), .ref (z0 + 119), .null, .null, .int 0, .null, .null, .int 0, .null, .null]))) 120 (.inl (cid 1, 2, .inl (fun _ => 0)))) 109 (.inr (12, [.int 0, .long 0, .ref (z0 + 110), .int 0, .int 0, .int 0, .int 0, .int 0, .int 0, .ref (z0 + 111), .ref (z0 + 112), .ref (z0 + 113), .ref (z0 + 114), .ref (z0 + 115), .ref (z0 + 116), .int 0, .ref (z0 + 117), .ref (z0 + 118), .ref (z0 + 119), .ref (z0 + 120), .null, .int 0, .null, .null, .int 0, .null, .null]))) 121 (.inl (cid 0, 150, .inl (fun _ => 0)))) 109 (.inr (12, [.int 0, .long 0, .ref (z0 + 110), .int 0, .int 0, .int 0, .int 0, .int 0, .int 0, .ref (z0 + 111), .ref (z0 + 112), .ref (z0 + 113), .ref (z0 + 114), .ref (z0 + 115), .ref (z0 + 116), .int 0, .ref (z0 + 117), .ref (z0 + 118), .ref (z0 + 119), .ref (z0 + 120), .ref (z0 + 121), .int 0, .null, .null, .int 0, .null, .null]))) 122 (.inl (cid 0, 5, .inl (fun _ => 0)))) 109 (.inr (12, [.int 0, .long 0, .ref (z0 + 110), .int 0, .int 0, .int 0, .int 0, .int 0, .int 0, .ref (z0 + 111), .ref (z0 + 112), .ref (z0 + 113), .ref (z0 + 114), .ref (z0 + 115), .ref (z0 + 116), .int 0, .ref (z0 + 117), .ref (z0 + 118), .ref (z0 + 119), .ref (z0 + 120), .ref (z0 + 121), .int 0, .ref (z0 + 122), .null, .int 0, .null, .null]))) 123 (.inl (cid 0, 5, .inl (fun _ => 0)))) 109 (.inr (12, [.int 0, .long 0, .ref (z0 + 110), .int 0, .int 0, .int 0, .int 0, .int 0, .int 0, .ref (z0 + 111), .ref (z0 + 112), .ref (z0 + 113), .ref (z0 + 114), .ref (z0 + 115), .ref (z0 + 116), .int 0, .ref (z0 + 117), .ref (z0 + 118), .ref (z0 + 119), .ref (z0 + 120), .ref (z0 + 121), .int 0, .ref (z0 + 122), .ref (z0 + 123), .int 0, .null, .null]))) 124 (.inl (cid 0, 3, .inl (fun _ => 0)))) 109 (.inr (12, [.int 0, .long 0, .ref (z0 + 110), .int 0, .int 0, .int 0, .int 0, .int 0, .int 0, .ref (z0 + 111), .ref (z0 + 112), .ref (z0 + 113), .ref (z0 + 114), .ref (z0 + 115), .ref (z0 + 116), .int 0, .ref (z0 + 117), .ref (z0 + 118), .ref (z0 + 119), .ref (z0 + 120), .ref (z0 + 121), .int 0, .ref (z0 + 122), .ref (z0 + 123), .int 0, .ref (z0 + 124), .null]))) 125 (.inl (cid 0, 3, .inl (fun _ => 0)))) 109 (.inr (12, [.int 0, .long 0, .ref (z0 + 110), .int 0, .int 0, .int 0, .int 0, .int 0, .int 0, .ref (z0 + 111), .ref (z0 + 112), .ref (z0 + 113), .ref (z0 + 114), .ref (z0 + 115), .ref (z0 + 116), .int 0, .ref (z0 + 117), .ref (z0 + 118), .ref (z0 + 119), .ref (z0 + 120), .ref (z0 + 121), .int 0, .ref (z0 + 122), .ref (z0 + 123), .int 0, .ref (z0 + 124), .ref (z0 + 125)]))) 111 (.inl (cid 0, 6, .inl (upd (fun _ => 0) (1 : Int32).toNatClampNeg 60))))
set_option maxRecDepth 20000 in
set_option maxHeartbeats 4000000 in
theorem kc_X12 {l : Launch} {cid : Nat → ClassId} {D : va_G} {z0 : Nat} (sh : Nat → va_E) (h0 : sh 109 = .inr (12, [.int 0, .long 0, .null, .int 0, .int 0, .int 0, .int 0, .int 0, .int 0, .null, .null, .null, .null, .null, .null, .int 0, .null, .null, .null, .null, .null, .int 0, .null, .null, .int 0, .null, .null])) : CtC l cid D z0 yX12_init cX12_init 1 1 12 16 486 109 110 sh 126 (uX12 z0 cid sh) := by
  refine ctc_of (own := RX12) (lv := [some (.ref (z0 + 109))]) (by decide +kernel) rfl rfl rfl (by decide) (fun X hC hN hR hK hS => ?_)
  refine k_aload_n (pc := 0) hC dX12_init_0 rfl ?_
  refine k_obj (pc := 1) hC xw701 xob_i xob_c dX12_init_1 (Nat.le_of_ble_eq_true rfl) (Nat.le_of_ble_eq_true rfl) ?_
  refine k_aload_n (pc := 4) hC dX12_init_4 rfl ?_
  refine k_sipush (pc := 5) hC dX12_init_5 (v := 200) (by decide) ?_
  refine k_newa (n := 110) (k := 0) (sl := 0) (pc := 8) hC (t0 := 0) (ty := .int) rfl (fun _ _ h => h) xw92 rfl (N := 200) (a0 := (200, .inl (fun _ => 0))) (fun _ => rfl) (by decide) (by decide) (by decide) (by decide) (by decide) dX12_init_8 ?_
  refine k_putF (n := 111) (pc := 10) hC hN (ci := 12) (i := 109) (fs := [.int 0, .long 0, .null, .int 0, .int 0, .int 0, .int 0, .int 0, .int 0, .null, .null, .null, .null, .null, .null, .int 0, .null, .null, .null, .null, .null, .int 0, .null, .null, .int 0, .null, .null]) (ty := .array .int) tyX12 2 (by decide) h0 rfl in_X12 tyX12_ok nmX12 (by decide) rfl xw704 rfl rfl (by decide +kernel) rfl rfl (Nat.le_of_ble_eq_true rfl) dX12_init_10 ?_
  refine k_aload_n (pc := 13) hC dX12_init_13 rfl ?_
  refine k_bipush (pc := 14) hC dX12_init_14 (v := 6) (by decide) ?_
  refine k_newa (n := 111) (k := 1) (sl := 200) (pc := 16) hC (t0 := 0) (ty := .int) rfl (fun _ _ h => h) xw92 rfl (N := 6) (a0 := (6, .inl (fun _ => 0))) (fun _ => rfl) (by decide) (by decide) (by decide) (by decide) (by decide) dX12_init_16 ?_
  refine k_putF (n := 112) (pc := 18) hC hN (ci := 12) (i := 109) (fs := [.int 0, .long 0, .ref (z0 + 110), .int 0, .int 0, .int 0, .int 0, .int 0, .int 0, .null, .null, .null, .null, .null, .null, .int 0, .null, .null, .null, .null, .null, .int 0, .null, .null, .int 0, .null, .null]) (ty := .array .int) tyX12 9 (by decide) rfl rfl in_X12 tyX12_ok nmX12 (by decide) rfl xw711 rfl rfl (by decide +kernel) rfl rfl (Nat.le_of_ble_eq_true rfl) dX12_init_18 ?_
  refine k_aload_n (pc := 21) hC dX12_init_21 rfl ?_
  refine k_bipush (pc := 22) hC dX12_init_22 (v := 12) (by decide) ?_
  refine k_newa (n := 112) (k := 2) (sl := 206) (pc := 24) hC (t0 := 0) (ty := .int) rfl (fun _ _ h => h) xw92 rfl (N := 12) (a0 := (12, .inl (fun _ => 0))) (fun _ => rfl) (by decide) (by decide) (by decide) (by decide) (by decide) dX12_init_24 ?_
  refine k_putF (n := 113) (pc := 26) hC hN (ci := 12) (i := 109) (fs := [.int 0, .long 0, .ref (z0 + 110), .int 0, .int 0, .int 0, .int 0, .int 0, .int 0, .ref (z0 + 111), .null, .null, .null, .null, .null, .int 0, .null, .null, .null, .null, .null, .int 0, .null, .null, .int 0, .null, .null]) (ty := .array .int) tyX12 10 (by decide) rfl rfl in_X12 tyX12_ok nmX12 (by decide) rfl xw712 rfl rfl (by decide +kernel) rfl rfl (Nat.le_of_ble_eq_true rfl) dX12_init_26 ?_
  refine k_aload_n (pc := 29) hC dX12_init_29 rfl ?_
  refine k_bipush (pc := 30) hC dX12_init_30 (v := 12) (by decide) ?_
  refine k_newa (n := 113) (k := 3) (sl := 218) (pc := 32) hC (t0 := 0) (ty := .int) rfl (fun _ _ h => h) xw92 rfl (N := 12) (a0 := (12, .inl (fun _ => 0))) (fun _ => rfl) (by decide) (by decide) (by decide) (by decide) (by decide) dX12_init_32 ?_
  refine k_putF (n := 114) (pc := 34) hC hN (ci := 12) (i := 109) (fs := [.int 0, .long 0, .ref (z0 + 110), .int 0, .int 0, .int 0, .int 0, .int 0, .int 0, .ref (z0 + 111), .ref (z0 + 112), .null, .null, .null, .null, .int 0, .null, .null, .null, .null, .null, .int 0, .null, .null, .int 0, .null, .null]) (ty := .array .int) tyX12 11 (by decide) rfl rfl in_X12 tyX12_ok nmX12 (by decide) rfl xw713 rfl rfl (by decide +kernel) rfl rfl (Nat.le_of_ble_eq_true rfl) dX12_init_34 ?_
  refine k_aload_n (pc := 37) hC dX12_init_37 rfl ?_
  refine k_bipush (pc := 38) hC dX12_init_38 (v := 12) (by decide) ?_
  refine k_newa (n := 114) (k := 4) (sl := 230) (pc := 40) hC (t0 := 0) (ty := .int) rfl (fun _ _ h => h) xw92 rfl (N := 12) (a0 := (12, .inl (fun _ => 0))) (fun _ => rfl) (by decide) (by decide) (by decide) (by decide) (by decide) dX12_init_40 ?_
  refine k_putF (n := 115) (pc := 42) hC hN (ci := 12) (i := 109) (fs := [.int 0, .long 0, .ref (z0 + 110), .int 0, .int 0, .int 0, .int 0, .int 0, .int 0, .ref (z0 + 111), .ref (z0 + 112), .ref (z0 + 113), .null, .null, .null, .int 0, .null, .null, .null, .null, .null, .int 0, .null, .null, .int 0, .null, .null]) (ty := .array .int) tyX12 12 (by decide) rfl rfl in_X12 tyX12_ok nmX12 (by decide) rfl xw714 rfl rfl (by decide +kernel) rfl rfl (Nat.le_of_ble_eq_true rfl) dX12_init_42 ?_
  refine k_aload_n (pc := 45) hC dX12_init_45 rfl ?_
  refine k_bipush (pc := 46) hC dX12_init_46 (v := 8) (by decide) ?_
  refine k_newa (n := 115) (k := 5) (sl := 242) (pc := 48) hC (t0 := 0) (ty := .int) rfl (fun _ _ h => h) xw92 rfl (N := 8) (a0 := (8, .inl (fun _ => 0))) (fun _ => rfl) (by decide) (by decide) (by decide) (by decide) (by decide) dX12_init_48 ?_
  refine k_putF (n := 116) (pc := 50) hC hN (ci := 12) (i := 109) (fs := [.int 0, .long 0, .ref (z0 + 110), .int 0, .int 0, .int 0, .int 0, .int 0, .int 0, .ref (z0 + 111), .ref (z0 + 112), .ref (z0 + 113), .ref (z0 + 114), .null, .null, .int 0, .null, .null, .null, .null, .null, .int 0, .null, .null, .int 0, .null, .null]) (ty := .array .int) tyX12 13 (by decide) rfl rfl in_X12 tyX12_ok nmX12 (by decide) rfl xw715 rfl rfl (by decide +kernel) rfl rfl (Nat.le_of_ble_eq_true rfl) dX12_init_50 ?_
  refine k_aload_n (pc := 53) hC dX12_init_53 rfl ?_
  refine k_bipush (pc := 54) hC dX12_init_54 (v := 8) (by decide) ?_
  refine k_newa (n := 116) (k := 6) (sl := 250) (pc := 56) hC (t0 := 0) (ty := .int) rfl (fun _ _ h => h) xw92 rfl (N := 8) (a0 := (8, .inl (fun _ => 0))) (fun _ => rfl) (by decide) (by decide) (by decide) (by decide) (by decide) dX12_init_56 ?_
  refine k_putF (n := 117) (pc := 58) hC hN (ci := 12) (i := 109) (fs := [.int 0, .long 0, .ref (z0 + 110), .int 0, .int 0, .int 0, .int 0, .int 0, .int 0, .ref (z0 + 111), .ref (z0 + 112), .ref (z0 + 113), .ref (z0 + 114), .ref (z0 + 115), .null, .int 0, .null, .null, .null, .null, .null, .int 0, .null, .null, .int 0, .null, .null]) (ty := .array .int) tyX12 14 (by decide) rfl rfl in_X12 tyX12_ok nmX12 (by decide) rfl xw716 rfl rfl (by decide +kernel) rfl rfl (Nat.le_of_ble_eq_true rfl) dX12_init_58 ?_
  refine k_aload_n (pc := 61) hC dX12_init_61 rfl ?_
  refine k_bipush (pc := 62) hC dX12_init_62 (v := 15) (by decide) ?_
  refine k_newa (n := 117) (k := 7) (sl := 258) (pc := 64) hC (t0 := 0) (ty := .int) rfl (fun _ _ h => h) xw92 rfl (N := 15) (a0 := (15, .inl (fun _ => 0))) (fun _ => rfl) (by decide) (by decide) (by decide) (by decide) (by decide) dX12_init_64 ?_
  refine k_putF (n := 118) (pc := 66) hC hN (ci := 12) (i := 109) (fs := [.int 0, .long 0, .ref (z0 + 110), .int 0, .int 0, .int 0, .int 0, .int 0, .int 0, .ref (z0 + 111), .ref (z0 + 112), .ref (z0 + 113), .ref (z0 + 114), .ref (z0 + 115), .ref (z0 + 116), .int 0, .null, .null, .null, .null, .null, .int 0, .null, .null, .int 0, .null, .null]) (ty := .array .int) tyX12 16 (by decide) rfl rfl in_X12 tyX12_ok nmX12 (by decide) rfl xw718 rfl rfl (by decide +kernel) rfl rfl (Nat.le_of_ble_eq_true rfl) dX12_init_66 ?_
  refine k_aload_n (pc := 69) hC dX12_init_69 rfl ?_
  refine k_bipush (pc := 70) hC dX12_init_70 (v := 15) (by decide) ?_
  refine k_newa (n := 118) (k := 8) (sl := 273) (pc := 72) hC (t0 := 0) (ty := .int) rfl (fun _ _ h => h) xw92 rfl (N := 15) (a0 := (15, .inl (fun _ => 0))) (fun _ => rfl) (by decide) (by decide) (by decide) (by decide) (by decide) dX12_init_72 ?_
  refine k_putF (n := 119) (pc := 74) hC hN (ci := 12) (i := 109) (fs := [.int 0, .long 0, .ref (z0 + 110), .int 0, .int 0, .int 0, .int 0, .int 0, .int 0, .ref (z0 + 111), .ref (z0 + 112), .ref (z0 + 113), .ref (z0 + 114), .ref (z0 + 115), .ref (z0 + 116), .int 0, .ref (z0 + 117), .null, .null, .null, .null, .int 0, .null, .null, .int 0, .null, .null]) (ty := .array .int) tyX12 17 (by decide) rfl rfl in_X12 tyX12_ok nmX12 (by decide) rfl xw719 rfl rfl (by decide +kernel) rfl rfl (Nat.le_of_ble_eq_true rfl) dX12_init_74 ?_
  refine k_aload_n (pc := 77) hC dX12_init_77 rfl ?_
  refine k_bipush (pc := 78) hC dX12_init_78 (v := 30) (by decide) ?_
  refine k_newa (n := 119) (k := 9) (sl := 288) (pc := 80) hC (t0 := 0) (ty := .int) rfl (fun _ _ h => h) xw92 rfl (N := 30) (a0 := (30, .inl (fun _ => 0))) (fun _ => rfl) (by decide) (by decide) (by decide) (by decide) (by decide) dX12_init_80 ?_
  refine k_putF (n := 120) (pc := 82) hC hN (ci := 12) (i := 109) (fs := [.int 0, .long 0, .ref (z0 + 110), .int 0, .int 0, .int 0, .int 0, .int 0, .int 0, .ref (z0 + 111), .ref (z0 + 112), .ref (z0 + 113), .ref (z0 + 114), .ref (z0 + 115), .ref (z0 + 116), .int 0, .ref (z0 + 117), .ref (z0 + 118), .null, .null, .null, .int 0, .null, .null, .int 0, .null, .null]) (ty := .array .int) tyX12 18 (by decide) rfl rfl in_X12 tyX12_ok nmX12 (by decide) rfl xw720 rfl rfl (by decide +kernel) rfl rfl (Nat.le_of_ble_eq_true rfl) dX12_init_82 ?_
  refine k_aload_n (pc := 85) hC dX12_init_85 rfl ?_
  refine k_iconst (pc := 86) hC dX12_init_86 (v := 2) (by decide) ?_
  refine k_newa (n := 120) (k := 10) (sl := 318) (pc := 87) hC (t0 := 1) (ty := .boolean) rfl (fun _ _ h => h) xw784 rfl (N := 2) (a0 := (2, .inl (fun _ => 0))) (fun _ => rfl) (by decide) (by decide) (by decide) (by decide) (by decide) dX12_init_87 ?_
  refine k_putF (n := 121) (pc := 89) hC hN (ci := 12) (i := 109) (fs := [.int 0, .long 0, .ref (z0 + 110), .int 0, .int 0, .int 0, .int 0, .int 0, .int 0, .ref (z0 + 111), .ref (z0 + 112), .ref (z0 + 113), .ref (z0 + 114), .ref (z0 + 115), .ref (z0 + 116), .int 0, .ref (z0 + 117), .ref (z0 + 118), .ref (z0 + 119), .null, .null, .int 0, .null, .null, .int 0, .null, .null]) (ty := .array .boolean) tyX12 19 (by decide) rfl rfl in_X12 tyX12_ok nmX12 (by decide) rfl xw721 rfl rfl (by decide +kernel) rfl rfl (Nat.le_of_ble_eq_true rfl) dX12_init_89 ?_
  refine k_aload_n (pc := 92) hC dX12_init_92 rfl ?_
  refine k_sipush (pc := 93) hC dX12_init_93 (v := 150) (by decide) ?_
  refine k_newa (n := 121) (k := 11) (sl := 320) (pc := 96) hC (t0 := 0) (ty := .int) rfl (fun _ _ h => h) xw92 rfl (N := 150) (a0 := (150, .inl (fun _ => 0))) (fun _ => rfl) (by decide) (by decide) (by decide) (by decide) (by decide) dX12_init_96 ?_
  refine k_putF (n := 122) (pc := 98) hC hN (ci := 12) (i := 109) (fs := [.int 0, .long 0, .ref (z0 + 110), .int 0, .int 0, .int 0, .int 0, .int 0, .int 0, .ref (z0 + 111), .ref (z0 + 112), .ref (z0 + 113), .ref (z0 + 114), .ref (z0 + 115), .ref (z0 + 116), .int 0, .ref (z0 + 117), .ref (z0 + 118), .ref (z0 + 119), .ref (z0 + 120), .null, .int 0, .null, .null, .int 0, .null, .null]) (ty := .array .int) tyX12 20 (by decide) rfl rfl in_X12 tyX12_ok nmX12 (by decide) rfl xw722 rfl rfl (by decide +kernel) rfl rfl (Nat.le_of_ble_eq_true rfl) dX12_init_98 ?_
  refine k_aload_n (pc := 101) hC dX12_init_101 rfl ?_
  refine k_iconst (pc := 102) hC dX12_init_102 (v := 5) (by decide) ?_
  refine k_newa (n := 122) (k := 12) (sl := 470) (pc := 103) hC (t0 := 0) (ty := .int) rfl (fun _ _ h => h) xw92 rfl (N := 5) (a0 := (5, .inl (fun _ => 0))) (fun _ => rfl) (by decide) (by decide) (by decide) (by decide) (by decide) dX12_init_103 ?_
  refine k_putF (n := 123) (pc := 105) hC hN (ci := 12) (i := 109) (fs := [.int 0, .long 0, .ref (z0 + 110), .int 0, .int 0, .int 0, .int 0, .int 0, .int 0, .ref (z0 + 111), .ref (z0 + 112), .ref (z0 + 113), .ref (z0 + 114), .ref (z0 + 115), .ref (z0 + 116), .int 0, .ref (z0 + 117), .ref (z0 + 118), .ref (z0 + 119), .ref (z0 + 120), .ref (z0 + 121), .int 0, .null, .null, .int 0, .null, .null]) (ty := .array .int) tyX12 22 (by decide) rfl rfl in_X12 tyX12_ok nmX12 (by decide) rfl xw724 rfl rfl (by decide +kernel) rfl rfl (Nat.le_of_ble_eq_true rfl) dX12_init_105 ?_
  refine k_aload_n (pc := 108) hC dX12_init_108 rfl ?_
  refine k_iconst (pc := 109) hC dX12_init_109 (v := 5) (by decide) ?_
  refine k_newa (n := 123) (k := 13) (sl := 475) (pc := 110) hC (t0 := 0) (ty := .int) rfl (fun _ _ h => h) xw92 rfl (N := 5) (a0 := (5, .inl (fun _ => 0))) (fun _ => rfl) (by decide) (by decide) (by decide) (by decide) (by decide) dX12_init_110 ?_
  refine k_putF (n := 124) (pc := 112) hC hN (ci := 12) (i := 109) (fs := [.int 0, .long 0, .ref (z0 + 110), .int 0, .int 0, .int 0, .int 0, .int 0, .int 0, .ref (z0 + 111), .ref (z0 + 112), .ref (z0 + 113), .ref (z0 + 114), .ref (z0 + 115), .ref (z0 + 116), .int 0, .ref (z0 + 117), .ref (z0 + 118), .ref (z0 + 119), .ref (z0 + 120), .ref (z0 + 121), .int 0, .ref (z0 + 122), .null, .int 0, .null, .null]) (ty := .array .int) tyX12 23 (by decide) rfl rfl in_X12 tyX12_ok nmX12 (by decide) rfl xw725 rfl rfl (by decide +kernel) rfl rfl (Nat.le_of_ble_eq_true rfl) dX12_init_112 ?_
  refine k_aload_n (pc := 115) hC dX12_init_115 rfl ?_
  refine k_iconst (pc := 116) hC dX12_init_116 (v := 3) (by decide) ?_
  refine k_newa (n := 124) (k := 14) (sl := 480) (pc := 117) hC (t0 := 0) (ty := .int) rfl (fun _ _ h => h) xw92 rfl (N := 3) (a0 := (3, .inl (fun _ => 0))) (fun _ => rfl) (by decide) (by decide) (by decide) (by decide) (by decide) dX12_init_117 ?_
  refine k_putF (n := 125) (pc := 119) hC hN (ci := 12) (i := 109) (fs := [.int 0, .long 0, .ref (z0 + 110), .int 0, .int 0, .int 0, .int 0, .int 0, .int 0, .ref (z0 + 111), .ref (z0 + 112), .ref (z0 + 113), .ref (z0 + 114), .ref (z0 + 115), .ref (z0 + 116), .int 0, .ref (z0 + 117), .ref (z0 + 118), .ref (z0 + 119), .ref (z0 + 120), .ref (z0 + 121), .int 0, .ref (z0 + 122), .ref (z0 + 123), .int 0, .null, .null]) (ty := .array .int) tyX12 25 (by decide) rfl rfl in_X12 tyX12_ok nmX12 (by decide) rfl xw727 rfl rfl (by decide +kernel) rfl rfl (Nat.le_of_ble_eq_true rfl) dX12_init_119 ?_
  refine k_aload_n (pc := 122) hC dX12_init_122 rfl ?_
  refine k_iconst (pc := 123) hC dX12_init_123 (v := 3) (by decide) ?_
  refine k_newa (n := 125) (k := 15) (sl := 483) (pc := 124) hC (t0 := 0) (ty := .int) rfl (fun _ _ h => h) xw92 rfl (N := 3) (a0 := (3, .inl (fun _ => 0))) (fun _ => rfl) (by decide) (by decide) (by decide) (by decide) (by decide) dX12_init_124 ?_
  refine k_putF (n := 126) (pc := 126) hC hN (ci := 12) (i := 109) (fs := [.int 0, .long 0, .ref (z0 + 110), .int 0, .int 0, .int 0, .int 0, .int 0, .int 0, .ref (z0 + 111), .ref (z0 + 112), .ref (z0 + 113), .ref (z0 + 114), .ref (z0 + 115), .ref (z0 + 116), .int 0, .ref (z0 + 117), .ref (z0 + 118), .ref (z0 + 119), .ref (z0 + 120), .ref (z0 + 121), .int 0, .ref (z0 + 122), .ref (z0 + 123), .int 0, .ref (z0 + 124), .null]) (ty := .array .int) tyX12 26 (by decide) rfl rfl in_X12 tyX12_ok nmX12 (by decide) rfl xw728 rfl rfl (by decide +kernel) rfl rfl (Nat.le_of_ble_eq_true rfl) dX12_init_126 ?_
  refine k_aload_n (pc := 129) hC dX12_init_129 rfl ?_
  refine k_get (n := 126) (pc := 130) hC (ci := 12) (i := 109) (fs := [.int 0, .long 0, .ref (z0 + 110), .int 0, .int 0, .int 0, .int 0, .int 0, .int 0, .ref (z0 + 111), .ref (z0 + 112), .ref (z0 + 113), .ref (z0 + 114), .ref (z0 + 115), .ref (z0 + 116), .int 0, .ref (z0 + 117), .ref (z0 + 118), .ref (z0 + 119), .ref (z0 + 120), .ref (z0 + 121), .int 0, .ref (z0 + 122), .ref (z0 + 123), .int 0, .ref (z0 + 124), .ref (z0 + 125)]) 9 (by decide) rfl rfl in_X12 (by decide) rfl xw711 rfl dX12_init_130 ?_
  refine k_iconst (pc := 133) hC dX12_init_133 (v := 1) (by decide) ?_
  refine k_bipush (pc := 134) hC dX12_init_134 (v := 60) (by decide) ?_
  refine k_iast (n := 126) (pc := 136) hC (i := 111) (N := 6) (f := (fun _ => 0)) (by decide) rfl (by decide) dX12_init_136 ?_
  exact k_vret (pc := 137) hC hR hK hS dX12_init_137
