/-! cells by their numbers, links of fields -/
section SH
variable {X : Cx} {ad : Nat → Nat} {cid : Nat → ClassId} {cc : ByteArray} {nL : Nat} {ret : Option FieldType} {fr lo : Nat} {α : Type} {Q : α → State → Prop} {M : Mem} {pc : Nat} {lv : List (Option Value)} {st : List Value} {res : Option α}
theorem sh_X11 : shp ad cid M 0 = .inr (11, [.ref (ad 1), .ref (ad (feB (gM M 0 1))), .ref (ad (feB (gM M 0 2))), .ref (ad 19), .ref (ad 22), .ref (ad 54), .int (gM M 0 6), .ref (ad 55), .ref (ad 56), .int (gM M 0 9), .ref (ad 57), .ref (ad 58), .ref (ad 74), .ref (ad 75)]) := rfl
theorem sh_X10 : shp ad cid M 1 = .inr (10, [.ref (ad 2), .int (gM M 1 1), .int (gM M 1 2), .int (gM M 1 3), .int (gM M 1 4), .int (gM M 1 5)]) := rfl
theorem sh_X8 : shp ad cid M 22 = .inr (8, [.ref (ad 23), .int (gM M 22 1), .int (gM M 22 2)]) := rfl
theorem sh_X9 : shp ad cid M 58 = .inr (9, [.ref (ad 59), .ref (ad 60), .ref (ad 61), .int (gM M 58 3), .int (gM M 58 4), .int (gM M 58 5)]) := rfl
theorem sh_X12 : shp ad cid M 109 = .inr (12, [.int (gM M 109 0), .long (gL M 109), .ref (ad 110), .int (gM M 109 3), .int (gM M 109 4), .int (gM M 109 5), .int (gM M 109 6), .int (gM M 109 7), .int (gM M 109 8), .ref (ad 111), .ref (ad 112), .ref (ad 113), .ref (ad 114), .ref (ad 115), .ref (ad 116), .int (gM M 109 15), .ref (ad 117), .ref (ad 118), .ref (ad 119), .ref (ad 120), .ref (ad 121), .int (gM M 109 21), .ref (ad 122), .ref (ad 123), .int (gM M 109 24), .ref (ad 124), .ref (ad 125)]) := rfl
theorem sh_X2 {b : Nat} (hb : isFe b) : shp ad cid M b = .inr (2, [.int (gM M b 0), .ref (ad (b + 1)), .ref (ad (b + 2)), .ref (ad (b + 3)), .int (gM M b 4), .ref (ad (b + 4)), .ref (ad (b + 5)), .int (gM M b 7), .int (gM M b 8), .ref (ad (b + 6)), .ref (ad (b + 7))]) := by simp only [shp, fe_k hb]
theorem sh_X4 {b : Nat} (hb : isMo b) : shp ad cid M b = .inr (4, [.int (gM M b 0), .int (gM M b 1), .int (gM M b 2), .ref (ad (b + 1)), .ref (ad (b + 2)), .int (gM M b 5)]) := by simp only [shp, mo_k hb]
theorem ki_sh {t : Nat} (ht : isKi t) (M : Mem) : t < 126 ∧ ∃ (ci : Nat) (C : String) (T : u_T) (N : Nat), shp ad cid M t = .inr (ci, []) ∧ vwCl[ci]? = some (C, T, N) := by
  rcases ht with rfl | rfl | rfl | rfl | rfl | rfl <;> exact ⟨by decide, _, _, _, _, rfl, rfl⟩
theorem in_X2 : ∀ w ∈ u_ws RX2 TX2 11, w ∈ wAll := by decide +kernel
theorem in_X4 : ∀ w ∈ u_ws RX4 TX4 6, w ∈ wAll := by decide +kernel
theorem in_X8 : ∀ w ∈ u_ws RX8 TX8 3, w ∈ wAll := by decide +kernel
theorem in_X9 : ∀ w ∈ u_ws RX9 TX9 6, w ∈ wAll := by decide +kernel
theorem in_X10 : ∀ w ∈ u_ws RX10 TX10 6, w ∈ wAll := by decide +kernel
theorem in_X11 : ∀ w ∈ u_ws RX11 TX11 14, w ∈ wAll := by decide +kernel
theorem in_X12 : ∀ w ∈ u_ws RX12 TX12 27, w ∈ wAll := by decide +kernel
theorem gX11_109 (hC : Ok X ad cid cc RX11 nL ret fr lo) (hd : decode cc pc = .ok (.getfield 109, 3)) (kk : Jp X ad cid nL Q M (pc + 3) lv (.int (gM M 0 9) :: st) res) : Jp X ad cid nL Q M pc lv (.ref (ad 0) :: st) res :=
  j_get hC 9 (by decide) sh_X11 rfl in_X11 (by decide) rfl qw285 rfl hd kk
theorem gX11_44 (hC : Ok X ad cid cc RX11 nL ret fr lo) (hd : decode cc pc = .ok (.getfield 44, 3)) (kk : Jp X ad cid nL Q M (pc + 3) lv (.ref (ad 55) :: st) res) : Jp X ad cid nL Q M pc lv (.ref (ad 0) :: st) res :=
  j_get hC 7 (by decide) sh_X11 rfl in_X11 (by decide) rfl qw283 rfl hd kk
theorem gX11_48 (hC : Ok X ad cid cc RX11 nL ret fr lo) (hd : decode cc pc = .ok (.getfield 48, 3)) (kk : Jp X ad cid nL Q M (pc + 3) lv (.ref (ad 56) :: st) res) : Jp X ad cid nL Q M pc lv (.ref (ad 0) :: st) res :=
  j_get hC 8 (by decide) sh_X11 rfl in_X11 (by decide) rfl qw284 rfl hd kk
theorem gX2_34 (hC : Ok X ad cid cc RX2 nL ret fr lo) {b : Nat} (hb : isFe b) (hd : decode cc pc = .ok (.getfield 34, 3)) (kk : Jp X ad cid nL Q M (pc + 3) lv (.ref (ad (b + 7)) :: st) res) : Jp X ad cid nL Q M pc lv (.ref (ad b) :: st) res :=
  j_get hC 10 (fe_lt hb) (sh_X2 hb) rfl in_X2 (by decide) rfl qw125 rfl hd kk
theorem gX2_27 (hC : Ok X ad cid cc RX2 nL ret fr lo) {b : Nat} (hb : isFe b) (hd : decode cc pc = .ok (.getfield 27, 3)) (kk : Jp X ad cid nL Q M (pc + 3) lv (.int (gM M b 7) :: st) res) : Jp X ad cid nL Q M pc lv (.ref (ad b) :: st) res :=
  j_get hC 7 (fe_lt hb) (sh_X2 hb) rfl in_X2 (by decide) rfl qw119 rfl hd kk
theorem gX2_31 (hC : Ok X ad cid cc RX2 nL ret fr lo) {b : Nat} (hb : isFe b) (hd : decode cc pc = .ok (.getfield 31, 3)) (kk : Jp X ad cid nL Q M (pc + 3) lv (.ref (ad (b + 6)) :: st) res) : Jp X ad cid nL Q M pc lv (.ref (ad b) :: st) res :=
  j_get hC 9 (fe_lt hb) (sh_X2 hb) rfl in_X2 (by decide) rfl qw124 rfl hd kk
theorem gX4_76 (hC : Ok X ad cid cc RX4 nL ret fr lo) {b : Nat} (hb : isFe b) (hd : decode cc pc = .ok (.getfield 76, 3)) (kk : Jp X ad cid nL Q M (pc + 3) lv (.int (gM M b 0) :: st) res) : Jp X ad cid nL Q M pc lv (.ref (ad b) :: st) res :=
  j_getN hC 0 (fe_lt hb) (sh_X2 hb) rfl in_X2 (by decide) rfl qn103 rfl hd kk
theorem gX4_9 (hC : Ok X ad cid cc RX4 nL ret fr lo) {b : Nat} (hb : isMo b) (hd : decode cc pc = .ok (.getfield 9, 3)) (kk : Jp X ad cid nL Q M (pc + 3) lv (.ref (ad (b + 1)) :: st) res) : Jp X ad cid nL Q M pc lv (.ref (ad b) :: st) res :=
  j_get hC 3 (mo_lt hb) (sh_X4 hb) rfl in_X4 (by decide) rfl qw164 rfl hd kk
theorem gX4_79 (hC : Ok X ad cid cc RX4 nL ret fr lo) {b : Nat} (hb : isFe b) (hd : decode cc pc = .ok (.getfield 79, 3)) (kk : Jp X ad cid nL Q M (pc + 3) lv (.ref (ad (b + 2)) :: st) res) : Jp X ad cid nL Q M pc lv (.ref (ad b) :: st) res :=
  j_getN hC 2 (fe_lt hb) (sh_X2 hb) rfl in_X2 (by decide) rfl qn111 rfl hd kk
theorem pX4_29 (hC : Ok X ad cid cc RX4 nL ret fr lo) {b : Nat} (hb : isMo b) {v : Int32} (hd : decode cc pc = .ok (.putfield 29, 3)) (kk : Jp X ad cid nL Q (sM M b 2 v) (pc + 3) lv st res) : Jp X ad cid nL Q M pc lv (.int v :: .ref (ad b) :: st) res :=
  j_put hC (ty := .int) tyX4 2 (mo_lt hb) (sh_X4 hb) (by rw [sh_X4 hb]; simp [g_s, l_sL, l_sM, g_sL]) (sM_other M b 2 v) rfl in_X4 tyX4_ok nmX4 (by decide) rfl qw161 rfl (by decide +kernel) rfl rfl (Nat.le_of_ble_eq_true rfl) hd kk
theorem gX4_23 (hC : Ok X ad cid cc RX4 nL ret fr lo) {b : Nat} (hb : isMo b) (hd : decode cc pc = .ok (.getfield 23, 3)) (kk : Jp X ad cid nL Q M (pc + 3) lv (.int (gM M b 0) :: st) res) : Jp X ad cid nL Q M pc lv (.ref (ad b) :: st) res :=
  j_get hC 0 (mo_lt hb) (sh_X4 hb) rfl in_X4 (by decide) rfl qw156 rfl hd kk
theorem gX4_15 (hC : Ok X ad cid cc RX4 nL ret fr lo) {b : Nat} (hb : isMo b) (hd : decode cc pc = .ok (.getfield 15, 3)) (kk : Jp X ad cid nL Q M (pc + 3) lv (.ref (ad (b + 2)) :: st) res) : Jp X ad cid nL Q M pc lv (.ref (ad b) :: st) res :=
  j_get hC 4 (mo_lt hb) (sh_X4 hb) rfl in_X4 (by decide) rfl qw165 rfl hd kk
theorem pX4_19 (hC : Ok X ad cid cc RX4 nL ret fr lo) {b : Nat} (hb : isMo b) {v : Int32} (hd : decode cc pc = .ok (.putfield 19, 3)) (kk : Jp X ad cid nL Q (sM M b 5 v) (pc + 3) lv st res) : Jp X ad cid nL Q M pc lv (.int v :: .ref (ad b) :: st) res :=
  j_put hC (ty := .int) tyX4 5 (mo_lt hb) (sh_X4 hb) (by rw [sh_X4 hb]; simp [g_s, l_sL, l_sM, g_sL]) (sM_other M b 5 v) rfl in_X4 tyX4_ok nmX4 (by decide) rfl qw168 rfl (by decide +kernel) rfl rfl (Nat.le_of_ble_eq_true rfl) hd kk
theorem pX4_23 (hC : Ok X ad cid cc RX4 nL ret fr lo) {b : Nat} (hb : isMo b) {v : Int32} (hd : decode cc pc = .ok (.putfield 23, 3)) (kk : Jp X ad cid nL Q (sM M b 0 v) (pc + 3) lv st res) : Jp X ad cid nL Q M pc lv (.int v :: .ref (ad b) :: st) res :=
  j_put hC (ty := .int) tyX4 0 (mo_lt hb) (sh_X4 hb) (by rw [sh_X4 hb]; simp [g_s, l_sL, l_sM, g_sL]) (sM_other M b 0 v) rfl in_X4 tyX4_ok nmX4 (by decide) rfl qw156 rfl (by decide +kernel) rfl rfl (Nat.le_of_ble_eq_true rfl) hd kk
theorem gX4_19 (hC : Ok X ad cid cc RX4 nL ret fr lo) {b : Nat} (hb : isMo b) (hd : decode cc pc = .ok (.getfield 19, 3)) (kk : Jp X ad cid nL Q M (pc + 3) lv (.int (gM M b 5) :: st) res) : Jp X ad cid nL Q M pc lv (.ref (ad b) :: st) res :=
  j_get hC 5 (mo_lt hb) (sh_X4 hb) rfl in_X4 (by decide) rfl qw168 rfl hd kk
theorem gX4_26 (hC : Ok X ad cid cc RX4 nL ret fr lo) {b : Nat} (hb : isMo b) (hd : decode cc pc = .ok (.getfield 26, 3)) (kk : Jp X ad cid nL Q M (pc + 3) lv (.int (gM M b 1) :: st) res) : Jp X ad cid nL Q M pc lv (.ref (ad b) :: st) res :=
  j_get hC 1 (mo_lt hb) (sh_X4 hb) rfl in_X4 (by decide) rfl qw158 rfl hd kk
theorem gX4_29 (hC : Ok X ad cid cc RX4 nL ret fr lo) {b : Nat} (hb : isMo b) (hd : decode cc pc = .ok (.getfield 29, 3)) (kk : Jp X ad cid nL Q M (pc + 3) lv (.int (gM M b 2) :: st) res) : Jp X ad cid nL Q M pc lv (.ref (ad b) :: st) res :=
  j_get hC 2 (mo_lt hb) (sh_X4 hb) rfl in_X4 (by decide) rfl qw161 rfl hd kk
theorem pX4_26 (hC : Ok X ad cid cc RX4 nL ret fr lo) {b : Nat} (hb : isMo b) {v : Int32} (hd : decode cc pc = .ok (.putfield 26, 3)) (kk : Jp X ad cid nL Q (sM M b 1 v) (pc + 3) lv st res) : Jp X ad cid nL Q M pc lv (.int v :: .ref (ad b) :: st) res :=
  j_put hC (ty := .int) tyX4 1 (mo_lt hb) (sh_X4 hb) (by rw [sh_X4 hb]; simp [g_s, l_sL, l_sM, g_sL]) (sM_other M b 1 v) rfl in_X4 tyX4_ok nmX4 (by decide) rfl qw158 rfl (by decide +kernel) rfl rfl (Nat.le_of_ble_eq_true rfl) hd kk
theorem gX11_131 (hC : Ok X ad cid cc RX11 nL ret fr lo) {b : Nat} (hb : isMo b) (hd : decode cc pc = .ok (.getfield 131, 3)) (kk : Jp X ad cid nL Q M (pc + 3) lv (.int (gM M b 2) :: st) res) : Jp X ad cid nL Q M pc lv (.ref (ad b) :: st) res :=
  j_getN hC 2 (mo_lt hb) (sh_X4 hb) rfl in_X4 (by decide) rfl qn163 rfl hd kk
theorem gX11_19 (hC : Ok X ad cid cc RX11 nL ret fr lo) (hd : decode cc pc = .ok (.getfield 19, 3)) (kk : Jp X ad cid nL Q M (pc + 3) lv (.ref (ad (feB (gM M 0 1))) :: st) res) : Jp X ad cid nL Q M pc lv (.ref (ad 0) :: st) res :=
  j_get hC 1 (by decide) sh_X11 rfl in_X11 (by decide) rfl qw277 rfl hd kk
theorem pX8_16 (hC : Ok X ad cid cc RX8 nL ret fr lo) {v : Int32} (hd : decode cc pc = .ok (.putfield 16, 3)) (kk : Jp X ad cid nL Q (sM M 22 2 v) (pc + 3) lv st res) : Jp X ad cid nL Q M pc lv (.int v :: .ref (ad 22) :: st) res :=
  j_put hC (ty := .int) tyX8 2 (by decide) sh_X8 (by rw [sh_X8]; simp [g_s, l_sL, l_sM, g_sL]) (sM_other M 22 2 v) rfl in_X8 tyX8_ok nmX8 (by decide) rfl qw194 rfl (by decide +kernel) rfl rfl (Nat.le_of_ble_eq_true rfl) hd kk
theorem gX11_106 (hC : Ok X ad cid cc RX11 nL ret fr lo) (hd : decode cc pc = .ok (.getfield 106, 3)) (kk : Jp X ad cid nL Q M (pc + 3) lv (.int (gM M 0 6) :: st) res) : Jp X ad cid nL Q M pc lv (.ref (ad 0) :: st) res :=
  j_get hC 6 (by decide) sh_X11 rfl in_X11 (by decide) rfl qw282 rfl hd kk
theorem gX11_29 (hC : Ok X ad cid cc RX11 nL ret fr lo) (hd : decode cc pc = .ok (.getfield 29, 3)) (kk : Jp X ad cid nL Q M (pc + 3) lv (.ref (ad 19) :: st) res) : Jp X ad cid nL Q M pc lv (.ref (ad 0) :: st) res :=
  j_get hC 3 (by decide) sh_X11 rfl in_X11 (by decide) rfl qw279 rfl hd kk
theorem gX11_40 (hC : Ok X ad cid cc RX11 nL ret fr lo) (hd : decode cc pc = .ok (.getfield 40, 3)) (kk : Jp X ad cid nL Q M (pc + 3) lv (.ref (ad 54) :: st) res) : Jp X ad cid nL Q M pc lv (.ref (ad 0) :: st) res :=
  j_get hC 5 (by decide) sh_X11 rfl in_X11 (by decide) rfl qw281 rfl hd kk
theorem gX11_36 (hC : Ok X ad cid cc RX11 nL ret fr lo) (hd : decode cc pc = .ok (.getfield 36, 3)) (kk : Jp X ad cid nL Q M (pc + 3) lv (.ref (ad 22) :: st) res) : Jp X ad cid nL Q M pc lv (.ref (ad 0) :: st) res :=
  j_get hC 4 (by decide) sh_X11 rfl in_X11 (by decide) rfl qw280 rfl hd kk
theorem gX11_137 (hC : Ok X ad cid cc RX11 nL ret fr lo) {b : Nat} (hb : isMo b) (hd : decode cc pc = .ok (.getfield 137, 3)) (kk : Jp X ad cid nL Q M (pc + 3) lv (.int (gM M b 0) :: st) res) : Jp X ad cid nL Q M pc lv (.ref (ad b) :: st) res :=
  j_getN hC 0 (mo_lt hb) (sh_X4 hb) rfl in_X4 (by decide) rfl qn157 rfl hd kk
theorem gX11_140 (hC : Ok X ad cid cc RX11 nL ret fr lo) {b : Nat} (hb : isMo b) (hd : decode cc pc = .ok (.getfield 140, 3)) (kk : Jp X ad cid nL Q M (pc + 3) lv (.int (gM M b 1) :: st) res) : Jp X ad cid nL Q M pc lv (.ref (ad b) :: st) res :=
  j_getN hC 1 (mo_lt hb) (sh_X4 hb) rfl in_X4 (by decide) rfl qn160 rfl hd kk
theorem gX8_20 (hC : Ok X ad cid cc RX8 nL ret fr lo) (hd : decode cc pc = .ok (.getfield 20, 3)) (kk : Jp X ad cid nL Q M (pc + 3) lv (.int (gM M 22 1) :: st) res) : Jp X ad cid nL Q M pc lv (.ref (ad 22) :: st) res :=
  j_get hC 1 (by decide) sh_X8 rfl in_X8 (by decide) rfl qw193 rfl hd kk
theorem pX8_20 (hC : Ok X ad cid cc RX8 nL ret fr lo) {v : Int32} (hd : decode cc pc = .ok (.putfield 20, 3)) (kk : Jp X ad cid nL Q (sM M 22 1 v) (pc + 3) lv st res) : Jp X ad cid nL Q M pc lv (.int v :: .ref (ad 22) :: st) res :=
  j_put hC (ty := .int) tyX8 1 (by decide) sh_X8 (by rw [sh_X8]; simp [g_s, l_sL, l_sM, g_sL]) (sM_other M 22 1 v) rfl in_X8 tyX8_ok nmX8 (by decide) rfl qw193 rfl (by decide +kernel) rfl rfl (Nat.le_of_ble_eq_true rfl) hd kk
theorem gX8_11 (hC : Ok X ad cid cc RX8 nL ret fr lo) (hd : decode cc pc = .ok (.getfield 11, 3)) (kk : Jp X ad cid nL Q M (pc + 3) lv (.ref (ad 23) :: st) res) : Jp X ad cid nL Q M pc lv (.ref (ad 22) :: st) res :=
  j_get hC 0 (by decide) sh_X8 rfl in_X8 (by decide) rfl qw192 rfl hd kk
theorem gX8_16 (hC : Ok X ad cid cc RX8 nL ret fr lo) (hd : decode cc pc = .ok (.getfield 16, 3)) (kk : Jp X ad cid nL Q M (pc + 3) lv (.int (gM M 22 2) :: st) res) : Jp X ad cid nL Q M pc lv (.ref (ad 22) :: st) res :=
  j_get hC 2 (by decide) sh_X8 rfl in_X8 (by decide) rfl qw194 rfl hd kk
theorem gX11_51 (hC : Ok X ad cid cc RX11 nL ret fr lo) (hd : decode cc pc = .ok (.getfield 51, 3)) (kk : Jp X ad cid nL Q M (pc + 3) lv (.ref (ad 57) :: st) res) : Jp X ad cid nL Q M pc lv (.ref (ad 0) :: st) res :=
  j_get hC 10 (by decide) sh_X11 rfl in_X11 (by decide) rfl qw286 rfl hd kk
theorem gX11_189 (hC : Ok X ad cid cc RX11 nL ret fr lo) {b : Nat} (hb : isFe b) (hd : decode cc pc = .ok (.getfield 189, 3)) (kk : Jp X ad cid nL Q M (pc + 3) lv (.int (gM M b 0) :: st) res) : Jp X ad cid nL Q M pc lv (.ref (ad b) :: st) res :=
  j_getN hC 0 (fe_lt hb) (sh_X2 hb) rfl in_X2 (by decide) rfl qn104 rfl hd kk
theorem gX11_10 (hC : Ok X ad cid cc RX11 nL ret fr lo) (hd : decode cc pc = .ok (.getfield 10, 3)) (kk : Jp X ad cid nL Q M (pc + 3) lv (.ref (ad 1) :: st) res) : Jp X ad cid nL Q M pc lv (.ref (ad 0) :: st) res :=
  j_get hC 0 (by decide) sh_X11 rfl in_X11 (by decide) rfl qw276 rfl hd kk
theorem gX11_91 (hC : Ok X ad cid cc RX11 nL ret fr lo) (hd : decode cc pc = .ok (.getfield 91, 3)) (kk : Jp X ad cid nL Q M (pc + 3) lv (.int (gM M 1 1) :: st) res) : Jp X ad cid nL Q M pc lv (.ref (ad 1) :: st) res :=
  j_getN hC 1 (by decide) sh_X10 rfl in_X10 (by decide) rfl qn75 rfl hd kk
theorem pX11_91 (hC : Ok X ad cid cc RX11 nL ret fr lo) {v : Int32} (hd : decode cc pc = .ok (.putfield 91, 3)) (kk : Jp X ad cid nL Q (sM M 1 1 v) (pc + 3) lv st res) : Jp X ad cid nL Q M pc lv (.int v :: .ref (ad 1) :: st) res :=
  j_putN hC (ty := .int) tyX10 1 (by decide) sh_X10 (by rw [sh_X10]; simp [g_s, l_sL, l_sM, g_sL]) (sM_other M 1 1 v) rfl in_X10 tyX10_ok nmX10 (by decide) rfl qn75 rfl (by decide +kernel) rfl rfl (Nat.le_of_ble_eq_true rfl) hd kk
theorem gX11_259 (hC : Ok X ad cid cc RX11 nL ret fr lo) {b : Nat} (hb : isFe b) (hd : decode cc pc = .ok (.getfield 259, 3)) (kk : Jp X ad cid nL Q M (pc + 3) lv (.int (gM M b 7) :: st) res) : Jp X ad cid nL Q M pc lv (.ref (ad b) :: st) res :=
  j_getN hC 7 (fe_lt hb) (sh_X2 hb) rfl in_X2 (by decide) rfl qn121 rfl hd kk
theorem gX11_262 (hC : Ok X ad cid cc RX11 nL ret fr lo) {b : Nat} (hb : isFe b) (hd : decode cc pc = .ok (.getfield 262, 3)) (kk : Jp X ad cid nL Q M (pc + 3) lv (.int (gM M b 4) :: st) res) : Jp X ad cid nL Q M pc lv (.ref (ad b) :: st) res :=
  j_getN hC 4 (fe_lt hb) (sh_X2 hb) rfl in_X2 (by decide) rfl qn116 rfl hd kk
theorem pX2_37 (hC : Ok X ad cid cc RX2 nL ret fr lo) {b : Nat} (hb : isFe b) {v : Int32} (hd : decode cc pc = .ok (.putfield 37, 3)) (kk : Jp X ad cid nL Q (sM M b 0 v) (pc + 3) lv st res) : Jp X ad cid nL Q M pc lv (.int v :: .ref (ad b) :: st) res :=
  j_put hC (ty := .int) tyX2 0 (fe_lt hb) (sh_X2 hb) (by rw [sh_X2 hb]; simp [g_s, l_sL, l_sM, g_sL]) (sM_other M b 0 v) rfl in_X2 tyX2_ok nmX2 (by decide) rfl qw100 rfl (by decide +kernel) rfl rfl (Nat.le_of_ble_eq_true rfl) hd kk
theorem pX2_40 (hC : Ok X ad cid cc RX2 nL ret fr lo) {b : Nat} (hb : isFe b) {v : Int32} (hd : decode cc pc = .ok (.putfield 40, 3)) (kk : Jp X ad cid nL Q (sM M b 4 v) (pc + 3) lv st res) : Jp X ad cid nL Q M pc lv (.int v :: .ref (ad b) :: st) res :=
  j_put hC (ty := .int) tyX2 4 (fe_lt hb) (sh_X2 hb) (by rw [sh_X2 hb]; simp [g_s, l_sL, l_sM, g_sL]) (sM_other M b 4 v) rfl in_X2 tyX2_ok nmX2 (by decide) rfl qw114 rfl (by decide +kernel) rfl rfl (Nat.le_of_ble_eq_true rfl) hd kk
theorem pX2_27 (hC : Ok X ad cid cc RX2 nL ret fr lo) {b : Nat} (hb : isFe b) {v : Int32} (hd : decode cc pc = .ok (.putfield 27, 3)) (kk : Jp X ad cid nL Q (sM M b 7 v) (pc + 3) lv st res) : Jp X ad cid nL Q M pc lv (.int v :: .ref (ad b) :: st) res :=
  j_put hC (ty := .int) tyX2 7 (fe_lt hb) (sh_X2 hb) (by rw [sh_X2 hb]; simp [g_s, l_sL, l_sM, g_sL]) (sM_other M b 7 v) rfl in_X2 tyX2_ok nmX2 (by decide) rfl qw119 rfl (by decide +kernel) rfl rfl (Nat.le_of_ble_eq_true rfl) hd kk
theorem pX2_43 (hC : Ok X ad cid cc RX2 nL ret fr lo) {b : Nat} (hb : isFe b) {v : Int32} (hv : v = 0 ∨ v = 1) (hd : decode cc pc = .ok (.putfield 43, 3)) (kk : Jp X ad cid nL Q (sM M b 8 v) (pc + 3) lv st res) : Jp X ad cid nL Q M pc lv (.int v :: .ref (ad b) :: st) res :=
  j_put hC (ty := .boolean) tyX2 8 (fe_lt hb) (sh_X2 hb) (by rw [sh_X2 hb]; simp [g_s, l_sL, l_sM, g_sL]) (sM_other M b 8 v) rfl in_X2 tyX2_ok nmX2 (by decide) rfl qw122 rfl (by decide +kernel) (by rcases hv with rfl | rfl <;> rfl) (by rcases hv with rfl | rfl <;> rfl) (Nat.le_of_ble_eq_true rfl) hd kk
theorem gX2_40 (hC : Ok X ad cid cc RX2 nL ret fr lo) {b : Nat} (hb : isFe b) (hd : decode cc pc = .ok (.getfield 40, 3)) (kk : Jp X ad cid nL Q M (pc + 3) lv (.int (gM M b 4) :: st) res) : Jp X ad cid nL Q M pc lv (.ref (ad b) :: st) res :=
  j_get hC 4 (fe_lt hb) (sh_X2 hb) rfl in_X2 (by decide) rfl qw114 rfl hd kk
theorem gX2_21 (hC : Ok X ad cid cc RX2 nL ret fr lo) {b : Nat} (hb : isFe b) (hd : decode cc pc = .ok (.getfield 21, 3)) (kk : Jp X ad cid nL Q M (pc + 3) lv (.ref (ad (b + 4)) :: st) res) : Jp X ad cid nL Q M pc lv (.ref (ad b) :: st) res :=
  j_get hC 5 (fe_lt hb) (sh_X2 hb) rfl in_X2 (by decide) rfl qw117 rfl hd kk
theorem gX2_24 (hC : Ok X ad cid cc RX2 nL ret fr lo) {b : Nat} (hb : isFe b) (hd : decode cc pc = .ok (.getfield 24, 3)) (kk : Jp X ad cid nL Q M (pc + 3) lv (.ref (ad (b + 5)) :: st) res) : Jp X ad cid nL Q M pc lv (.ref (ad b) :: st) res :=
  j_get hC 6 (fe_lt hb) (sh_X2 hb) rfl in_X2 (by decide) rfl qw118 rfl hd kk
theorem gX2_37 (hC : Ok X ad cid cc RX2 nL ret fr lo) {b : Nat} (hb : isFe b) (hd : decode cc pc = .ok (.getfield 37, 3)) (kk : Jp X ad cid nL Q M (pc + 3) lv (.int (gM M b 0) :: st) res) : Jp X ad cid nL Q M pc lv (.ref (ad b) :: st) res :=
  j_get hC 0 (fe_lt hb) (sh_X2 hb) rfl in_X2 (by decide) rfl qw100 rfl hd kk
theorem gX2_18 (hC : Ok X ad cid cc RX2 nL ret fr lo) {b : Nat} (hb : isFe b) (hd : decode cc pc = .ok (.getfield 18, 3)) (kk : Jp X ad cid nL Q M (pc + 3) lv (.ref (ad (b + 3)) :: st) res) : Jp X ad cid nL Q M pc lv (.ref (ad b) :: st) res :=
  j_get hC 3 (fe_lt hb) (sh_X2 hb) rfl in_X2 (by decide) rfl qw112 rfl hd kk
theorem gX2_9 (hC : Ok X ad cid cc RX2 nL ret fr lo) {b : Nat} (hb : isFe b) (hd : decode cc pc = .ok (.getfield 9, 3)) (kk : Jp X ad cid nL Q M (pc + 3) lv (.ref (ad (b + 1)) :: st) res) : Jp X ad cid nL Q M pc lv (.ref (ad b) :: st) res :=
  j_get hC 1 (fe_lt hb) (sh_X2 hb) rfl in_X2 (by decide) rfl qw105 rfl hd kk
theorem pX10_70 (hC : Ok X ad cid cc RX10 nL ret fr lo) {v : Int32} (hd : decode cc pc = .ok (.putfield 70, 3)) (kk : Jp X ad cid nL Q (sM M 1 5 v) (pc + 3) lv st res) : Jp X ad cid nL Q M pc lv (.int v :: .ref (ad 1) :: st) res :=
  j_put hC (ty := .int) tyX10 5 (by decide) sh_X10 (by rw [sh_X10]; simp [g_s, l_sL, l_sM, g_sL]) (sM_other M 1 5 v) rfl in_X10 tyX10_ok nmX10 (by decide) rfl qw79 rfl (by decide +kernel) rfl rfl (Nat.le_of_ble_eq_true rfl) hd kk
theorem gX10_24 (hC : Ok X ad cid cc RX10 nL ret fr lo) (hd : decode cc pc = .ok (.getfield 24, 3)) (kk : Jp X ad cid nL Q M (pc + 3) lv (.int (gM M 1 2) :: st) res) : Jp X ad cid nL Q M pc lv (.ref (ad 1) :: st) res :=
  j_get hC 2 (by decide) sh_X10 rfl in_X10 (by decide) rfl qw76 rfl hd kk
theorem gX10_15 (hC : Ok X ad cid cc RX10 nL ret fr lo) (hd : decode cc pc = .ok (.getfield 15, 3)) (kk : Jp X ad cid nL Q M (pc + 3) lv (.int (gM M 1 1) :: st) res) : Jp X ad cid nL Q M pc lv (.ref (ad 1) :: st) res :=
  j_get hC 1 (by decide) sh_X10 rfl in_X10 (by decide) rfl qw74 rfl hd kk
theorem gX10_9 (hC : Ok X ad cid cc RX10 nL ret fr lo) (hd : decode cc pc = .ok (.getfield 9, 3)) (kk : Jp X ad cid nL Q M (pc + 3) lv (.ref (ad 2) :: st) res) : Jp X ad cid nL Q M pc lv (.ref (ad 1) :: st) res :=
  j_get hC 0 (by decide) sh_X10 rfl in_X10 (by decide) rfl qw73 rfl hd kk
theorem gX10_70 (hC : Ok X ad cid cc RX10 nL ret fr lo) (hd : decode cc pc = .ok (.getfield 70, 3)) (kk : Jp X ad cid nL Q M (pc + 3) lv (.int (gM M 1 5) :: st) res) : Jp X ad cid nL Q M pc lv (.ref (ad 1) :: st) res :=
  j_get hC 5 (by decide) sh_X10 rfl in_X10 (by decide) rfl qw79 rfl hd kk
theorem pX10_24 (hC : Ok X ad cid cc RX10 nL ret fr lo) {v : Int32} (hd : decode cc pc = .ok (.putfield 24, 3)) (kk : Jp X ad cid nL Q (sM M 1 2 v) (pc + 3) lv st res) : Jp X ad cid nL Q M pc lv (.int v :: .ref (ad 1) :: st) res :=
  j_put hC (ty := .int) tyX10 2 (by decide) sh_X10 (by rw [sh_X10]; simp [g_s, l_sL, l_sM, g_sL]) (sM_other M 1 2 v) rfl in_X10 tyX10_ok nmX10 (by decide) rfl qw76 rfl (by decide +kernel) rfl rfl (Nat.le_of_ble_eq_true rfl) hd kk
theorem gX10_41 (hC : Ok X ad cid cc RX10 nL ret fr lo) (hd : decode cc pc = .ok (.getfield 41, 3)) (kk : Jp X ad cid nL Q M (pc + 3) lv (.int (gM M 1 4) :: st) res) : Jp X ad cid nL Q M pc lv (.ref (ad 1) :: st) res :=
  j_get hC 4 (by decide) sh_X10 rfl in_X10 (by decide) rfl qw78 rfl hd kk
theorem pX10_30 (hC : Ok X ad cid cc RX10 nL ret fr lo) {v : Int32} (hd : decode cc pc = .ok (.putfield 30, 3)) (kk : Jp X ad cid nL Q (sM M 1 3 v) (pc + 3) lv st res) : Jp X ad cid nL Q M pc lv (.int v :: .ref (ad 1) :: st) res :=
  j_put hC (ty := .int) tyX10 3 (by decide) sh_X10 (by rw [sh_X10]; simp [g_s, l_sL, l_sM, g_sL]) (sM_other M 1 3 v) rfl in_X10 tyX10_ok nmX10 (by decide) rfl qw77 rfl (by decide +kernel) rfl rfl (Nat.le_of_ble_eq_true rfl) hd kk
theorem pX10_41 (hC : Ok X ad cid cc RX10 nL ret fr lo) {v : Int32} (hd : decode cc pc = .ok (.putfield 41, 3)) (kk : Jp X ad cid nL Q (sM M 1 4 v) (pc + 3) lv st res) : Jp X ad cid nL Q M pc lv (.int v :: .ref (ad 1) :: st) res :=
  j_put hC (ty := .int) tyX10 4 (by decide) sh_X10 (by rw [sh_X10]; simp [g_s, l_sL, l_sM, g_sL]) (sM_other M 1 4 v) rfl in_X10 tyX10_ok nmX10 (by decide) rfl qw78 rfl (by decide +kernel) rfl rfl (Nat.le_of_ble_eq_true rfl) hd kk
theorem gX10_30 (hC : Ok X ad cid cc RX10 nL ret fr lo) (hd : decode cc pc = .ok (.getfield 30, 3)) (kk : Jp X ad cid nL Q M (pc + 3) lv (.int (gM M 1 3) :: st) res) : Jp X ad cid nL Q M pc lv (.ref (ad 1) :: st) res :=
  j_get hC 3 (by decide) sh_X10 rfl in_X10 (by decide) rfl qw77 rfl hd kk
theorem gX2_15 (hC : Ok X ad cid cc RX2 nL ret fr lo) {b : Nat} (hb : isFe b) (hd : decode cc pc = .ok (.getfield 15, 3)) (kk : Jp X ad cid nL Q M (pc + 3) lv (.ref (ad (b + 2)) :: st) res) : Jp X ad cid nL Q M pc lv (.ref (ad b) :: st) res :=
  j_get hC 2 (fe_lt hb) (sh_X2 hb) rfl in_X2 (by decide) rfl qw108 rfl hd kk
theorem pX10_85 (hC : Ok X ad cid cc RX10 nL ret fr lo) {b : Nat} (hb : isFe b) {v : Int32} (hd : decode cc pc = .ok (.putfield 85, 3)) (kk : Jp X ad cid nL Q (sM M b 7 v) (pc + 3) lv st res) : Jp X ad cid nL Q M pc lv (.int v :: .ref (ad b) :: st) res :=
  j_putN hC (ty := .int) tyX2 7 (fe_lt hb) (sh_X2 hb) (by rw [sh_X2 hb]; simp [g_s, l_sL, l_sM, g_sL]) (sM_other M b 7 v) rfl in_X2 tyX2_ok nmX2 (by decide) rfl qn120 rfl (by decide +kernel) rfl rfl (Nat.le_of_ble_eq_true rfl) hd kk
theorem pX10_59 (hC : Ok X ad cid cc RX10 nL ret fr lo) {b : Nat} (hb : isFe b) {v : Int32} (hv : v = 0 ∨ v = 1) (hd : decode cc pc = .ok (.putfield 59, 3)) (kk : Jp X ad cid nL Q (sM M b 8 v) (pc + 3) lv st res) : Jp X ad cid nL Q M pc lv (.int v :: .ref (ad b) :: st) res :=
  j_putN hC (ty := .boolean) tyX2 8 (fe_lt hb) (sh_X2 hb) (by rw [sh_X2 hb]; simp [g_s, l_sL, l_sM, g_sL]) (sM_other M b 8 v) rfl in_X2 tyX2_ok nmX2 (by decide) rfl qn123 rfl (by decide +kernel) (by rcases hv with rfl | rfl <;> rfl) (by rcases hv with rfl | rfl <;> rfl) (Nat.le_of_ble_eq_true rfl) hd kk
theorem gX10_53 (hC : Ok X ad cid cc RX10 nL ret fr lo) {b : Nat} (hb : isFe b) (hd : decode cc pc = .ok (.getfield 53, 3)) (kk : Jp X ad cid nL Q M (pc + 3) lv (.int (gM M b 4) :: st) res) : Jp X ad cid nL Q M pc lv (.ref (ad b) :: st) res :=
  j_getN hC 4 (fe_lt hb) (sh_X2 hb) rfl in_X2 (by decide) rfl qn115 rfl hd kk
theorem gX10_47 (hC : Ok X ad cid cc RX10 nL ret fr lo) {b : Nat} (hb : isFe b) (hd : decode cc pc = .ok (.getfield 47, 3)) (kk : Jp X ad cid nL Q M (pc + 3) lv (.int (gM M b 0) :: st) res) : Jp X ad cid nL Q M pc lv (.ref (ad b) :: st) res :=
  j_getN hC 0 (fe_lt hb) (sh_X2 hb) rfl in_X2 (by decide) rfl qn102 rfl hd kk
theorem gX10_59 (hC : Ok X ad cid cc RX10 nL ret fr lo) {b : Nat} (hb : isFe b) (hd : decode cc pc = .ok (.getfield 59, 3)) (kk : Jp X ad cid nL Q M (pc + 3) lv (.int (gM M b 8) :: st) res) : Jp X ad cid nL Q M pc lv (.ref (ad b) :: st) res :=
  j_getN hC 8 (fe_lt hb) (sh_X2 hb) rfl in_X2 (by decide) rfl qn123 rfl hd kk
theorem gX11_23 (hC : Ok X ad cid cc RX11 nL ret fr lo) (hd : decode cc pc = .ok (.getfield 23, 3)) (kk : Jp X ad cid nL Q M (pc + 3) lv (.ref (ad (feB (gM M 0 2))) :: st) res) : Jp X ad cid nL Q M pc lv (.ref (ad 0) :: st) res :=
  j_get hC 2 (by decide) sh_X11 rfl in_X11 (by decide) rfl qw278 rfl hd kk
theorem pX11_19 (hC : Ok X ad cid cc RX11 nL ret fr lo) {v : Int32} (hd : decode cc pc = .ok (.putfield 19, 3)) (kk : Jp X ad cid nL Q (sM M 0 1 v) (pc + 3) lv st res) : Jp X ad cid nL Q M pc lv (.ref (ad (feB v)) :: .ref (ad 0) :: st) res :=
  j_put hC (ty := .object "LastRower$Ferry") tyX11 1 (by decide) sh_X11 (by rw [sh_X11]; simp [g_s, l_sL, l_sM, g_sL]) (sM_other M 0 1 v) rfl in_X11 tyX11_ok nmX11 (by decide) rfl qw277 rfl (by decide +kernel) rfl rfl (Nat.le_of_ble_eq_true rfl) hd kk
theorem pX11_23 (hC : Ok X ad cid cc RX11 nL ret fr lo) {v : Int32} (hd : decode cc pc = .ok (.putfield 23, 3)) (kk : Jp X ad cid nL Q (sM M 0 2 v) (pc + 3) lv st res) : Jp X ad cid nL Q M pc lv (.ref (ad (feB v)) :: .ref (ad 0) :: st) res :=
  j_put hC (ty := .object "LastRower$Ferry") tyX11 2 (by decide) sh_X11 (by rw [sh_X11]; simp [g_s, l_sL, l_sM, g_sL]) (sM_other M 0 2 v) rfl in_X11 tyX11_ok nmX11 (by decide) rfl qw278 rfl (by decide +kernel) rfl rfl (Nat.le_of_ble_eq_true rfl) hd kk
theorem pX11_106 (hC : Ok X ad cid cc RX11 nL ret fr lo) {v : Int32} (hd : decode cc pc = .ok (.putfield 106, 3)) (kk : Jp X ad cid nL Q (sM M 0 6 v) (pc + 3) lv st res) : Jp X ad cid nL Q M pc lv (.int v :: .ref (ad 0) :: st) res :=
  j_put hC (ty := .int) tyX11 6 (by decide) sh_X11 (by rw [sh_X11]; simp [g_s, l_sL, l_sM, g_sL]) (sM_other M 0 6 v) rfl in_X11 tyX11_ok nmX11 (by decide) rfl qw282 rfl (by decide +kernel) rfl rfl (Nat.le_of_ble_eq_true rfl) hd kk
theorem pX11_109 (hC : Ok X ad cid cc RX11 nL ret fr lo) {v : Int32} (hd : decode cc pc = .ok (.putfield 109, 3)) (kk : Jp X ad cid nL Q (sM M 0 9 v) (pc + 3) lv st res) : Jp X ad cid nL Q M pc lv (.int v :: .ref (ad 0) :: st) res :=
  j_put hC (ty := .int) tyX11 9 (by decide) sh_X11 (by rw [sh_X11]; simp [g_s, l_sL, l_sM, g_sL]) (sM_other M 0 9 v) rfl in_X11 tyX11_ok nmX11 (by decide) rfl qw285 rfl (by decide +kernel) rfl rfl (Nat.le_of_ble_eq_true rfl) hd kk
theorem gX11_192 (hC : Ok X ad cid cc RX11 nL ret fr lo) {b : Nat} (hb : isMo b) (hd : decode cc pc = .ok (.getfield 192, 3)) (kk : Jp X ad cid nL Q M (pc + 3) lv (.int (gM M b 5) :: st) res) : Jp X ad cid nL Q M pc lv (.ref (ad b) :: st) res :=
  j_getN hC 5 (mo_lt hb) (sh_X4 hb) rfl in_X4 (by decide) rfl qn169 rfl hd kk
theorem gX11_154 (hC : Ok X ad cid cc RX11 nL ret fr lo) (hd : decode cc pc = .ok (.getfield 154, 3)) (kk : Jp X ad cid nL Q M (pc + 3) lv (.int (gM M 22 2) :: st) res) : Jp X ad cid nL Q M pc lv (.ref (ad 22) :: st) res :=
  j_getN hC 2 (by decide) sh_X8 rfl in_X8 (by decide) rfl qn195 rfl hd kk
theorem gX11_115 (hC : Ok X ad cid cc RX11 nL ret fr lo) {b : Nat} (hb : isFe b) (hd : decode cc pc = .ok (.getfield 115, 3)) (kk : Jp X ad cid nL Q M (pc + 3) lv (.ref (ad (b + 1)) :: st) res) : Jp X ad cid nL Q M pc lv (.ref (ad b) :: st) res :=
  j_getN hC 1 (fe_lt hb) (sh_X2 hb) rfl in_X2 (by decide) rfl qn107 rfl hd kk
theorem gX11_118 (hC : Ok X ad cid cc RX11 nL ret fr lo) {b : Nat} (hb : isFe b) (hd : decode cc pc = .ok (.getfield 118, 3)) (kk : Jp X ad cid nL Q M (pc + 3) lv (.ref (ad (b + 2)) :: st) res) : Jp X ad cid nL Q M pc lv (.ref (ad b) :: st) res :=
  j_getN hC 2 (fe_lt hb) (sh_X2 hb) rfl in_X2 (by decide) rfl qn110 rfl hd kk
theorem gX11_121 (hC : Ok X ad cid cc RX11 nL ret fr lo) {b : Nat} (hb : isFe b) (hd : decode cc pc = .ok (.getfield 121, 3)) (kk : Jp X ad cid nL Q M (pc + 3) lv (.ref (ad (b + 3)) :: st) res) : Jp X ad cid nL Q M pc lv (.ref (ad b) :: st) res :=
  j_getN hC 3 (fe_lt hb) (sh_X2 hb) rfl in_X2 (by decide) rfl qn113 rfl hd kk
theorem gX11_128 (hC : Ok X ad cid cc RX11 nL ret fr lo) {b : Nat} (hb : isMo b) (hd : decode cc pc = .ok (.getfield 128, 3)) (kk : Jp X ad cid nL Q M (pc + 3) lv (.ref (ad (b + 2)) :: st) res) : Jp X ad cid nL Q M pc lv (.ref (ad b) :: st) res :=
  j_getN hC 4 (mo_lt hb) (sh_X4 hb) rfl in_X4 (by decide) rfl qn167 rfl hd kk
theorem gX9_11 (hC : Ok X ad cid cc RX9 nL ret fr lo) (hd : decode cc pc = .ok (.getfield 11, 3)) (kk : Jp X ad cid nL Q M (pc + 3) lv (.ref (ad 59) :: st) res) : Jp X ad cid nL Q M pc lv (.ref (ad 58) :: st) res :=
  j_get hC 0 (by decide) sh_X9 rfl in_X9 (by decide) rfl qw211 rfl hd kk
theorem gX9_38 (hC : Ok X ad cid cc RX9 nL ret fr lo) (hd : decode cc pc = .ok (.getfield 38, 3)) (kk : Jp X ad cid nL Q M (pc + 3) lv (.int (gM M 58 5) :: st) res) : Jp X ad cid nL Q M pc lv (.ref (ad 58) :: st) res :=
  j_get hC 5 (by decide) sh_X9 rfl in_X9 (by decide) rfl qw217 rfl hd kk
theorem gX9_75 (hC : Ok X ad cid cc RX9 nL ret fr lo) {b : Nat} (hb : isMo b) (hd : decode cc pc = .ok (.getfield 75, 3)) (kk : Jp X ad cid nL Q M (pc + 3) lv (.int (gM M b 2) :: st) res) : Jp X ad cid nL Q M pc lv (.ref (ad b) :: st) res :=
  j_getN hC 2 (mo_lt hb) (sh_X4 hb) rfl in_X4 (by decide) rfl qn162 rfl hd kk
theorem gX9_35 (hC : Ok X ad cid cc RX9 nL ret fr lo) (hd : decode cc pc = .ok (.getfield 35, 3)) (kk : Jp X ad cid nL Q M (pc + 3) lv (.int (gM M 58 4) :: st) res) : Jp X ad cid nL Q M pc lv (.ref (ad 58) :: st) res :=
  j_get hC 4 (by decide) sh_X9 rfl in_X9 (by decide) rfl qw216 rfl hd kk
theorem pX9_38 (hC : Ok X ad cid cc RX9 nL ret fr lo) {v : Int32} (hd : decode cc pc = .ok (.putfield 38, 3)) (kk : Jp X ad cid nL Q (sM M 58 5 v) (pc + 3) lv st res) : Jp X ad cid nL Q M pc lv (.int v :: .ref (ad 58) :: st) res :=
  j_put hC (ty := .int) tyX9 5 (by decide) sh_X9 (by rw [sh_X9]; simp [g_s, l_sL, l_sM, g_sL]) (sM_other M 58 5 v) rfl in_X9 tyX9_ok nmX9 (by decide) rfl qw217 rfl (by decide +kernel) rfl rfl (Nat.le_of_ble_eq_true rfl) hd kk
theorem gX9_21 (hC : Ok X ad cid cc RX9 nL ret fr lo) (hd : decode cc pc = .ok (.getfield 21, 3)) (kk : Jp X ad cid nL Q M (pc + 3) lv (.ref (ad 61) :: st) res) : Jp X ad cid nL Q M pc lv (.ref (ad 58) :: st) res :=
  j_get hC 2 (by decide) sh_X9 rfl in_X9 (by decide) rfl qw213 rfl hd kk
theorem gX9_17 (hC : Ok X ad cid cc RX9 nL ret fr lo) (hd : decode cc pc = .ok (.getfield 17, 3)) (kk : Jp X ad cid nL Q M (pc + 3) lv (.ref (ad 60) :: st) res) : Jp X ad cid nL Q M pc lv (.ref (ad 58) :: st) res :=
  j_get hC 1 (by decide) sh_X9 rfl in_X9 (by decide) rfl qw212 rfl hd kk
theorem gX9_31 (hC : Ok X ad cid cc RX9 nL ret fr lo) (hd : decode cc pc = .ok (.getfield 31, 3)) (kk : Jp X ad cid nL Q M (pc + 3) lv (.int (gM M 58 3) :: st) res) : Jp X ad cid nL Q M pc lv (.ref (ad 58) :: st) res :=
  j_get hC 3 (by decide) sh_X9 rfl in_X9 (by decide) rfl qw215 rfl hd kk
theorem gX9_49 (hC : Ok X ad cid cc RX9 nL ret fr lo) {b : Nat} (hb : isMo b) (hd : decode cc pc = .ok (.getfield 49, 3)) (kk : Jp X ad cid nL Q M (pc + 3) lv (.int (gM M b 1) :: st) res) : Jp X ad cid nL Q M pc lv (.ref (ad b) :: st) res :=
  j_getN hC 1 (mo_lt hb) (sh_X4 hb) rfl in_X4 (by decide) rfl qn159 rfl hd kk
theorem gX9_61 (hC : Ok X ad cid cc RX9 nL ret fr lo) {b : Nat} (hb : isFe b) (hd : decode cc pc = .ok (.getfield 61, 3)) (kk : Jp X ad cid nL Q M (pc + 3) lv (.int (gM M b 0) :: st) res) : Jp X ad cid nL Q M pc lv (.ref (ad b) :: st) res :=
  j_getN hC 0 (fe_lt hb) (sh_X2 hb) rfl in_X2 (by decide) rfl qn101 rfl hd kk
theorem pX9_31 (hC : Ok X ad cid cc RX9 nL ret fr lo) {v : Int32} (hd : decode cc pc = .ok (.putfield 31, 3)) (kk : Jp X ad cid nL Q (sM M 58 3 v) (pc + 3) lv st res) : Jp X ad cid nL Q M pc lv (.int v :: .ref (ad 58) :: st) res :=
  j_put hC (ty := .int) tyX9 3 (by decide) sh_X9 (by rw [sh_X9]; simp [g_s, l_sL, l_sM, g_sL]) (sM_other M 58 3 v) rfl in_X9 tyX9_ok nmX9 (by decide) rfl qw215 rfl (by decide +kernel) rfl rfl (Nat.le_of_ble_eq_true rfl) hd kk
theorem pX9_35 (hC : Ok X ad cid cc RX9 nL ret fr lo) {v : Int32} (hd : decode cc pc = .ok (.putfield 35, 3)) (kk : Jp X ad cid nL Q (sM M 58 4 v) (pc + 3) lv st res) : Jp X ad cid nL Q M pc lv (.int v :: .ref (ad 58) :: st) res :=
  j_put hC (ty := .int) tyX9 4 (by decide) sh_X9 (by rw [sh_X9]; simp [g_s, l_sL, l_sM, g_sL]) (sM_other M 58 4 v) rfl in_X9 tyX9_ok nmX9 (by decide) rfl qw216 rfl (by decide +kernel) rfl rfl (Nat.le_of_ble_eq_true rfl) hd kk
theorem gX11_57 (hC : Ok X ad cid cc RX11 nL ret fr lo) (hd : decode cc pc = .ok (.getfield 57, 3)) (kk : Jp X ad cid nL Q M (pc + 3) lv (.ref (ad 58) :: st) res) : Jp X ad cid nL Q M pc lv (.ref (ad 0) :: st) res :=
  j_get hC 11 (by decide) sh_X11 rfl in_X11 (by decide) rfl qw287 rfl hd kk
theorem gX11_212 (hC : Ok X ad cid cc RX11 nL ret fr lo) (hd : decode cc pc = .ok (.getfield 212, 3)) (kk : Jp X ad cid nL Q M (pc + 3) lv (.int (gM M 58 5) :: st) res) : Jp X ad cid nL Q M pc lv (.ref (ad 58) :: st) res :=
  j_getN hC 5 (by decide) sh_X9 rfl in_X9 (by decide) rfl qn218 rfl hd kk
theorem gX11_215 (hC : Ok X ad cid cc RX11 nL ret fr lo) (hd : decode cc pc = .ok (.getfield 215, 3)) (kk : Jp X ad cid nL Q M (pc + 3) lv (.ref (ad 61) :: st) res) : Jp X ad cid nL Q M pc lv (.ref (ad 58) :: st) res :=
  j_getN hC 2 (by decide) sh_X9 rfl in_X9 (by decide) rfl qn214 rfl hd kk
theorem gX7_7 (hC : Ok X ad cid cc RX7 nL ret fr lo) {b : Nat} (hb : isFe b) (hd : decode cc pc = .ok (.getfield 7, 3)) (kk : Jp X ad cid nL Q M (pc + 3) lv (.ref (ad (b + 1)) :: st) res) : Jp X ad cid nL Q M pc lv (.ref (ad b) :: st) res :=
  j_getN hC 1 (fe_lt hb) (sh_X2 hb) rfl in_X2 (by decide) rfl qn106 rfl hd kk
theorem gX0_13 (hC : Ok X ad cid cc RX0 nL ret fr lo) {b : Nat} (hb : isMo b) (hd : decode cc pc = .ok (.getfield 13, 3)) (kk : Jp X ad cid nL Q M (pc + 3) lv (.ref (ad (b + 2)) :: st) res) : Jp X ad cid nL Q M pc lv (.ref (ad b) :: st) res :=
  j_getN hC 4 (mo_lt hb) (sh_X4 hb) rfl in_X4 (by decide) rfl qn166 rfl hd kk
theorem gX1_13 (hC : Ok X ad cid cc RX1 nL ret fr lo) {b : Nat} (hb : isFe b) (hd : decode cc pc = .ok (.getfield 13, 3)) (kk : Jp X ad cid nL Q M (pc + 3) lv (.ref (ad (b + 2)) :: st) res) : Jp X ad cid nL Q M pc lv (.ref (ad b) :: st) res :=
  j_getN hC 2 (fe_lt hb) (sh_X2 hb) rfl in_X2 (by decide) rfl qn109 rfl hd kk
theorem gX11_63 (hC : Ok X ad cid cc RX11 nL ret fr lo) (hd : decode cc pc = .ok (.getfield 63, 3)) (kk : Jp X ad cid nL Q M (pc + 3) lv (.ref (ad 74) :: st) res) : Jp X ad cid nL Q M pc lv (.ref (ad 0) :: st) res :=
  j_get hC 12 (by decide) sh_X11 rfl in_X11 (by decide) rfl qw288 rfl hd kk
theorem gX11_67 (hC : Ok X ad cid cc RX11 nL ret fr lo) (hd : decode cc pc = .ok (.getfield 67, 3)) (kk : Jp X ad cid nL Q M (pc + 3) lv (.ref (ad 75) :: st) res) : Jp X ad cid nL Q M pc lv (.ref (ad 0) :: st) res :=
  j_get hC 13 (by decide) sh_X11 rfl in_X11 (by decide) rfl qw289 rfl hd kk
theorem pX10_15 (hC : Ok X ad cid cc RX10 nL ret fr lo) {v : Int32} (hd : decode cc pc = .ok (.putfield 15, 3)) (kk : Jp X ad cid nL Q (sM M 1 1 v) (pc + 3) lv st res) : Jp X ad cid nL Q M pc lv (.int v :: .ref (ad 1) :: st) res :=
  j_put hC (ty := .int) tyX10 1 (by decide) sh_X10 (by rw [sh_X10]; simp [g_s, l_sL, l_sM, g_sL]) (sM_other M 1 1 v) rfl in_X10 tyX10_ok nmX10 (by decide) rfl qw74 rfl (by decide +kernel) rfl rfl (Nat.le_of_ble_eq_true rfl) hd kk
theorem gX12_67 (hC : Ok X ad cid cc RX12 nL ret fr lo) (hd : decode cc pc = .ok (.getfield 67, 3)) (kk : Jp X ad cid nL Q M (pc + 3) lv (.int (gM M 109 3) :: st) res) : Jp X ad cid nL Q M pc lv (.ref (ad 109) :: st) res :=
  j_get hC 3 (by decide) sh_X12 rfl in_X12 (by decide) rfl qw711 rfl hd kk
theorem gX12_7 (hC : Ok X ad cid cc RX12 nL ret fr lo) (hd : decode cc pc = .ok (.getfield 7, 3)) (kk : Jp X ad cid nL Q M (pc + 3) lv (.ref (ad 110) :: st) res) : Jp X ad cid nL Q M pc lv (.ref (ad 109) :: st) res :=
  j_get hC 2 (by decide) sh_X12 rfl in_X12 (by decide) rfl qw710 rfl hd kk
theorem gX12_70 (hC : Ok X ad cid cc RX12 nL ret fr lo) (hd : decode cc pc = .ok (.getfield 70, 3)) (kk : Jp X ad cid nL Q M (pc + 3) lv (.int (gM M 109 4) :: st) res) : Jp X ad cid nL Q M pc lv (.ref (ad 109) :: st) res :=
  j_get hC 4 (by decide) sh_X12 rfl in_X12 (by decide) rfl qw712 rfl hd kk
theorem pX12_70 (hC : Ok X ad cid cc RX12 nL ret fr lo) {v : Int32} (hd : decode cc pc = .ok (.putfield 70, 3)) (kk : Jp X ad cid nL Q (sM M 109 4 v) (pc + 3) lv st res) : Jp X ad cid nL Q M pc lv (.int v :: .ref (ad 109) :: st) res :=
  j_put hC (ty := .int) tyX12 4 (by decide) sh_X12 (by rw [sh_X12]; simp [g_s, l_sL, l_sM, g_sL]) (sM_other M 109 4 v) rfl in_X12 tyX12_ok nmX12 (by decide) rfl qw712 rfl (by decide +kernel) rfl rfl (Nat.le_of_ble_eq_true rfl) hd kk
theorem pX12_77 (hC : Ok X ad cid cc RX12 nL ret fr lo) {v : Int32} (hd : decode cc pc = .ok (.putfield 77, 3)) (kk : Jp X ad cid nL Q (sM M 109 6 v) (pc + 3) lv st res) : Jp X ad cid nL Q M pc lv (.int v :: .ref (ad 109) :: st) res :=
  j_put hC (ty := .int) tyX12 6 (by decide) sh_X12 (by rw [sh_X12]; simp [g_s, l_sL, l_sM, g_sL]) (sM_other M 109 6 v) rfl in_X12 tyX12_ok nmX12 (by decide) rfl qw714 rfl (by decide +kernel) rfl rfl (Nat.le_of_ble_eq_true rfl) hd kk
theorem pX12_83 (hC : Ok X ad cid cc RX12 nL ret fr lo) {v : Int32} (hd : decode cc pc = .ok (.putfield 83, 3)) (kk : Jp X ad cid nL Q (sM M 109 7 v) (pc + 3) lv st res) : Jp X ad cid nL Q M pc lv (.int v :: .ref (ad 109) :: st) res :=
  j_put hC (ty := .int) tyX12 7 (by decide) sh_X12 (by rw [sh_X12]; simp [g_s, l_sL, l_sM, g_sL]) (sM_other M 109 7 v) rfl in_X12 tyX12_ok nmX12 (by decide) rfl qw715 rfl (by decide +kernel) rfl rfl (Nat.le_of_ble_eq_true rfl) hd kk
theorem pX12_80 (hC : Ok X ad cid cc RX12 nL ret fr lo) {v : Int32} (hd : decode cc pc = .ok (.putfield 80, 3)) (kk : Jp X ad cid nL Q (sM M 109 5 v) (pc + 3) lv st res) : Jp X ad cid nL Q M pc lv (.int v :: .ref (ad 109) :: st) res :=
  j_put hC (ty := .int) tyX12 5 (by decide) sh_X12 (by rw [sh_X12]; simp [g_s, l_sL, l_sM, g_sL]) (sM_other M 109 5 v) rfl in_X12 tyX12_ok nmX12 (by decide) rfl qw713 rfl (by decide +kernel) rfl rfl (Nat.le_of_ble_eq_true rfl) hd kk
theorem gX12_83 (hC : Ok X ad cid cc RX12 nL ret fr lo) (hd : decode cc pc = .ok (.getfield 83, 3)) (kk : Jp X ad cid nL Q M (pc + 3) lv (.int (gM M 109 7) :: st) res) : Jp X ad cid nL Q M pc lv (.ref (ad 109) :: st) res :=
  j_get hC 7 (by decide) sh_X12 rfl in_X12 (by decide) rfl qw715 rfl hd kk
theorem gX12_77 (hC : Ok X ad cid cc RX12 nL ret fr lo) (hd : decode cc pc = .ok (.getfield 77, 3)) (kk : Jp X ad cid nL Q M (pc + 3) lv (.int (gM M 109 6) :: st) res) : Jp X ad cid nL Q M pc lv (.ref (ad 109) :: st) res :=
  j_get hC 6 (by decide) sh_X12 rfl in_X12 (by decide) rfl qw714 rfl hd kk
theorem gX12_34 (hC : Ok X ad cid cc RX12 nL ret fr lo) (hd : decode cc pc = .ok (.getfield 34, 3)) (kk : Jp X ad cid nL Q M (pc + 3) lv (.ref (ad 118) :: st) res) : Jp X ad cid nL Q M pc lv (.ref (ad 109) :: st) res :=
  j_get hC 17 (by decide) sh_X12 rfl in_X12 (by decide) rfl qw725 rfl hd kk
theorem gX12_31 (hC : Ok X ad cid cc RX12 nL ret fr lo) (hd : decode cc pc = .ok (.getfield 31, 3)) (kk : Jp X ad cid nL Q M (pc + 3) lv (.ref (ad 117) :: st) res) : Jp X ad cid nL Q M pc lv (.ref (ad 109) :: st) res :=
  j_get hC 16 (by decide) sh_X12 rfl in_X12 (by decide) rfl qw724 rfl hd kk
theorem pX12_59 (hC : Ok X ad cid cc RX12 nL ret fr lo) {v : Int32} (hd : decode cc pc = .ok (.putfield 59, 3)) (kk : Jp X ad cid nL Q (sM M 109 0 v) (pc + 3) lv st res) : Jp X ad cid nL Q M pc lv (.int v :: .ref (ad 109) :: st) res :=
  j_put hC (ty := .int) tyX12 0 (by decide) sh_X12 (by rw [sh_X12]; simp [g_s, l_sL, l_sM, g_sL]) (sM_other M 109 0 v) rfl in_X12 tyX12_ok nmX12 (by decide) rfl qw708 rfl (by decide +kernel) rfl rfl (Nat.le_of_ble_eq_true rfl) hd kk
theorem gX12_40 (hC : Ok X ad cid cc RX12 nL ret fr lo) (hd : decode cc pc = .ok (.getfield 40, 3)) (kk : Jp X ad cid nL Q M (pc + 3) lv (.ref (ad 120) :: st) res) : Jp X ad cid nL Q M pc lv (.ref (ad 109) :: st) res :=
  j_get hC 19 (by decide) sh_X12 rfl in_X12 (by decide) rfl qw727 rfl hd kk
theorem gX12_37 (hC : Ok X ad cid cc RX12 nL ret fr lo) (hd : decode cc pc = .ok (.getfield 37, 3)) (kk : Jp X ad cid nL Q M (pc + 3) lv (.ref (ad 119) :: st) res) : Jp X ad cid nL Q M pc lv (.ref (ad 109) :: st) res :=
  j_get hC 18 (by decide) sh_X12 rfl in_X12 (by decide) rfl qw726 rfl hd kk
theorem pX12_121 (hC : Ok X ad cid cc RX12 nL ret fr lo) {v : Int32} (hd : decode cc pc = .ok (.putfield 121, 3)) (kk : Jp X ad cid nL Q (sM M 109 21 v) (pc + 3) lv st res) : Jp X ad cid nL Q M pc lv (.int v :: .ref (ad 109) :: st) res :=
  j_put hC (ty := .int) tyX12 21 (by decide) sh_X12 (by rw [sh_X12]; simp [g_s, l_sL, l_sM, g_sL]) (sM_other M 109 21 v) rfl in_X12 tyX12_ok nmX12 (by decide) rfl qw729 rfl (by decide +kernel) rfl rfl (Nat.le_of_ble_eq_true rfl) hd kk
theorem gX12_13 (hC : Ok X ad cid cc RX12 nL ret fr lo) (hd : decode cc pc = .ok (.getfield 13, 3)) (kk : Jp X ad cid nL Q M (pc + 3) lv (.ref (ad 111) :: st) res) : Jp X ad cid nL Q M pc lv (.ref (ad 109) :: st) res :=
  j_get hC 9 (by decide) sh_X12 rfl in_X12 (by decide) rfl qw717 rfl hd kk
theorem gX12_25 (hC : Ok X ad cid cc RX12 nL ret fr lo) (hd : decode cc pc = .ok (.getfield 25, 3)) (kk : Jp X ad cid nL Q M (pc + 3) lv (.ref (ad 115) :: st) res) : Jp X ad cid nL Q M pc lv (.ref (ad 109) :: st) res :=
  j_get hC 13 (by decide) sh_X12 rfl in_X12 (by decide) rfl qw721 rfl hd kk
theorem gX12_28 (hC : Ok X ad cid cc RX12 nL ret fr lo) (hd : decode cc pc = .ok (.getfield 28, 3)) (kk : Jp X ad cid nL Q M (pc + 3) lv (.ref (ad 116) :: st) res) : Jp X ad cid nL Q M pc lv (.ref (ad 109) :: st) res :=
  j_get hC 14 (by decide) sh_X12 rfl in_X12 (by decide) rfl qw722 rfl hd kk
theorem gX12_19 (hC : Ok X ad cid cc RX12 nL ret fr lo) (hd : decode cc pc = .ok (.getfield 19, 3)) (kk : Jp X ad cid nL Q M (pc + 3) lv (.ref (ad 113) :: st) res) : Jp X ad cid nL Q M pc lv (.ref (ad 109) :: st) res :=
  j_get hC 11 (by decide) sh_X12 rfl in_X12 (by decide) rfl qw719 rfl hd kk
theorem gX12_16 (hC : Ok X ad cid cc RX12 nL ret fr lo) (hd : decode cc pc = .ok (.getfield 16, 3)) (kk : Jp X ad cid nL Q M (pc + 3) lv (.ref (ad 112) :: st) res) : Jp X ad cid nL Q M pc lv (.ref (ad 109) :: st) res :=
  j_get hC 10 (by decide) sh_X12 rfl in_X12 (by decide) rfl qw718 rfl hd kk
theorem gX12_22 (hC : Ok X ad cid cc RX12 nL ret fr lo) (hd : decode cc pc = .ok (.getfield 22, 3)) (kk : Jp X ad cid nL Q M (pc + 3) lv (.ref (ad 114) :: st) res) : Jp X ad cid nL Q M pc lv (.ref (ad 109) :: st) res :=
  j_get hC 12 (by decide) sh_X12 rfl in_X12 (by decide) rfl qw720 rfl hd kk
theorem gX12_121 (hC : Ok X ad cid cc RX12 nL ret fr lo) (hd : decode cc pc = .ok (.getfield 121, 3)) (kk : Jp X ad cid nL Q M (pc + 3) lv (.int (gM M 109 21) :: st) res) : Jp X ad cid nL Q M pc lv (.ref (ad 109) :: st) res :=
  j_get hC 21 (by decide) sh_X12 rfl in_X12 (by decide) rfl qw729 rfl hd kk
theorem gX12_44 (hC : Ok X ad cid cc RX12 nL ret fr lo) (hd : decode cc pc = .ok (.getfield 44, 3)) (kk : Jp X ad cid nL Q M (pc + 3) lv (.ref (ad 121) :: st) res) : Jp X ad cid nL Q M pc lv (.ref (ad 109) :: st) res :=
  j_get hC 20 (by decide) sh_X12 rfl in_X12 (by decide) rfl qw728 rfl hd kk
theorem pX12_67 (hC : Ok X ad cid cc RX12 nL ret fr lo) {v : Int32} (hd : decode cc pc = .ok (.putfield 67, 3)) (kk : Jp X ad cid nL Q (sM M 109 3 v) (pc + 3) lv st res) : Jp X ad cid nL Q M pc lv (.int v :: .ref (ad 109) :: st) res :=
  j_put hC (ty := .int) tyX12 3 (by decide) sh_X12 (by rw [sh_X12]; simp [g_s, l_sL, l_sM, g_sL]) (sM_other M 109 3 v) rfl in_X12 tyX12_ok nmX12 (by decide) rfl qw711 rfl (by decide +kernel) rfl rfl (Nat.le_of_ble_eq_true rfl) hd kk
theorem gX12_118 (hC : Ok X ad cid cc RX12 nL ret fr lo) (hd : decode cc pc = .ok (.getfield 118, 3)) (kk : Jp X ad cid nL Q M (pc + 3) lv (.int (gM M 109 24) :: st) res) : Jp X ad cid nL Q M pc lv (.ref (ad 109) :: st) res :=
  j_get hC 24 (by decide) sh_X12 rfl in_X12 (by decide) rfl qw732 rfl hd kk
theorem gX12_53 (hC : Ok X ad cid cc RX12 nL ret fr lo) (hd : decode cc pc = .ok (.getfield 53, 3)) (kk : Jp X ad cid nL Q M (pc + 3) lv (.ref (ad 124) :: st) res) : Jp X ad cid nL Q M pc lv (.ref (ad 109) :: st) res :=
  j_get hC 25 (by decide) sh_X12 rfl in_X12 (by decide) rfl qw733 rfl hd kk
theorem gX12_86 (hC : Ok X ad cid cc RX12 nL ret fr lo) (hd : decode cc pc = .ok (.getfield 86, 3)) (kk : Jp X ad cid nL Q M (pc + 3) lv (.int (gM M 109 8) :: st) res) : Jp X ad cid nL Q M pc lv (.ref (ad 109) :: st) res :=
  j_get hC 8 (by decide) sh_X12 rfl in_X12 (by decide) rfl qw716 rfl hd kk
theorem pX12_86 (hC : Ok X ad cid cc RX12 nL ret fr lo) {v : Int32} (hd : decode cc pc = .ok (.putfield 86, 3)) (kk : Jp X ad cid nL Q (sM M 109 8 v) (pc + 3) lv st res) : Jp X ad cid nL Q M pc lv (.int v :: .ref (ad 109) :: st) res :=
  j_put hC (ty := .int) tyX12 8 (by decide) sh_X12 (by rw [sh_X12]; simp [g_s, l_sL, l_sM, g_sL]) (sM_other M 109 8 v) rfl in_X12 tyX12_ok nmX12 (by decide) rfl qw716 rfl (by decide +kernel) rfl rfl (Nat.le_of_ble_eq_true rfl) hd kk
theorem gX12_80 (hC : Ok X ad cid cc RX12 nL ret fr lo) (hd : decode cc pc = .ok (.getfield 80, 3)) (kk : Jp X ad cid nL Q M (pc + 3) lv (.int (gM M 109 5) :: st) res) : Jp X ad cid nL Q M pc lv (.ref (ad 109) :: st) res :=
  j_get hC 5 (by decide) sh_X12 rfl in_X12 (by decide) rfl qw713 rfl hd kk
theorem pX12_107 (hC : Ok X ad cid cc RX12 nL ret fr lo) {v : Int32} (hv : v = 0 ∨ v = 1) (hd : decode cc pc = .ok (.putfield 107, 3)) (kk : Jp X ad cid nL Q (sM M 109 15 v) (pc + 3) lv st res) : Jp X ad cid nL Q M pc lv (.int v :: .ref (ad 109) :: st) res :=
  j_put hC (ty := .boolean) tyX12 15 (by decide) sh_X12 (by rw [sh_X12]; simp [g_s, l_sL, l_sM, g_sL]) (sM_other M 109 15 v) rfl in_X12 tyX12_ok nmX12 (by decide) rfl qw723 rfl (by decide +kernel) (by rcases hv with rfl | rfl <;> rfl) (by rcases hv with rfl | rfl <;> rfl) (Nat.le_of_ble_eq_true rfl) hd kk
theorem pX12_118 (hC : Ok X ad cid cc RX12 nL ret fr lo) {v : Int32} (hd : decode cc pc = .ok (.putfield 118, 3)) (kk : Jp X ad cid nL Q (sM M 109 24 v) (pc + 3) lv st res) : Jp X ad cid nL Q M pc lv (.int v :: .ref (ad 109) :: st) res :=
  j_put hC (ty := .int) tyX12 24 (by decide) sh_X12 (by rw [sh_X12]; simp [g_s, l_sL, l_sM, g_sL]) (sM_other M 109 24 v) rfl in_X12 tyX12_ok nmX12 (by decide) rfl qw732 rfl (by decide +kernel) rfl rfl (Nat.le_of_ble_eq_true rfl) hd kk
theorem gX12_107 (hC : Ok X ad cid cc RX12 nL ret fr lo) (hd : decode cc pc = .ok (.getfield 107, 3)) (kk : Jp X ad cid nL Q M (pc + 3) lv (.int (gM M 109 15) :: st) res) : Jp X ad cid nL Q M pc lv (.ref (ad 109) :: st) res :=
  j_get hC 15 (by decide) sh_X12 rfl in_X12 (by decide) rfl qw723 rfl hd kk
theorem gX12_47 (hC : Ok X ad cid cc RX12 nL ret fr lo) (hd : decode cc pc = .ok (.getfield 47, 3)) (kk : Jp X ad cid nL Q M (pc + 3) lv (.ref (ad 122) :: st) res) : Jp X ad cid nL Q M pc lv (.ref (ad 109) :: st) res :=
  j_get hC 22 (by decide) sh_X12 rfl in_X12 (by decide) rfl qw730 rfl hd kk
theorem gX12_50 (hC : Ok X ad cid cc RX12 nL ret fr lo) (hd : decode cc pc = .ok (.getfield 50, 3)) (kk : Jp X ad cid nL Q M (pc + 3) lv (.ref (ad 123) :: st) res) : Jp X ad cid nL Q M pc lv (.ref (ad 109) :: st) res :=
  j_get hC 23 (by decide) sh_X12 rfl in_X12 (by decide) rfl qw731 rfl hd kk
theorem gX12_56 (hC : Ok X ad cid cc RX12 nL ret fr lo) (hd : decode cc pc = .ok (.getfield 56, 3)) (kk : Jp X ad cid nL Q M (pc + 3) lv (.ref (ad 125) :: st) res) : Jp X ad cid nL Q M pc lv (.ref (ad 109) :: st) res :=
  j_get hC 26 (by decide) sh_X12 rfl in_X12 (by decide) rfl qw734 rfl hd kk
theorem gX12_175 (hC : Ok X ad cid cc RX12 nL ret fr lo) (hd : decode cc pc = .ok (.getfield 175, 3)) (kk : Jp X ad cid nL Q M (pc + 3) lv (.long (gL M 109) :: st) res) : Jp X ad cid nL Q M pc lv (.ref (ad 109) :: st) res :=
  j_get hC 1 (by decide) sh_X12 rfl in_X12 (by decide) rfl qw709 rfl hd kk
theorem pX12_175 (hC : Ok X ad cid cc RX12 nL ret fr lo) {v : Int64} (hd : decode cc pc = .ok (.putfield 175, 3)) (kk : Jp X ad cid nL Q (sL M 109 v) (pc + 3) lv st res) : Jp X ad cid nL Q M pc lv (.long v :: .ref (ad 109) :: st) res :=
  j_put hC (ty := .long) tyX12 1 (by decide) sh_X12 (by rw [sh_X12]; simp [g_s, l_sL, l_sM, g_sL]) (sL_other M 109 v) rfl in_X12 tyX12_ok nmX12 (by decide) rfl qw709 rfl (by decide +kernel) rfl rfl (Nat.le_of_ble_eq_true rfl) hd kk
end SH
theorem vv_X11_agreesWithSeen : cV yX11_agreesWithSeen RX11 cX11_agreesWithSeen 4 (some .boolean) 1 := ⟨⟨rfl, by decide +kernel, by decide +kernel, by decide +kernel⟩, qw625, qw18, qw44, qw626⟩
theorem vv_X11_back : cV yX11_back RX11 cX11_back 2 (some .int) 1 := ⟨⟨rfl, by decide +kernel, by decide +kernel, by decide +kernel⟩, qw691, qw692, qw44, qw693⟩
theorem vv_X11_beat : cV yX11_beat RX11 cX11_beat 1 (some .int) 0 := ⟨⟨rfl, by decide +kernel, by decide +kernel, by decide +kernel⟩, qw463, qw464, qw44, qw465⟩
theorem vv_X11_best : cV yX11_best RX11 cX11_best 6 (some .int) 0 := ⟨⟨rfl, by decide +kernel, by decide +kernel, by decide +kernel⟩, qw592, qw593, qw44, qw594⟩
theorem vv_X11_clear : cV yX11_clear RX11 cX11_clear 2 (some .int) 0 := ⟨⟨rfl, by decide +kernel, by decide +kernel, by decide +kernel⟩, qw328, qw329, qw44, qw330⟩
theorem vv_X11_contradictsSeen : cV yX11_contradictsSeen RX11 cX11_contradictsSeen 4 (some .boolean) 2 := ⟨⟨rfl, by decide +kernel, by decide +kernel, by decide +kernel⟩, qw634, qw20, qw44, qw635⟩
theorem vv_X11_copyOfNow : cV yX11_copyOfNow RX11 cX11_copyOfNow 1 (some (.object "LastRower$Moment")) 0 := ⟨⟨rfl, by decide +kernel, by decide +kernel, by decide +kernel⟩, qw532, qw13, qw44, qw533⟩
theorem vv_X11_copyWherePinched : cV yX11_copyWherePinched RX11 cX11_copyWherePinched 3 (some (.object "LastRower$Moment")) 1 := ⟨⟨rfl, by decide +kernel, by decide +kernel, by decide +kernel⟩, qw601, qw17, qw44, qw602⟩
theorem vv_X11_count : cV yX11_count RX11 cX11_count 2 (some .int) 1 := ⟨⟨rfl, by decide +kernel, by decide +kernel, by decide +kernel⟩, qw695, qw696, qw44, qw697⟩
theorem vv_X11_countPinchable : cV yX11_countPinchable RX11 cX11_countPinchable 1 (some .int) 0 := ⟨⟨rfl, by decide +kernel, by decide +kernel, by decide +kernel⟩, qw597, qw16, qw44, qw598⟩
theorem vv_X11_current : cV yX11_current RX11 cX11_current 2 (some .int) 1 := ⟨⟨rfl, by decide +kernel, by decide +kernel, by decide +kernel⟩, qw434, qw435, qw44, qw436⟩
theorem vv_X11_drift : cV yX11_drift RX11 cX11_drift 3 (some .int) 0 := ⟨⟨rfl, by decide +kernel, by decide +kernel, by decide +kernel⟩, qw564, qw565, qw44, qw566⟩
theorem vv_X11_ends : cV yX11_ends RX11 cX11_ends 1 (some .int) 0 := ⟨⟨rfl, by decide +kernel, by decide +kernel, by decide +kernel⟩, qw536, qw537, qw44, qw538⟩
theorem vv_X11_ferry : cV yX11_ferry RX11 cX11_ferry 3 (some .int) 0 := ⟨⟨rfl, by decide +kernel, by decide +kernel, by decide +kernel⟩, qw332, qw333, qw44, qw334⟩
theorem vv_X11_first : cV yX11_first RX11 cX11_first 2 (some .int) 1 := ⟨⟨rfl, by decide +kernel, by decide +kernel, by decide +kernel⟩, qw549, qw550, qw44, qw551⟩
theorem vv_X11_forget : cV yX11_forget RX11 cX11_forget 2 (some .int) 0 := ⟨⟨rfl, by decide +kernel, by decide +kernel, by decide +kernel⟩, qw616, qw617, qw44, qw618⟩
theorem vv_X11_inBeats : cV yX11_inBeats RX11 cX11_inBeats 5 (some .int) 2 := ⟨⟨rfl, by decide +kernel, by decide +kernel, by decide +kernel⟩, qw527, qw528, qw44, qw529⟩
theorem vv_X11_isOver : cV yX11_isOver RX11 cX11_isOver 1 (some .boolean) 0 := ⟨⟨rfl, by decide +kernel, by decide +kernel, by decide +kernel⟩, qw452, qw11, qw44, qw453⟩
theorem vv_X11_keep : cV yX11_keep RX11 cX11_keep 2 (some .int) 1 := ⟨⟨rfl, by decide +kernel, by decide +kernel, by decide +kernel⟩, qw687, qw688, qw44, qw689⟩
theorem vv_X11_last : cV yX11_last RX11 cX11_last 2 (some .int) 0 := ⟨⟨rfl, by decide +kernel, by decide +kernel, by decide +kernel⟩, qw545, qw546, qw44, qw547⟩
theorem vv_X11_latestSeen : cV yX11_latestSeen RX11 cX11_latestSeen 3 (some .int) 0 := ⟨⟨rfl, by decide +kernel, by decide +kernel, by decide +kernel⟩, qw629, qw19, qw44, qw630⟩
theorem vv_X11_mute : cV yX11_mute RX11 cX11_mute 5 (some .int) 1 := ⟨⟨rfl, by decide +kernel, by decide +kernel, by decide +kernel⟩, qw604, qw605, qw44, qw606⟩
theorem vv_X11_now : cV yX11_now RX11 cX11_now 2 (some .int) 1 := ⟨⟨rfl, by decide +kernel, by decide +kernel, by decide +kernel⟩, qw443, qw444, qw44, qw445⟩
theorem vv_X11_odds : cV yX11_odds RX11 cX11_odds 8 (some .int) 4 := ⟨⟨rfl, by decide +kernel, by decide +kernel, by decide +kernel⟩, qw637, qw638, qw44, qw639⟩
theorem vv_X11_passenger : cV yX11_passenger RX11 cX11_passenger 3 (some .int) 2 := ⟨⟨rfl, by decide +kernel, by decide +kernel, by decide +kernel⟩, qw422, qw423, qw44, qw424⟩
theorem vv_X11_pinches : cV yX11_pinches RX11 cX11_pinches 2 (some .int) 1 := ⟨⟨rfl, by decide +kernel, by decide +kernel, by decide +kernel⟩, qw498, qw499, qw44, qw500⟩
theorem vv_X11_plan : cV yX11_plan RX11 cX11_plan 4 (some .int) 3 := ⟨⟨rfl, by decide +kernel, by decide +kernel, by decide +kernel⟩, qw568, qw569, qw44, qw570⟩
theorem vv_X11_quarrels : cV yX11_quarrels RX11 cX11_quarrels 3 (some .int) 2 := ⟨⟨rfl, by decide +kernel, by decide +kernel, by decide +kernel⟩, qw507, qw508, qw44, qw509⟩
theorem vv_X11_rate : cV yX11_rate RX11 cX11_rate 3 (some .int) 2 := ⟨⟨rfl, by decide +kernel, by decide +kernel, by decide +kernel⟩, qw651, qw652, qw44, qw653⟩
theorem vv_X11_ring : cV yX11_ring RX11 cX11_ring 3 (some .int) 0 := ⟨⟨rfl, by decide +kernel, by decide +kernel, by decide +kernel⟩, qw554, qw555, qw44, qw556⟩
theorem vv_X11_seen : cV yX11_seen RX11 cX11_seen 3 (some .int) 2 := ⟨⟨rfl, by decide +kernel, by decide +kernel, by decide +kernel⟩, qw612, qw613, qw44, qw614⟩
theorem vv_X11_sings : cV yX11_sings RX11 cX11_sings 3 (some .int) 1 := ⟨⟨rfl, by decide +kernel, by decide +kernel, by decide +kernel⟩, qw511, qw512, qw44, qw513⟩
theorem vv_X11_trace : cV yX11_trace RX11 cX11_trace 1 (some .long) 0 := ⟨⟨rfl, by decide +kernel, by decide +kernel, by decide +kernel⟩, qw699, qw700, qw44, qw701⟩
theorem vv_X11_type : cV yX11_type RX11 cX11_type 2 (some .int) 1 := ⟨⟨rfl, by decide +kernel, by decide +kernel, by decide +kernel⟩, qw320, qw321, qw44, qw322⟩
theorem vv_X11_undo : cV yX11_undo RX11 cX11_undo 1 (some .int) 0 := ⟨⟨rfl, by decide +kernel, by decide +kernel, by decide +kernel⟩, qw519, qw520, qw44, qw521⟩
theorem vv_X11_utter : cV yX11_utter RX11 cX11_utter 2 none 1 := ⟨⟨rfl, by decide +kernel, by decide +kernel, by decide +kernel⟩, qw503, qw12, qw44, qw504⟩
theorem vv_X11_waysOver : cV yX11_waysOver RX11 cX11_waysOver 7 (some .int) 4 := ⟨⟨rfl, by decide +kernel, by decide +kernel, by decide +kernel⟩, qw642, qw21, qw44, qw643⟩
theorem vv_X11_who : cV yX11_who RX11 cX11_who 4 (some .int) 0 := ⟨⟨rfl, by decide +kernel, by decide +kernel, by decide +kernel⟩, qw620, qw621, qw44, qw622⟩
theorem vv_X2_addCurrent : cV yX2_addCurrent RX2 cX2_addCurrent 3 none 2 := ⟨⟨rfl, by decide +kernel, by decide +kernel, by decide +kernel⟩, qw382, qw383, qw46, qw384⟩
theorem vv_X2_addPassenger : cV yX2_addPassenger RX2 cX2_addPassenger 4 none 3 := ⟨⟨rfl, by decide +kernel, by decide +kernel, by decide +kernel⟩, qw370, qw371, qw46, qw372⟩
theorem vv_X2_empty : cV yX2_empty RX2 cX2_empty 1 none 0 := ⟨⟨rfl, by decide +kernel, by decide +kernel, by decide +kernel⟩, qw340, qw341, qw46, qw342⟩
theorem vv_X2_everybody : cV yX2_everybody RX2 cX2_everybody 1 (some .int) 0 := ⟨⟨rfl, by decide +kernel, by decide +kernel, by decide +kernel⟩, qw608, qw609, qw46, qw610⟩
theorem vv_X2_findFlow : cV yX2_findFlow RX2 cX2_findFlow 5 (some .int) 1 := ⟨⟨rfl, by decide +kernel, by decide +kernel, by decide +kernel⟩, qw403, qw9, qw46, qw404⟩
theorem vv_X2_findPull : cV yX2_findPull RX2 cX2_findPull 6 (some .int) 1 := ⟨⟨rfl, by decide +kernel, by decide +kernel, by decide +kernel⟩, qw399, qw8, qw46, qw400⟩
theorem vv_X2_flowAt : cV yX2_flowAt RX2 cX2_flowAt 2 (some .int) 1 := ⟨⟨rfl, by decide +kernel, by decide +kernel, by decide +kernel⟩, qw438, qw439, qw46, qw440⟩
theorem vv_X2_has : cV yX2_has RX2 cX2_has 2 (some .boolean) 1 := ⟨⟨rfl, by decide +kernel, by decide +kernel, by decide +kernel⟩, qw426, qw427, qw46, qw428⟩
theorem vv_X2_hasCurrentFrom : cV yX2_hasCurrentFrom RX2 cX2_hasCurrentFrom 3 (some .boolean) 1 := ⟨⟨rfl, by decide +kernel, by decide +kernel, by decide +kernel⟩, qw378, qw379, qw46, qw380⟩
theorem vv_X2_isOver : cV yX2_isOver RX2 cX2_isOver 2 (some .boolean) 1 := ⟨⟨rfl, by decide +kernel, by decide +kernel, by decide +kernel⟩, qw455, qw456, qw46, qw457⟩
theorem vv_X2_pullOf : cV yX2_pullOf RX2 cX2_pullOf 2 (some .int) 1 := ⟨⟨rfl, by decide +kernel, by decide +kernel, by decide +kernel⟩, qw447, qw448, qw46, qw449⟩
theorem vv_X2_settle : cV yX2_settle RX2 cX2_settle 2 none 0 := ⟨⟨rfl, by decide +kernel, by decide +kernel, by decide +kernel⟩, qw394, qw395, qw46, qw396⟩
theorem vv_X2_singersOf : cV yX2_singersOf RX2 cX2_singersOf 4 (some .int) 1 := ⟨⟨rfl, by decide +kernel, by decide +kernel, by decide +kernel⟩, qw515, qw516, qw46, qw517⟩
theorem vv_X4_allWords : cV yX4_allWords RX4 cX4_allWords 3 (some .int) 0 := ⟨⟨rfl, by decide +kernel, by decide +kernel, by decide +kernel⟩, qw459, qw460, qw47, qw461⟩
theorem vv_X4_copyFrom : cV yX4_copyFrom RX4 cX4_copyFrom 3 none 1 := ⟨⟨rfl, by decide +kernel, by decide +kernel, by decide +kernel⟩, qw471, qw472, qw47, qw473⟩
theorem vv_X4_findNextDue : cV yX4_findNextDue RX4 cX4_findNextDue 4 (some .int) 1 := ⟨⟨rfl, by decide +kernel, by decide +kernel, by decide +kernel⟩, qw414, qw10, qw47, qw415⟩
theorem vv_X4_passTime : cV yX4_passTime RX4 cX4_passTime 2 none 1 := ⟨⟨rfl, by decide +kernel, by decide +kernel, by decide +kernel⟩, qw486, qw487, qw47, qw488⟩
theorem vv_X4_row : cV yX4_row RX4 cX4_row 3 none 1 := ⟨⟨rfl, by decide +kernel, by decide +kernel, by decide +kernel⟩, qw476, qw477, qw47, qw478⟩
theorem vv_X4_rowTillOver : cV yX4_rowTillOver RX4 cX4_rowTillOver 4 (some .int) 2 := ⟨⟨rfl, by decide +kernel, by decide +kernel, by decide +kernel⟩, qw540, qw541, qw47, qw542⟩
theorem vv_X4_silenceOf : cV yX4_silenceOf RX4 cX4_silenceOf 2 (some .int) 1 := ⟨⟨rfl, by decide +kernel, by decide +kernel, by decide +kernel⟩, qw430, qw431, qw47, qw432⟩
theorem vv_X4_soundsLike : cV yX4_soundsLike RX4 cX4_soundsLike 5 (some .boolean) 2 := ⟨⟨rfl, by decide +kernel, by decide +kernel, by decide +kernel⟩, qw559, qw560, qw47, qw561⟩
theorem vv_X4_speak : cV yX4_speak RX4 cX4_speak 4 none 2 := ⟨⟨rfl, by decide +kernel, by decide +kernel, by decide +kernel⟩, qw494, qw495, qw47, qw496⟩
theorem vv_X4_start : cV yX4_start RX4 cX4_start 2 none 1 := ⟨⟨rfl, by decide +kernel, by decide +kernel, by decide +kernel⟩, qw406, qw407, qw47, qw408⟩
theorem vv_X4_whoIsDueAt : cV yX4_whoIsDueAt RX4 cX4_whoIsDueAt 5 (some .int) 2 := ⟨⟨rfl, by decide +kernel, by decide +kernel, by decide +kernel⟩, qw490, qw491, qw47, qw492⟩
theorem vv_X7_worth : cV yX7_worth RX7 cX7_worth 5 (some .int) 4 := ⟨⟨rfl, by decide +kernel, by decide +kernel, by decide +kernel⟩, qw656, qw657, qw50, qw685⟩
theorem vv_X8_add : cV yX8_add RX8 cX8_add 2 none 1 := ⟨⟨rfl, by decide +kernel, by decide +kernel, by decide +kernel⟩, qw467, qw468, qw48, qw469⟩
theorem vv_X8_lose : cV yX8_lose RX8 cX8_lose 1 none 0 := ⟨⟨rfl, by decide +kernel, by decide +kernel, by decide +kernel⟩, qw418, qw419, qw48, qw420⟩
theorem vv_X8_restore : cV yX8_restore RX8 cX8_restore 2 (some .boolean) 1 := ⟨⟨rfl, by decide +kernel, by decide +kernel, by decide +kernel⟩, qw523, qw524, qw48, qw525⟩
theorem vv_X9_search : cV yX9_search RX9 cX9_search 5 none 4 := ⟨⟨rfl, by decide +kernel, by decide +kernel, by decide +kernel⟩, qw572, qw573, qw49, qw574⟩
theorem vv_X9_tryAll : cV yX9_tryAll RX9 cX9_tryAll 5 none 2 := ⟨⟨rfl, by decide +kernel, by decide +kernel, by decide +kernel⟩, qw579, qw14, qw49, qw580⟩
theorem vv_X9_weigh : cV yX9_weigh RX9 cX9_weigh 6 none 2 := ⟨⟨rfl, by decide +kernel, by decide +kernel, by decide +kernel⟩, qw584, qw15, qw49, qw585⟩
theorem vv_X10_append : cV yX10_append RX10 cX10_append 2 (some .boolean) 1 := ⟨⟨rfl, by decide +kernel, by decide +kernel, by decide +kernel⟩, qw324, qw325, qw45, qw326⟩
theorem vv_X10_readCurrent : cV yX10_readCurrent RX10 cX10_readCurrent 3 (some .boolean) 1 := ⟨⟨rfl, by decide +kernel, by decide +kernel, by decide +kernel⟩, qw375, qw5, qw45, qw376⟩
theorem vv_X10_readDigits : cV yX10_readDigits RX10 cX10_readDigits 2 none 0 := ⟨⟨rfl, by decide +kernel, by decide +kernel, by decide +kernel⟩, qw352, qw1, qw45, qw353⟩
theorem vv_X10_readInto : cV yX10_readInto RX10 cX10_readInto 3 (some .int) 1 := ⟨⟨rfl, by decide +kernel, by decide +kernel, by decide +kernel⟩, qw336, qw337, qw45, qw338⟩
theorem vv_X10_readItem : cV yX10_readItem RX10 cX10_readItem 2 (some .boolean) 1 := ⟨⟨rfl, by decide +kernel, by decide +kernel, by decide +kernel⟩, qw359, qw2, qw45, qw360⟩
theorem vv_X10_readNumber : cV yX10_readNumber RX10 cX10_readNumber 3 (some .boolean) 2 := ⟨⟨rfl, by decide +kernel, by decide +kernel, by decide +kernel⟩, qw367, qw4, qw45, qw368⟩
theorem vv_X10_readPassenger : cV yX10_readPassenger RX10 cX10_readPassenger 4 (some .boolean) 1 := ⟨⟨rfl, by decide +kernel, by decide +kernel, by decide +kernel⟩, qw363, qw3, qw45, qw364⟩
theorem vv_X10_readSemicolon : cV yX10_readSemicolon RX10 cX10_readSemicolon 1 (some .boolean) 0 := ⟨⟨rfl, by decide +kernel, by decide +kernel, by decide +kernel⟩, qw391, qw7, qw45, qw392⟩
theorem vv_X10_readToken : cV yX10_readToken RX10 cX10_readToken 1 none 0 := ⟨⟨rfl, by decide +kernel, by decide +kernel, by decide +kernel⟩, qw345, qw0, qw45, qw346⟩
theorem vv_X10_readWide : cV yX10_readWide RX10 cX10_readWide 2 (some .boolean) 1 := ⟨⟨rfl, by decide +kernel, by decide +kernel, by decide +kernel⟩, qw387, qw6, qw45, qw388⟩
theorem vv_X12_advances : cV yX12_advances RX12 cX12_advances 2 none 0 := ⟨⟨rfl, by decide +kernel, by decide +kernel, by decide +kernel⟩, qw808, qw22, qw56, qw809⟩
theorem vv_X12_asNow : cV yX12_asNow RX12 cX12_asNow 2 none 0 := ⟨⟨rfl, by decide +kernel, by decide +kernel, by decide +kernel⟩, qw912, qw39, qw56, qw913⟩
theorem vv_X12_back : cV yX12_back RX12 cX12_back 3 (some .int) 1 := ⟨⟨rfl, by decide +kernel, by decide +kernel, by decide +kernel⟩, qw995, qw996, qw56, qw997⟩
theorem vv_X12_beat : cV yX12_beat RX12 cX12_beat 1 (some .int) 0 := ⟨⟨rfl, by decide +kernel, by decide +kernel, by decide +kernel⟩, qw871, qw872, qw56, qw873⟩
theorem vv_X12_best : cV yX12_best RX12 cX12_best 5 (some .int) 0 := ⟨⟨rfl, by decide +kernel, by decide +kernel, by decide +kernel⟩, qw947, qw948, qw56, qw949⟩
theorem vv_X12_clear : cV yX12_clear RX12 cX12_clear 2 (some .int) 0 := ⟨⟨rfl, by decide +kernel, by decide +kernel, by decide +kernel⟩, qw799, qw800, qw56, qw801⟩
theorem vv_X12_count : cV yX12_count RX12 cX12_count 2 (some .int) 1 := ⟨⟨rfl, by decide +kernel, by decide +kernel, by decide +kernel⟩, qw999, qw1000, qw56, qw1001⟩
theorem vv_X12_current : cV yX12_current RX12 cX12_current 2 (some .int) 1 := ⟨⟨rfl, by decide +kernel, by decide +kernel, by decide +kernel⟩, qw847, qw848, qw56, qw849⟩
theorem vv_X12_drift : cV yX12_drift RX12 cX12_drift 2 (some .int) 0 := ⟨⟨rfl, by decide +kernel, by decide +kernel, by decide +kernel⟩, qw935, qw936, qw56, qw937⟩
theorem vv_X12_ends : cV yX12_ends RX12 cX12_ends 1 (some .int) 0 := ⟨⟨rfl, by decide +kernel, by decide +kernel, by decide +kernel⟩, qw915, qw916, qw56, qw917⟩
theorem vv_X12_endsBehind : cV yX12_endsBehind RX12 cX12_endsBehind 3 (some .int) 1 := ⟨⟨rfl, by decide +kernel, by decide +kernel, by decide +kernel⟩, qw920, qw40, qw56, qw921⟩
theorem vv_X12_endsBy : cV yX12_endsBy RX12 cX12_endsBy 6 (some .int) 2 := ⟨⟨rfl, by decide +kernel, by decide +kernel, by decide +kernel⟩, qw944, qw41, qw56, qw945⟩
theorem vv_X12_ferry : cV yX12_ferry RX12 cX12_ferry 3 (some .int) 0 := ⟨⟨rfl, by decide +kernel, by decide +kernel, by decide +kernel⟩, qw803, qw804, qw56, qw805⟩
theorem vv_X12_first : cV yX12_first RX12 cX12_first 6 (some .int) 1 := ⟨⟨rfl, by decide +kernel, by decide +kernel, by decide +kernel⟩, qw927, qw928, qw56, qw929⟩
theorem vv_X12_flowAt : cV yX12_flowAt RX12 cX12_flowAt 5 (some .int) 1 := ⟨⟨rfl, by decide +kernel, by decide +kernel, by decide +kernel⟩, qw852, qw31, qw56, qw853⟩
theorem vv_X12_forget : cV yX12_forget RX12 cX12_forget 2 (some .int) 0 := ⟨⟨rfl, by decide +kernel, by decide +kernel, by decide +kernel⟩, qw959, qw960, qw56, qw961⟩
theorem vv_X12_goes : cV yX12_goes RX12 cX12_goes 4 none 1 := ⟨⟨rfl, by decide +kernel, by decide +kernel, by decide +kernel⟩, qw880, qw36, qw56, qw881⟩
theorem vv_X12_hushes : cV yX12_hushes RX12 cX12_hushes 4 none 1 := ⟨⟨rfl, by decide +kernel, by decide +kernel, by decide +kernel⟩, qw884, qw37, qw56, qw885⟩
theorem vv_X12_inBeats : cV yX12_inBeats RX12 cX12_inBeats 4 (some .int) 2 := ⟨⟨rfl, by decide +kernel, by decide +kernel, by decide +kernel⟩, qw907, qw908, qw56, qw909⟩
theorem vv_X12_isAsSeen : cV yX12_isAsSeen RX12 cX12_isAsSeen 4 (some .boolean) 0 := ⟨⟨rfl, by decide +kernel, by decide +kernel, by decide +kernel⟩, qw968, qw42, qw56, qw969⟩
theorem vv_X12_isNewYard : cV yX12_isNewYard RX12 cX12_isNewYard 3 (some .boolean) 0 := ⟨⟨rfl, by decide +kernel, by decide +kernel, by decide +kernel⟩, qw832, qw28, qw56, qw833⟩
theorem vv_X12_isOver : cV yX12_isOver RX12 cX12_isOver 2 (some .boolean) 1 := ⟨⟨rfl, by decide +kernel, by decide +kernel, by decide +kernel⟩, qw864, qw33, qw56, qw865⟩
theorem vv_X12_isPassenger : cV yX12_isPassenger RX12 cX12_isPassenger 2 (some .boolean) 1 := ⟨⟨rfl, by decide +kernel, by decide +kernel, by decide +kernel⟩, qw844, qw30, qw56, qw845⟩
theorem vv_X12_isWell : cV yX12_isWell RX12 cX12_isWell 1 (some .boolean) 0 := ⟨⟨rfl, by decide +kernel, by decide +kernel, by decide +kernel⟩, qw816, qw24, qw56, qw817⟩
theorem vv_X12_keep : cV yX12_keep RX12 cX12_keep 3 (some .int) 1 := ⟨⟨rfl, by decide +kernel, by decide +kernel, by decide +kernel⟩, qw991, qw992, qw56, qw993⟩
theorem vv_X12_last : cV yX12_last RX12 cX12_last 1 (some .int) 0 := ⟨⟨rfl, by decide +kernel, by decide +kernel, by decide +kernel⟩, qw923, qw924, qw56, qw925⟩
theorem vv_X12_letterAt : cV yX12_letterAt RX12 cX12_letterAt 2 (some .int) 1 := ⟨⟨rfl, by decide +kernel, by decide +kernel, by decide +kernel⟩, qw812, qw23, qw56, qw813⟩
theorem vv_X12_mute : cV yX12_mute RX12 cX12_mute 4 (some .int) 1 := ⟨⟨rfl, by decide +kernel, by decide +kernel, by decide +kernel⟩, qw951, qw952, qw56, qw953⟩
theorem vv_X12_notes : cV yX12_notes RX12 cX12_notes 2 none 0 := ⟨⟨rfl, by decide +kernel, by decide +kernel, by decide +kernel⟩, qw876, qw35, qw56, qw877⟩
theorem vv_X12_now : cV yX12_now RX12 cX12_now 2 (some .int) 1 := ⟨⟨rfl, by decide +kernel, by decide +kernel, by decide +kernel⟩, qw855, qw856, qw56, qw857⟩
theorem vv_X12_number : cV yX12_number RX12 cX12_number 3 (some .int) 2 := ⟨⟨rfl, by decide +kernel, by decide +kernel, by decide +kernel⟩, qw828, qw27, qw56, qw829⟩
theorem vv_X12_odds : cV yX12_odds RX12 cX12_odds 10 (some .int) 4 := ⟨⟨rfl, by decide +kernel, by decide +kernel, by decide +kernel⟩, qw971, qw972, qw56, qw973⟩
theorem vv_X12_passenger : cV yX12_passenger RX12 cX12_passenger 3 (some .int) 2 := ⟨⟨rfl, by decide +kernel, by decide +kernel, by decide +kernel⟩, qw839, qw840, qw56, qw841⟩
theorem vv_X12_pinches : cV yX12_pinches RX12 cX12_pinches 2 (some .int) 1 := ⟨⟨rfl, by decide +kernel, by decide +kernel, by decide +kernel⟩, qw891, qw892, qw56, qw893⟩
theorem vv_X12_plan : cV yX12_plan RX12 cX12_plan 10 (some .int) 3 := ⟨⟨rfl, by decide +kernel, by decide +kernel, by decide +kernel⟩, qw939, qw940, qw56, qw941⟩
theorem vv_X12_pullOf : cV yX12_pullOf RX12 cX12_pullOf 7 (some .int) 1 := ⟨⟨rfl, by decide +kernel, by decide +kernel, by decide +kernel⟩, qw860, qw32, qw56, qw861⟩
theorem vv_X12_quarrels : cV yX12_quarrels RX12 cX12_quarrels 3 (some .int) 2 := ⟨⟨rfl, by decide +kernel, by decide +kernel, by decide +kernel⟩, qw895, qw896, qw56, qw897⟩
theorem vv_X12_rate : cV yX12_rate RX12 cX12_rate 5 (some .int) 2 := ⟨⟨rfl, by decide +kernel, by decide +kernel, by decide +kernel⟩, qw981, qw982, qw56, qw983⟩
theorem vv_X12_readsItem : cV yX12_readsItem RX12 cX12_readsItem 3 none 1 := ⟨⟨rfl, by decide +kernel, by decide +kernel, by decide +kernel⟩, qw824, qw26, qw56, qw825⟩
theorem vv_X12_ring : cV yX12_ring RX12 cX12_ring 4 (some .int) 0 := ⟨⟨rfl, by decide +kernel, by decide +kernel, by decide +kernel⟩, qw931, qw932, qw56, qw933⟩
theorem vv_X12_seen : cV yX12_seen RX12 cX12_seen 3 (some .int) 2 := ⟨⟨rfl, by decide +kernel, by decide +kernel, by decide +kernel⟩, qw955, qw956, qw56, qw957⟩
theorem vv_X12_settles : cV yX12_settles RX12 cX12_settles 2 none 0 := ⟨⟨rfl, by decide +kernel, by decide +kernel, by decide +kernel⟩, qw836, qw29, qw56, qw837⟩
theorem vv_X12_sings : cV yX12_sings RX12 cX12_sings 4 (some .int) 1 := ⟨⟨rfl, by decide +kernel, by decide +kernel, by decide +kernel⟩, qw899, qw900, qw56, qw901⟩
theorem vv_X12_speak : cV yX12_speak RX12 cX12_speak 4 none 2 := ⟨⟨rfl, by decide +kernel, by decide +kernel, by decide +kernel⟩, qw888, qw38, qw56, qw889⟩
theorem vv_X12_takes : cV yX12_takes RX12 cX12_takes 3 (some .int) 1 := ⟨⟨rfl, by decide +kernel, by decide +kernel, by decide +kernel⟩, qw820, qw25, qw56, qw821⟩
theorem vv_X12_trace : cV yX12_trace RX12 cX12_trace 1 (some .long) 0 := ⟨⟨rfl, by decide +kernel, by decide +kernel, by decide +kernel⟩, qw1003, qw1004, qw56, qw1005⟩
theorem vv_X12_type : cV yX12_type RX12 cX12_type 2 (some .int) 1 := ⟨⟨rfl, by decide +kernel, by decide +kernel, by decide +kernel⟩, qw792, qw793, qw56, qw794⟩
theorem vv_X12_undo : cV yX12_undo RX12 cX12_undo 2 (some .int) 0 := ⟨⟨rfl, by decide +kernel, by decide +kernel, by decide +kernel⟩, qw903, qw904, qw56, qw905⟩
theorem vv_X12_who : cV yX12_who RX12 cX12_who 3 (some .int) 0 := ⟨⟨rfl, by decide +kernel, by decide +kernel, by decide +kernel⟩, qw963, qw964, qw56, qw965⟩
theorem vv_X12_wordsOf : cV yX12_wordsOf RX12 cX12_wordsOf 4 (some .int) 1 := ⟨⟨rfl, by decide +kernel, by decide +kernel, by decide +kernel⟩, qw868, qw34, qw56, qw869⟩
theorem vs_X11_greatestShared : cS yX11_greatestShared cX11_greatestShared 6 (some .int) 2 := ⟨⟨by decide +kernel, by decide +kernel, by decide +kernel⟩, qw648, qw44, qw649⟩
theorem vs_X11_powerOfTen : cS yX11_powerOfTen cX11_powerOfTen 3 (some .int) 1 := ⟨⟨by decide +kernel, by decide +kernel, by decide +kernel⟩, qw645, qw44, qw646⟩
theorem vs_X10_isDigit : cS yX10_isDigit cX10_isDigit 1 (some .boolean) 1 := ⟨⟨by decide +kernel, by decide +kernel, by decide +kernel⟩, qw348, qw45, qw349⟩
theorem vs_X12_gcd : cS yX12_gcd cX12_gcd 5 (some .int) 2 := ⟨⟨by decide +kernel, by decide +kernel, by decide +kernel⟩, qw978, qw56, qw979⟩
theorem vs_X12_in : cS yX12_in cX12_in 3 (some .boolean) 3 := ⟨⟨by decide +kernel, by decide +kernel, by decide +kernel⟩, qw796, qw56, qw797⟩
theorem vs_X12_power : cS yX12_power cX12_power 4 (some .int) 2 := ⟨⟨by decide +kernel, by decide +kernel, by decide +kernel⟩, qw975, qw56, qw976⟩
theorem vs_J7_fill_53178 : cS yJ7_fill_53178 cJ7_fill_53178 4 none 2 := ⟨⟨by decide +kernel, by decide +kernel, by decide +kernel⟩, qw410, qw58, qw411⟩
theorem vu_X0_X7_worth : cU RX0 yX7_worth cX7_worth 5 (some .int) 4 := ⟨⟨by decide +kernel, by decide +kernel⟩, qw658, qw275, qw656, qw50, qw685⟩
theorem vu_X1_X7_worth : cU RX1 yX7_worth cX7_worth 5 (some .int) 4 := ⟨⟨by decide +kernel, by decide +kernel⟩, qw658, qw254, qw656, qw50, qw685⟩
theorem vu_X3_X5_worth : cU RX3 yX5_worth cX5_worth 5 (some .int) 4 := ⟨⟨by decide +kernel, by decide +kernel⟩, qw1006, qw261, qw674, qw51, qw675⟩
theorem vu_X5_X7_worth : cU RX5 yX7_worth cX7_worth 5 (some .int) 4 := ⟨⟨by decide +kernel, by decide +kernel⟩, qw658, qw247, qw656, qw50, qw685⟩
theorem vu_X6_X1_worth : cU RX6 yX1_worth cX1_worth 5 (some .int) 4 := ⟨⟨by decide +kernel, by decide +kernel⟩, qw1007, qw268, qw665, qw52, qw666⟩
theorem vo_X0_worth : cO RX0 RX7 yX7_worth yX0_worth cX0_worth 5 (some .int) 4 cX7_worth 5 (some .int) := ⟨⟨by decide +kernel, by decide +kernel, by decide +kernel⟩, qw658, qw656, qw659, qw660, qw55, qw661, qw685⟩
theorem vo_X1_worth : cO RX1 RX7 yX7_worth yX1_worth cX1_worth 5 (some .int) 4 cX7_worth 5 (some .int) := ⟨⟨by decide +kernel, by decide +kernel, by decide +kernel⟩, qw658, qw656, qw664, qw665, qw52, qw666, qw685⟩
theorem vo_X3_worth : cO RX3 RX7 yX7_worth yX3_worth cX3_worth 5 (some .int) 4 cX7_worth 5 (some .int) := ⟨⟨by decide +kernel, by decide +kernel, by decide +kernel⟩, qw658, qw656, qw669, qw670, qw53, qw671, qw685⟩
theorem vo_X5_worth : cO RX5 RX7 yX7_worth yX5_worth cX5_worth 5 (some .int) 4 cX7_worth 5 (some .int) := ⟨⟨by decide +kernel, by decide +kernel, by decide +kernel⟩, qw658, qw656, qw679, qw674, qw51, qw675, qw685⟩
theorem vo_X6_worth : cO RX6 RX7 yX7_worth yX6_worth cX6_worth 5 (some .int) 4 cX7_worth 5 (some .int) := ⟨⟨by decide +kernel, by decide +kernel, by decide +kernel⟩, qw658, qw656, qw680, qw681, qw54, qw682, qw685⟩
