/-! cells by their numbers, links of fields -/
section SH
variable {X : Cx} {ad : Nat → Nat} {cid : Nat → ClassId} {cc : ByteArray} {nL : Nat} {ret : Option FieldType} {fr lo : Nat} {α : Type} {Q : α → State → Prop} {M : Mem} {pc : Nat} {lv : List (Option Value)} {st : List Value} {res : Option α}
theorem sh_X11 : shp ad cid M 0 = .inr (11, [.ref (ad 1), .ref (ad (feB (gM M 0 1))), .ref (ad (feB (gM M 0 2))), .ref (ad 19), .ref (ad 22), .ref (ad 54), .int (gM M 0 6), .ref (ad 55), .ref (ad 56), .int (gM M 0 9), .ref (ad 57), .ref (ad 58), .ref (ad 74), .ref (ad 75)]) := rfl
theorem sh_X10 : shp ad cid M 1 = .inr (10, [.ref (ad 2), .int (gM M 1 1), .int (gM M 1 2), .int (gM M 1 3), .int (gM M 1 4), .int (gM M 1 5)]) := rfl
theorem sh_X8 : shp ad cid M 22 = .inr (8, [.ref (ad 23), .int (gM M 22 1), .int (gM M 22 2)]) := rfl
theorem sh_X9 : shp ad cid M 58 = .inr (9, [.ref (ad 59), .ref (ad 60), .ref (ad 61), .int (gM M 58 3), .int (gM M 58 4), .int (gM M 58 5)]) := rfl
theorem sh_X12 : shp ad cid M 109 = .inr (12, [.int (gM M 109 0), .long (gL M 109), .ref (ad 110), .int (gM M 109 3), .int (gM M 109 4), .int (gM M 109 5), .int (gM M 109 6), .int (gM M 109 7), .int (gM M 109 8), .ref (ad 111), .ref (ad 112), .ref (ad 113), .ref (ad 114), .ref (ad 115), .ref (ad 116), .int (gM M 109 15), .ref (ad 117), .ref (ad 118), .ref (ad 119), .ref (ad 120), .ref (ad 121), .int (gM M 109 21), .ref (ad 122), .ref (ad 123), .int (gM M 109 24), .ref (ad 124), .ref (ad 125)]) := rfl
theorem sh_X2 {b : Nat} (hb : isFe b) : shp ad cid M b = .inr (2, [.int (gM M b 0), .ref (ad (b + 1)), .ref (ad (b + 2)), .ref (ad (b + 3)), .int (gM M b 4), .ref (ad (b + 4)), .ref (ad (b + 5)), .int (gM M b 7), .int (gM M b 8), .ref (ad (b + 6)), .ref (ad (b + 7))]) := by simp only [shp, fe_k hb]
theorem sh_X4 {b : Nat} (hb : isMo b) : shp ad cid M b = .inr (4, [.int (gM M b 0), .int (gM M b 1), .int (gM M b 2), .ref (ad (b + 1)), .ref (ad (b + 2)), .int (gM M b 5)]) := by simp only [shp, mo_k hb]
theorem ki_sh {t : Nat} (ht : isKi t) (M : Mem) : t < 126 ∧ ∃ (ci : Nat) (C : String) (T : u_T) (N : Nat), shp ad cid M t = .inr (ci, []) ∧ vwCl[ci]? = some (C, T, N) := by
  rcases ht with rfl | rfl | rfl | rfl | rfl | rfl <;> exact ⟨by decide, _, _, _, _, rfl, rfl⟩
theorem in_X2 : ∀ w ∈ u_ws RX2 TX2 11, w ∈ wAll := by decide +kernel
theorem in_X4 : ∀ w ∈ u_ws RX4 TX4 6, w ∈ wAll := by decide +kernel
theorem in_X8 : ∀ w ∈ u_ws RX8 TX8 3, w ∈ wAll := by decide +kernel
theorem in_X9 : ∀ w ∈ u_ws RX9 TX9 6, w ∈ wAll := by decide +kernel
theorem in_X10 : ∀ w ∈ u_ws RX10 TX10 6, w ∈ wAll := by decide +kernel
theorem in_X11 : ∀ w ∈ u_ws RX11 TX11 14, w ∈ wAll := by decide +kernel
theorem in_X12 : ∀ w ∈ u_ws RX12 TX12 27, w ∈ wAll := by decide +kernel
theorem gX11_109 (hC : Ok X ad cid cc RX11 nL ret fr lo) (hd : decode cc pc = .ok (.getfield 109, 3)) (kk : Jp X ad cid nL Q M (pc + 3) lv (.int (gM M 0 9) :: st) res) : Jp X ad cid nL Q M pc lv (.ref (ad 0) :: st) res :=
  j_get hC 9 (by decide) sh_X11 rfl in_X11 (by decide) rfl qw284 rfl hd kk
theorem gX11_44 (hC : Ok X ad cid cc RX11 nL ret fr lo) (hd : decode cc pc = .ok (.getfield 44, 3)) (kk : Jp X ad cid nL Q M (pc + 3) lv (.ref (ad 55) :: st) res) : Jp X ad cid nL Q M pc lv (.ref (ad 0) :: st) res :=
  j_get hC 7 (by decide) sh_X11 rfl in_X11 (by decide) rfl qw282 rfl hd kk
theorem gX11_48 (hC : Ok X ad cid cc RX11 nL ret fr lo) (hd : decode cc pc = .ok (.getfield 48, 3)) (kk : Jp X ad cid nL Q M (pc + 3) lv (.ref (ad 56) :: st) res) : Jp X ad cid nL Q M pc lv (.ref (ad 0) :: st) res :=
  j_get hC 8 (by decide) sh_X11 rfl in_X11 (by decide) rfl qw283 rfl hd kk
theorem gX2_34 (hC : Ok X ad cid cc RX2 nL ret fr lo) {b : Nat} (hb : isFe b) (hd : decode cc pc = .ok (.getfield 34, 3)) (kk : Jp X ad cid nL Q M (pc + 3) lv (.ref (ad (b + 7)) :: st) res) : Jp X ad cid nL Q M pc lv (.ref (ad b) :: st) res :=
  j_get hC 10 (fe_lt hb) (sh_X2 hb) rfl in_X2 (by decide) rfl qw124 rfl hd kk
theorem gX2_27 (hC : Ok X ad cid cc RX2 nL ret fr lo) {b : Nat} (hb : isFe b) (hd : decode cc pc = .ok (.getfield 27, 3)) (kk : Jp X ad cid nL Q M (pc + 3) lv (.int (gM M b 7) :: st) res) : Jp X ad cid nL Q M pc lv (.ref (ad b) :: st) res :=
  j_get hC 7 (fe_lt hb) (sh_X2 hb) rfl in_X2 (by decide) rfl qw118 rfl hd kk
theorem gX2_31 (hC : Ok X ad cid cc RX2 nL ret fr lo) {b : Nat} (hb : isFe b) (hd : decode cc pc = .ok (.getfield 31, 3)) (kk : Jp X ad cid nL Q M (pc + 3) lv (.ref (ad (b + 6)) :: st) res) : Jp X ad cid nL Q M pc lv (.ref (ad b) :: st) res :=
  j_get hC 9 (fe_lt hb) (sh_X2 hb) rfl in_X2 (by decide) rfl qw123 rfl hd kk
theorem pX4_39 (hC : Ok X ad cid cc RX4 nL ret fr lo) {b : Nat} (hb : isMo b) {v : Int32} (hd : decode cc pc = .ok (.putfield 39, 3)) (kk : Jp X ad cid nL Q (sM M b 2 v) (pc + 3) lv st res) : Jp X ad cid nL Q M pc lv (.int v :: .ref (ad b) :: st) res :=
  j_put hC (ty := .int) tyX4 2 (mo_lt hb) (sh_X4 hb) (by rw [sh_X4 hb]; simp [g_s, l_sL, l_sM, g_sL]) (sM_other M b 2 v) rfl in_X4 tyX4_ok nmX4 (by decide) rfl qw160 rfl (by decide +kernel) rfl rfl (Nat.le_of_ble_eq_true rfl) hd kk
theorem pX4_19 (hC : Ok X ad cid cc RX4 nL ret fr lo) {b : Nat} (hb : isMo b) {v : Int32} (hd : decode cc pc = .ok (.putfield 19, 3)) (kk : Jp X ad cid nL Q (sM M b 5 v) (pc + 3) lv st res) : Jp X ad cid nL Q M pc lv (.int v :: .ref (ad b) :: st) res :=
  j_put hC (ty := .int) tyX4 5 (mo_lt hb) (sh_X4 hb) (by rw [sh_X4 hb]; simp [g_s, l_sL, l_sM, g_sL]) (sM_other M b 5 v) rfl in_X4 tyX4_ok nmX4 (by decide) rfl qw167 rfl (by decide +kernel) rfl rfl (Nat.le_of_ble_eq_true rfl) hd kk
theorem gX4_42 (hC : Ok X ad cid cc RX4 nL ret fr lo) {b : Nat} (hb : isFe b) (hd : decode cc pc = .ok (.getfield 42, 3)) (kk : Jp X ad cid nL Q M (pc + 3) lv (.int (gM M b 0) :: st) res) : Jp X ad cid nL Q M pc lv (.ref (ad b) :: st) res :=
  j_getN hC 0 (fe_lt hb) (sh_X2 hb) rfl in_X2 (by decide) rfl qn101 rfl hd kk
theorem gX4_9 (hC : Ok X ad cid cc RX4 nL ret fr lo) {b : Nat} (hb : isMo b) (hd : decode cc pc = .ok (.getfield 9, 3)) (kk : Jp X ad cid nL Q M (pc + 3) lv (.ref (ad (b + 1)) :: st) res) : Jp X ad cid nL Q M pc lv (.ref (ad b) :: st) res :=
  j_get hC 3 (mo_lt hb) (sh_X4 hb) rfl in_X4 (by decide) rfl qw163 rfl hd kk
theorem gX4_23 (hC : Ok X ad cid cc RX4 nL ret fr lo) {b : Nat} (hb : isMo b) (hd : decode cc pc = .ok (.getfield 23, 3)) (kk : Jp X ad cid nL Q M (pc + 3) lv (.int (gM M b 0) :: st) res) : Jp X ad cid nL Q M pc lv (.ref (ad b) :: st) res :=
  j_get hC 0 (mo_lt hb) (sh_X4 hb) rfl in_X4 (by decide) rfl qw155 rfl hd kk
theorem gX4_15 (hC : Ok X ad cid cc RX4 nL ret fr lo) {b : Nat} (hb : isMo b) (hd : decode cc pc = .ok (.getfield 15, 3)) (kk : Jp X ad cid nL Q M (pc + 3) lv (.ref (ad (b + 2)) :: st) res) : Jp X ad cid nL Q M pc lv (.ref (ad b) :: st) res :=
  j_get hC 4 (mo_lt hb) (sh_X4 hb) rfl in_X4 (by decide) rfl qw164 rfl hd kk
theorem gX4_47 (hC : Ok X ad cid cc RX4 nL ret fr lo) {b : Nat} (hb : isFe b) (hd : decode cc pc = .ok (.getfield 47, 3)) (kk : Jp X ad cid nL Q M (pc + 3) lv (.ref (ad (b + 2)) :: st) res) : Jp X ad cid nL Q M pc lv (.ref (ad b) :: st) res :=
  j_getN hC 2 (fe_lt hb) (sh_X2 hb) rfl in_X2 (by decide) rfl qn109 rfl hd kk
theorem gX4_19 (hC : Ok X ad cid cc RX4 nL ret fr lo) {b : Nat} (hb : isMo b) (hd : decode cc pc = .ok (.getfield 19, 3)) (kk : Jp X ad cid nL Q M (pc + 3) lv (.int (gM M b 5) :: st) res) : Jp X ad cid nL Q M pc lv (.ref (ad b) :: st) res :=
  j_get hC 5 (mo_lt hb) (sh_X4 hb) rfl in_X4 (by decide) rfl qw167 rfl hd kk
theorem pX4_23 (hC : Ok X ad cid cc RX4 nL ret fr lo) {b : Nat} (hb : isMo b) {v : Int32} (hd : decode cc pc = .ok (.putfield 23, 3)) (kk : Jp X ad cid nL Q (sM M b 0 v) (pc + 3) lv st res) : Jp X ad cid nL Q M pc lv (.int v :: .ref (ad b) :: st) res :=
  j_put hC (ty := .int) tyX4 0 (mo_lt hb) (sh_X4 hb) (by rw [sh_X4 hb]; simp [g_s, l_sL, l_sM, g_sL]) (sM_other M b 0 v) rfl in_X4 tyX4_ok nmX4 (by decide) rfl qw155 rfl (by decide +kernel) rfl rfl (Nat.le_of_ble_eq_true rfl) hd kk
theorem gX4_26 (hC : Ok X ad cid cc RX4 nL ret fr lo) {b : Nat} (hb : isMo b) (hd : decode cc pc = .ok (.getfield 26, 3)) (kk : Jp X ad cid nL Q M (pc + 3) lv (.int (gM M b 1) :: st) res) : Jp X ad cid nL Q M pc lv (.ref (ad b) :: st) res :=
  j_get hC 1 (mo_lt hb) (sh_X4 hb) rfl in_X4 (by decide) rfl qw157 rfl hd kk
theorem gX4_39 (hC : Ok X ad cid cc RX4 nL ret fr lo) {b : Nat} (hb : isMo b) (hd : decode cc pc = .ok (.getfield 39, 3)) (kk : Jp X ad cid nL Q M (pc + 3) lv (.int (gM M b 2) :: st) res) : Jp X ad cid nL Q M pc lv (.ref (ad b) :: st) res :=
  j_get hC 2 (mo_lt hb) (sh_X4 hb) rfl in_X4 (by decide) rfl qw160 rfl hd kk
theorem pX4_26 (hC : Ok X ad cid cc RX4 nL ret fr lo) {b : Nat} (hb : isMo b) {v : Int32} (hd : decode cc pc = .ok (.putfield 26, 3)) (kk : Jp X ad cid nL Q (sM M b 1 v) (pc + 3) lv st res) : Jp X ad cid nL Q M pc lv (.int v :: .ref (ad b) :: st) res :=
  j_put hC (ty := .int) tyX4 1 (mo_lt hb) (sh_X4 hb) (by rw [sh_X4 hb]; simp [g_s, l_sL, l_sM, g_sL]) (sM_other M b 1 v) rfl in_X4 tyX4_ok nmX4 (by decide) rfl qw157 rfl (by decide +kernel) rfl rfl (Nat.le_of_ble_eq_true rfl) hd kk
theorem gX11_131 (hC : Ok X ad cid cc RX11 nL ret fr lo) {b : Nat} (hb : isMo b) (hd : decode cc pc = .ok (.getfield 131, 3)) (kk : Jp X ad cid nL Q M (pc + 3) lv (.int (gM M b 2) :: st) res) : Jp X ad cid nL Q M pc lv (.ref (ad b) :: st) res :=
  j_getN hC 2 (mo_lt hb) (sh_X4 hb) rfl in_X4 (by decide) rfl qn162 rfl hd kk
theorem gX11_19 (hC : Ok X ad cid cc RX11 nL ret fr lo) (hd : decode cc pc = .ok (.getfield 19, 3)) (kk : Jp X ad cid nL Q M (pc + 3) lv (.ref (ad (feB (gM M 0 1))) :: st) res) : Jp X ad cid nL Q M pc lv (.ref (ad 0) :: st) res :=
  j_get hC 1 (by decide) sh_X11 rfl in_X11 (by decide) rfl qw276 rfl hd kk
theorem pX8_16 (hC : Ok X ad cid cc RX8 nL ret fr lo) {v : Int32} (hd : decode cc pc = .ok (.putfield 16, 3)) (kk : Jp X ad cid nL Q (sM M 22 2 v) (pc + 3) lv st res) : Jp X ad cid nL Q M pc lv (.int v :: .ref (ad 22) :: st) res :=
  j_put hC (ty := .int) tyX8 2 (by decide) sh_X8 (by rw [sh_X8]; simp [g_s, l_sL, l_sM, g_sL]) (sM_other M 22 2 v) rfl in_X8 tyX8_ok nmX8 (by decide) rfl qw193 rfl (by decide +kernel) rfl rfl (Nat.le_of_ble_eq_true rfl) hd kk
theorem gX11_106 (hC : Ok X ad cid cc RX11 nL ret fr lo) (hd : decode cc pc = .ok (.getfield 106, 3)) (kk : Jp X ad cid nL Q M (pc + 3) lv (.int (gM M 0 6) :: st) res) : Jp X ad cid nL Q M pc lv (.ref (ad 0) :: st) res :=
  j_get hC 6 (by decide) sh_X11 rfl in_X11 (by decide) rfl qw281 rfl hd kk
theorem gX11_29 (hC : Ok X ad cid cc RX11 nL ret fr lo) (hd : decode cc pc = .ok (.getfield 29, 3)) (kk : Jp X ad cid nL Q M (pc + 3) lv (.ref (ad 19) :: st) res) : Jp X ad cid nL Q M pc lv (.ref (ad 0) :: st) res :=
  j_get hC 3 (by decide) sh_X11 rfl in_X11 (by decide) rfl qw278 rfl hd kk
theorem gX11_40 (hC : Ok X ad cid cc RX11 nL ret fr lo) (hd : decode cc pc = .ok (.getfield 40, 3)) (kk : Jp X ad cid nL Q M (pc + 3) lv (.ref (ad 54) :: st) res) : Jp X ad cid nL Q M pc lv (.ref (ad 0) :: st) res :=
  j_get hC 5 (by decide) sh_X11 rfl in_X11 (by decide) rfl qw280 rfl hd kk
theorem gX11_36 (hC : Ok X ad cid cc RX11 nL ret fr lo) (hd : decode cc pc = .ok (.getfield 36, 3)) (kk : Jp X ad cid nL Q M (pc + 3) lv (.ref (ad 22) :: st) res) : Jp X ad cid nL Q M pc lv (.ref (ad 0) :: st) res :=
  j_get hC 4 (by decide) sh_X11 rfl in_X11 (by decide) rfl qw279 rfl hd kk
theorem gX11_137 (hC : Ok X ad cid cc RX11 nL ret fr lo) {b : Nat} (hb : isMo b) (hd : decode cc pc = .ok (.getfield 137, 3)) (kk : Jp X ad cid nL Q M (pc + 3) lv (.int (gM M b 0) :: st) res) : Jp X ad cid nL Q M pc lv (.ref (ad b) :: st) res :=
  j_getN hC 0 (mo_lt hb) (sh_X4 hb) rfl in_X4 (by decide) rfl qn156 rfl hd kk
theorem gX11_140 (hC : Ok X ad cid cc RX11 nL ret fr lo) {b : Nat} (hb : isMo b) (hd : decode cc pc = .ok (.getfield 140, 3)) (kk : Jp X ad cid nL Q M (pc + 3) lv (.int (gM M b 1) :: st) res) : Jp X ad cid nL Q M pc lv (.ref (ad b) :: st) res :=
  j_getN hC 1 (mo_lt hb) (sh_X4 hb) rfl in_X4 (by decide) rfl qn159 rfl hd kk
theorem gX8_20 (hC : Ok X ad cid cc RX8 nL ret fr lo) (hd : decode cc pc = .ok (.getfield 20, 3)) (kk : Jp X ad cid nL Q M (pc + 3) lv (.int (gM M 22 1) :: st) res) : Jp X ad cid nL Q M pc lv (.ref (ad 22) :: st) res :=
  j_get hC 1 (by decide) sh_X8 rfl in_X8 (by decide) rfl qw192 rfl hd kk
theorem pX8_20 (hC : Ok X ad cid cc RX8 nL ret fr lo) {v : Int32} (hd : decode cc pc = .ok (.putfield 20, 3)) (kk : Jp X ad cid nL Q (sM M 22 1 v) (pc + 3) lv st res) : Jp X ad cid nL Q M pc lv (.int v :: .ref (ad 22) :: st) res :=
  j_put hC (ty := .int) tyX8 1 (by decide) sh_X8 (by rw [sh_X8]; simp [g_s, l_sL, l_sM, g_sL]) (sM_other M 22 1 v) rfl in_X8 tyX8_ok nmX8 (by decide) rfl qw192 rfl (by decide +kernel) rfl rfl (Nat.le_of_ble_eq_true rfl) hd kk
theorem gX8_11 (hC : Ok X ad cid cc RX8 nL ret fr lo) (hd : decode cc pc = .ok (.getfield 11, 3)) (kk : Jp X ad cid nL Q M (pc + 3) lv (.ref (ad 23) :: st) res) : Jp X ad cid nL Q M pc lv (.ref (ad 22) :: st) res :=
  j_get hC 0 (by decide) sh_X8 rfl in_X8 (by decide) rfl qw191 rfl hd kk
theorem gX8_16 (hC : Ok X ad cid cc RX8 nL ret fr lo) (hd : decode cc pc = .ok (.getfield 16, 3)) (kk : Jp X ad cid nL Q M (pc + 3) lv (.int (gM M 22 2) :: st) res) : Jp X ad cid nL Q M pc lv (.ref (ad 22) :: st) res :=
  j_get hC 2 (by decide) sh_X8 rfl in_X8 (by decide) rfl qw193 rfl hd kk
theorem gX11_51 (hC : Ok X ad cid cc RX11 nL ret fr lo) (hd : decode cc pc = .ok (.getfield 51, 3)) (kk : Jp X ad cid nL Q M (pc + 3) lv (.ref (ad 57) :: st) res) : Jp X ad cid nL Q M pc lv (.ref (ad 0) :: st) res :=
  j_get hC 10 (by decide) sh_X11 rfl in_X11 (by decide) rfl qw285 rfl hd kk
theorem gX11_189 (hC : Ok X ad cid cc RX11 nL ret fr lo) {b : Nat} (hb : isFe b) (hd : decode cc pc = .ok (.getfield 189, 3)) (kk : Jp X ad cid nL Q M (pc + 3) lv (.int (gM M b 0) :: st) res) : Jp X ad cid nL Q M pc lv (.ref (ad b) :: st) res :=
  j_getN hC 0 (fe_lt hb) (sh_X2 hb) rfl in_X2 (by decide) rfl qn103 rfl hd kk
theorem gX11_10 (hC : Ok X ad cid cc RX11 nL ret fr lo) (hd : decode cc pc = .ok (.getfield 10, 3)) (kk : Jp X ad cid nL Q M (pc + 3) lv (.ref (ad 1) :: st) res) : Jp X ad cid nL Q M pc lv (.ref (ad 0) :: st) res :=
  j_get hC 0 (by decide) sh_X11 rfl in_X11 (by decide) rfl qw275 rfl hd kk
theorem gX11_91 (hC : Ok X ad cid cc RX11 nL ret fr lo) (hd : decode cc pc = .ok (.getfield 91, 3)) (kk : Jp X ad cid nL Q M (pc + 3) lv (.int (gM M 1 1) :: st) res) : Jp X ad cid nL Q M pc lv (.ref (ad 1) :: st) res :=
  j_getN hC 1 (by decide) sh_X10 rfl in_X10 (by decide) rfl qn74 rfl hd kk
theorem pX11_91 (hC : Ok X ad cid cc RX11 nL ret fr lo) {v : Int32} (hd : decode cc pc = .ok (.putfield 91, 3)) (kk : Jp X ad cid nL Q (sM M 1 1 v) (pc + 3) lv st res) : Jp X ad cid nL Q M pc lv (.int v :: .ref (ad 1) :: st) res :=
  j_putN hC (ty := .int) tyX10 1 (by decide) sh_X10 (by rw [sh_X10]; simp [g_s, l_sL, l_sM, g_sL]) (sM_other M 1 1 v) rfl in_X10 tyX10_ok nmX10 (by decide) rfl qn74 rfl (by decide +kernel) rfl rfl (Nat.le_of_ble_eq_true rfl) hd kk
theorem gX11_259 (hC : Ok X ad cid cc RX11 nL ret fr lo) {b : Nat} (hb : isFe b) (hd : decode cc pc = .ok (.getfield 259, 3)) (kk : Jp X ad cid nL Q M (pc + 3) lv (.int (gM M b 7) :: st) res) : Jp X ad cid nL Q M pc lv (.ref (ad b) :: st) res :=
  j_getN hC 7 (fe_lt hb) (sh_X2 hb) rfl in_X2 (by decide) rfl qn120 rfl hd kk
theorem gX11_262 (hC : Ok X ad cid cc RX11 nL ret fr lo) {b : Nat} (hb : isFe b) (hd : decode cc pc = .ok (.getfield 262, 3)) (kk : Jp X ad cid nL Q M (pc + 3) lv (.int (gM M b 4) :: st) res) : Jp X ad cid nL Q M pc lv (.ref (ad b) :: st) res :=
  j_getN hC 4 (fe_lt hb) (sh_X2 hb) rfl in_X2 (by decide) rfl qn115 rfl hd kk
theorem pX2_37 (hC : Ok X ad cid cc RX2 nL ret fr lo) {b : Nat} (hb : isFe b) {v : Int32} (hd : decode cc pc = .ok (.putfield 37, 3)) (kk : Jp X ad cid nL Q (sM M b 0 v) (pc + 3) lv st res) : Jp X ad cid nL Q M pc lv (.int v :: .ref (ad b) :: st) res :=
  j_put hC (ty := .int) tyX2 0 (fe_lt hb) (sh_X2 hb) (by rw [sh_X2 hb]; simp [g_s, l_sL, l_sM, g_sL]) (sM_other M b 0 v) rfl in_X2 tyX2_ok nmX2 (by decide) rfl qw99 rfl (by decide +kernel) rfl rfl (Nat.le_of_ble_eq_true rfl) hd kk
theorem pX2_40 (hC : Ok X ad cid cc RX2 nL ret fr lo) {b : Nat} (hb : isFe b) {v : Int32} (hd : decode cc pc = .ok (.putfield 40, 3)) (kk : Jp X ad cid nL Q (sM M b 4 v) (pc + 3) lv st res) : Jp X ad cid nL Q M pc lv (.int v :: .ref (ad b) :: st) res :=
  j_put hC (ty := .int) tyX2 4 (fe_lt hb) (sh_X2 hb) (by rw [sh_X2 hb]; simp [g_s, l_sL, l_sM, g_sL]) (sM_other M b 4 v) rfl in_X2 tyX2_ok nmX2 (by decide) rfl qw113 rfl (by decide +kernel) rfl rfl (Nat.le_of_ble_eq_true rfl) hd kk
theorem pX2_27 (hC : Ok X ad cid cc RX2 nL ret fr lo) {b : Nat} (hb : isFe b) {v : Int32} (hd : decode cc pc = .ok (.putfield 27, 3)) (kk : Jp X ad cid nL Q (sM M b 7 v) (pc + 3) lv st res) : Jp X ad cid nL Q M pc lv (.int v :: .ref (ad b) :: st) res :=
  j_put hC (ty := .int) tyX2 7 (fe_lt hb) (sh_X2 hb) (by rw [sh_X2 hb]; simp [g_s, l_sL, l_sM, g_sL]) (sM_other M b 7 v) rfl in_X2 tyX2_ok nmX2 (by decide) rfl qw118 rfl (by decide +kernel) rfl rfl (Nat.le_of_ble_eq_true rfl) hd kk
theorem pX2_43 (hC : Ok X ad cid cc RX2 nL ret fr lo) {b : Nat} (hb : isFe b) {v : Int32} (hv : v = 0 ∨ v = 1) (hd : decode cc pc = .ok (.putfield 43, 3)) (kk : Jp X ad cid nL Q (sM M b 8 v) (pc + 3) lv st res) : Jp X ad cid nL Q M pc lv (.int v :: .ref (ad b) :: st) res :=
  j_put hC (ty := .boolean) tyX2 8 (fe_lt hb) (sh_X2 hb) (by rw [sh_X2 hb]; simp [g_s, l_sL, l_sM, g_sL]) (sM_other M b 8 v) rfl in_X2 tyX2_ok nmX2 (by decide) rfl qw121 rfl (by decide +kernel) (by rcases hv with rfl | rfl <;> rfl) (by rcases hv with rfl | rfl <;> rfl) (Nat.le_of_ble_eq_true rfl) hd kk
theorem gX2_40 (hC : Ok X ad cid cc RX2 nL ret fr lo) {b : Nat} (hb : isFe b) (hd : decode cc pc = .ok (.getfield 40, 3)) (kk : Jp X ad cid nL Q M (pc + 3) lv (.int (gM M b 4) :: st) res) : Jp X ad cid nL Q M pc lv (.ref (ad b) :: st) res :=
  j_get hC 4 (fe_lt hb) (sh_X2 hb) rfl in_X2 (by decide) rfl qw113 rfl hd kk
theorem gX2_21 (hC : Ok X ad cid cc RX2 nL ret fr lo) {b : Nat} (hb : isFe b) (hd : decode cc pc = .ok (.getfield 21, 3)) (kk : Jp X ad cid nL Q M (pc + 3) lv (.ref (ad (b + 4)) :: st) res) : Jp X ad cid nL Q M pc lv (.ref (ad b) :: st) res :=
  j_get hC 5 (fe_lt hb) (sh_X2 hb) rfl in_X2 (by decide) rfl qw116 rfl hd kk
theorem gX2_24 (hC : Ok X ad cid cc RX2 nL ret fr lo) {b : Nat} (hb : isFe b) (hd : decode cc pc = .ok (.getfield 24, 3)) (kk : Jp X ad cid nL Q M (pc + 3) lv (.ref (ad (b + 5)) :: st) res) : Jp X ad cid nL Q M pc lv (.ref (ad b) :: st) res :=
  j_get hC 6 (fe_lt hb) (sh_X2 hb) rfl in_X2 (by decide) rfl qw117 rfl hd kk
theorem gX2_37 (hC : Ok X ad cid cc RX2 nL ret fr lo) {b : Nat} (hb : isFe b) (hd : decode cc pc = .ok (.getfield 37, 3)) (kk : Jp X ad cid nL Q M (pc + 3) lv (.int (gM M b 0) :: st) res) : Jp X ad cid nL Q M pc lv (.ref (ad b) :: st) res :=
  j_get hC 0 (fe_lt hb) (sh_X2 hb) rfl in_X2 (by decide) rfl qw99 rfl hd kk
theorem gX2_18 (hC : Ok X ad cid cc RX2 nL ret fr lo) {b : Nat} (hb : isFe b) (hd : decode cc pc = .ok (.getfield 18, 3)) (kk : Jp X ad cid nL Q M (pc + 3) lv (.ref (ad (b + 3)) :: st) res) : Jp X ad cid nL Q M pc lv (.ref (ad b) :: st) res :=
  j_get hC 3 (fe_lt hb) (sh_X2 hb) rfl in_X2 (by decide) rfl qw111 rfl hd kk
theorem gX2_9 (hC : Ok X ad cid cc RX2 nL ret fr lo) {b : Nat} (hb : isFe b) (hd : decode cc pc = .ok (.getfield 9, 3)) (kk : Jp X ad cid nL Q M (pc + 3) lv (.ref (ad (b + 1)) :: st) res) : Jp X ad cid nL Q M pc lv (.ref (ad b) :: st) res :=
  j_get hC 1 (fe_lt hb) (sh_X2 hb) rfl in_X2 (by decide) rfl qw104 rfl hd kk
theorem pX10_70 (hC : Ok X ad cid cc RX10 nL ret fr lo) {v : Int32} (hd : decode cc pc = .ok (.putfield 70, 3)) (kk : Jp X ad cid nL Q (sM M 1 5 v) (pc + 3) lv st res) : Jp X ad cid nL Q M pc lv (.int v :: .ref (ad 1) :: st) res :=
  j_put hC (ty := .int) tyX10 5 (by decide) sh_X10 (by rw [sh_X10]; simp [g_s, l_sL, l_sM, g_sL]) (sM_other M 1 5 v) rfl in_X10 tyX10_ok nmX10 (by decide) rfl qw78 rfl (by decide +kernel) rfl rfl (Nat.le_of_ble_eq_true rfl) hd kk
theorem gX10_24 (hC : Ok X ad cid cc RX10 nL ret fr lo) (hd : decode cc pc = .ok (.getfield 24, 3)) (kk : Jp X ad cid nL Q M (pc + 3) lv (.int (gM M 1 2) :: st) res) : Jp X ad cid nL Q M pc lv (.ref (ad 1) :: st) res :=
  j_get hC 2 (by decide) sh_X10 rfl in_X10 (by decide) rfl qw75 rfl hd kk
theorem gX10_15 (hC : Ok X ad cid cc RX10 nL ret fr lo) (hd : decode cc pc = .ok (.getfield 15, 3)) (kk : Jp X ad cid nL Q M (pc + 3) lv (.int (gM M 1 1) :: st) res) : Jp X ad cid nL Q M pc lv (.ref (ad 1) :: st) res :=
  j_get hC 1 (by decide) sh_X10 rfl in_X10 (by decide) rfl qw73 rfl hd kk
theorem gX10_9 (hC : Ok X ad cid cc RX10 nL ret fr lo) (hd : decode cc pc = .ok (.getfield 9, 3)) (kk : Jp X ad cid nL Q M (pc + 3) lv (.ref (ad 2) :: st) res) : Jp X ad cid nL Q M pc lv (.ref (ad 1) :: st) res :=
  j_get hC 0 (by decide) sh_X10 rfl in_X10 (by decide) rfl qw72 rfl hd kk
theorem gX10_70 (hC : Ok X ad cid cc RX10 nL ret fr lo) (hd : decode cc pc = .ok (.getfield 70, 3)) (kk : Jp X ad cid nL Q M (pc + 3) lv (.int (gM M 1 5) :: st) res) : Jp X ad cid nL Q M pc lv (.ref (ad 1) :: st) res :=
  j_get hC 5 (by decide) sh_X10 rfl in_X10 (by decide) rfl qw78 rfl hd kk
theorem pX10_24 (hC : Ok X ad cid cc RX10 nL ret fr lo) {v : Int32} (hd : decode cc pc = .ok (.putfield 24, 3)) (kk : Jp X ad cid nL Q (sM M 1 2 v) (pc + 3) lv st res) : Jp X ad cid nL Q M pc lv (.int v :: .ref (ad 1) :: st) res :=
  j_put hC (ty := .int) tyX10 2 (by decide) sh_X10 (by rw [sh_X10]; simp [g_s, l_sL, l_sM, g_sL]) (sM_other M 1 2 v) rfl in_X10 tyX10_ok nmX10 (by decide) rfl qw75 rfl (by decide +kernel) rfl rfl (Nat.le_of_ble_eq_true rfl) hd kk
theorem gX10_41 (hC : Ok X ad cid cc RX10 nL ret fr lo) (hd : decode cc pc = .ok (.getfield 41, 3)) (kk : Jp X ad cid nL Q M (pc + 3) lv (.int (gM M 1 4) :: st) res) : Jp X ad cid nL Q M pc lv (.ref (ad 1) :: st) res :=
  j_get hC 4 (by decide) sh_X10 rfl in_X10 (by decide) rfl qw77 rfl hd kk
theorem pX10_30 (hC : Ok X ad cid cc RX10 nL ret fr lo) {v : Int32} (hd : decode cc pc = .ok (.putfield 30, 3)) (kk : Jp X ad cid nL Q (sM M 1 3 v) (pc + 3) lv st res) : Jp X ad cid nL Q M pc lv (.int v :: .ref (ad 1) :: st) res :=
  j_put hC (ty := .int) tyX10 3 (by decide) sh_X10 (by rw [sh_X10]; simp [g_s, l_sL, l_sM, g_sL]) (sM_other M 1 3 v) rfl in_X10 tyX10_ok nmX10 (by decide) rfl qw76 rfl (by decide +kernel) rfl rfl (Nat.le_of_ble_eq_true rfl) hd kk
theorem pX10_41 (hC : Ok X ad cid cc RX10 nL ret fr lo) {v : Int32} (hd : decode cc pc = .ok (.putfield 41, 3)) (kk : Jp X ad cid nL Q (sM M 1 4 v) (pc + 3) lv st res) : Jp X ad cid nL Q M pc lv (.int v :: .ref (ad 1) :: st) res :=
  j_put hC (ty := .int) tyX10 4 (by decide) sh_X10 (by rw [sh_X10]; simp [g_s, l_sL, l_sM, g_sL]) (sM_other M 1 4 v) rfl in_X10 tyX10_ok nmX10 (by decide) rfl qw77 rfl (by decide +kernel) rfl rfl (Nat.le_of_ble_eq_true rfl) hd kk
theorem gX10_30 (hC : Ok X ad cid cc RX10 nL ret fr lo) (hd : decode cc pc = .ok (.getfield 30, 3)) (kk : Jp X ad cid nL Q M (pc + 3) lv (.int (gM M 1 3) :: st) res) : Jp X ad cid nL Q M pc lv (.ref (ad 1) :: st) res :=
  j_get hC 3 (by decide) sh_X10 rfl in_X10 (by decide) rfl qw76 rfl hd kk
theorem gX2_15 (hC : Ok X ad cid cc RX2 nL ret fr lo) {b : Nat} (hb : isFe b) (hd : decode cc pc = .ok (.getfield 15, 3)) (kk : Jp X ad cid nL Q M (pc + 3) lv (.ref (ad (b + 2)) :: st) res) : Jp X ad cid nL Q M pc lv (.ref (ad b) :: st) res :=
  j_get hC 2 (fe_lt hb) (sh_X2 hb) rfl in_X2 (by decide) rfl qw107 rfl hd kk
theorem pX10_85 (hC : Ok X ad cid cc RX10 nL ret fr lo) {b : Nat} (hb : isFe b) {v : Int32} (hd : decode cc pc = .ok (.putfield 85, 3)) (kk : Jp X ad cid nL Q (sM M b 7 v) (pc + 3) lv st res) : Jp X ad cid nL Q M pc lv (.int v :: .ref (ad b) :: st) res :=
  j_putN hC (ty := .int) tyX2 7 (fe_lt hb) (sh_X2 hb) (by rw [sh_X2 hb]; simp [g_s, l_sL, l_sM, g_sL]) (sM_other M b 7 v) rfl in_X2 tyX2_ok nmX2 (by decide) rfl qn119 rfl (by decide +kernel) rfl rfl (Nat.le_of_ble_eq_true rfl) hd kk
theorem pX10_59 (hC : Ok X ad cid cc RX10 nL ret fr lo) {b : Nat} (hb : isFe b) {v : Int32} (hv : v = 0 ∨ v = 1) (hd : decode cc pc = .ok (.putfield 59, 3)) (kk : Jp X ad cid nL Q (sM M b 8 v) (pc + 3) lv st res) : Jp X ad cid nL Q M pc lv (.int v :: .ref (ad b) :: st) res :=
  j_putN hC (ty := .boolean) tyX2 8 (fe_lt hb) (sh_X2 hb) (by rw [sh_X2 hb]; simp [g_s, l_sL, l_sM, g_sL]) (sM_other M b 8 v) rfl in_X2 tyX2_ok nmX2 (by decide) rfl qn122 rfl (by decide +kernel) (by rcases hv with rfl | rfl <;> rfl) (by rcases hv with rfl | rfl <;> rfl) (Nat.le_of_ble_eq_true rfl) hd kk
theorem gX10_53 (hC : Ok X ad cid cc RX10 nL ret fr lo) {b : Nat} (hb : isFe b) (hd : decode cc pc = .ok (.getfield 53, 3)) (kk : Jp X ad cid nL Q M (pc + 3) lv (.int (gM M b 4) :: st) res) : Jp X ad cid nL Q M pc lv (.ref (ad b) :: st) res :=
  j_getN hC 4 (fe_lt hb) (sh_X2 hb) rfl in_X2 (by decide) rfl qn114 rfl hd kk
theorem gX10_47 (hC : Ok X ad cid cc RX10 nL ret fr lo) {b : Nat} (hb : isFe b) (hd : decode cc pc = .ok (.getfield 47, 3)) (kk : Jp X ad cid nL Q M (pc + 3) lv (.int (gM M b 0) :: st) res) : Jp X ad cid nL Q M pc lv (.ref (ad b) :: st) res :=
  j_getN hC 0 (fe_lt hb) (sh_X2 hb) rfl in_X2 (by decide) rfl qn102 rfl hd kk
theorem gX10_59 (hC : Ok X ad cid cc RX10 nL ret fr lo) {b : Nat} (hb : isFe b) (hd : decode cc pc = .ok (.getfield 59, 3)) (kk : Jp X ad cid nL Q M (pc + 3) lv (.int (gM M b 8) :: st) res) : Jp X ad cid nL Q M pc lv (.ref (ad b) :: st) res :=
  j_getN hC 8 (fe_lt hb) (sh_X2 hb) rfl in_X2 (by decide) rfl qn122 rfl hd kk
theorem gX11_23 (hC : Ok X ad cid cc RX11 nL ret fr lo) (hd : decode cc pc = .ok (.getfield 23, 3)) (kk : Jp X ad cid nL Q M (pc + 3) lv (.ref (ad (feB (gM M 0 2))) :: st) res) : Jp X ad cid nL Q M pc lv (.ref (ad 0) :: st) res :=
  j_get hC 2 (by decide) sh_X11 rfl in_X11 (by decide) rfl qw277 rfl hd kk
theorem pX11_19 (hC : Ok X ad cid cc RX11 nL ret fr lo) {v : Int32} (hd : decode cc pc = .ok (.putfield 19, 3)) (kk : Jp X ad cid nL Q (sM M 0 1 v) (pc + 3) lv st res) : Jp X ad cid nL Q M pc lv (.ref (ad (feB v)) :: .ref (ad 0) :: st) res :=
  j_put hC (ty := .object "LastRower$Ferry") tyX11 1 (by decide) sh_X11 (by rw [sh_X11]; simp [g_s, l_sL, l_sM, g_sL]) (sM_other M 0 1 v) rfl in_X11 tyX11_ok nmX11 (by decide) rfl qw276 rfl (by decide +kernel) rfl rfl (Nat.le_of_ble_eq_true rfl) hd kk
theorem pX11_23 (hC : Ok X ad cid cc RX11 nL ret fr lo) {v : Int32} (hd : decode cc pc = .ok (.putfield 23, 3)) (kk : Jp X ad cid nL Q (sM M 0 2 v) (pc + 3) lv st res) : Jp X ad cid nL Q M pc lv (.ref (ad (feB v)) :: .ref (ad 0) :: st) res :=
  j_put hC (ty := .object "LastRower$Ferry") tyX11 2 (by decide) sh_X11 (by rw [sh_X11]; simp [g_s, l_sL, l_sM, g_sL]) (sM_other M 0 2 v) rfl in_X11 tyX11_ok nmX11 (by decide) rfl qw277 rfl (by decide +kernel) rfl rfl (Nat.le_of_ble_eq_true rfl) hd kk
theorem pX11_106 (hC : Ok X ad cid cc RX11 nL ret fr lo) {v : Int32} (hd : decode cc pc = .ok (.putfield 106, 3)) (kk : Jp X ad cid nL Q (sM M 0 6 v) (pc + 3) lv st res) : Jp X ad cid nL Q M pc lv (.int v :: .ref (ad 0) :: st) res :=
  j_put hC (ty := .int) tyX11 6 (by decide) sh_X11 (by rw [sh_X11]; simp [g_s, l_sL, l_sM, g_sL]) (sM_other M 0 6 v) rfl in_X11 tyX11_ok nmX11 (by decide) rfl qw281 rfl (by decide +kernel) rfl rfl (Nat.le_of_ble_eq_true rfl) hd kk
theorem pX11_109 (hC : Ok X ad cid cc RX11 nL ret fr lo) {v : Int32} (hd : decode cc pc = .ok (.putfield 109, 3)) (kk : Jp X ad cid nL Q (sM M 0 9 v) (pc + 3) lv st res) : Jp X ad cid nL Q M pc lv (.int v :: .ref (ad 0) :: st) res :=
  j_put hC (ty := .int) tyX11 9 (by decide) sh_X11 (by rw [sh_X11]; simp [g_s, l_sL, l_sM, g_sL]) (sM_other M 0 9 v) rfl in_X11 tyX11_ok nmX11 (by decide) rfl qw284 rfl (by decide +kernel) rfl rfl (Nat.le_of_ble_eq_true rfl) hd kk
theorem gX11_192 (hC : Ok X ad cid cc RX11 nL ret fr lo) {b : Nat} (hb : isMo b) (hd : decode cc pc = .ok (.getfield 192, 3)) (kk : Jp X ad cid nL Q M (pc + 3) lv (.int (gM M b 5) :: st) res) : Jp X ad cid nL Q M pc lv (.ref (ad b) :: st) res :=
  j_getN hC 5 (mo_lt hb) (sh_X4 hb) rfl in_X4 (by decide) rfl qn168 rfl hd kk
theorem gX11_154 (hC : Ok X ad cid cc RX11 nL ret fr lo) (hd : decode cc pc = .ok (.getfield 154, 3)) (kk : Jp X ad cid nL Q M (pc + 3) lv (.int (gM M 22 2) :: st) res) : Jp X ad cid nL Q M pc lv (.ref (ad 22) :: st) res :=
  j_getN hC 2 (by decide) sh_X8 rfl in_X8 (by decide) rfl qn194 rfl hd kk
theorem gX11_115 (hC : Ok X ad cid cc RX11 nL ret fr lo) {b : Nat} (hb : isFe b) (hd : decode cc pc = .ok (.getfield 115, 3)) (kk : Jp X ad cid nL Q M (pc + 3) lv (.ref (ad (b + 1)) :: st) res) : Jp X ad cid nL Q M pc lv (.ref (ad b) :: st) res :=
  j_getN hC 1 (fe_lt hb) (sh_X2 hb) rfl in_X2 (by decide) rfl qn106 rfl hd kk
theorem gX11_118 (hC : Ok X ad cid cc RX11 nL ret fr lo) {b : Nat} (hb : isFe b) (hd : decode cc pc = .ok (.getfield 118, 3)) (kk : Jp X ad cid nL Q M (pc + 3) lv (.ref (ad (b + 2)) :: st) res) : Jp X ad cid nL Q M pc lv (.ref (ad b) :: st) res :=
  j_getN hC 2 (fe_lt hb) (sh_X2 hb) rfl in_X2 (by decide) rfl qn110 rfl hd kk
theorem gX11_121 (hC : Ok X ad cid cc RX11 nL ret fr lo) {b : Nat} (hb : isFe b) (hd : decode cc pc = .ok (.getfield 121, 3)) (kk : Jp X ad cid nL Q M (pc + 3) lv (.ref (ad (b + 3)) :: st) res) : Jp X ad cid nL Q M pc lv (.ref (ad b) :: st) res :=
  j_getN hC 3 (fe_lt hb) (sh_X2 hb) rfl in_X2 (by decide) rfl qn112 rfl hd kk
theorem gX11_128 (hC : Ok X ad cid cc RX11 nL ret fr lo) {b : Nat} (hb : isMo b) (hd : decode cc pc = .ok (.getfield 128, 3)) (kk : Jp X ad cid nL Q M (pc + 3) lv (.ref (ad (b + 2)) :: st) res) : Jp X ad cid nL Q M pc lv (.ref (ad b) :: st) res :=
  j_getN hC 4 (mo_lt hb) (sh_X4 hb) rfl in_X4 (by decide) rfl qn166 rfl hd kk
theorem gX9_11 (hC : Ok X ad cid cc RX9 nL ret fr lo) (hd : decode cc pc = .ok (.getfield 11, 3)) (kk : Jp X ad cid nL Q M (pc + 3) lv (.ref (ad 59) :: st) res) : Jp X ad cid nL Q M pc lv (.ref (ad 58) :: st) res :=
  j_get hC 0 (by decide) sh_X9 rfl in_X9 (by decide) rfl qw210 rfl hd kk
theorem gX9_38 (hC : Ok X ad cid cc RX9 nL ret fr lo) (hd : decode cc pc = .ok (.getfield 38, 3)) (kk : Jp X ad cid nL Q M (pc + 3) lv (.int (gM M 58 5) :: st) res) : Jp X ad cid nL Q M pc lv (.ref (ad 58) :: st) res :=
  j_get hC 5 (by decide) sh_X9 rfl in_X9 (by decide) rfl qw216 rfl hd kk
theorem gX9_75 (hC : Ok X ad cid cc RX9 nL ret fr lo) {b : Nat} (hb : isMo b) (hd : decode cc pc = .ok (.getfield 75, 3)) (kk : Jp X ad cid nL Q M (pc + 3) lv (.int (gM M b 2) :: st) res) : Jp X ad cid nL Q M pc lv (.ref (ad b) :: st) res :=
  j_getN hC 2 (mo_lt hb) (sh_X4 hb) rfl in_X4 (by decide) rfl qn161 rfl hd kk
theorem gX9_35 (hC : Ok X ad cid cc RX9 nL ret fr lo) (hd : decode cc pc = .ok (.getfield 35, 3)) (kk : Jp X ad cid nL Q M (pc + 3) lv (.int (gM M 58 4) :: st) res) : Jp X ad cid nL Q M pc lv (.ref (ad 58) :: st) res :=
  j_get hC 4 (by decide) sh_X9 rfl in_X9 (by decide) rfl qw215 rfl hd kk
theorem pX9_38 (hC : Ok X ad cid cc RX9 nL ret fr lo) {v : Int32} (hd : decode cc pc = .ok (.putfield 38, 3)) (kk : Jp X ad cid nL Q (sM M 58 5 v) (pc + 3) lv st res) : Jp X ad cid nL Q M pc lv (.int v :: .ref (ad 58) :: st) res :=
  j_put hC (ty := .int) tyX9 5 (by decide) sh_X9 (by rw [sh_X9]; simp [g_s, l_sL, l_sM, g_sL]) (sM_other M 58 5 v) rfl in_X9 tyX9_ok nmX9 (by decide) rfl qw216 rfl (by decide +kernel) rfl rfl (Nat.le_of_ble_eq_true rfl) hd kk
theorem gX9_21 (hC : Ok X ad cid cc RX9 nL ret fr lo) (hd : decode cc pc = .ok (.getfield 21, 3)) (kk : Jp X ad cid nL Q M (pc + 3) lv (.ref (ad 61) :: st) res) : Jp X ad cid nL Q M pc lv (.ref (ad 58) :: st) res :=
  j_get hC 2 (by decide) sh_X9 rfl in_X9 (by decide) rfl qw212 rfl hd kk
theorem gX9_17 (hC : Ok X ad cid cc RX9 nL ret fr lo) (hd : decode cc pc = .ok (.getfield 17, 3)) (kk : Jp X ad cid nL Q M (pc + 3) lv (.ref (ad 60) :: st) res) : Jp X ad cid nL Q M pc lv (.ref (ad 58) :: st) res :=
  j_get hC 1 (by decide) sh_X9 rfl in_X9 (by decide) rfl qw211 rfl hd kk
theorem gX9_31 (hC : Ok X ad cid cc RX9 nL ret fr lo) (hd : decode cc pc = .ok (.getfield 31, 3)) (kk : Jp X ad cid nL Q M (pc + 3) lv (.int (gM M 58 3) :: st) res) : Jp X ad cid nL Q M pc lv (.ref (ad 58) :: st) res :=
  j_get hC 3 (by decide) sh_X9 rfl in_X9 (by decide) rfl qw214 rfl hd kk
theorem gX9_49 (hC : Ok X ad cid cc RX9 nL ret fr lo) {b : Nat} (hb : isMo b) (hd : decode cc pc = .ok (.getfield 49, 3)) (kk : Jp X ad cid nL Q M (pc + 3) lv (.int (gM M b 1) :: st) res) : Jp X ad cid nL Q M pc lv (.ref (ad b) :: st) res :=
  j_getN hC 1 (mo_lt hb) (sh_X4 hb) rfl in_X4 (by decide) rfl qn158 rfl hd kk
theorem gX9_61 (hC : Ok X ad cid cc RX9 nL ret fr lo) {b : Nat} (hb : isFe b) (hd : decode cc pc = .ok (.getfield 61, 3)) (kk : Jp X ad cid nL Q M (pc + 3) lv (.int (gM M b 0) :: st) res) : Jp X ad cid nL Q M pc lv (.ref (ad b) :: st) res :=
  j_getN hC 0 (fe_lt hb) (sh_X2 hb) rfl in_X2 (by decide) rfl qn100 rfl hd kk
theorem pX9_31 (hC : Ok X ad cid cc RX9 nL ret fr lo) {v : Int32} (hd : decode cc pc = .ok (.putfield 31, 3)) (kk : Jp X ad cid nL Q (sM M 58 3 v) (pc + 3) lv st res) : Jp X ad cid nL Q M pc lv (.int v :: .ref (ad 58) :: st) res :=
  j_put hC (ty := .int) tyX9 3 (by decide) sh_X9 (by rw [sh_X9]; simp [g_s, l_sL, l_sM, g_sL]) (sM_other M 58 3 v) rfl in_X9 tyX9_ok nmX9 (by decide) rfl qw214 rfl (by decide +kernel) rfl rfl (Nat.le_of_ble_eq_true rfl) hd kk
theorem pX9_35 (hC : Ok X ad cid cc RX9 nL ret fr lo) {v : Int32} (hd : decode cc pc = .ok (.putfield 35, 3)) (kk : Jp X ad cid nL Q (sM M 58 4 v) (pc + 3) lv st res) : Jp X ad cid nL Q M pc lv (.int v :: .ref (ad 58) :: st) res :=
  j_put hC (ty := .int) tyX9 4 (by decide) sh_X9 (by rw [sh_X9]; simp [g_s, l_sL, l_sM, g_sL]) (sM_other M 58 4 v) rfl in_X9 tyX9_ok nmX9 (by decide) rfl qw215 rfl (by decide +kernel) rfl rfl (Nat.le_of_ble_eq_true rfl) hd kk
theorem gX11_57 (hC : Ok X ad cid cc RX11 nL ret fr lo) (hd : decode cc pc = .ok (.getfield 57, 3)) (kk : Jp X ad cid nL Q M (pc + 3) lv (.ref (ad 58) :: st) res) : Jp X ad cid nL Q M pc lv (.ref (ad 0) :: st) res :=
  j_get hC 11 (by decide) sh_X11 rfl in_X11 (by decide) rfl qw286 rfl hd kk
theorem gX11_212 (hC : Ok X ad cid cc RX11 nL ret fr lo) (hd : decode cc pc = .ok (.getfield 212, 3)) (kk : Jp X ad cid nL Q M (pc + 3) lv (.int (gM M 58 5) :: st) res) : Jp X ad cid nL Q M pc lv (.ref (ad 58) :: st) res :=
  j_getN hC 5 (by decide) sh_X9 rfl in_X9 (by decide) rfl qn217 rfl hd kk
theorem gX11_215 (hC : Ok X ad cid cc RX11 nL ret fr lo) (hd : decode cc pc = .ok (.getfield 215, 3)) (kk : Jp X ad cid nL Q M (pc + 3) lv (.ref (ad 61) :: st) res) : Jp X ad cid nL Q M pc lv (.ref (ad 58) :: st) res :=
  j_getN hC 2 (by decide) sh_X9 rfl in_X9 (by decide) rfl qn213 rfl hd kk
theorem gX7_7 (hC : Ok X ad cid cc RX7 nL ret fr lo) {b : Nat} (hb : isFe b) (hd : decode cc pc = .ok (.getfield 7, 3)) (kk : Jp X ad cid nL Q M (pc + 3) lv (.ref (ad (b + 1)) :: st) res) : Jp X ad cid nL Q M pc lv (.ref (ad b) :: st) res :=
  j_getN hC 1 (fe_lt hb) (sh_X2 hb) rfl in_X2 (by decide) rfl qn105 rfl hd kk
theorem gX0_13 (hC : Ok X ad cid cc RX0 nL ret fr lo) {b : Nat} (hb : isMo b) (hd : decode cc pc = .ok (.getfield 13, 3)) (kk : Jp X ad cid nL Q M (pc + 3) lv (.ref (ad (b + 2)) :: st) res) : Jp X ad cid nL Q M pc lv (.ref (ad b) :: st) res :=
  j_getN hC 4 (mo_lt hb) (sh_X4 hb) rfl in_X4 (by decide) rfl qn165 rfl hd kk
theorem gX1_13 (hC : Ok X ad cid cc RX1 nL ret fr lo) {b : Nat} (hb : isFe b) (hd : decode cc pc = .ok (.getfield 13, 3)) (kk : Jp X ad cid nL Q M (pc + 3) lv (.ref (ad (b + 2)) :: st) res) : Jp X ad cid nL Q M pc lv (.ref (ad b) :: st) res :=
  j_getN hC 2 (fe_lt hb) (sh_X2 hb) rfl in_X2 (by decide) rfl qn108 rfl hd kk
theorem gX11_63 (hC : Ok X ad cid cc RX11 nL ret fr lo) (hd : decode cc pc = .ok (.getfield 63, 3)) (kk : Jp X ad cid nL Q M (pc + 3) lv (.ref (ad 74) :: st) res) : Jp X ad cid nL Q M pc lv (.ref (ad 0) :: st) res :=
  j_get hC 12 (by decide) sh_X11 rfl in_X11 (by decide) rfl qw287 rfl hd kk
theorem gX11_67 (hC : Ok X ad cid cc RX11 nL ret fr lo) (hd : decode cc pc = .ok (.getfield 67, 3)) (kk : Jp X ad cid nL Q M (pc + 3) lv (.ref (ad 75) :: st) res) : Jp X ad cid nL Q M pc lv (.ref (ad 0) :: st) res :=
  j_get hC 13 (by decide) sh_X11 rfl in_X11 (by decide) rfl qw288 rfl hd kk
theorem pX10_15 (hC : Ok X ad cid cc RX10 nL ret fr lo) {v : Int32} (hd : decode cc pc = .ok (.putfield 15, 3)) (kk : Jp X ad cid nL Q (sM M 1 1 v) (pc + 3) lv st res) : Jp X ad cid nL Q M pc lv (.int v :: .ref (ad 1) :: st) res :=
  j_put hC (ty := .int) tyX10 1 (by decide) sh_X10 (by rw [sh_X10]; simp [g_s, l_sL, l_sM, g_sL]) (sM_other M 1 1 v) rfl in_X10 tyX10_ok nmX10 (by decide) rfl qw73 rfl (by decide +kernel) rfl rfl (Nat.le_of_ble_eq_true rfl) hd kk
theorem gX12_67 (hC : Ok X ad cid cc RX12 nL ret fr lo) (hd : decode cc pc = .ok (.getfield 67, 3)) (kk : Jp X ad cid nL Q M (pc + 3) lv (.int (gM M 109 3) :: st) res) : Jp X ad cid nL Q M pc lv (.ref (ad 109) :: st) res :=
  j_get hC 3 (by decide) sh_X12 rfl in_X12 (by decide) rfl qw705 rfl hd kk
theorem gX12_7 (hC : Ok X ad cid cc RX12 nL ret fr lo) (hd : decode cc pc = .ok (.getfield 7, 3)) (kk : Jp X ad cid nL Q M (pc + 3) lv (.ref (ad 110) :: st) res) : Jp X ad cid nL Q M pc lv (.ref (ad 109) :: st) res :=
  j_get hC 2 (by decide) sh_X12 rfl in_X12 (by decide) rfl qw704 rfl hd kk
theorem gX12_70 (hC : Ok X ad cid cc RX12 nL ret fr lo) (hd : decode cc pc = .ok (.getfield 70, 3)) (kk : Jp X ad cid nL Q M (pc + 3) lv (.int (gM M 109 4) :: st) res) : Jp X ad cid nL Q M pc lv (.ref (ad 109) :: st) res :=
  j_get hC 4 (by decide) sh_X12 rfl in_X12 (by decide) rfl qw706 rfl hd kk
theorem pX12_70 (hC : Ok X ad cid cc RX12 nL ret fr lo) {v : Int32} (hd : decode cc pc = .ok (.putfield 70, 3)) (kk : Jp X ad cid nL Q (sM M 109 4 v) (pc + 3) lv st res) : Jp X ad cid nL Q M pc lv (.int v :: .ref (ad 109) :: st) res :=
  j_put hC (ty := .int) tyX12 4 (by decide) sh_X12 (by rw [sh_X12]; simp [g_s, l_sL, l_sM, g_sL]) (sM_other M 109 4 v) rfl in_X12 tyX12_ok nmX12 (by decide) rfl qw706 rfl (by decide +kernel) rfl rfl (Nat.le_of_ble_eq_true rfl) hd kk
theorem pX12_77 (hC : Ok X ad cid cc RX12 nL ret fr lo) {v : Int32} (hd : decode cc pc = .ok (.putfield 77, 3)) (kk : Jp X ad cid nL Q (sM M 109 6 v) (pc + 3) lv st res) : Jp X ad cid nL Q M pc lv (.int v :: .ref (ad 109) :: st) res :=
  j_put hC (ty := .int) tyX12 6 (by decide) sh_X12 (by rw [sh_X12]; simp [g_s, l_sL, l_sM, g_sL]) (sM_other M 109 6 v) rfl in_X12 tyX12_ok nmX12 (by decide) rfl qw708 rfl (by decide +kernel) rfl rfl (Nat.le_of_ble_eq_true rfl) hd kk
theorem pX12_83 (hC : Ok X ad cid cc RX12 nL ret fr lo) {v : Int32} (hd : decode cc pc = .ok (.putfield 83, 3)) (kk : Jp X ad cid nL Q (sM M 109 7 v) (pc + 3) lv st res) : Jp X ad cid nL Q M pc lv (.int v :: .ref (ad 109) :: st) res :=
  j_put hC (ty := .int) tyX12 7 (by decide) sh_X12 (by rw [sh_X12]; simp [g_s, l_sL, l_sM, g_sL]) (sM_other M 109 7 v) rfl in_X12 tyX12_ok nmX12 (by decide) rfl qw709 rfl (by decide +kernel) rfl rfl (Nat.le_of_ble_eq_true rfl) hd kk
theorem pX12_80 (hC : Ok X ad cid cc RX12 nL ret fr lo) {v : Int32} (hd : decode cc pc = .ok (.putfield 80, 3)) (kk : Jp X ad cid nL Q (sM M 109 5 v) (pc + 3) lv st res) : Jp X ad cid nL Q M pc lv (.int v :: .ref (ad 109) :: st) res :=
  j_put hC (ty := .int) tyX12 5 (by decide) sh_X12 (by rw [sh_X12]; simp [g_s, l_sL, l_sM, g_sL]) (sM_other M 109 5 v) rfl in_X12 tyX12_ok nmX12 (by decide) rfl qw707 rfl (by decide +kernel) rfl rfl (Nat.le_of_ble_eq_true rfl) hd kk
theorem gX12_83 (hC : Ok X ad cid cc RX12 nL ret fr lo) (hd : decode cc pc = .ok (.getfield 83, 3)) (kk : Jp X ad cid nL Q M (pc + 3) lv (.int (gM M 109 7) :: st) res) : Jp X ad cid nL Q M pc lv (.ref (ad 109) :: st) res :=
  j_get hC 7 (by decide) sh_X12 rfl in_X12 (by decide) rfl qw709 rfl hd kk
theorem gX12_77 (hC : Ok X ad cid cc RX12 nL ret fr lo) (hd : decode cc pc = .ok (.getfield 77, 3)) (kk : Jp X ad cid nL Q M (pc + 3) lv (.int (gM M 109 6) :: st) res) : Jp X ad cid nL Q M pc lv (.ref (ad 109) :: st) res :=
  j_get hC 6 (by decide) sh_X12 rfl in_X12 (by decide) rfl qw708 rfl hd kk
theorem gX12_34 (hC : Ok X ad cid cc RX12 nL ret fr lo) (hd : decode cc pc = .ok (.getfield 34, 3)) (kk : Jp X ad cid nL Q M (pc + 3) lv (.ref (ad 118) :: st) res) : Jp X ad cid nL Q M pc lv (.ref (ad 109) :: st) res :=
  j_get hC 17 (by decide) sh_X12 rfl in_X12 (by decide) rfl qw719 rfl hd kk
theorem gX12_31 (hC : Ok X ad cid cc RX12 nL ret fr lo) (hd : decode cc pc = .ok (.getfield 31, 3)) (kk : Jp X ad cid nL Q M (pc + 3) lv (.ref (ad 117) :: st) res) : Jp X ad cid nL Q M pc lv (.ref (ad 109) :: st) res :=
  j_get hC 16 (by decide) sh_X12 rfl in_X12 (by decide) rfl qw718 rfl hd kk
theorem pX12_59 (hC : Ok X ad cid cc RX12 nL ret fr lo) {v : Int32} (hd : decode cc pc = .ok (.putfield 59, 3)) (kk : Jp X ad cid nL Q (sM M 109 0 v) (pc + 3) lv st res) : Jp X ad cid nL Q M pc lv (.int v :: .ref (ad 109) :: st) res :=
  j_put hC (ty := .int) tyX12 0 (by decide) sh_X12 (by rw [sh_X12]; simp [g_s, l_sL, l_sM, g_sL]) (sM_other M 109 0 v) rfl in_X12 tyX12_ok nmX12 (by decide) rfl qw702 rfl (by decide +kernel) rfl rfl (Nat.le_of_ble_eq_true rfl) hd kk
theorem gX12_40 (hC : Ok X ad cid cc RX12 nL ret fr lo) (hd : decode cc pc = .ok (.getfield 40, 3)) (kk : Jp X ad cid nL Q M (pc + 3) lv (.ref (ad 120) :: st) res) : Jp X ad cid nL Q M pc lv (.ref (ad 109) :: st) res :=
  j_get hC 19 (by decide) sh_X12 rfl in_X12 (by decide) rfl qw721 rfl hd kk
theorem gX12_37 (hC : Ok X ad cid cc RX12 nL ret fr lo) (hd : decode cc pc = .ok (.getfield 37, 3)) (kk : Jp X ad cid nL Q M (pc + 3) lv (.ref (ad 119) :: st) res) : Jp X ad cid nL Q M pc lv (.ref (ad 109) :: st) res :=
  j_get hC 18 (by decide) sh_X12 rfl in_X12 (by decide) rfl qw720 rfl hd kk
theorem pX12_121 (hC : Ok X ad cid cc RX12 nL ret fr lo) {v : Int32} (hd : decode cc pc = .ok (.putfield 121, 3)) (kk : Jp X ad cid nL Q (sM M 109 21 v) (pc + 3) lv st res) : Jp X ad cid nL Q M pc lv (.int v :: .ref (ad 109) :: st) res :=
  j_put hC (ty := .int) tyX12 21 (by decide) sh_X12 (by rw [sh_X12]; simp [g_s, l_sL, l_sM, g_sL]) (sM_other M 109 21 v) rfl in_X12 tyX12_ok nmX12 (by decide) rfl qw723 rfl (by decide +kernel) rfl rfl (Nat.le_of_ble_eq_true rfl) hd kk
theorem gX12_13 (hC : Ok X ad cid cc RX12 nL ret fr lo) (hd : decode cc pc = .ok (.getfield 13, 3)) (kk : Jp X ad cid nL Q M (pc + 3) lv (.ref (ad 111) :: st) res) : Jp X ad cid nL Q M pc lv (.ref (ad 109) :: st) res :=
  j_get hC 9 (by decide) sh_X12 rfl in_X12 (by decide) rfl qw711 rfl hd kk
theorem gX12_25 (hC : Ok X ad cid cc RX12 nL ret fr lo) (hd : decode cc pc = .ok (.getfield 25, 3)) (kk : Jp X ad cid nL Q M (pc + 3) lv (.ref (ad 115) :: st) res) : Jp X ad cid nL Q M pc lv (.ref (ad 109) :: st) res :=
  j_get hC 13 (by decide) sh_X12 rfl in_X12 (by decide) rfl qw715 rfl hd kk
theorem gX12_28 (hC : Ok X ad cid cc RX12 nL ret fr lo) (hd : decode cc pc = .ok (.getfield 28, 3)) (kk : Jp X ad cid nL Q M (pc + 3) lv (.ref (ad 116) :: st) res) : Jp X ad cid nL Q M pc lv (.ref (ad 109) :: st) res :=
  j_get hC 14 (by decide) sh_X12 rfl in_X12 (by decide) rfl qw716 rfl hd kk
theorem gX12_19 (hC : Ok X ad cid cc RX12 nL ret fr lo) (hd : decode cc pc = .ok (.getfield 19, 3)) (kk : Jp X ad cid nL Q M (pc + 3) lv (.ref (ad 113) :: st) res) : Jp X ad cid nL Q M pc lv (.ref (ad 109) :: st) res :=
  j_get hC 11 (by decide) sh_X12 rfl in_X12 (by decide) rfl qw713 rfl hd kk
theorem gX12_16 (hC : Ok X ad cid cc RX12 nL ret fr lo) (hd : decode cc pc = .ok (.getfield 16, 3)) (kk : Jp X ad cid nL Q M (pc + 3) lv (.ref (ad 112) :: st) res) : Jp X ad cid nL Q M pc lv (.ref (ad 109) :: st) res :=
  j_get hC 10 (by decide) sh_X12 rfl in_X12 (by decide) rfl qw712 rfl hd kk
theorem gX12_22 (hC : Ok X ad cid cc RX12 nL ret fr lo) (hd : decode cc pc = .ok (.getfield 22, 3)) (kk : Jp X ad cid nL Q M (pc + 3) lv (.ref (ad 114) :: st) res) : Jp X ad cid nL Q M pc lv (.ref (ad 109) :: st) res :=
  j_get hC 12 (by decide) sh_X12 rfl in_X12 (by decide) rfl qw714 rfl hd kk
theorem gX12_121 (hC : Ok X ad cid cc RX12 nL ret fr lo) (hd : decode cc pc = .ok (.getfield 121, 3)) (kk : Jp X ad cid nL Q M (pc + 3) lv (.int (gM M 109 21) :: st) res) : Jp X ad cid nL Q M pc lv (.ref (ad 109) :: st) res :=
  j_get hC 21 (by decide) sh_X12 rfl in_X12 (by decide) rfl qw723 rfl hd kk
theorem gX12_44 (hC : Ok X ad cid cc RX12 nL ret fr lo) (hd : decode cc pc = .ok (.getfield 44, 3)) (kk : Jp X ad cid nL Q M (pc + 3) lv (.ref (ad 121) :: st) res) : Jp X ad cid nL Q M pc lv (.ref (ad 109) :: st) res :=
  j_get hC 20 (by decide) sh_X12 rfl in_X12 (by decide) rfl qw722 rfl hd kk
theorem pX12_67 (hC : Ok X ad cid cc RX12 nL ret fr lo) {v : Int32} (hd : decode cc pc = .ok (.putfield 67, 3)) (kk : Jp X ad cid nL Q (sM M 109 3 v) (pc + 3) lv st res) : Jp X ad cid nL Q M pc lv (.int v :: .ref (ad 109) :: st) res :=
  j_put hC (ty := .int) tyX12 3 (by decide) sh_X12 (by rw [sh_X12]; simp [g_s, l_sL, l_sM, g_sL]) (sM_other M 109 3 v) rfl in_X12 tyX12_ok nmX12 (by decide) rfl qw705 rfl (by decide +kernel) rfl rfl (Nat.le_of_ble_eq_true rfl) hd kk
theorem gX12_118 (hC : Ok X ad cid cc RX12 nL ret fr lo) (hd : decode cc pc = .ok (.getfield 118, 3)) (kk : Jp X ad cid nL Q M (pc + 3) lv (.int (gM M 109 24) :: st) res) : Jp X ad cid nL Q M pc lv (.ref (ad 109) :: st) res :=
  j_get hC 24 (by decide) sh_X12 rfl in_X12 (by decide) rfl qw726 rfl hd kk
theorem gX12_53 (hC : Ok X ad cid cc RX12 nL ret fr lo) (hd : decode cc pc = .ok (.getfield 53, 3)) (kk : Jp X ad cid nL Q M (pc + 3) lv (.ref (ad 124) :: st) res) : Jp X ad cid nL Q M pc lv (.ref (ad 109) :: st) res :=
  j_get hC 25 (by decide) sh_X12 rfl in_X12 (by decide) rfl qw727 rfl hd kk
theorem gX12_86 (hC : Ok X ad cid cc RX12 nL ret fr lo) (hd : decode cc pc = .ok (.getfield 86, 3)) (kk : Jp X ad cid nL Q M (pc + 3) lv (.int (gM M 109 8) :: st) res) : Jp X ad cid nL Q M pc lv (.ref (ad 109) :: st) res :=
  j_get hC 8 (by decide) sh_X12 rfl in_X12 (by decide) rfl qw710 rfl hd kk
theorem pX12_86 (hC : Ok X ad cid cc RX12 nL ret fr lo) {v : Int32} (hd : decode cc pc = .ok (.putfield 86, 3)) (kk : Jp X ad cid nL Q (sM M 109 8 v) (pc + 3) lv st res) : Jp X ad cid nL Q M pc lv (.int v :: .ref (ad 109) :: st) res :=
  j_put hC (ty := .int) tyX12 8 (by decide) sh_X12 (by rw [sh_X12]; simp [g_s, l_sL, l_sM, g_sL]) (sM_other M 109 8 v) rfl in_X12 tyX12_ok nmX12 (by decide) rfl qw710 rfl (by decide +kernel) rfl rfl (Nat.le_of_ble_eq_true rfl) hd kk
theorem gX12_80 (hC : Ok X ad cid cc RX12 nL ret fr lo) (hd : decode cc pc = .ok (.getfield 80, 3)) (kk : Jp X ad cid nL Q M (pc + 3) lv (.int (gM M 109 5) :: st) res) : Jp X ad cid nL Q M pc lv (.ref (ad 109) :: st) res :=
  j_get hC 5 (by decide) sh_X12 rfl in_X12 (by decide) rfl qw707 rfl hd kk
theorem pX12_107 (hC : Ok X ad cid cc RX12 nL ret fr lo) {v : Int32} (hv : v = 0 ∨ v = 1) (hd : decode cc pc = .ok (.putfield 107, 3)) (kk : Jp X ad cid nL Q (sM M 109 15 v) (pc + 3) lv st res) : Jp X ad cid nL Q M pc lv (.int v :: .ref (ad 109) :: st) res :=
  j_put hC (ty := .boolean) tyX12 15 (by decide) sh_X12 (by rw [sh_X12]; simp [g_s, l_sL, l_sM, g_sL]) (sM_other M 109 15 v) rfl in_X12 tyX12_ok nmX12 (by decide) rfl qw717 rfl (by decide +kernel) (by rcases hv with rfl | rfl <;> rfl) (by rcases hv with rfl | rfl <;> rfl) (Nat.le_of_ble_eq_true rfl) hd kk
theorem pX12_118 (hC : Ok X ad cid cc RX12 nL ret fr lo) {v : Int32} (hd : decode cc pc = .ok (.putfield 118, 3)) (kk : Jp X ad cid nL Q (sM M 109 24 v) (pc + 3) lv st res) : Jp X ad cid nL Q M pc lv (.int v :: .ref (ad 109) :: st) res :=
  j_put hC (ty := .int) tyX12 24 (by decide) sh_X12 (by rw [sh_X12]; simp [g_s, l_sL, l_sM, g_sL]) (sM_other M 109 24 v) rfl in_X12 tyX12_ok nmX12 (by decide) rfl qw726 rfl (by decide +kernel) rfl rfl (Nat.le_of_ble_eq_true rfl) hd kk
theorem gX12_107 (hC : Ok X ad cid cc RX12 nL ret fr lo) (hd : decode cc pc = .ok (.getfield 107, 3)) (kk : Jp X ad cid nL Q M (pc + 3) lv (.int (gM M 109 15) :: st) res) : Jp X ad cid nL Q M pc lv (.ref (ad 109) :: st) res :=
  j_get hC 15 (by decide) sh_X12 rfl in_X12 (by decide) rfl qw717 rfl hd kk
theorem gX12_47 (hC : Ok X ad cid cc RX12 nL ret fr lo) (hd : decode cc pc = .ok (.getfield 47, 3)) (kk : Jp X ad cid nL Q M (pc + 3) lv (.ref (ad 122) :: st) res) : Jp X ad cid nL Q M pc lv (.ref (ad 109) :: st) res :=
  j_get hC 22 (by decide) sh_X12 rfl in_X12 (by decide) rfl qw724 rfl hd kk
theorem gX12_50 (hC : Ok X ad cid cc RX12 nL ret fr lo) (hd : decode cc pc = .ok (.getfield 50, 3)) (kk : Jp X ad cid nL Q M (pc + 3) lv (.ref (ad 123) :: st) res) : Jp X ad cid nL Q M pc lv (.ref (ad 109) :: st) res :=
  j_get hC 23 (by decide) sh_X12 rfl in_X12 (by decide) rfl qw725 rfl hd kk
theorem gX12_56 (hC : Ok X ad cid cc RX12 nL ret fr lo) (hd : decode cc pc = .ok (.getfield 56, 3)) (kk : Jp X ad cid nL Q M (pc + 3) lv (.ref (ad 125) :: st) res) : Jp X ad cid nL Q M pc lv (.ref (ad 109) :: st) res :=
  j_get hC 26 (by decide) sh_X12 rfl in_X12 (by decide) rfl qw728 rfl hd kk
theorem gX12_175 (hC : Ok X ad cid cc RX12 nL ret fr lo) (hd : decode cc pc = .ok (.getfield 175, 3)) (kk : Jp X ad cid nL Q M (pc + 3) lv (.long (gL M 109) :: st) res) : Jp X ad cid nL Q M pc lv (.ref (ad 109) :: st) res :=
  j_get hC 1 (by decide) sh_X12 rfl in_X12 (by decide) rfl qw703 rfl hd kk
theorem pX12_175 (hC : Ok X ad cid cc RX12 nL ret fr lo) {v : Int64} (hd : decode cc pc = .ok (.putfield 175, 3)) (kk : Jp X ad cid nL Q (sL M 109 v) (pc + 3) lv st res) : Jp X ad cid nL Q M pc lv (.long v :: .ref (ad 109) :: st) res :=
  j_put hC (ty := .long) tyX12 1 (by decide) sh_X12 (by rw [sh_X12]; simp [g_s, l_sL, l_sM, g_sL]) (sL_other M 109 v) rfl in_X12 tyX12_ok nmX12 (by decide) rfl qw703 rfl (by decide +kernel) rfl rfl (Nat.le_of_ble_eq_true rfl) hd kk
end SH
theorem vv_X11_agreesWithSeen : cV yX11_agreesWithSeen RX11 cX11_agreesWithSeen 4 (some .boolean) 1 := ⟨⟨rfl, by decide +kernel, by decide +kernel, by decide +kernel⟩, qw619, qw17, qw43, qw620⟩
theorem vv_X11_back : cV yX11_back RX11 cX11_back 2 (some .int) 1 := ⟨⟨rfl, by decide +kernel, by decide +kernel, by decide +kernel⟩, qw685, qw686, qw43, qw687⟩
theorem vv_X11_beat : cV yX11_beat RX11 cX11_beat 1 (some .int) 0 := ⟨⟨rfl, by decide +kernel, by decide +kernel, by decide +kernel⟩, qw461, qw462, qw43, qw463⟩
theorem vv_X11_best : cV yX11_best RX11 cX11_best 6 (some .int) 0 := ⟨⟨rfl, by decide +kernel, by decide +kernel, by decide +kernel⟩, qw586, qw587, qw43, qw588⟩
theorem vv_X11_clear : cV yX11_clear RX11 cX11_clear 2 (some .int) 0 := ⟨⟨rfl, by decide +kernel, by decide +kernel, by decide +kernel⟩, qw327, qw328, qw43, qw329⟩
theorem vv_X11_contradictsSeen : cV yX11_contradictsSeen RX11 cX11_contradictsSeen 4 (some .boolean) 2 := ⟨⟨rfl, by decide +kernel, by decide +kernel, by decide +kernel⟩, qw628, qw19, qw43, qw629⟩
theorem vv_X11_copyOfNow : cV yX11_copyOfNow RX11 cX11_copyOfNow 1 (some (.object "LastRower$Moment")) 0 := ⟨⟨rfl, by decide +kernel, by decide +kernel, by decide +kernel⟩, qw526, qw12, qw43, qw527⟩
theorem vv_X11_copyWherePinched : cV yX11_copyWherePinched RX11 cX11_copyWherePinched 3 (some (.object "LastRower$Moment")) 1 := ⟨⟨rfl, by decide +kernel, by decide +kernel, by decide +kernel⟩, qw595, qw16, qw43, qw596⟩
theorem vv_X11_count : cV yX11_count RX11 cX11_count 2 (some .int) 1 := ⟨⟨rfl, by decide +kernel, by decide +kernel, by decide +kernel⟩, qw689, qw690, qw43, qw691⟩
theorem vv_X11_countPinchable : cV yX11_countPinchable RX11 cX11_countPinchable 1 (some .int) 0 := ⟨⟨rfl, by decide +kernel, by decide +kernel, by decide +kernel⟩, qw591, qw15, qw43, qw592⟩
theorem vv_X11_current : cV yX11_current RX11 cX11_current 2 (some .int) 1 := ⟨⟨rfl, by decide +kernel, by decide +kernel, by decide +kernel⟩, qw432, qw433, qw43, qw434⟩
theorem vv_X11_drift : cV yX11_drift RX11 cX11_drift 3 (some .int) 0 := ⟨⟨rfl, by decide +kernel, by decide +kernel, by decide +kernel⟩, qw558, qw559, qw43, qw560⟩
theorem vv_X11_ends : cV yX11_ends RX11 cX11_ends 1 (some .int) 0 := ⟨⟨rfl, by decide +kernel, by decide +kernel, by decide +kernel⟩, qw530, qw531, qw43, qw532⟩
theorem vv_X11_ferry : cV yX11_ferry RX11 cX11_ferry 3 (some .int) 0 := ⟨⟨rfl, by decide +kernel, by decide +kernel, by decide +kernel⟩, qw331, qw332, qw43, qw333⟩
theorem vv_X11_first : cV yX11_first RX11 cX11_first 2 (some .int) 1 := ⟨⟨rfl, by decide +kernel, by decide +kernel, by decide +kernel⟩, qw543, qw544, qw43, qw545⟩
theorem vv_X11_forget : cV yX11_forget RX11 cX11_forget 2 (some .int) 0 := ⟨⟨rfl, by decide +kernel, by decide +kernel, by decide +kernel⟩, qw610, qw611, qw43, qw612⟩
theorem vv_X11_inBeats : cV yX11_inBeats RX11 cX11_inBeats 5 (some .int) 2 := ⟨⟨rfl, by decide +kernel, by decide +kernel, by decide +kernel⟩, qw521, qw522, qw43, qw523⟩
theorem vv_X11_isOver : cV yX11_isOver RX11 cX11_isOver 1 (some .boolean) 0 := ⟨⟨rfl, by decide +kernel, by decide +kernel, by decide +kernel⟩, qw450, qw10, qw43, qw451⟩
theorem vv_X11_keep : cV yX11_keep RX11 cX11_keep 2 (some .int) 1 := ⟨⟨rfl, by decide +kernel, by decide +kernel, by decide +kernel⟩, qw681, qw682, qw43, qw683⟩
theorem vv_X11_last : cV yX11_last RX11 cX11_last 2 (some .int) 0 := ⟨⟨rfl, by decide +kernel, by decide +kernel, by decide +kernel⟩, qw539, qw540, qw43, qw541⟩
theorem vv_X11_latestSeen : cV yX11_latestSeen RX11 cX11_latestSeen 3 (some .int) 0 := ⟨⟨rfl, by decide +kernel, by decide +kernel, by decide +kernel⟩, qw623, qw18, qw43, qw624⟩
theorem vv_X11_mute : cV yX11_mute RX11 cX11_mute 5 (some .int) 1 := ⟨⟨rfl, by decide +kernel, by decide +kernel, by decide +kernel⟩, qw598, qw599, qw43, qw600⟩
theorem vv_X11_now : cV yX11_now RX11 cX11_now 2 (some .int) 1 := ⟨⟨rfl, by decide +kernel, by decide +kernel, by decide +kernel⟩, qw441, qw442, qw43, qw443⟩
theorem vv_X11_odds : cV yX11_odds RX11 cX11_odds 8 (some .int) 4 := ⟨⟨rfl, by decide +kernel, by decide +kernel, by decide +kernel⟩, qw631, qw632, qw43, qw633⟩
theorem vv_X11_passenger : cV yX11_passenger RX11 cX11_passenger 3 (some .int) 2 := ⟨⟨rfl, by decide +kernel, by decide +kernel, by decide +kernel⟩, qw420, qw421, qw43, qw422⟩
theorem vv_X11_pinches : cV yX11_pinches RX11 cX11_pinches 2 (some .int) 1 := ⟨⟨rfl, by decide +kernel, by decide +kernel, by decide +kernel⟩, qw492, qw493, qw43, qw494⟩
theorem vv_X11_plan : cV yX11_plan RX11 cX11_plan 4 (some .int) 3 := ⟨⟨rfl, by decide +kernel, by decide +kernel, by decide +kernel⟩, qw562, qw563, qw43, qw564⟩
theorem vv_X11_quarrels : cV yX11_quarrels RX11 cX11_quarrels 3 (some .int) 2 := ⟨⟨rfl, by decide +kernel, by decide +kernel, by decide +kernel⟩, qw501, qw502, qw43, qw503⟩
theorem vv_X11_rate : cV yX11_rate RX11 cX11_rate 3 (some .int) 2 := ⟨⟨rfl, by decide +kernel, by decide +kernel, by decide +kernel⟩, qw645, qw646, qw43, qw647⟩
theorem vv_X11_ring : cV yX11_ring RX11 cX11_ring 3 (some .int) 0 := ⟨⟨rfl, by decide +kernel, by decide +kernel, by decide +kernel⟩, qw548, qw549, qw43, qw550⟩
theorem vv_X11_seen : cV yX11_seen RX11 cX11_seen 3 (some .int) 2 := ⟨⟨rfl, by decide +kernel, by decide +kernel, by decide +kernel⟩, qw606, qw607, qw43, qw608⟩
theorem vv_X11_sings : cV yX11_sings RX11 cX11_sings 3 (some .int) 1 := ⟨⟨rfl, by decide +kernel, by decide +kernel, by decide +kernel⟩, qw505, qw506, qw43, qw507⟩
theorem vv_X11_trace : cV yX11_trace RX11 cX11_trace 1 (some .long) 0 := ⟨⟨rfl, by decide +kernel, by decide +kernel, by decide +kernel⟩, qw693, qw694, qw43, qw695⟩
theorem vv_X11_type : cV yX11_type RX11 cX11_type 2 (some .int) 1 := ⟨⟨rfl, by decide +kernel, by decide +kernel, by decide +kernel⟩, qw319, qw320, qw43, qw321⟩
theorem vv_X11_undo : cV yX11_undo RX11 cX11_undo 1 (some .int) 0 := ⟨⟨rfl, by decide +kernel, by decide +kernel, by decide +kernel⟩, qw513, qw514, qw43, qw515⟩
theorem vv_X11_utter : cV yX11_utter RX11 cX11_utter 2 none 1 := ⟨⟨rfl, by decide +kernel, by decide +kernel, by decide +kernel⟩, qw497, qw11, qw43, qw498⟩
theorem vv_X11_waysOver : cV yX11_waysOver RX11 cX11_waysOver 7 (some .int) 4 := ⟨⟨rfl, by decide +kernel, by decide +kernel, by decide +kernel⟩, qw636, qw20, qw43, qw637⟩
theorem vv_X11_who : cV yX11_who RX11 cX11_who 4 (some .int) 0 := ⟨⟨rfl, by decide +kernel, by decide +kernel, by decide +kernel⟩, qw614, qw615, qw43, qw616⟩
theorem vv_X2_addCurrent : cV yX2_addCurrent RX2 cX2_addCurrent 3 none 2 := ⟨⟨rfl, by decide +kernel, by decide +kernel, by decide +kernel⟩, qw381, qw382, qw45, qw383⟩
theorem vv_X2_addPassenger : cV yX2_addPassenger RX2 cX2_addPassenger 4 none 3 := ⟨⟨rfl, by decide +kernel, by decide +kernel, by decide +kernel⟩, qw369, qw370, qw45, qw371⟩
theorem vv_X2_empty : cV yX2_empty RX2 cX2_empty 1 none 0 := ⟨⟨rfl, by decide +kernel, by decide +kernel, by decide +kernel⟩, qw339, qw340, qw45, qw341⟩
theorem vv_X2_everybody : cV yX2_everybody RX2 cX2_everybody 1 (some .int) 0 := ⟨⟨rfl, by decide +kernel, by decide +kernel, by decide +kernel⟩, qw602, qw603, qw45, qw604⟩
theorem vv_X2_findFlow : cV yX2_findFlow RX2 cX2_findFlow 5 (some .int) 1 := ⟨⟨rfl, by decide +kernel, by decide +kernel, by decide +kernel⟩, qw402, qw9, qw45, qw403⟩
theorem vv_X2_findPull : cV yX2_findPull RX2 cX2_findPull 6 (some .int) 1 := ⟨⟨rfl, by decide +kernel, by decide +kernel, by decide +kernel⟩, qw398, qw8, qw45, qw399⟩
theorem vv_X2_flowAt : cV yX2_flowAt RX2 cX2_flowAt 2 (some .int) 1 := ⟨⟨rfl, by decide +kernel, by decide +kernel, by decide +kernel⟩, qw436, qw437, qw45, qw438⟩
theorem vv_X2_has : cV yX2_has RX2 cX2_has 2 (some .boolean) 1 := ⟨⟨rfl, by decide +kernel, by decide +kernel, by decide +kernel⟩, qw424, qw425, qw45, qw426⟩
theorem vv_X2_hasCurrentFrom : cV yX2_hasCurrentFrom RX2 cX2_hasCurrentFrom 3 (some .boolean) 1 := ⟨⟨rfl, by decide +kernel, by decide +kernel, by decide +kernel⟩, qw377, qw378, qw45, qw379⟩
theorem vv_X2_isOver : cV yX2_isOver RX2 cX2_isOver 2 (some .boolean) 1 := ⟨⟨rfl, by decide +kernel, by decide +kernel, by decide +kernel⟩, qw453, qw454, qw45, qw455⟩
theorem vv_X2_pullOf : cV yX2_pullOf RX2 cX2_pullOf 2 (some .int) 1 := ⟨⟨rfl, by decide +kernel, by decide +kernel, by decide +kernel⟩, qw445, qw446, qw45, qw447⟩
theorem vv_X2_settle : cV yX2_settle RX2 cX2_settle 2 none 0 := ⟨⟨rfl, by decide +kernel, by decide +kernel, by decide +kernel⟩, qw393, qw394, qw45, qw395⟩
theorem vv_X2_singersOf : cV yX2_singersOf RX2 cX2_singersOf 4 (some .int) 1 := ⟨⟨rfl, by decide +kernel, by decide +kernel, by decide +kernel⟩, qw509, qw510, qw45, qw511⟩
theorem vv_X4_allWords : cV yX4_allWords RX4 cX4_allWords 3 (some .int) 0 := ⟨⟨rfl, by decide +kernel, by decide +kernel, by decide +kernel⟩, qw457, qw458, qw46, qw459⟩
theorem vv_X4_copyFrom : cV yX4_copyFrom RX4 cX4_copyFrom 3 none 1 := ⟨⟨rfl, by decide +kernel, by decide +kernel, by decide +kernel⟩, qw469, qw470, qw46, qw471⟩
theorem vv_X4_passTime : cV yX4_passTime RX4 cX4_passTime 2 none 1 := ⟨⟨rfl, by decide +kernel, by decide +kernel, by decide +kernel⟩, qw484, qw485, qw46, qw486⟩
theorem vv_X4_row : cV yX4_row RX4 cX4_row 3 none 1 := ⟨⟨rfl, by decide +kernel, by decide +kernel, by decide +kernel⟩, qw474, qw475, qw46, qw476⟩
theorem vv_X4_rowTillOver : cV yX4_rowTillOver RX4 cX4_rowTillOver 4 (some .int) 2 := ⟨⟨rfl, by decide +kernel, by decide +kernel, by decide +kernel⟩, qw534, qw535, qw46, qw536⟩
theorem vv_X4_silenceOf : cV yX4_silenceOf RX4 cX4_silenceOf 2 (some .int) 1 := ⟨⟨rfl, by decide +kernel, by decide +kernel, by decide +kernel⟩, qw428, qw429, qw46, qw430⟩
theorem vv_X4_soundsLike : cV yX4_soundsLike RX4 cX4_soundsLike 5 (some .boolean) 2 := ⟨⟨rfl, by decide +kernel, by decide +kernel, by decide +kernel⟩, qw553, qw554, qw46, qw555⟩
theorem vv_X4_speak : cV yX4_speak RX4 cX4_speak 5 none 2 := ⟨⟨rfl, by decide +kernel, by decide +kernel, by decide +kernel⟩, qw412, qw413, qw46, qw414⟩
theorem vv_X4_start : cV yX4_start RX4 cX4_start 2 none 1 := ⟨⟨rfl, by decide +kernel, by decide +kernel, by decide +kernel⟩, qw405, qw406, qw46, qw407⟩
theorem vv_X4_whoIsDueAt : cV yX4_whoIsDueAt RX4 cX4_whoIsDueAt 5 (some .int) 2 := ⟨⟨rfl, by decide +kernel, by decide +kernel, by decide +kernel⟩, qw488, qw489, qw46, qw490⟩
theorem vv_X7_worth : cV yX7_worth RX7 cX7_worth 5 (some .int) 4 := ⟨⟨rfl, by decide +kernel, by decide +kernel, by decide +kernel⟩, qw650, qw651, qw49, qw679⟩
theorem vv_X8_add : cV yX8_add RX8 cX8_add 2 none 1 := ⟨⟨rfl, by decide +kernel, by decide +kernel, by decide +kernel⟩, qw465, qw466, qw47, qw467⟩
theorem vv_X8_lose : cV yX8_lose RX8 cX8_lose 1 none 0 := ⟨⟨rfl, by decide +kernel, by decide +kernel, by decide +kernel⟩, qw416, qw417, qw47, qw418⟩
theorem vv_X8_restore : cV yX8_restore RX8 cX8_restore 2 (some .boolean) 1 := ⟨⟨rfl, by decide +kernel, by decide +kernel, by decide +kernel⟩, qw517, qw518, qw47, qw519⟩
theorem vv_X9_search : cV yX9_search RX9 cX9_search 5 none 4 := ⟨⟨rfl, by decide +kernel, by decide +kernel, by decide +kernel⟩, qw566, qw567, qw48, qw568⟩
theorem vv_X9_tryAll : cV yX9_tryAll RX9 cX9_tryAll 5 none 2 := ⟨⟨rfl, by decide +kernel, by decide +kernel, by decide +kernel⟩, qw573, qw13, qw48, qw574⟩
theorem vv_X9_weigh : cV yX9_weigh RX9 cX9_weigh 6 none 2 := ⟨⟨rfl, by decide +kernel, by decide +kernel, by decide +kernel⟩, qw578, qw14, qw48, qw579⟩
theorem vv_X10_append : cV yX10_append RX10 cX10_append 2 (some .boolean) 1 := ⟨⟨rfl, by decide +kernel, by decide +kernel, by decide +kernel⟩, qw323, qw324, qw44, qw325⟩
theorem vv_X10_readCurrent : cV yX10_readCurrent RX10 cX10_readCurrent 3 (some .boolean) 1 := ⟨⟨rfl, by decide +kernel, by decide +kernel, by decide +kernel⟩, qw374, qw5, qw44, qw375⟩
theorem vv_X10_readDigits : cV yX10_readDigits RX10 cX10_readDigits 2 none 0 := ⟨⟨rfl, by decide +kernel, by decide +kernel, by decide +kernel⟩, qw351, qw1, qw44, qw352⟩
theorem vv_X10_readInto : cV yX10_readInto RX10 cX10_readInto 3 (some .int) 1 := ⟨⟨rfl, by decide +kernel, by decide +kernel, by decide +kernel⟩, qw335, qw336, qw44, qw337⟩
theorem vv_X10_readItem : cV yX10_readItem RX10 cX10_readItem 2 (some .boolean) 1 := ⟨⟨rfl, by decide +kernel, by decide +kernel, by decide +kernel⟩, qw358, qw2, qw44, qw359⟩
theorem vv_X10_readNumber : cV yX10_readNumber RX10 cX10_readNumber 3 (some .boolean) 2 := ⟨⟨rfl, by decide +kernel, by decide +kernel, by decide +kernel⟩, qw366, qw4, qw44, qw367⟩
theorem vv_X10_readPassenger : cV yX10_readPassenger RX10 cX10_readPassenger 4 (some .boolean) 1 := ⟨⟨rfl, by decide +kernel, by decide +kernel, by decide +kernel⟩, qw362, qw3, qw44, qw363⟩
theorem vv_X10_readSemicolon : cV yX10_readSemicolon RX10 cX10_readSemicolon 1 (some .boolean) 0 := ⟨⟨rfl, by decide +kernel, by decide +kernel, by decide +kernel⟩, qw390, qw7, qw44, qw391⟩
theorem vv_X10_readToken : cV yX10_readToken RX10 cX10_readToken 1 none 0 := ⟨⟨rfl, by decide +kernel, by decide +kernel, by decide +kernel⟩, qw344, qw0, qw44, qw345⟩
theorem vv_X10_readWide : cV yX10_readWide RX10 cX10_readWide 2 (some .boolean) 1 := ⟨⟨rfl, by decide +kernel, by decide +kernel, by decide +kernel⟩, qw386, qw6, qw44, qw387⟩
theorem vv_X12_advances : cV yX12_advances RX12 cX12_advances 2 none 0 := ⟨⟨rfl, by decide +kernel, by decide +kernel, by decide +kernel⟩, qw802, qw21, qw55, qw803⟩
theorem vv_X12_asNow : cV yX12_asNow RX12 cX12_asNow 2 none 0 := ⟨⟨rfl, by decide +kernel, by decide +kernel, by decide +kernel⟩, qw906, qw38, qw55, qw907⟩
theorem vv_X12_back : cV yX12_back RX12 cX12_back 3 (some .int) 1 := ⟨⟨rfl, by decide +kernel, by decide +kernel, by decide +kernel⟩, qw989, qw990, qw55, qw991⟩
theorem vv_X12_beat : cV yX12_beat RX12 cX12_beat 1 (some .int) 0 := ⟨⟨rfl, by decide +kernel, by decide +kernel, by decide +kernel⟩, qw865, qw866, qw55, qw867⟩
theorem vv_X12_best : cV yX12_best RX12 cX12_best 5 (some .int) 0 := ⟨⟨rfl, by decide +kernel, by decide +kernel, by decide +kernel⟩, qw941, qw942, qw55, qw943⟩
theorem vv_X12_clear : cV yX12_clear RX12 cX12_clear 2 (some .int) 0 := ⟨⟨rfl, by decide +kernel, by decide +kernel, by decide +kernel⟩, qw793, qw794, qw55, qw795⟩
theorem vv_X12_count : cV yX12_count RX12 cX12_count 2 (some .int) 1 := ⟨⟨rfl, by decide +kernel, by decide +kernel, by decide +kernel⟩, qw993, qw994, qw55, qw995⟩
theorem vv_X12_current : cV yX12_current RX12 cX12_current 2 (some .int) 1 := ⟨⟨rfl, by decide +kernel, by decide +kernel, by decide +kernel⟩, qw841, qw842, qw55, qw843⟩
theorem vv_X12_drift : cV yX12_drift RX12 cX12_drift 2 (some .int) 0 := ⟨⟨rfl, by decide +kernel, by decide +kernel, by decide +kernel⟩, qw929, qw930, qw55, qw931⟩
theorem vv_X12_ends : cV yX12_ends RX12 cX12_ends 1 (some .int) 0 := ⟨⟨rfl, by decide +kernel, by decide +kernel, by decide +kernel⟩, qw909, qw910, qw55, qw911⟩
theorem vv_X12_endsBehind : cV yX12_endsBehind RX12 cX12_endsBehind 3 (some .int) 1 := ⟨⟨rfl, by decide +kernel, by decide +kernel, by decide +kernel⟩, qw914, qw39, qw55, qw915⟩
theorem vv_X12_endsBy : cV yX12_endsBy RX12 cX12_endsBy 6 (some .int) 2 := ⟨⟨rfl, by decide +kernel, by decide +kernel, by decide +kernel⟩, qw938, qw40, qw55, qw939⟩
theorem vv_X12_ferry : cV yX12_ferry RX12 cX12_ferry 3 (some .int) 0 := ⟨⟨rfl, by decide +kernel, by decide +kernel, by decide +kernel⟩, qw797, qw798, qw55, qw799⟩
theorem vv_X12_first : cV yX12_first RX12 cX12_first 6 (some .int) 1 := ⟨⟨rfl, by decide +kernel, by decide +kernel, by decide +kernel⟩, qw921, qw922, qw55, qw923⟩
theorem vv_X12_flowAt : cV yX12_flowAt RX12 cX12_flowAt 5 (some .int) 1 := ⟨⟨rfl, by decide +kernel, by decide +kernel, by decide +kernel⟩, qw846, qw30, qw55, qw847⟩
theorem vv_X12_forget : cV yX12_forget RX12 cX12_forget 2 (some .int) 0 := ⟨⟨rfl, by decide +kernel, by decide +kernel, by decide +kernel⟩, qw953, qw954, qw55, qw955⟩
theorem vv_X12_goes : cV yX12_goes RX12 cX12_goes 4 none 1 := ⟨⟨rfl, by decide +kernel, by decide +kernel, by decide +kernel⟩, qw874, qw35, qw55, qw875⟩
theorem vv_X12_hushes : cV yX12_hushes RX12 cX12_hushes 4 none 1 := ⟨⟨rfl, by decide +kernel, by decide +kernel, by decide +kernel⟩, qw878, qw36, qw55, qw879⟩
theorem vv_X12_inBeats : cV yX12_inBeats RX12 cX12_inBeats 4 (some .int) 2 := ⟨⟨rfl, by decide +kernel, by decide +kernel, by decide +kernel⟩, qw901, qw902, qw55, qw903⟩
theorem vv_X12_isAsSeen : cV yX12_isAsSeen RX12 cX12_isAsSeen 4 (some .boolean) 0 := ⟨⟨rfl, by decide +kernel, by decide +kernel, by decide +kernel⟩, qw962, qw41, qw55, qw963⟩
theorem vv_X12_isNewYard : cV yX12_isNewYard RX12 cX12_isNewYard 3 (some .boolean) 0 := ⟨⟨rfl, by decide +kernel, by decide +kernel, by decide +kernel⟩, qw826, qw27, qw55, qw827⟩
theorem vv_X12_isOver : cV yX12_isOver RX12 cX12_isOver 2 (some .boolean) 1 := ⟨⟨rfl, by decide +kernel, by decide +kernel, by decide +kernel⟩, qw858, qw32, qw55, qw859⟩
theorem vv_X12_isPassenger : cV yX12_isPassenger RX12 cX12_isPassenger 2 (some .boolean) 1 := ⟨⟨rfl, by decide +kernel, by decide +kernel, by decide +kernel⟩, qw838, qw29, qw55, qw839⟩
theorem vv_X12_isWell : cV yX12_isWell RX12 cX12_isWell 1 (some .boolean) 0 := ⟨⟨rfl, by decide +kernel, by decide +kernel, by decide +kernel⟩, qw810, qw23, qw55, qw811⟩
theorem vv_X12_keep : cV yX12_keep RX12 cX12_keep 3 (some .int) 1 := ⟨⟨rfl, by decide +kernel, by decide +kernel, by decide +kernel⟩, qw985, qw986, qw55, qw987⟩
theorem vv_X12_last : cV yX12_last RX12 cX12_last 1 (some .int) 0 := ⟨⟨rfl, by decide +kernel, by decide +kernel, by decide +kernel⟩, qw917, qw918, qw55, qw919⟩
theorem vv_X12_letterAt : cV yX12_letterAt RX12 cX12_letterAt 2 (some .int) 1 := ⟨⟨rfl, by decide +kernel, by decide +kernel, by decide +kernel⟩, qw806, qw22, qw55, qw807⟩
theorem vv_X12_mute : cV yX12_mute RX12 cX12_mute 4 (some .int) 1 := ⟨⟨rfl, by decide +kernel, by decide +kernel, by decide +kernel⟩, qw945, qw946, qw55, qw947⟩
theorem vv_X12_notes : cV yX12_notes RX12 cX12_notes 2 none 0 := ⟨⟨rfl, by decide +kernel, by decide +kernel, by decide +kernel⟩, qw870, qw34, qw55, qw871⟩
theorem vv_X12_now : cV yX12_now RX12 cX12_now 2 (some .int) 1 := ⟨⟨rfl, by decide +kernel, by decide +kernel, by decide +kernel⟩, qw849, qw850, qw55, qw851⟩
theorem vv_X12_number : cV yX12_number RX12 cX12_number 3 (some .int) 2 := ⟨⟨rfl, by decide +kernel, by decide +kernel, by decide +kernel⟩, qw822, qw26, qw55, qw823⟩
theorem vv_X12_odds : cV yX12_odds RX12 cX12_odds 10 (some .int) 4 := ⟨⟨rfl, by decide +kernel, by decide +kernel, by decide +kernel⟩, qw965, qw966, qw55, qw967⟩
theorem vv_X12_passenger : cV yX12_passenger RX12 cX12_passenger 3 (some .int) 2 := ⟨⟨rfl, by decide +kernel, by decide +kernel, by decide +kernel⟩, qw833, qw834, qw55, qw835⟩
theorem vv_X12_pinches : cV yX12_pinches RX12 cX12_pinches 2 (some .int) 1 := ⟨⟨rfl, by decide +kernel, by decide +kernel, by decide +kernel⟩, qw885, qw886, qw55, qw887⟩
theorem vv_X12_plan : cV yX12_plan RX12 cX12_plan 10 (some .int) 3 := ⟨⟨rfl, by decide +kernel, by decide +kernel, by decide +kernel⟩, qw933, qw934, qw55, qw935⟩
theorem vv_X12_pullOf : cV yX12_pullOf RX12 cX12_pullOf 7 (some .int) 1 := ⟨⟨rfl, by decide +kernel, by decide +kernel, by decide +kernel⟩, qw854, qw31, qw55, qw855⟩
theorem vv_X12_quarrels : cV yX12_quarrels RX12 cX12_quarrels 3 (some .int) 2 := ⟨⟨rfl, by decide +kernel, by decide +kernel, by decide +kernel⟩, qw889, qw890, qw55, qw891⟩
theorem vv_X12_rate : cV yX12_rate RX12 cX12_rate 5 (some .int) 2 := ⟨⟨rfl, by decide +kernel, by decide +kernel, by decide +kernel⟩, qw975, qw976, qw55, qw977⟩
theorem vv_X12_readsItem : cV yX12_readsItem RX12 cX12_readsItem 3 none 1 := ⟨⟨rfl, by decide +kernel, by decide +kernel, by decide +kernel⟩, qw818, qw25, qw55, qw819⟩
theorem vv_X12_ring : cV yX12_ring RX12 cX12_ring 4 (some .int) 0 := ⟨⟨rfl, by decide +kernel, by decide +kernel, by decide +kernel⟩, qw925, qw926, qw55, qw927⟩
theorem vv_X12_seen : cV yX12_seen RX12 cX12_seen 3 (some .int) 2 := ⟨⟨rfl, by decide +kernel, by decide +kernel, by decide +kernel⟩, qw949, qw950, qw55, qw951⟩
theorem vv_X12_settles : cV yX12_settles RX12 cX12_settles 2 none 0 := ⟨⟨rfl, by decide +kernel, by decide +kernel, by decide +kernel⟩, qw830, qw28, qw55, qw831⟩
theorem vv_X12_sings : cV yX12_sings RX12 cX12_sings 4 (some .int) 1 := ⟨⟨rfl, by decide +kernel, by decide +kernel, by decide +kernel⟩, qw893, qw894, qw55, qw895⟩
theorem vv_X12_speak : cV yX12_speak RX12 cX12_speak 4 none 2 := ⟨⟨rfl, by decide +kernel, by decide +kernel, by decide +kernel⟩, qw882, qw37, qw55, qw883⟩
theorem vv_X12_takes : cV yX12_takes RX12 cX12_takes 3 (some .int) 1 := ⟨⟨rfl, by decide +kernel, by decide +kernel, by decide +kernel⟩, qw814, qw24, qw55, qw815⟩
theorem vv_X12_trace : cV yX12_trace RX12 cX12_trace 1 (some .long) 0 := ⟨⟨rfl, by decide +kernel, by decide +kernel, by decide +kernel⟩, qw997, qw998, qw55, qw999⟩
theorem vv_X12_type : cV yX12_type RX12 cX12_type 2 (some .int) 1 := ⟨⟨rfl, by decide +kernel, by decide +kernel, by decide +kernel⟩, qw786, qw787, qw55, qw788⟩
theorem vv_X12_undo : cV yX12_undo RX12 cX12_undo 2 (some .int) 0 := ⟨⟨rfl, by decide +kernel, by decide +kernel, by decide +kernel⟩, qw897, qw898, qw55, qw899⟩
theorem vv_X12_who : cV yX12_who RX12 cX12_who 3 (some .int) 0 := ⟨⟨rfl, by decide +kernel, by decide +kernel, by decide +kernel⟩, qw957, qw958, qw55, qw959⟩
theorem vv_X12_wordsOf : cV yX12_wordsOf RX12 cX12_wordsOf 4 (some .int) 1 := ⟨⟨rfl, by decide +kernel, by decide +kernel, by decide +kernel⟩, qw862, qw33, qw55, qw863⟩
theorem vs_X11_greatestShared : cS yX11_greatestShared cX11_greatestShared 6 (some .int) 2 := ⟨⟨by decide +kernel, by decide +kernel, by decide +kernel⟩, qw642, qw43, qw643⟩
theorem vs_X11_powerOfTen : cS yX11_powerOfTen cX11_powerOfTen 3 (some .int) 1 := ⟨⟨by decide +kernel, by decide +kernel, by decide +kernel⟩, qw639, qw43, qw640⟩
theorem vs_X10_isDigit : cS yX10_isDigit cX10_isDigit 1 (some .boolean) 1 := ⟨⟨by decide +kernel, by decide +kernel, by decide +kernel⟩, qw347, qw44, qw348⟩
theorem vs_X12_gcd : cS yX12_gcd cX12_gcd 5 (some .int) 2 := ⟨⟨by decide +kernel, by decide +kernel, by decide +kernel⟩, qw972, qw55, qw973⟩
theorem vs_X12_in : cS yX12_in cX12_in 3 (some .boolean) 3 := ⟨⟨by decide +kernel, by decide +kernel, by decide +kernel⟩, qw790, qw55, qw791⟩
theorem vs_X12_power : cS yX12_power cX12_power 4 (some .int) 2 := ⟨⟨by decide +kernel, by decide +kernel, by decide +kernel⟩, qw969, qw55, qw970⟩
theorem vs_J7_fill_53178 : cS yJ7_fill_53178 cJ7_fill_53178 4 none 2 := ⟨⟨by decide +kernel, by decide +kernel, by decide +kernel⟩, qw409, qw57, qw410⟩
theorem vu_X0_X7_worth : cU RX0 yX7_worth cX7_worth 5 (some .int) 4 := ⟨⟨by decide +kernel, by decide +kernel⟩, qw652, qw274, qw650, qw49, qw679⟩
theorem vu_X1_X7_worth : cU RX1 yX7_worth cX7_worth 5 (some .int) 4 := ⟨⟨by decide +kernel, by decide +kernel⟩, qw652, qw253, qw650, qw49, qw679⟩
theorem vu_X3_X5_worth : cU RX3 yX5_worth cX5_worth 5 (some .int) 4 := ⟨⟨by decide +kernel, by decide +kernel⟩, qw1000, qw260, qw668, qw50, qw669⟩
theorem vu_X5_X7_worth : cU RX5 yX7_worth cX7_worth 5 (some .int) 4 := ⟨⟨by decide +kernel, by decide +kernel⟩, qw652, qw246, qw650, qw49, qw679⟩
theorem vu_X6_X1_worth : cU RX6 yX1_worth cX1_worth 5 (some .int) 4 := ⟨⟨by decide +kernel, by decide +kernel⟩, qw1001, qw267, qw659, qw51, qw660⟩
theorem vo_X0_worth : cO RX0 RX7 yX7_worth yX0_worth cX0_worth 5 (some .int) 4 cX7_worth 5 (some .int) := ⟨⟨by decide +kernel, by decide +kernel, by decide +kernel⟩, qw652, qw650, qw653, qw654, qw54, qw655, qw679⟩
theorem vo_X1_worth : cO RX1 RX7 yX7_worth yX1_worth cX1_worth 5 (some .int) 4 cX7_worth 5 (some .int) := ⟨⟨by decide +kernel, by decide +kernel, by decide +kernel⟩, qw652, qw650, qw658, qw659, qw51, qw660, qw679⟩
theorem vo_X3_worth : cO RX3 RX7 yX7_worth yX3_worth cX3_worth 5 (some .int) 4 cX7_worth 5 (some .int) := ⟨⟨by decide +kernel, by decide +kernel, by decide +kernel⟩, qw652, qw650, qw663, qw664, qw52, qw665, qw679⟩
theorem vo_X5_worth : cO RX5 RX7 yX7_worth yX5_worth cX5_worth 5 (some .int) 4 cX7_worth 5 (some .int) := ⟨⟨by decide +kernel, by decide +kernel, by decide +kernel⟩, qw652, qw650, qw673, qw668, qw50, qw669, qw679⟩
theorem vo_X6_worth : cO RX6 RX7 yX7_worth yX6_worth cX6_worth 5 (some .int) 4 cX7_worth 5 (some .int) := ⟨⟨by decide +kernel, by decide +kernel, by decide +kernel⟩, qw652, qw650, qw674, qw675, qw53, qw676, qw679⟩
