/-! from the law's entry to its loop -/
theorem jc_jp {X : Cx} {z0 nL pc k sl : Nat} {cid : Nat → ClassId} {lv : List (Option Value)} {st : List Value} {Q : Unit → State → Prop} {sh : Nat → va_E} {M : Mem} (hs : ∀ i, i < 126 → sh i = shp (fun i => z0 + i) cid M i) (hk : cxK X = k) (hn : cxN X = sl) (hz : (cxS X).heap.size = z0) (h : Jp X (fun i => z0 + i) cid nL Q M pc lv st (some ())) : Jc X z0 nL (Q ()) 126 sh k sl pc lv st := by
  intro _ ls H locs hl hP hS
  refine va_forget (fun q hq => by rw [hz]; exact hS.2.2 q hq) ?_
  have hw : wf z0 126 sh = wld (fun i => z0 + i) cid M := by
    apply List.ext_getElem?
    intro j
    by_cases hj : j < 126
    · rw [wf_get hj, wld_get hj, hs j hj]
    · rw [List.getElem?_eq_none (by rw [wf_len]; omega), List.getElem?_eq_none (by rw [wld_len]; omega)]
  rw [hw] at hP
  have := h () rfl ls H [] hl hP ⟨hS.1, fun q h1 h2 => hS.2.1 q h1 (by rw [← hz]; omega), fun q hq => absurd hq List.not_mem_nil⟩
  unfold cxW at this
  rw [hk, hn] at this
  exact this
theorem arrP {s : State} {cA : ClassId} {kA : Class} {comp : ClassId} {ty : FieldType} (h2 : s.vm.classes[cA]? = some kA) (h3 : kA.kind = .array comp ty) : ArrOfT s cA ty := fun N z => ⟨(fun k h => by cases h), kA, h2, comp, h3⟩
theorem zr_i : Cond.arrayClass .int ∈ lw_tbl := List.mem_of_getElem? (i := 92) (by decide +kernel)
theorem zr_z : Cond.arrayClass .boolean ∈ lw_tbl := List.mem_of_getElem? (i := 784) (by decide +kernel)
theorem zr_l : Cond.arrayClass .long ∈ lw_tbl := List.mem_of_getElem? (i := 239) (by decide +kernel)
theorem zr_m : Cond.arrayOver (.object RX4) ∈ lw_tbl := List.mem_of_getElem? (i := 189) (by decide +kernel)
theorem zr_p : Cond.arrayOver (.object RX7) ∈ lw_tbl := List.mem_of_getElem? (i := 232) (by decide +kernel)
theorem zr_cX5 : Cond.castable RX5 RX7 ∈ lw_tbl := List.mem_of_getElem? (i := 1002) (by decide +kernel)
theorem zr_cX1 : Cond.castable RX1 RX7 ∈ lw_tbl := List.mem_of_getElem? (i := 1003) (by decide +kernel)
theorem zr_cX3 : Cond.castable RX3 RX7 ∈ lw_tbl := List.mem_of_getElem? (i := 1004) (by decide +kernel)
theorem zr_cX6 : Cond.castable RX6 RX7 ∈ lw_tbl := List.mem_of_getElem? (i := 1005) (by decide +kernel)
theorem zr_cX0 : Cond.castable RX0 RX7 ∈ lw_tbl := List.mem_of_getElem? (i := 1006) (by decide +kernel)
theorem zi_X0 : Cond.instantiable RX0 0 ∈ lw_tbl := List.mem_of_getElem? (i := 269) (by decide +kernel)
theorem zi_X1 : Cond.instantiable RX1 0 ∈ lw_tbl := List.mem_of_getElem? (i := 248) (by decide +kernel)
theorem zi_X2 : Cond.instantiable RX2 11 ∈ lw_tbl := List.mem_of_getElem? (i := 94) (by decide +kernel)
theorem zi_X3 : Cond.instantiable RX3 0 ∈ lw_tbl := List.mem_of_getElem? (i := 255) (by decide +kernel)
theorem zi_X4 : Cond.instantiable RX4 6 ∈ lw_tbl := List.mem_of_getElem? (i := 149) (by decide +kernel)
theorem zi_X5 : Cond.instantiable RX5 0 ∈ lw_tbl := List.mem_of_getElem? (i := 241) (by decide +kernel)
theorem zi_X6 : Cond.instantiable RX6 0 ∈ lw_tbl := List.mem_of_getElem? (i := 262) (by decide +kernel)
theorem zi_X7 : Cond.instantiable RX7 0 ∈ lw_tbl := List.mem_of_getElem? (i := 233) (by decide +kernel)
theorem zi_X8 : Cond.instantiable RX8 3 ∈ lw_tbl := List.mem_of_getElem? (i := 183) (by decide +kernel)
theorem zi_X9 : Cond.instantiable RX9 6 ∈ lw_tbl := List.mem_of_getElem? (i := 203) (by decide +kernel)
theorem zi_X10 : Cond.instantiable RX10 6 ∈ lw_tbl := List.mem_of_getElem? (i := 67) (by decide +kernel)
theorem zi_X11 : Cond.instantiable RX11 14 ∈ lw_tbl := List.mem_of_getElem? (i := 59) (by decide +kernel)
theorem zi_X12 : Cond.instantiable RX12 27 ∈ lw_tbl := List.mem_of_getElem? (i := 697) (by decide +kernel)
theorem wAll_tbl {w : Cond} (h : w ∈ wAll) : w ∈ lw_tbl := (List.mem_filter.mp h).1
theorem nest_of {s : State} {A : Array Value} (hts : ∀ w ∈ lw_tbl, w.before A s = true) : nestOk s := by
  intro w hw hn
  have h1 := hts w hw
  match w, hn, h1 with
  | .fieldLinkNest .., _, h1 => exact va_Nw.of rfl h1
  | .methodLinkNest .., _, h1 => exact va_Nw.of rfl h1
theorem aux_of {s : State} {A : Array Value} (hts : ∀ w ∈ lw_tbl, w.before A s = true) : auxOk s := ⟨va_AO.of (hts _ zr_m), va_AO.of (hts _ zr_p), va_Nw.of rfl (hts _ zr_cX5), va_Nw.of rfl (hts _ zr_cX1), va_Nw.of rfl (hts _ zr_cX3), va_Nw.of rfl (hts _ zr_cX6), va_Nw.of rfl (hts _ zr_cX0)⟩
theorem K_of {s : State} {A : Array Value} (hts : ∀ w ∈ lw_tbl, w.before A s = true) : ∃ (D : va_G) (cid : Nat → ClassId), va_K D vwCl (tysOf cid) s := by
  obtain ⟨cX0, iX0, kX0⟩ := u_known (C := RX0) (T := TX0) (N := 0) (n := 0) hts (fun w h => wAll_tbl (in_X0 w h)) (hts _ zi_X0)
  obtain ⟨cX1, iX1, kX1⟩ := u_known (C := RX1) (T := TX1) (N := 0) (n := 0) hts (fun w h => wAll_tbl (in_X1 w h)) (hts _ zi_X1)
  obtain ⟨cX2, iX2, kX2⟩ := u_known (C := RX2) (T := TX2) (N := 11) (n := 11) hts (fun w h => wAll_tbl (in_X2 w h)) (hts _ zi_X2)
  obtain ⟨cX3, iX3, kX3⟩ := u_known (C := RX3) (T := TX3) (N := 0) (n := 0) hts (fun w h => wAll_tbl (in_X3 w h)) (hts _ zi_X3)
  obtain ⟨cX4, iX4, kX4⟩ := u_known (C := RX4) (T := TX4) (N := 6) (n := 6) hts (fun w h => wAll_tbl (in_X4 w h)) (hts _ zi_X4)
  obtain ⟨cX5, iX5, kX5⟩ := u_known (C := RX5) (T := TX5) (N := 0) (n := 0) hts (fun w h => wAll_tbl (in_X5 w h)) (hts _ zi_X5)
  obtain ⟨cX6, iX6, kX6⟩ := u_known (C := RX6) (T := TX6) (N := 0) (n := 0) hts (fun w h => wAll_tbl (in_X6 w h)) (hts _ zi_X6)
  obtain ⟨cX7, iX7, kX7⟩ := u_known (C := RX7) (T := TX7) (N := 0) (n := 0) hts (fun w h => wAll_tbl (in_X7 w h)) (hts _ zi_X7)
  obtain ⟨cX8, iX8, kX8⟩ := u_known (C := RX8) (T := TX8) (N := 3) (n := 3) hts (fun w h => wAll_tbl (in_X8 w h)) (hts _ zi_X8)
  obtain ⟨cX9, iX9, kX9⟩ := u_known (C := RX9) (T := TX9) (N := 6) (n := 6) hts (fun w h => wAll_tbl (in_X9 w h)) (hts _ zi_X9)
  obtain ⟨cX10, iX10, kX10⟩ := u_known (C := RX10) (T := TX10) (N := 6) (n := 6) hts (fun w h => wAll_tbl (in_X10 w h)) (hts _ zi_X10)
  obtain ⟨cX11, iX11, kX11⟩ := u_known (C := RX11) (T := TX11) (N := 14) (n := 14) hts (fun w h => wAll_tbl (in_X11 w h)) (hts _ zi_X11)
  obtain ⟨cX12, iX12, kX12⟩ := u_known (C := RX12) (T := TX12) (N := 27) (n := 27) hts (fun w h => wAll_tbl (in_X12 w h)) (hts _ zi_X12)
  obtain ⟨a0, p0, q0, f0, g0, h0⟩ := Cond.arrayClass_spec (hts _ zr_i)
  obtain ⟨a1, p1, q1, f1, g1, h1⟩ := Cond.arrayClass_spec (hts _ zr_z)
  obtain ⟨a2, p2, q2, f2, g2, h2⟩ := Cond.arrayClass_spec (hts _ zr_l)
  obtain ⟨q3, a3, p3, r3, -, g3, h3, f3⟩ := Cond.arrayOver_spec (hts _ zr_m)
  obtain ⟨q4, a4, p4, r4, -, g4, h4, f4⟩ := Cond.arrayOver_spec (hts _ zr_p)
  refine ⟨(fun k => [cX0, cX1, cX2, cX3, cX4, cX5, cX6, cX7, cX8, cX9, cX10, cX11, cX12].getD k cX0, fun k => [iX0, iX1, iX2, iX3, iX4, iX5, iX6, iX7, iX8, iX9, iX10, iX11, iX12].getD k iX0), fun k => [a0, a1, a2, a3, a4].getD k a0, ?_, ?_⟩
  · intro k q hq
    match k, hq with
    | 0, hq => cases hq; exact kX0
    | 1, hq => cases hq; exact kX1
    | 2, hq => cases hq; exact kX2
    | 3, hq => cases hq; exact kX3
    | 4, hq => cases hq; exact kX4
    | 5, hq => cases hq; exact kX5
    | 6, hq => cases hq; exact kX6
    | 7, hq => cases hq; exact kX7
    | 8, hq => cases hq; exact kX8
    | 9, hq => cases hq; exact kX9
    | 10, hq => cases hq; exact kX10
    | 11, hq => cases hq; exact kX11
    | 12, hq => cases hq; exact kX12
    | k + 13, hq => simp [vwCl] at hq
  · intro k q hq
    match k, hq with
    | 0, hq => cases hq; exact ⟨arrP g0 h0, f0⟩
    | 1, hq => cases hq; exact ⟨arrP g1 h1, f1⟩
    | 2, hq => cases hq; exact ⟨arrP g2 h2, f2⟩
    | 3, hq => cases hq; exact ⟨arrP g3 h3, p3, q3, g3, h3, r3, f3⟩
    | 4, hq => cases hq; exact ⟨arrP g4 h4, p4, q4, g4, h4, r4, f4⟩
    | k + 5, hq => simp [tysOf] at hq
set_option maxRecDepth 20000 in
set_option maxHeartbeats 8000000 in
theorem whole_open {p : Program} {e : Env} {s : State} {m : MethodId} {below : List Frame} {meth : Method} {c : Code} (l : Launch) {b L : Nat} {xs : Nat → Int32} (hpure : lL_law xs L fuel M0 0 = some ()) (C0 : lw_At p s m meth c b L xs) : W p l e room_1 s m #[Value.ref b] below meth c s.heap [] 0 0 (lw_Z below #[Value.ref b] s) (entryFrame m ([Value.ref b] : List Value).toArray 4) := by
  obtain ⟨hx, hb, hr, hml, hown, hts, hX, hbl, hlocks, hgv⟩ := id C0
  obtain ⟨D, cid, hK⟩ := K_of hts
  have hN := nest_of hts
  have hA := aux_of hts
  have htw : ∀ w ∈ wAll, w.before #[Value.ref b] s = true := fun w h => hts w (wAll_tbl h)
  obtain ⟨X, hXe⟩ : ∃ X : Cx, X = (p, l, e, room_1, s, m, #[Value.ref b], below, meth, c, D, 126, 1822) := ⟨_, rfl⟩
  obtain ⟨z0, hz0⟩ : ∃ z0, z0 = s.heap.size := ⟨_, rfl⟩
  have hO : OkC X z0 cid cL_law RL 4 20 600 126 1822 := by
    rw [hXe]
    exact ⟨hx, hb, hml, hown, htw, hK, hN, hA, hlocks, by rw [hz0]; exact Nat.le_refl _, Nat.le_of_ble_eq_true rfl, Nat.le_of_ble_eq_true rfl, Nat.le_of_ble_eq_true rfl, Nat.le_of_ble_eq_true rfl⟩
  have hly : lyOk (fun i => z0 + i) := fun i j _ _ h => Nat.add_left_cancel h
  have hC : Ok X (fun i => z0 + i) cid cL_law RL 4 (some .boolean) 20 600 := by
    rw [hXe]
    exact ⟨hx, hb, hml, hown, htw, hK, hN, hly, hlocks, hr, Nat.le_of_ble_eq_true rfl, Nat.le_of_ble_eq_true rfl, Nat.le_of_ble_eq_true rfl, Nat.le_of_ble_eq_true rfl⟩
  have hS : scOk X (fun i => z0 + i) b L xs := by
    rw [hXe]
    refine ⟨hX, hbl, ?_⟩
    rintro ⟨i, -, hi⟩
    have hi : b = z0 + i := hi
    omega
  have hQ : ∀ (M : Mem) (pc : Nat) (lv : List (Option Value)), decode cL_law pc = .ok (.ireturn, 1) → Jp X (fun i => z0 + i) cid 4 (fun _ => lw_Z below #[Value.ref b] s) M pc lv [.int 1] (some ()) := by
    intro M pc lv hd out ho ls H locs hl hP hS1
    rw [hXe] at hP hS1 ⊢
    refine va_forget (fun q hq => ?_) ?_
    · obtain ⟨i, -, hi⟩ := hS1.2.2 q hq
      rw [hi, hz0]
      exact Nat.le_add_right _ _
    · exact W.widen (Nat.le_of_ble_eq_true rfl) (Nat.le_of_ble_eq_true rfl) (lw_ret hx hb hr hlocks hd)
  have hl := lv_entry ([.ref b]) (n := 4) (Nat.le_of_ble_eq_true rfl)
  rw [lg_entry_eq]
  have hJ : Jc X z0 4 (lw_Z below #[Value.ref b] s) 0 sh0 0 0 0 [some (.ref b), none, none, none] [] := by
    refine k_new (n := 0) (k := 0) (sl := 0) (pc := 0) hO (ci := 11) (C := RX11) (T := TX11) (N := 14) (fs := [.null, .null, .null, .null, .null, .null, .int 0, .null, .null, .int 0, .null, .null, .null, .null]) tyX11 tyX11_ok in_X11 xl_cX11 xl_iX11 xl_nX11 rfl (by decide +kernel) (by decide) (by decide) dL_law_0 ?_
    refine k_dup (pc := 3) hO dL_law_3 rfl ?_
    refine k_init (n := 1) (k := 1) (sl := 14) (pc := 4) hO (i := 0) (kc_X11 _ rfl) vi_X11 xl_mX11 (by decide) rfl ⟨by decide, by decide⟩ (by decide) (by decide) (Nat.le_of_ble_eq_true rfl) dL_law_4 ?_
    refine k_astore_n (pc := 7) hO (lv' := [some (.ref b), some (.ref (z0 + 0)), none, none]) dL_law_7 (by decide) rfl rfl ?_
    refine k_new (n := 109) (k := 109) (sl := 1309) (pc := 8) hO (ci := 12) (C := RX12) (T := TX12) (N := 27) (fs := [.int 0, .long 0, .null, .int 0, .int 0, .int 0, .int 0, .int 0, .int 0, .null, .null, .null, .null, .null, .null, .int 0, .null, .null, .null, .null, .null, .int 0, .null, .null, .int 0, .null, .null]) tyX12 tyX12_ok in_X12 xl_cX12 xl_iX12 xl_nX12 rfl (by decide +kernel) (by decide) (by decide) dL_law_8 ?_
    refine k_dup (pc := 11) hO dL_law_11 rfl ?_
    refine k_init (n := 110) (k := 110) (sl := 1336) (pc := 12) hO (i := 109) (kc_X12 _ rfl) vi_X12 xl_mX12 (by decide) rfl ⟨by decide, by decide⟩ (by decide) (by decide) (Nat.le_of_ble_eq_true rfl) dL_law_12 ?_
    refine k_astore_n (pc := 15) hO (lv' := [some (.ref b), some (.ref (z0 + 0)), some (.ref (z0 + 109)), none]) dL_law_15 (by decide) rfl rfl ?_
    refine k_iconst (pc := 16) hO dL_law_16 (v := 0) (by decide) ?_
    refine k_istore_n (pc := 17) hO (lv' := [some (.ref b), some (.ref (z0 + 0)), some (.ref (z0 + 109)), some (.int 0)]) dL_law_17 (by decide) rfl rfl ?_
    refine jc_jp (Q := fun _ => lw_Z below #[Value.ref b] s) (shE_ok z0 cid) (by rw [hXe]; rfl) (by rw [hXe]; rfl) (by rw [hXe, hz0]; rfl) ?_
    rw [← hpure]
    exact tlL_law hC hS hQ fuel M0 0
  have := hJ (by rw [hXe, hz0]; rfl) _ s.heap [] (by exact hl) (by rw [hXe]; intro k q hk; simp [wf] at hk) (by rw [hXe]; exact va_S.rf)
  rw [hXe] at this
  exact this
