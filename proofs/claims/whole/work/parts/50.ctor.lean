/-! the constructors: a world that grows, its cells at z0 + i -/
def wf (z0 n : Nat) (sh : Nat → va_E) : va_W := (List.range n).map (fun i => (z0 + i, sh i))
def up (sh : Nat → va_E) (i : Nat) (e : va_E) : Nat → va_E := fun j => if j = i then e else sh j
theorem up_s {sh : Nat → va_E} {i : Nat} {e : va_E} : up sh i e i = e := by simp [up]
theorem up_o {sh : Nat → va_E} {i j : Nat} {e : va_E} (h : j ≠ i) : up sh i e j = sh j := by simp [up, h]
theorem wf_get {z0 n i : Nat} {sh : Nat → va_E} (h : i < n) : (wf z0 n sh)[i]? = some (z0 + i, sh i) := by simp [wf, h]
theorem wf_len {z0 n : Nat} {sh : Nat → va_E} : (wf z0 n sh).length = n := by simp [wf]
theorem wf_set {z0 n i : Nat} {sh : Nat → va_E} {e : va_E} (h : i < n) : (wf z0 n sh).set i (z0 + i, e) = wf z0 n (up sh i e) := by
  apply List.ext_getElem?
  intro j
  by_cases hj : j < n
  · rw [wf_get hj]
    by_cases hji : j = i
    · subst hji
      rw [List.getElem?_set_self (by rw [wf_len]; exact hj), up_s]
    · rw [List.getElem?_set_ne (Ne.symm hji), wf_get hj, up_o hji]
  · rw [List.getElem?_eq_none (by rw [List.length_set, wf_len]; omega), List.getElem?_eq_none (by rw [wf_len]; omega)]
theorem wf_push {z0 n : Nat} {sh : Nat → va_E} {e : va_E} : wf z0 n sh ++ [(z0 + n, e)] = wf z0 (n + 1) (up sh n e) := by
  apply List.ext_getElem?
  intro j
  rcases Nat.lt_trichotomy j n with h | h | h
  · rw [List.getElem?_append_left (by rw [wf_len]; exact h), wf_get h, wf_get (by omega), up_o (by omega)]
  · subst h
    rw [List.getElem?_append_right (by rw [wf_len]; exact Nat.le_refl _), wf_len, wf_get (by omega), up_s]
    simp
  · rw [List.getElem?_eq_none (by rw [List.length_append, wf_len]; simp; omega), List.getElem?_eq_none (by rw [wf_len]; omega)]
theorem wf_lt {z0 n i : Nat} {sh : Nat → va_E} {q : Nat × va_E} (h : (wf z0 n sh)[i]? = some q) : i < n ∧ q = (z0 + i, sh i) := by
  have h1 : i < n := by have := (List.getElem?_eq_some_iff.mp h).1; rwa [wf_len] at this
  rw [wf_get h1] at h
  exact ⟨h1, (Option.some.inj h).symm⟩
theorem wf_D {z0 n : Nat} {sh : Nat → va_E} : va_D (fun q => z0 ≤ q) (wf z0 n sh) := by
  refine ⟨fun i j p q hi hj hpq => ?_, fun k q hk => ?_⟩
  · obtain ⟨h1, rfl⟩ := wf_lt hi
    obtain ⟨h2, rfl⟩ := wf_lt hj
    exact Nat.add_left_cancel hpq
  · obtain ⟨h1, rfl⟩ := wf_lt hk
    exact Nat.le_add_right _ _
theorem W_sz {p : Program} {l : Launch} {e : Env} {R : Room} {s : State} {m : MethodId} {args : Array Value} {below : List Frame} {meth : Method} {c : Code} {H : Heap} {locs : List Loc} {k sl : Nat} {Q : State → Prop} {g : JFrame} (h : H.size ≤ s.heap.size + k → W p l e R s m args below meth c H locs k sl Q g) : W p l e R s m args below meth c H locs k sl Q g :=
  fun T hT X => h (by rw [← hT]; exact X.heapSize) T hT X
/-- what goes along beside the nest links: the arrays of objects, and who may lie in them -/
def auxOk (U : State) : Prop := va_AO RX4 U ∧ va_AO RX7 U ∧ va_Nw (.castable RX5 RX7) U ∧ va_Nw (.castable RX1 RX7) U ∧ va_Nw (.castable RX3 RX7) U ∧ va_Nw (.castable RX6 RX7) U ∧ va_Nw (.castable RX0 RX7) U
theorem aux_warm {s U : State} (hW : s.WarmedH U.vm) (h : auxOk s) : auxOk U := ⟨va_AO.moved hW.alike h.1, va_AO.moved hW.alike h.2.1, va_Nw.warmC hW h.2.2.1, va_Nw.warmC hW h.2.2.2.1, va_Nw.warmC hW h.2.2.2.2.1, va_Nw.warmC hW h.2.2.2.2.2.1, va_Nw.warmC hW h.2.2.2.2.2.2⟩
theorem aux_same {s U : State} (hv : s.vm = U.vm) (h : auxOk s) : auxOk U := ⟨va_AO.moved (by rw [hv]; exact Vm.Alike.refl _) h.1, va_AO.moved (by rw [hv]; exact Vm.Alike.refl _) h.2.1, va_Nw.same rfl hv h.2.2.1, va_Nw.same rfl hv h.2.2.2.1, va_Nw.same rfl hv h.2.2.2.2.1, va_Nw.same rfl hv h.2.2.2.2.2.1, va_Nw.same rfl hv h.2.2.2.2.2.2⟩
def OkC (X : Cx) (z0 : Nat) (cid : Nat → ClassId) (cc : ByteArray) (own : String) (nL fr lo mc ms : Nat) : Prop :=
  X.1.tables.exec = Jvm.exec ∧ (cxC X).code = cc ∧ (cxC X).maxLocals = nL ∧ (cxS X).vm.findClass own = some (cxM X).cls ∧ (∀ w ∈ wAll, w.before (cxA X) (cxS X) = true) ∧ va_K (cxD X) vwCl (tysOf cid) (cxS X) ∧ nestOk (cxS X) ∧ auxOk (cxS X) ∧ (cxMe X).locks = false ∧ z0 ≤ (cxS X).heap.size ∧ fr ≤ (cxR X).frames ∧ lo ≤ (cxR X).locals ∧ mc ≤ (cxR X).cells ∧ ms ≤ (cxR X).slots
def Jc (X : Cx) (z0 nL : Nat) (Q : State → Prop) (n : Nat) (sh : Nat → va_E) (k sl pc : Nat) (lv : List (Option Value)) (st : List Value) : Prop :=
  (cxS X).heap.size + k = z0 + n → ∀ (ls : Array Slot) (H : Heap) (locs : List Loc), lv_has ls nL (prs 0 lv) → va_P (cxD X) vwCl (wf z0 n sh) H → va_S (fun q => z0 ≤ q) (cxS X).heap H locs → W X.1 (cxL X) X.2.2.1 (cxR X) (cxS X) (cxM X) (cxA X) (cxB X) (cxMe X) (cxC X) H locs k sl Q (F0 (cxM X) pc ls st)
section KR
variable {X : Cx} {z0 : Nat} {cid : Nat → ClassId} {cc : ByteArray} {own : String} {nL fr lo mc ms : Nat} {Q : State → Prop} {n : Nat} {sh : Nat → va_E} {k sl pc : Nat} {lv : List (Option Value)} {st : List Value}
theorem OkC.x (h : OkC X z0 cid cc own nL fr lo mc ms) : X.1.tables.exec = Jvm.exec := h.1
theorem OkC.b (h : OkC X z0 cid cc own nL fr lo mc ms) : (cxC X).code = cc := h.2.1
theorem OkC.ml (h : OkC X z0 cid cc own nL fr lo mc ms) : (cxC X).maxLocals = nL := h.2.2.1
theorem OkC.ow (h : OkC X z0 cid cc own nL fr lo mc ms) : (cxS X).vm.findClass own = some (cxM X).cls := h.2.2.2.1
theorem OkC.ts (h : OkC X z0 cid cc own nL fr lo mc ms) : ∀ w ∈ wAll, w.before (cxA X) (cxS X) = true := h.2.2.2.2.1
theorem OkC.K (h : OkC X z0 cid cc own nL fr lo mc ms) : va_K (cxD X) vwCl (tysOf cid) (cxS X) := h.2.2.2.2.2.1
theorem OkC.nest (h : OkC X z0 cid cc own nL fr lo mc ms) : nestOk (cxS X) := h.2.2.2.2.2.2.1
theorem OkC.aux (h : OkC X z0 cid cc own nL fr lo mc ms) : auxOk (cxS X) := h.2.2.2.2.2.2.2.1
theorem OkC.lk (h : OkC X z0 cid cc own nL fr lo mc ms) : (cxMe X).locks = false := h.2.2.2.2.2.2.2.2.1
theorem OkC.z (h : OkC X z0 cid cc own nL fr lo mc ms) : z0 ≤ (cxS X).heap.size := h.2.2.2.2.2.2.2.2.2.1
theorem OkC.f1 (h : OkC X z0 cid cc own nL fr lo mc ms) : fr ≤ (cxR X).frames := h.2.2.2.2.2.2.2.2.2.2.1
theorem OkC.l1 (h : OkC X z0 cid cc own nL fr lo mc ms) : lo ≤ (cxR X).locals := h.2.2.2.2.2.2.2.2.2.2.2.1
theorem OkC.kc (h : OkC X z0 cid cc own nL fr lo mc ms) : mc ≤ (cxR X).cells := h.2.2.2.2.2.2.2.2.2.2.2.2.1
theorem OkC.kn (h : OkC X z0 cid cc own nL fr lo mc ms) : ms ≤ (cxR X).slots := h.2.2.2.2.2.2.2.2.2.2.2.2.2
theorem OkC.A (h : OkC X z0 cid cc own nL fr lo mc ms) : ∀ q, (cxS X).heap.size ≤ q → (fun q => z0 ≤ q) q := fun _ hq => Nat.le_trans h.z hq
theorem k_iconst (hC : OkC X z0 cid cc own nL fr lo mc ms) {c : Int} {v : Int32} (hd : decode cc pc = .ok (.iconst c, 1)) (hv : Int32.ofInt c = v) (kk : Jc X z0 nL Q n sh k sl (pc + 1) lv (.int v :: st)) : Jc X z0 nL Q n sh k sl pc lv st := fun hz ls H locs hl hP hS => lv_iconst hC.x hC.b hd hv (kk hz ls H locs hl hP hS)
theorem k_bipush (hC : OkC X z0 cid cc own nL fr lo mc ms) {c : Int} {v : Int32} (hd : decode cc pc = .ok (.bipush c, 2)) (hv : (Int8.ofInt c).toInt32 = v) (kk : Jc X z0 nL Q n sh k sl (pc + 2) lv (.int v :: st)) : Jc X z0 nL Q n sh k sl pc lv st := fun hz ls H locs hl hP hS => lv_bipush hC.x hC.b hd hv (kk hz ls H locs hl hP hS)
theorem k_sipush (hC : OkC X z0 cid cc own nL fr lo mc ms) {c : Int} {v : Int32} (hd : decode cc pc = .ok (.sipush c, 3)) (hv : (Int16.ofInt c).toInt32 = v) (kk : Jc X z0 nL Q n sh k sl (pc + 3) lv (.int v :: st)) : Jc X z0 nL Q n sh k sl pc lv st := fun hz ls H locs hl hP hS => lv_sipush hC.x hC.b hd hv (kk hz ls H locs hl hP hS)
theorem k_ldc (hC : OkC X z0 cid cc own nL fr lo mc ms) {index : Nat} {v : Int32} (hw : Cond.constant own index v ∈ lw_tbl) (hg : goodWord (Cond.constant own index v) = true) (hd : decode cc pc = .ok (.ldc index, 2)) (kk : Jc X z0 nL Q n sh k sl (pc + 2) lv (.int v :: st)) : Jc X z0 nL Q n sh k sl pc lv st := fun hz ls H locs hl hP hS => lv_ldc hC.x hC.b hC.ow (hC.ts _ (wAll_of hw hg)) hd (kk hz ls H locs hl hP hS)
theorem k_aload_n (hC : OkC X z0 cid cc own nL fr lo mc ms) {i : Fin 4} {x : Nat} (hd : decode cc pc = .ok (.aload_n i, 1)) (hx : lv[(i : Nat)]? = some (some (.ref x))) (kk : Jc X z0 nL Q n sh k sl (pc + 1) lv (.ref x :: st)) : Jc X z0 nL Q n sh k sl pc lv st := fun hz ls H locs hl hP hS => lv_aload_n hC.x hC.b hd rfl (prs_at hl hx) (kk hz ls H locs hl hP hS)
theorem k_iload_n (hC : OkC X z0 cid cc own nL fr lo mc ms) {i : Fin 4} {x : Int32} (hd : decode cc pc = .ok (.iload_n i, 1)) (hx : lv[(i : Nat)]? = some (some (.int x))) (kk : Jc X z0 nL Q n sh k sl (pc + 1) lv (.int x :: st)) : Jc X z0 nL Q n sh k sl pc lv st := fun hz ls H locs hl hP hS => lv_iload_n hC.x hC.b hd rfl (prs_at hl hx) (kk hz ls H locs hl hP hS)
theorem k_istore_n (hC : OkC X z0 cid cc own nL fr lo mc ms) {i : Fin 4} {x : Int32} {lv' : List (Option Value)} (hd : decode cc pc = .ok (.istore_n i, 1)) (hn : (i : Nat) < nL) (hc : lv.all cat1 = true) (he : lv.set i (some (.int x)) = lv') (kk : Jc X z0 nL Q n sh k sl (pc + 1) lv' st) : Jc X z0 nL Q n sh k sl pc lv (.int x :: st) := fun hz ls H locs hl hP hS => lv_istore_n hC.x hC.b hd rfl hl hn rfl (fun ls' h' => kk hz ls' H locs (he ▸ prs_set hc h') hP hS)
theorem k_astore_n (hC : OkC X z0 cid cc own nL fr lo mc ms) {i : Fin 4} {x : Nat} {lv' : List (Option Value)} (hd : decode cc pc = .ok (.astore_n i, 1)) (hn : (i : Nat) < nL) (hc : lv.all cat1 = true) (he : lv.set i (some (.ref x)) = lv') (kk : Jc X z0 nL Q n sh k sl (pc + 1) lv' st) : Jc X z0 nL Q n sh k sl pc lv (.ref x :: st) := fun hz ls H locs hl hP hS => lv_astore_n hC.x hC.b hd rfl hl hn rfl (fun ls' h' => kk hz ls' H locs (he ▸ prs_set hc h') hP hS)
theorem k_iinc (hC : OkC X z0 cid cc own nL fr lo mc ms) {i : Nat} {c : Int} {x w : Int32} {lv' : List (Option Value)} (hd : decode cc pc = .ok (.iinc i c, 3)) (hx : lv[i]? = some (some (.int x))) (hw : x + Int32.ofInt c = w) (hn : i < nL) (hc : lv.all cat1 = true) (he : lv.set i (some (.int w)) = lv') (kk : Jc X z0 nL Q n sh k sl (pc + 3) lv' st) : Jc X z0 nL Q n sh k sl pc lv st := by
  intro hz ls H locs hl hP hS
  obtain ⟨kx, hkx⟩ := List.getElem?_of_mem ((prs_mem lv 0 i (.int x)).mpr ⟨i, by omega, hx⟩)
  exact lv_iinc hC.x hC.b hd hl hkx hw hn rfl (fun ls' h' => kk hz ls' H locs (he ▸ prs_set hc h') hP hS)
theorem k_dup (hC : OkC X z0 cid cc own nL fr lo mc ms) {v : Value} (hd : decode cc pc = .ok (.dup, 1)) (hv : v.category = 1) (kk : Jc X z0 nL Q n sh k sl (pc + 1) lv (v :: v :: st)) : Jc X z0 nL Q n sh k sl pc lv (v :: st) := fun hz ls H locs hl hP hS => lv_dup hC.x hC.b hd hv (kk hz ls H locs hl hP hS)
theorem k_goto (hC : OkC X z0 cid cc own nL fr lo mc ms) {off : Int} {tgt : Nat} (hd : decode cc pc = .ok (.goto off, 3)) (ht : (pc : Int) + off = (tgt : Int)) (kk : Jc X z0 nL Q n sh k sl tgt lv st) : Jc X z0 nL Q n sh k sl pc lv st := fun hz ls H locs hl hP hS => lv_goto hC.x hC.b hd ht (kk hz ls H locs hl hP hS)
theorem k_geY (hC : OkC X z0 cid cc own nL fr lo mc ms) {x y : Int32} {off : Int} {tgt : Nat} (h : y ≤ x) (hd : decode cc pc = .ok (.if_icmp .ge off, 3)) (ht : (pc : Int) + off = (tgt : Int)) (kk : Jc X z0 nL Q n sh k sl tgt lv st) : Jc X z0 nL Q n sh k sl pc lv (.int y :: .int x :: st) := fun hz ls H locs hl hP hS => lv_icmp_ge hC.x hC.b hd ht (fun _ => kk hz ls H locs hl hP hS) (fun h2 => absurd h h2)
theorem k_geN (hC : OkC X z0 cid cc own nL fr lo mc ms) {x y : Int32} {off : Int} {tgt : Nat} (h : ¬ y ≤ x) (hd : decode cc pc = .ok (.if_icmp .ge off, 3)) (ht : (pc : Int) + off = (tgt : Int)) (kk : Jc X z0 nL Q n sh k sl (pc + 3) lv st) : Jc X z0 nL Q n sh k sl pc lv (.int y :: .int x :: st) := fun hz ls H locs hl hP hS => lv_icmp_ge hC.x hC.b hd ht (fun h2 => absurd h2 h) (fun _ => kk hz ls H locs hl hP hS)
theorem k_obj (hC : OkC X z0 cid cc own nL fr lo mc ms) {idx a : Nat} (hw : Cond.methodLink own idx Lib.objectInit ∈ wAll) (h1 : Cond.instanceMethod Lib.objectInit ∈ wAll) (h2 : Cond.code Lib.objectInit ⟨#[0xb1]⟩ 1 none ∈ wAll) (hd : decode cc pc = .ok (.invokespecial idx, 3)) (hf : 1 ≤ fr) (hlo : (st.map fun v => v.category).sum + 12 ≤ lo) (kk : Jc X z0 nL Q n sh k sl (pc + 3) lv st) : Jc X z0 nL Q n sh k sl pc lv (.ref a :: st) :=
  fun hz ls H locs hl hP hS => W.objInit hC.x hC.b hC.ow (hC.ts _ hw) (hC.ts _ h1) (hC.ts _ h2) rfl (by rw [hC.ml]; exact hl.1) rfl hd (Nat.le_trans hf hC.f1) (by rw [show 2 * (F0 (cxM X) pc ls (.ref a :: st)).monitorRoom = 0 from rfl, Nat.zero_add]; exact Nat.le_trans hlo hC.l1) (kk hz ls H locs hl hP hS)
theorem new_at {D : va_G} {H1 : Heap} {q : Nat} {e : va_E} {z : Nat} (hz : z + k = z0 + n) (hP1 : va_P D vwCl (wf z0 n sh ++ [(q, e)]) H1) (hD1 : va_D (fun q => z0 ≤ q) (wf z0 n sh ++ [(q, e)])) (hs : H1.size ≤ z + (k + 1)) : q = z0 + n := by
  have hg : (wf z0 n sh ++ [(q, e)])[n]? = some (q, e) := by
    rw [List.getElem?_append_right (by rw [wf_len]; exact Nat.le_refl _), wf_len]
    simp
  have h1 : q < H1.size := (hP1 n _ hg).lt
  have h2 : z0 ≤ q := hD1.2 n _ hg
  rcases Nat.lt_or_ge q (z0 + n) with h3 | h3
  · have hi : q - z0 < n := by omega
    have hg2 : (wf z0 n sh ++ [(q, e)])[q - z0]? = some (z0 + (q - z0), sh (q - z0)) := by
      rw [List.getElem?_append_left (by rw [wf_len]; exact hi), wf_get hi]
    have := hD1.1 (q - z0) n _ _ hg2 hg (by show z0 + (q - z0) = q; omega)
    omega
  · omega
theorem k_new (hC : OkC X z0 cid cc own nL fr lo mc ms) {index ci N : Nat} {C : String} {T : u_T} {fs : List Value} (ty : Nat → FieldType) (hty : ∀ j, j < N → parseFieldDescriptor (T j).2.2.1 = some (ty j)) (hin : ∀ w ∈ u_ws C T N, w ∈ wAll) (hcl : Cond.classLink own index C ∈ wAll) (hinst : Cond.instantiable C N ∈ wAll) (hini : Cond.initialized C ∈ wAll) (hc : vwCl[ci]? = some (C, T, N)) (hfs : ∀ j, j < N → defaultValue (ty j) = vp_V fs j) (hk : k + 1 ≤ mc) (hs : sl + N ≤ ms) (hd : decode cc pc = .ok (.new index, 3)) (kk : Jc X z0 nL Q (n + 1) (up sh n (.inr (ci, fs))) (k + 1) (sl + N) (pc + 3) lv (.ref (z0 + n) :: st)) : Jc X z0 nL Q n sh k sl pc lv st := by
  intro hz ls H locs hl hP hS
  refine va_new hC.x hC.b hC.ts hin ty hty hC.ow (hC.ts _ hcl) (hC.ts _ hinst) (hC.ts _ hini) hC.K hP wf_D hS hC.A hc hfs (Nat.le_trans hk hC.kc) (Nat.le_trans hs hC.kn) hd (fun q H1 hP1 hD1 hS1 => W_sz fun hsz => ?_)
  obtain rfl := new_at hz hP1 hD1 hsz
  rw [wf_push] at hP1
  exact kk (by omega) ls H1 locs hl hP1 hS1
theorem k_newa (hC : OkC X z0 cid cc own nL fr lo mc ms) {atype : ArrayType} {ty : FieldType} {t0 : Nat} (ht : (tysOf cid)[t0]? = some (cid t0, ty)) (hp : ∀ (U : State) (cA : ClassId), va_RA U cA ty → U.vm.findClass ("[" ++ ty.toString) = some cA) (hw : Cond.arrayClass ty ∈ wAll) (hty : newarray.typeOf atype = ty) {c : Int32} {N : Nat} {a0 : vp_A} (ha : ∀ cA : ClassId, vp_cell cA a0 = arrV cA N (fun _ => defaultValue ty)) (hn : ¬ c < 0) (hN : c.toNatClampNeg = N) (hb : N * componentBytes ty ≤ 536870912) (hk : k + 1 ≤ mc) (hs : sl + N ≤ ms) (hd : decode cc pc = .ok (.newarray atype, 2)) (kk : Jc X z0 nL Q (n + 1) (up sh n (.inl (cid t0, a0))) (k + 1) (sl + N) (pc + 2) lv (.ref (z0 + n) :: st)) : Jc X z0 nL Q n sh k sl pc lv (.int c :: st) := by
  intro hz ls H locs hl hP hS
  refine va_newa hC.x hC.b (by rw [hty]; exact hC.ts _ hw) hty hC.K hP wf_D hS hC.A ha hn hN hb (Nat.le_trans hk hC.kc) (Nat.le_trans hs hC.kn) hd (fun q cA H1 hK1 hP1 hD1 hS1 => W_sz fun hsz => ?_)
  obtain rfl := new_at hz hP1 hD1 hsz
  have e1 := hp _ _ (hK1.2 5 (cA, ty) rfl).2
  have e2 := hp _ _ (hC.K.2 t0 _ ht).2
  obtain rfl : cA = cid t0 := Option.some.inj (e1.symm.trans e2)
  rw [wf_push] at hP1
  exact kk (by omega) ls H1 locs hl hP1 hS1
theorem k_anew (hC : OkC X z0 cid cc own nL fr lo mc ms) {C : String} {index t0 : Nat} (ht : (tysOf cid)[t0]? = some (cid t0, .object C)) (hao : va_AO C (cxS X)) (hw : Cond.classLink own index C ∈ wAll) {c : Int32} {N : Nat} (hn : ¬ c < 0) (hN : c.toNatClampNeg = N) (hb : N * 4 ≤ 536870912) (hk : k + 1 ≤ mc) (hs : sl + N ≤ ms) (hd : decode cc pc = .ok (.anewarray index, 3)) (kk : Jc X z0 nL Q (n + 1) (up sh n (.inl (cid t0, N, .inr (.inr (.inr (.inr (fun _ => none))))))) (k + 1) (sl + N) (pc + 3) lv (.ref (z0 + n) :: st)) : Jc X z0 nL Q n sh k sl pc lv (.int c :: st) := by
  intro hz ls H locs hl hP hS
  refine va_newq hC.x hC.b hC.ow (hC.ts _ hw) hao hC.K hP wf_D hS hC.A hn hN hb (Nat.le_trans hk hC.kc) (Nat.le_trans hs hC.kn) hd (fun q cA H1 hK1 hP1 hD1 hS1 => W_sz fun hsz => ?_)
  obtain rfl := new_at hz hP1 hD1 hsz
  obtain ⟨-, -, -, -, -, e1⟩ := (hK1.2 5 (cA, .object C) rfl).2
  obtain ⟨-, -, -, -, -, e2⟩ := (hC.K.2 t0 _ ht).2
  obtain rfl : cA = cid t0 := Option.some.inj (e1.symm.trans e2)
  rw [wf_push] at hP1
  exact kk (by omega) ls H1 locs hl hP1 hS1
theorem k_get (hC : OkC X z0 cid cc own nL fr lo mc ms) {ci index i : Nat} {C ref : String} {T : u_T} {N : Nat} {fs : List Value} {v : Value} (j : Nat) (hi : i < n) (hs : sh i = .inr (ci, fs)) (hc : vwCl[ci]? = some (C, T, N)) (hin : ∀ w ∈ u_ws C T N, w ∈ wAll) (hj : j < N) (href : (T j).1 = ref) (hw : Cond.fieldLink own index ref (T j).2.1 (T j).2.2.1 ∈ wAll) (hv : fs[j]? = some v) (hd : decode cc pc = .ok (.getfield index, 3)) (kk : Jc X z0 nL Q n sh k sl (pc + 3) lv (v :: st)) : Jc X z0 nL Q n sh k sl pc lv (.ref (z0 + i) :: st) :=
  fun hz ls H locs hl hP hS => va_get hC.x hC.b hC.ts hin hC.ow hC.K hP i ((wf_get hi).trans (by rw [hs])) hc j hj (hC.ts _ hw) (fun x h => href ▸ h) hv hd (kk hz ls H locs hl hP hS)
theorem k_put (hC : OkC X z0 cid cc own nL fr lo mc ms) {ci index i : Nat} {C ref : String} {T : u_T} {N : Nat} {fs : List Value} {v : Value} {ty : FieldType} (ty0 : Nat → FieldType) (j : Nat) (hi : i < n) (hs : sh i = .inr (ci, fs)) (hc : vwCl[ci]? = some (C, T, N)) (hin : ∀ w ∈ u_ws C T N, w ∈ wAll) (hty : ∀ k, k < N → parseFieldDescriptor (T k).2.2.1 = some (ty0 k)) (hnm : ∀ a, a < N → ∀ b, b < N → a ≠ b → (T a).2.1 ≠ (T b).2.1) (hj : j < N) (href : (T j).1 = ref) (hw : Cond.fieldLink own index ref (T j).2.1 (T j).2.2.1 ∈ wAll) (hfin : (T j).2.2.2 = false) (hdt : parseFieldDescriptor (T j).2.2.1 = some ty) (hn : narrow ty v = v) (hfit : fits ty v = true) (hl : j < fs.length) (hd : decode cc pc = .ok (.putfield index, 3)) (kk : Jc X z0 nL Q n (up sh i (.inr (ci, fs.set j v))) k sl (pc + 3) lv st) : Jc X z0 nL Q n sh k sl pc lv (v :: .ref (z0 + i) :: st) :=
  fun hz ls H locs hl2 hP hS => va_put hC.x hC.b hC.ts hin ty0 hty hnm hC.ow hC.K hP wf_D hS i ((wf_get hi).trans (by rw [hs])) hc j hj (hC.ts _ hw) (fun x h => href ▸ h) hfin hdt hn hfit hl hd (fun H1 locs1 hP1 _ hS1 => kk hz ls H1 locs1 hl2 (by rw [wf_set hi] at hP1; exact hP1) hS1)
theorem k_putF (hC : OkC X z0 cid cc own nL fr lo mc ms) (hin2 : (cxMe X).name = "<init>") {ci index i : Nat} {C ref : String} {T : u_T} {N : Nat} {fs : List Value} {v : Value} {ty : FieldType} (ty0 : Nat → FieldType) (j : Nat) (hi : i < n) (hs : sh i = .inr (ci, fs)) (hc : vwCl[ci]? = some (C, T, N)) (hin : ∀ w ∈ u_ws C T N, w ∈ wAll) (hty : ∀ k, k < N → parseFieldDescriptor (T k).2.2.1 = some (ty0 k)) (hnm : ∀ a, a < N → ∀ b, b < N → a ≠ b → (T a).2.1 ≠ (T b).2.1) (hj : j < N) (href : (T j).1 = ref) (hw : Cond.fieldLink own index ref (T j).2.1 (T j).2.2.1 ∈ wAll) (hfin : (T j).2.2.2 = true) (hdecl : (T j).1 = own) (hdt : parseFieldDescriptor (T j).2.2.1 = some ty) (hn : narrow ty v = v) (hfit : fits ty v = true) (hl : j < fs.length) (hd : decode cc pc = .ok (.putfield index, 3)) (kk : Jc X z0 nL Q n (up sh i (.inr (ci, fs.set j v))) k sl (pc + 3) lv st) : Jc X z0 nL Q n sh k sl pc lv (v :: .ref (z0 + i) :: st) :=
  fun hz ls H locs hl2 hP hS => va_putF hC.x hC.b hC.ts hin ty0 hty hnm hC.ow hC.K hP wf_D hS i ((wf_get hi).trans (by rw [hs])) hc j hj (hC.ts _ hw) (fun x h => href ▸ h) hfin hin2 hdecl hdt hn hfit hl hd (fun H1 locs1 hP1 _ hS1 => kk hz ls H1 locs1 hl2 (by rw [wf_set hi] at hP1; exact hP1) hS1)
theorem k_iast (hC : OkC X z0 cid cc own nL fr lo mc ms) {i N : Nat} {x v : Int32} {f : Nat → Int32} (hi : i < n) (hs : sh i = .inl (cid 0, N, .inl f)) (hb : inB x N) (hd : decode cc pc = .ok (.iastore, 1)) (kk : Jc X z0 nL Q n (up sh i (.inl (cid 0, N, .inl (upd f x.toNatClampNeg v)))) k sl (pc + 1) lv st) : Jc X z0 nL Q n sh k sl pc lv (.int v :: .int x :: .ref (z0 + i) :: st) :=
  fun hz ls H locs hl2 hP hS => va_iast hC.x hC.b hC.K hP wf_D hS i 0 ((wf_get hi).trans (by rw [hs])) rfl (vp_in_iff.mpr hb) hd (fun H1 locs1 hP1 _ hS1 => kk hz ls H1 locs1 hl2 (by rw [wf_set hi] at hP1; exact hP1) hS1)
theorem k_aast (hC : OkC X z0 cid cc own nL fr lo mc ms) {i t0 N qk ci : Nat} {x : Int32} {f : Nat → Option Nat} {r : vw_C} {vs : List Value} (hi : i < n) (hs : sh i = .inl (cid t0, N, .inr (.inr (.inr (.inr f))))) (ht : (tysOf cid)[t0]? = some (cid t0, .object r.1)) (hq : qk < n) (hv : sh qk = .inr (ci, vs)) (hc : vwCl[ci]? = some r) (hb : inB x N) (hd : decode cc pc = .ok (.aastore, 1)) (kk : Jc X z0 nL Q n (up sh i (.inl (cid t0, N, .inr (.inr (.inr (.inr (va_up f x.toNatClampNeg (some (z0 + qk)))))))) ) k sl (pc + 1) lv st) : Jc X z0 nL Q n sh k sl pc lv (.ref (z0 + qk) :: .int x :: .ref (z0 + i) :: st) :=
  fun hz ls H locs hl2 hP hS => va_astq hC.x hC.b hC.K hP wf_D hS i t0 qk ci ((wf_get hi).trans (by rw [hs])) ht ((wf_get hq).trans (by rw [hv])) hc (vp_in_iff.mpr hb) hd (fun H1 locs1 hP1 _ hS1 => kk hz ls H1 locs1 hl2 (by rw [wf_set hi] at hP1; exact hP1) hS1)
theorem k_aastO (hC : OkC X z0 cid cc own nL fr lo mc ms) {i t0 N qk ci : Nat} {x : Int32} {E : String} {f : Nat → Option Nat} {r : vw_C} {vs : List Value} (hi : i < n) (hs : sh i = .inl (cid t0, N, .inr (.inr (.inr (.inr f))))) (ht : (tysOf cid)[t0]? = some (cid t0, .object E)) (hca : va_Nw (.castable r.1 E) (cxS X)) (hq : qk < n) (hv : sh qk = .inr (ci, vs)) (hc : vwCl[ci]? = some r) (hb : inB x N) (hd : decode cc pc = .ok (.aastore, 1)) (kk : Jc X z0 nL Q n (up sh i (.inl (cid t0, N, .inr (.inr (.inr (.inr (va_up f x.toNatClampNeg (some (z0 + qk)))))))) ) k sl (pc + 1) lv st) : Jc X z0 nL Q n sh k sl pc lv (.ref (z0 + qk) :: .int x :: .ref (z0 + i) :: st) :=
  fun hz ls H locs hl2 hP hS => va_astqO hC.x hC.b hC.K hP wf_D hS i t0 qk ci ((wf_get hi).trans (by rw [hs])) ht hca ((wf_get hq).trans (by rw [hv])) hc (vp_in_iff.mpr hb) hd (fun H1 locs1 hP1 _ hS1 => kk hz ls H1 locs1 hl2 (by rw [wf_set hi] at hP1; exact hP1) hS1)
theorem k_alen (hC : OkC X z0 cid cc own nL fr lo mc ms) {i t0 N : Nat} {v : Int32} {C : String} {f : Nat → Option Nat} (hi : i < n) (hs : sh i = .inl (cid t0, N, .inr (.inr (.inr (.inr f))))) (ht : (tysOf cid)[t0]? = some (cid t0, .object C)) (hv : Int32.ofNat N = v) (hd : decode cc pc = .ok (.arraylength, 1)) (kk : Jc X z0 nL Q n sh k sl (pc + 1) lv (.int v :: st)) : Jc X z0 nL Q n sh k sl pc lv (.ref (z0 + i) :: st) :=
  fun hz ls H locs hl hP hS => va_alen hC.x hC.b hC.K hP i t0 ((wf_get hi).trans (by rw [hs])) ht hv hd (kk hz ls H locs hl hP hS)
end KR
/-! their contracts -/
def preC (z0 n : Nat) (sh : Nat → va_E) (cid : Nat → ClassId) (D : va_G) (U : State) : Prop := va_P D vwCl (wf z0 n sh) U.heap ∧ U.heap.size = z0 + n ∧ va_K D vwCl (tysOf cid) U ∧ nestOk U ∧ auxOk U
def qC (z0 n : Nat) (sh : Nat → va_E) (D : va_G) : Array Value → State → Outcome → State → Prop := va_Qv (fun _ : Unit => True) (fun _ t => va_P D vwCl (wf z0 n sh) t.heap) (fun q => z0 ≤ q)
abbrev rmC (fr lo mc ms : Nat) : Room := { frames := fr, cells := mc, slots := ms, locals := lo }
def CtC (l : Launch) (cid : Nat → ClassId) (D : va_G) (z0 : Nat) (y : MethodName) (cc : ByteArray) (nL fr lo mc ms : Nat) (i n : Nat) (sh : Nat → va_E) (n' : Nat) (sh' : Nat → va_E) : Prop :=
  Met l y (wsO y cc nL none) (rmC fr lo mc ms) (va_Pc [.ref (z0 + i)] (preC z0 n sh cid D)) (qC z0 n' sh' D) mc ms (fun q => z0 ≤ q)
def qmC (X : Cx) (z0 n : Nat) (sh : Nat → va_E) : State → Prop := MQ (cxB X) (qC z0 n sh (cxD X)) (cxA X) (cxS X) (cxK X) (cxN X) (fun q => z0 ≤ q)
theorem blindC {z0 n : Nat} {sh : Nat → va_E} {cid : Nat → ClassId} {D : va_G} {as : List Value} : FrameBlind (va_Pc as (preC z0 n sh cid D)) := fun a U g mk q => ⟨q.1, q.2.1, q.2.2.1, va_K.moved (u := U) (U := U.calling g mk a) (Vm.Alike.refl U.vm) q.2.2.2.1, nest_same (s := U) (U := U.calling g mk a) rfl q.2.2.2.2.1, aux_same (s := U) (U := U.calling g mk a) rfl q.2.2.2.2.2⟩
theorem ctc_of {l : Launch} {cid : Nat → ClassId} {D : va_G} {z0 : Nat} {y : MethodName} {cc : ByteArray} {nL fr lo mc ms i n n' : Nat} {sh sh' : Nat → va_E} {own : String} {lv : List (Option Value)} (hy : plainName y.cls = true) (ho : y.cls = own) (hyn : y.name = "<init>") (hlv : prs 0 lv = [(0, .ref (z0 + i))]) (hlen : 1 ≤ nL)
    (body : ∀ X, OkC X z0 cid cc own nL fr lo mc ms → (cxMe X).name = "<init>" → (cxMe X).sig.returnType = none → cxK X = mc → cxN X = ms → Jc X z0 nL (qmC X z0 n' sh') n sh 0 0 0 lv []) : CtC l cid D z0 y cc nL fr lo mc ms i n sh n' sh' := by
  refine Met.ofW (cc := cc) (maxL := nL) (ret := none) hy rfl ?_
  intro p e s m args below meth c s₁ B hml hv
  obtain ⟨rfl, hP, hsz, hK, hN, hX⟩ := hv
  have hts := atoms_spec (ws := wsO y cc nL none) B.pre
  have hown : s.vm.findClass own = some m.cls := by rw [← ho]; exact findClass_of_methodNamed B.named
  have hin : meth.name = "<init>" := by rw [← hyn]; exact (name_of_methodNamed B.named B.method).1
  have hb := body (p, l, e, rmC fr lo mc ms, s, m, [Value.ref (z0 + i)].toArray, below, meth, c, D, mc, ms) ⟨B.exec, B.bytes, hml, hown, fun w hw => hts w (List.mem_cons_of_mem _ hw), hK, hN, hX, B.notSynchronized, by show z0 ≤ s.heap.size; omega, Nat.le_refl _, Nat.le_refl _, Nat.le_refl _, Nat.le_refl _⟩ hin B.returns rfl rfl hsz
  rw [lg_entry_eq]
  exact hb _ _ _ (by rw [hlv]; exact lv_entry [.ref (z0 + i)] hlen) hP va_S.rf
section KC
variable {X : Cx} {z0 : Nat} {cid : Nat → ClassId} {cc : ByteArray} {own : String} {nL fr lo mc ms : Nat} {Q : State → Prop} {n : Nat} {sh : Nat → va_E} {k sl pc : Nat} {lv : List (Option Value)} {st : List Value}
theorem k_vret (hC : OkC X z0 cid cc own nL fr lo mc ms) (hr : (cxMe X).sig.returnType = none) (h1 : cxK X = k) (h2 : cxN X = sl) (hd : decode cc pc = .ok (.return_, 1)) : Jc X z0 nL (qmC X z0 n sh) n sh k sl pc lv [] := by
  intro hz ls H locs hl hP hS
  unfold qmC
  rw [h1, h2]
  exact W.vret hC.x hC.b hr (fun t ht hW => ⟨⟨(), rfl, trivial, by show va_P _ _ _ t.heap; rw [ht]; exact hP⟩, hS.F ht⟩) hS.2.2 hd hC.lk
/-- a constructor's words -/
def cI (y : MethodName) (cc : ByteArray) (nL : Nat) : Prop := (y.name = "<init>" ∧ y.cls ≠ "java/lang/invoke/MethodHandle" ∧ y.cls ≠ "java/lang/invoke/VarHandle" ∧ (parseMethodDescriptor y.desc).map (fun d => d.parameters.length) = some 0) ∧ Cond.instanceMethod y ∈ wAll ∧ Cond.initialized y.cls ∈ wAll ∧ Cond.code y cc nL none ∈ wAll
theorem size_at {D : va_G} {z : Nat} {H : Heap} (hz : z + k = z0 + n) (hn : 0 < n) (hP : va_P D vwCl (wf z0 n sh) H) (hs : H.size ≤ z + k) : H.size = z0 + n := by
  have h1 : z0 + (n - 1) < H.size := (hP (n - 1) _ (wf_get (by omega))).lt
  omega
theorem preC_at {D : va_G} {s U : State} {H : Heap} (hP : va_P D vwCl (wf z0 n sh) H) (hsz : H.size = z0 + n) (hK : va_K D vwCl (tysOf cid) s) (hN : nestOk s) (hX : auxOk s) (hU : U.heap = H) (hW : s.WarmedH U.vm) : preC z0 n sh cid D U := ⟨by rw [hU]; exact hP, by rw [hU]; exact hsz, va_K.moved hW.alike hK, nest_warm hW hN, aux_warm hW hX⟩
theorem k_init (hC : OkC X z0 cid cc own nL fr lo mc ms) {y : MethodName} {c2 : ByteArray} {nL2 fr2 lo2 mc2 ms2 i index n' : Nat} {sh' : Nat → va_E} (hM : CtC (cxL X) cid (cxD X) z0 y c2 nL2 fr2 lo2 mc2 ms2 i n sh n' sh') (hv : cI y c2 nL2) (hw : Cond.methodLink own index y ∈ wAll) (hn : 0 < n) (hn' : n' = n + mc2) (hR : fr2 + 1 ≤ fr ∧ 8 + (nL2 + 11) + lo2 ≤ lo) (hk : k + mc2 ≤ mc) (hs : sl + ms2 ≤ ms) (hcat : (st.map fun v => v.category).sum ≤ 8) (hd : decode cc pc = .ok (.invokespecial index, 3)) (kk : Jc X z0 nL Q n' sh' (k + mc2) (sl + ms2) (pc + 3) lv st) : Jc X z0 nL Q n sh k sl pc lv (.ref (z0 + i) :: st) := by
  intro hz ls H locs hl hP hS
  refine W_sz fun hsz => ?_
  have hH := size_at hz hn hP hsz
  exact va_callv (va_runI (As := []) (rest := st) ⟨hC.x, hC.b, hC.ml, hC.ow, hC.ts⟩ hM (cwI 0 hC.ts (good_ws (fun _ h => h) hv.2.2.2) rfl rfl rfl (hC.ts _ hv.2.2.1) (hC.ts _ hw) (hC.ts _ hv.2.1) hv.1.1 hv.1.2 ⟨Nat.le_trans hR.1 hC.f1, Nat.le_trans hR.2 hC.l1⟩) ⟨blindC, fun U hU hW => ⟨rfl, preC_at hP hH hC.K hC.nest hC.aux hU hW⟩⟩ rfl rfl hl.1 rfl (lv_room hcat) hd ⟨Nat.le_trans hk hC.kc, Nat.le_trans hs hC.kn⟩) hS (fun _ _ h => h) (fun _ h => h) (fun u t H1 locs1 ht _ _ hB _ _ hS1 => kk (by omega) ls H1 locs1 hl (by rw [← ht]; exact hB) hS1)
theorem k_initN (hC : OkC X z0 cid cc own nL fr lo mc ms) {y : MethodName} {host : String} {c2 : ByteArray} {nL2 fr2 lo2 mc2 ms2 i index n' : Nat} {sh' : Nat → va_E} (hM : CtC (cxL X) cid (cxD X) z0 y c2 nL2 fr2 lo2 mc2 ms2 i n sh n' sh') (hv : cI y c2 nL2) (hw : Cond.methodLinkNest own index y host ∈ lw_tbl) (hn : 0 < n) (hn' : n' = n + mc2) (hR : fr2 + 1 ≤ fr ∧ 8 + (nL2 + 11) + lo2 ≤ lo) (hk : k + mc2 ≤ mc) (hs : sl + ms2 ≤ ms) (hcat : (st.map fun v => v.category).sum ≤ 8) (hd : decode cc pc = .ok (.invokespecial index, 3)) (kk : Jc X z0 nL Q n' sh' (k + mc2) (sl + ms2) (pc + 3) lv st) : Jc X z0 nL Q n sh k sl pc lv (.ref (z0 + i) :: st) := by
  intro hz ls H locs hl hP hS
  refine W_sz fun hsz => ?_
  have hH := size_at hz hn hP hsz
  exact va_callv (va_runIN (As := []) (rest := st) (host := host) ⟨hC.x, hC.b, hC.ml, hC.ow, hC.ts⟩ hM ⟨va_cnB 0 hC.ts (good_ws (fun _ h => h) hv.2.2.2) rfl rfl rfl (hC.nest _ hw rfl) (hC.ts _ hv.2.2.1) hv.1.2 ⟨Nat.le_trans hR.1 hC.f1, Nat.le_trans hR.2 hC.l1⟩, hv.1.1, hC.ts _ hv.2.1⟩ ⟨blindC, fun U hU hW => ⟨rfl, preC_at hP hH hC.K hC.nest hC.aux hU hW⟩⟩ rfl rfl hl.1 rfl (lv_room hcat) hd ⟨Nat.le_trans hk hC.kc, Nat.le_trans hs hC.kn⟩) hS (fun _ _ h => h) (fun _ h => h) (fun u t H1 locs1 ht _ _ hB _ _ hS1 => kk (by omega) ls H1 locs1 hl (by rw [← ht]; exact hB) hS1)
end KC
