/-! contracts over the memory, returns, calls -/
abbrev rmO (fr lo : Nat) : Room := { frames := fr, cells := 0, slots := 0, locals := lo }
abbrev wsO (y : MethodName) (cc : ByteArray) (nL : Nat) (ret : Option FieldType) : List Cond := Cond.code y cc nL ret :: wAll
def preO (ad : Nat → Nat) (cid : Nat → ClassId) (D : va_G) (M : Mem) (U : State) : Prop := va_P D vwCl (wld ad cid M) U.heap ∧ va_K D vwCl (tysOf cid) U ∧ nestOk U
abbrev qTy (α : Type) : Type := va_G → α → Array Value → State → Outcome → State → Prop
def qV (ad : Nat → Nat) (cid : Nat → ClassId) : qTy Mem := fun D out => va_Qv (fun u : Mem => u = out) (fun u t => va_P D vwCl (wld ad cid u) t.heap) (iA ad)
def qI (ad : Nat → Nat) (cid : Nat → ClassId) : qTy (Mem × Int32) := fun D out => va_Qi (fun r (u : Mem) => (u, r) = out) (fun u t => va_P D vwCl (wld ad cid u) t.heap) (iA ad)
def qL (ad : Nat → Nat) (cid : Nat → ClassId) : qTy (Mem × Int64) := fun D out => va_Ql (fun r (u : Mem) => (u, r) = out) (fun u t => va_P D vwCl (wld ad cid u) t.heap) (iA ad)
def qR (ad : Nat → Nat) (cid : Nat → ClassId) : qTy (Mem × Nat) := fun D out => va_Qr (fun u : Mem => u = out.1) (fun u a t => a = ad out.2 ∧ va_P D vwCl (wld ad cid u) t.heap) (iA ad)
def Ct {α : Type} (q : qTy α) (l : Launch) (ad : Nat → Nat) (cid : Nat → ClassId) (D : va_G) (y : MethodName) (cc : ByteArray) (nL : Nat) (ret : Option FieldType) (fr lo : Nat) (as : List Value) (M : Mem) (res : Option α) : Prop :=
  ∀ out, res = some out → Met l y (wsO y cc nL ret) (rmO fr lo) (va_Pc as (preO ad cid D M)) (q D out) 0 0 (iA ad)
def qm (X : Cx) (ad : Nat → Nat) {α : Type} (q : qTy α) (out : α) : State → Prop := MQ (cxB X) (q (cxD X) out) (cxA X) (cxS X) (cxK X) (cxN X) (iA ad)
theorem ct_of {α : Type} {q : qTy α} {l : Launch} {ad : Nat → Nat} {cid : Nat → ClassId} {D : va_G} {y : MethodName} {cc : ByteArray} {nL : Nat} {ret : Option FieldType} {fr lo : Nat} {as : List Value} {M : Mem} {res : Option α} {own : String} {lv : List (Option Value)} (hL : lyOk ad) (hy : plainName y.cls = true) (ho : y.cls = own) (hlv : prs 0 lv = lv_args 0 as) (hlen : (lg_sl as).length ≤ nL)
    (body : ∀ X, Ok X ad cid cc own nL ret fr lo → Jp X ad cid nL (qm X ad q) M 0 lv [] res) : Ct q l ad cid D y cc nL ret fr lo as M res := by
  intro out hout
  refine Met.ofW (cc := cc) (maxL := nL) (ret := ret) hy rfl ?_
  intro p e s m args below meth c s₁ B hml hv
  obtain ⟨rfl, hP, hK, hN⟩ := hv
  have hts := atoms_spec (ws := wsO y cc nL ret) B.pre
  have hown : s.vm.findClass own = some m.cls := by rw [← ho]; exact findClass_of_methodNamed B.named
  have hb := body (p, l, e, rmO fr lo, s, m, as.toArray, below, meth, c, D, 0, 0) ⟨B.exec, B.bytes, hml, hown, fun w hw => hts w (List.mem_cons_of_mem _ hw), hK, hN, hL, B.notSynchronized, B.returns, Nat.le_refl _, Nat.le_refl _, Nat.le_refl _, Nat.le_refl _⟩ out hout
  rw [lg_entry_eq]
  exact hb _ _ _ (by rw [hlv]; exact lv_entry as hlen) hP va_S.rf
theorem blindO {ad : Nat → Nat} {cid : Nat → ClassId} {D : va_G} {M : Mem} {as : List Value} : FrameBlind (va_Pc as (preO ad cid D M)) := fun a U g mk q => ⟨q.1, q.2.1, va_K.moved (u := U) (U := U.calling g mk a) (Vm.Alike.refl U.vm) q.2.2.1, nest_same (s := U) (U := U.calling g mk a) rfl q.2.2.2⟩
section JC
variable {X : Cx} {ad : Nat → Nat} {cid : Nat → ClassId} {cc : ByteArray} {own : String} {nL : Nat} {ret : Option FieldType} {fr lo : Nat} {α : Type} {Q : α → State → Prop} {M : Mem} {pc : Nat} {lv : List (Option Value)} {st st0 : List Value} {res : Option α}
theorem j_iret (hC : Ok X ad cid cc own nL (some .int) fr lo) {r : Int32} (hd : decode cc pc = .ok (.ireturn, 1)) : Jp X ad cid nL (qm X ad (qI ad cid)) M pc lv [.int r] (some (M, r)) := by
  intro out ho ls H locs hl hP hS
  cases ho
  exact W.iret hC.x hC.b hC.r (fun t ht hW => ⟨⟨r, M, rfl, rfl, by show va_P _ _ _ t.heap; rw [ht]; exact hP⟩, hS.F ht⟩) hS.2.2 hd hC.lk
theorem j_zret (hC : Ok X ad cid cc own nL (some .boolean) fr lo) {r : Int32} (hd : decode cc pc = .ok (.ireturn, 1)) (hr : r = 0 ∨ r = 1) : Jp X ad cid nL (qm X ad (qI ad cid)) M pc lv [.int r] (some (M, r)) := by
  intro out ho ls H locs hl hP hS
  cases ho
  exact W.zret hC.x hC.b hC.r (by rcases hr with rfl | rfl <;> rfl) (fun t ht hW => ⟨⟨r, M, rfl, rfl, by show va_P _ _ _ t.heap; rw [ht]; exact hP⟩, hS.F ht⟩) hS.2.2 hd hC.lk
theorem j_lret (hC : Ok X ad cid cc own nL (some .long) fr lo) {r : Int64} (hd : decode cc pc = .ok (.lreturn, 1)) : Jp X ad cid nL (qm X ad (qL ad cid)) M pc lv [.long r] (some (M, r)) := by
  intro out ho ls H locs hl hP hS
  cases ho
  exact W.lret hC.x hC.b hC.r (fun t ht hW => ⟨⟨r, M, rfl, rfl, by show va_P _ _ _ t.heap; rw [ht]; exact hP⟩, hS.F ht⟩) hS.2.2 hd hC.lk
theorem j_vret (hC : Ok X ad cid cc own nL none fr lo) (hd : decode cc pc = .ok (.return_, 1)) : Jp X ad cid nL (qm X ad (qV ad cid)) M pc lv [] (some M) := by
  intro out ho ls H locs hl hP hS
  cases ho
  exact W.vret hC.x hC.b hC.r (fun t ht hW => ⟨⟨M, rfl, rfl, by show va_P _ _ _ t.heap; rw [ht]; exact hP⟩, hS.F ht⟩) hS.2.2 hd hC.lk
theorem j_aret {C : String} (hC : Ok X ad cid cc own nL (some (.object C)) fr lo) {i : Nat} (hd : decode cc pc = .ok (.areturn, 1)) : Jp X ad cid nL (qm X ad (qR ad cid)) M pc lv [.ref (ad i)] (some (M, i)) := by
  intro out ho ls H locs hl hP hS
  cases ho
  exact W.aret hC.x hC.b hC.r (Or.inl ⟨C, rfl⟩) (Or.inr ⟨_, rfl⟩) (fun t ht hW => ⟨⟨M, ad i, rfl, rfl, rfl, by show va_P _ _ _ t.heap; rw [ht]; exact hP⟩, hS.F ht⟩) hS.2.2 hd hC.lk
/-- a call has run: on with what it answered -/
abbrev jRun (X : Cx) (ad : Nat → Nat) (cid : Nat → ClassId) (nL : Nat) (M : Mem) (pc : Nat) (lv : List (Option Value)) (st0 st : List Value) {β : Type} (q : qTy β) (av : Array Value) (o : β) : Prop :=
  ∀ (ls : Array Slot) (H : Heap) (locs : List Loc), lv_has ls nL (prs 0 lv) → va_P (cxD X) vwCl (wld ad cid M) H → va_S (iA ad) (cxS X).heap H locs → va_Run X.1 (cxL X) X.2.2.1 (cxR X) (cxS X) (cxM X) (cxA X) (cxB X) (cxMe X) (cxC X) H locs (cxK X) (cxN X) 0 0 (F0 (cxM X) pc ls st0) st (q (cxD X) o av) (iA ad)
theorem j_ri {rc : Option (Mem × Int32)} {k : Mem × Int32 → Option α} {av : Array Value} (hrun : ∀ o, rc = some o → jRun X ad cid nL M pc lv st0 st (qI ad cid) av o) (kk : ∀ M1 r1, rc = some (M1, r1) → Jp X ad cid nL Q M1 (pc + 3) lv (.int r1 :: st) (k (M1, r1))) : Jp X ad cid nL Q M pc lv st0 (rc.bind k) := by
  intro out ho ls H locs hl hP hS
  cases hrc : rc with
  | none => rw [hrc] at ho; cases ho
  | some o =>
    obtain ⟨M1, r1⟩ := o
    rw [hrc] at ho
    exact va_calli (hrun _ hrc ls H locs hl hP hS) hS (fun _ _ h => h) (fun _ h => h) (fun r u t H1 locs1 ht _ hp hB _ _ hS1 => by
      cases hp
      exact kk M1 r1 hrc out ho ls H1 locs1 hl (by rw [← ht]; exact hB) hS1)
theorem j_rv {rc : Option Mem} {k : Mem → Option α} {av : Array Value} (hrun : ∀ o, rc = some o → jRun X ad cid nL M pc lv st0 st (qV ad cid) av o) (kk : ∀ M1, rc = some M1 → Jp X ad cid nL Q M1 (pc + 3) lv st (k M1)) : Jp X ad cid nL Q M pc lv st0 (rc.bind k) := by
  intro out ho ls H locs hl hP hS
  cases hrc : rc with
  | none => rw [hrc] at ho; cases ho
  | some o =>
    rw [hrc] at ho
    exact va_callv (hrun _ hrc ls H locs hl hP hS) hS (fun _ _ h => h) (fun _ h => h) (fun u t H1 locs1 ht _ hp hB _ _ hS1 => by
      cases hp
      exact kk o hrc out ho ls H1 locs1 hl (by rw [← ht]; exact hB) hS1)
theorem j_rr {rc : Option (Mem × Nat)} {k : Mem × Nat → Option α} {av : Array Value} (hrun : ∀ o, rc = some o → jRun X ad cid nL M pc lv st0 st (qR ad cid) av o) (kk : ∀ M1 i1, rc = some (M1, i1) → Jp X ad cid nL Q M1 (pc + 3) lv (.ref (ad i1) :: st) (k (M1, i1))) : Jp X ad cid nL Q M pc lv st0 (rc.bind k) := by
  intro out ho ls H locs hl hP hS
  cases hrc : rc with
  | none => rw [hrc] at ho; cases ho
  | some o =>
    obtain ⟨M1, i1⟩ := o
    rw [hrc] at ho
    exact va_callr (hrun _ hrc ls H locs hl hP hS) hS (fun _ _ h => h) (fun _ h => h) (fun u ra t H1 locs1 ht _ hp hB _ _ hS1 => by
      cases hp
      obtain ⟨rfl, hB⟩ := hB
      exact kk M1 i1 hrc out ho ls H1 locs1 hl (by rw [← ht]; exact hB) hS1)
theorem j_rl {rc : Option (Mem × Int64)} {k : Mem × Int64 → Option α} {av : Array Value} (hrun : ∀ o, rc = some o → jRun X ad cid nL M pc lv st0 st (qL ad cid) av o) (kk : ∀ M1 r1, rc = some (M1, r1) → Jp X ad cid nL Q M1 (pc + 3) lv (.long r1 :: st) (k (M1, r1))) : Jp X ad cid nL Q M pc lv st0 (rc.bind k) := by
  intro out ho ls H locs hl hP hS
  cases hrc : rc with
  | none => rw [hrc] at ho; cases ho
  | some o =>
    obtain ⟨M1, r1⟩ := o
    rw [hrc] at ho
    exact va_calll (hrun _ hrc ls H locs hl hP hS) hS (fun _ _ h => h) (fun _ h => h) (fun r u t H1 locs1 ht _ hp hB _ _ hS1 => by
      cases hp
      exact kk M1 r1 hrc out ho ls H1 locs1 hl (by rw [← ht]; exact hB) hS1)
/-- what a callee's words are: of an instance method, of a static one -/
def cV (y : MethodName) (C : String) (cc : ByteArray) (nL : Nat) (ret : Option FieldType) (n : Nat) : Prop := (y.cls = C ∧ y.cls ≠ "java/lang/invoke/MethodHandle" ∧ y.cls ≠ "java/lang/invoke/VarHandle" ∧ (parseMethodDescriptor y.desc).map (fun d => d.parameters.length) = some n) ∧ Cond.instanceMethod y ∈ wAll ∧ Cond.selects C y y ∈ wAll ∧ Cond.initialized C ∈ wAll ∧ Cond.code y cc nL ret ∈ wAll
def cS (y : MethodName) (cc : ByteArray) (nL : Nat) (ret : Option FieldType) (n : Nat) : Prop := (y.cls ≠ "java/lang/invoke/MethodHandle" ∧ y.cls ≠ "java/lang/invoke/VarHandle" ∧ (parseMethodDescriptor y.desc).map (fun d => d.parameters.length) = some n) ∧ Cond.static y ∈ wAll ∧ Cond.initialized y.cls ∈ wAll ∧ Cond.code y cc nL ret ∈ wAll
theorem preO_at {D : va_G} {s U : State} {H : Heap} (hP : va_P D vwCl (wld ad cid M) H) (hK : va_K D vwCl (tysOf cid) s) (hN : nestOk s) (hU : U.heap = H) (hW : s.WarmedH U.vm) : preO ad cid D M U := ⟨by rw [hU]; exact hP, va_K.moved hW.alike hK, nest_warm hW hN⟩
theorem run_V (hC : Ok X ad cid cc own nL ret fr lo) {β : Type} {q : qTy β} {rc : Option β} {y : MethodName} {C : String} {T : u_T} {N ci i n index nL2 fr2 lo2 : Nat} {c2 : ByteArray} {ret2 : Option FieldType} {fs : List Value} {as : List Value} (hM : Ct q (cxL X) ad cid (cxD X) y c2 nL2 ret2 fr2 lo2 (.ref (ad i) :: as) M rc) (hv : cV y C c2 nL2 ret2 n) (hw : Cond.methodLink own index y ∈ wAll) (hi : i < 126) (hs : shp ad cid M i = .inr (ci, fs)) (hc : vwCl[ci]? = some (C, T, N)) (hR : fr2 + 1 ≤ fr ∧ 8 + (nL2 + 11) + lo2 ≤ lo) (hn : as.length = n) (hst : st0 = as.reverse ++ .ref (ad i) :: st) (hcat : (st.map fun v => v.category).sum ≤ 8) (hd : decode cc pc = .ok (.invokevirtual index, 3)) : ∀ o, rc = some o → jRun X ad cid nL M pc lv st0 st q (.ref (ad i) :: as).toArray o :=
  fun o ho ls H locs hl hP hS => va_runV (As := as) (rest := st) (C := C) ⟨hC.x, hC.b, hC.ml, hC.ow, hC.ts⟩ (hM o ho) (cwV n hC.ts (good_more _ (fun _ h => h) (List.forall_mem_cons.mpr ⟨hw, List.forall_mem_cons.mpr ⟨hv.2.1, List.forall_mem_cons.mpr ⟨hv.2.2.1, List.forall_mem_cons.mpr ⟨hv.2.2.2.1, fun _ h => absurd h List.not_mem_nil⟩⟩⟩⟩) (good_ws (fun _ h => h) hv.2.2.2.2)) rfl rfl rfl hv.1 ⟨Nat.le_trans hR.1 hC.f1, Nat.le_trans hR.2 hC.l1⟩) ⟨blindO, va_recv hC.K hP hc ((wld_get hi).trans (by rw [hs])), fun U hU hW => ⟨rfl, preO_at hP hC.K hC.nest hU hW⟩⟩ rfl hn hl.1 hst (lv_room hcat) hd ⟨hC.kc, hC.kn⟩
theorem run_S (hC : Ok X ad cid cc own nL ret fr lo) {β : Type} {q : qTy β} {rc : Option β} {y : MethodName} {n index nL2 fr2 lo2 : Nat} {c2 : ByteArray} {ret2 : Option FieldType} {as : List Value} (hM : Ct q (cxL X) ad cid (cxD X) y c2 nL2 ret2 fr2 lo2 as M rc) (hv : cS y c2 nL2 ret2 n) (hw : Cond.methodLink own index y ∈ wAll) (hR : fr2 + 1 ≤ fr ∧ 8 + (nL2 + 11) + lo2 ≤ lo) (hn : as.length = n) (hst : st0 = as.reverse ++ st) (hcat : (st.map fun v => v.category).sum ≤ 8) (hd : decode cc pc = .ok (.invokestatic index, 3)) : ∀ o, rc = some o → jRun X ad cid nL M pc lv st0 st q as.toArray o :=
  fun o ho ls H locs hl hP hS => va_runS (As := as) (rest := st) ⟨hC.x, hC.b, hC.ml, hC.ow, hC.ts⟩ (hM o ho) (va_cwS n hC.ts (good_more _ (fun _ h => h) (List.forall_mem_cons.mpr ⟨hw, List.forall_mem_cons.mpr ⟨hv.2.1, List.forall_mem_cons.mpr ⟨hv.2.2.1, fun _ h => absurd h List.not_mem_nil⟩⟩⟩) (good_ws (fun _ h => h) hv.2.2.2)) rfl rfl rfl hv.1 ⟨Nat.le_trans hR.1 hC.f1, Nat.le_trans hR.2 hC.l1⟩) ⟨blindO, fun U hU hW => ⟨rfl, preO_at hP hC.K hC.nest hU hW⟩⟩ rfl hn hl.1 hst (lv_room hcat) hd ⟨hC.kc, hC.kn⟩
theorem j_mmax (hC : Ok X ad cid cc own nL ret fr lo) {index : Nat} {x y : Int32} (hw : Cond.methodLink own index Lib.Math.max.name ∈ wAll) (h1 : Cond.static Lib.Math.max.name ∈ wAll) (h2 : Cond.initialized "java/lang/Math" ∈ wAll) (h3 : Cond.code Lib.Math.max.name Lib.Math.max.code 2 (some .int) ∈ wAll) (hf : 1 ≤ fr) (hlo : (st.map fun v => v.category).sum + 13 ≤ lo) (hd : decode cc pc = .ok (.invokestatic index, 3)) (k : Jp X ad cid nL Q M (pc + 3) lv (.int (if x < y then y else x) :: st) res) : Jp X ad cid nL Q M pc lv (.int y :: .int x :: st) res :=
  fun out ho ls H locs hl hP hS => va_mmax hC.x hC.b (hC.ml.trans hl.1.symm) hC.ow (hC.ts _ hw) (hC.ts _ h1) (hC.ts _ h2) (hC.ts _ h3) (Nat.le_trans hf hC.f1) (Nat.le_trans hlo hC.l1) hC.kc hC.kn hd (k out ho ls H locs hl hP hS)
theorem j_mmin (hC : Ok X ad cid cc own nL ret fr lo) {index : Nat} {x y : Int32} (hw : Cond.methodLink own index Lib.Math.min.name ∈ wAll) (h1 : Cond.static Lib.Math.min.name ∈ wAll) (h2 : Cond.initialized "java/lang/Math" ∈ wAll) (h3 : Cond.code Lib.Math.min.name Lib.Math.min.code 2 (some .int) ∈ wAll) (hf : 1 ≤ fr) (hlo : (st.map fun v => v.category).sum + 13 ≤ lo) (hd : decode cc pc = .ok (.invokestatic index, 3)) (k : Jp X ad cid nL Q M (pc + 3) lv (.int (if y < x then y else x) :: st) res) : Jp X ad cid nL Q M pc lv (.int y :: .int x :: st) res :=
  fun out ho ls H locs hl hP hS => va_mmin hC.x hC.b (hC.ml.trans hl.1.symm) hC.ow (hC.ts _ hw) (hC.ts _ h1) (hC.ts _ h2) (hC.ts _ h3) (Nat.le_trans hf hC.f1) (Nat.le_trans hlo hC.l1) hC.kc hC.kn hd (k out ho ls H locs hl hP hS)
end JC
