/-! more rows: calls in sequence, switches, super, the kinds' own -/
def qA (c : Nat) (ad : Nat → Nat) (cid : Nat → ClassId) : qTy Mem := fun D out => va_Qr (fun u : Mem => u = out) (fun u a t => a = ad c ∧ va_P D vwCl (wld ad cid u) t.heap) (iA ad)
section JM
variable {X : Cx} {ad : Nat → Nat} {cid : Nat → ClassId} {cc : ByteArray} {own : String} {nL : Nat} {ret : Option FieldType} {fr lo : Nat} {α : Type} {Q : α → State → Prop} {M : Mem} {pc : Nat} {lv : List (Option Value)} {st st0 : List Value} {res : Option α}
theorem j_aretC {C : String} (hC : Ok X ad cid cc own nL (some (.object C)) fr lo) {c : Nat} (hd : decode cc pc = .ok (.areturn, 1)) : Jp X ad cid nL (qm X ad (qA c ad cid)) M pc lv [.ref (ad c)] (some M) := by
  intro out ho ls H locs hl hP hS
  cases ho
  exact W.aret hC.x hC.b hC.r (Or.inl ⟨C, rfl⟩) (Or.inr ⟨_, rfl⟩) (fun t ht hW => ⟨⟨M, ad c, rfl, rfl, rfl, by show va_P _ _ _ t.heap; rw [ht]; exact hP⟩, hS.F ht⟩) hS.2.2 hd hC.lk
theorem j_bI {rc : Option (Mem × Int32)} {k : Mem → Int32 → Option α} {av : Array Value} (hrun : ∀ o, rc = some o → jRun X ad cid nL M pc lv st0 st (qI ad cid) av o) (kk : ∀ M1 r1, Jp X ad cid nL Q M1 (pc + 3) lv (.int r1 :: st) (k M1 r1)) : Jp X ad cid nL Q M pc lv st0 (bI rc k) :=
  j_eq (by cases rc <;> rfl) (j_ri (k := fun q => k q.1 q.2) hrun (fun M1 r1 _ => kk M1 r1))
theorem j_bL {rc : Option (Mem × Int64)} {k : Mem → Int64 → Option α} {av : Array Value} (hrun : ∀ o, rc = some o → jRun X ad cid nL M pc lv st0 st (qL ad cid) av o) (kk : ∀ M1 r1, Jp X ad cid nL Q M1 (pc + 3) lv (.long r1 :: st) (k M1 r1)) : Jp X ad cid nL Q M pc lv st0 (bL rc k) :=
  j_eq (by cases rc <;> rfl) (j_rl (k := fun q => k q.1 q.2) hrun (fun M1 r1 _ => kk M1 r1))
theorem j_bV {rc : Option Mem} {k : Mem → Option α} {av : Array Value} (hrun : ∀ o, rc = some o → jRun X ad cid nL M pc lv st0 st (qV ad cid) av o) (kk : ∀ M1, Jp X ad cid nL Q M1 (pc + 3) lv st (k M1)) : Jp X ad cid nL Q M pc lv st0 (bV rc k) :=
  j_eq (by cases rc <;> rfl) (j_rv (k := k) hrun (fun M1 _ => kk M1))
theorem j_bA {rc : Option Mem} {k : Mem → Option α} {av : Array Value} {c : Nat} (hrun : ∀ o, rc = some o → jRun X ad cid nL M pc lv st0 st (qA c ad cid) av o) (kk : ∀ M1, Jp X ad cid nL Q M1 (pc + 3) lv (.ref (ad c) :: st) (k M1)) : Jp X ad cid nL Q M pc lv st0 (bV rc k) := by
  intro out ho ls H locs hl hP hS
  cases hrc : rc with
  | none => rw [hrc] at ho; cases ho
  | some o =>
    rw [hrc] at ho
    exact va_callr (hrun _ hrc ls H locs hl hP hS) hS (fun _ _ h => h) (fun _ h => h) (fun u ra t H1 locs1 ht _ hp hB _ _ hS1 => by
      cases hp
      obtain ⟨rfl, hB⟩ := hB
      exact kk o out ho ls H1 locs1 hl (by rw [← ht]; exact hB) hS1)
theorem j_ite {c : Prop} [Decidable c] {ra rb : Option α} (ka : c → Jp X ad cid nL Q M pc lv st ra) (kb : ¬ c → Jp X ad cid nL Q M pc lv st rb) : Jp X ad cid nL Q M pc lv st (if c then ra else rb) := by
  by_cases h : c
  · rw [if_pos h]; exact ka h
  · rw [if_neg h]; exact kb h
theorem j_tabIn (hC : Ok X ad cid cc own nL ret fr lo) {dflt lo' hi' : Int} {offs : Array Int} {len : Nat} {x v : Int32} {off : Int} {tgt : Nat} (hd : decode cc pc = .ok (.tableswitch dflt lo' hi' offs, len)) (hx : x = v) (h1 : ¬ v.toInt < lo') (h2 : ¬ hi' < v.toInt) (ho : offs[(v.toInt - lo').toNat]? = some off) (ht : (pc : Int) + off = (tgt : Int)) (k : Jp X ad cid nL Q M tgt lv st res) : Jp X ad cid nL Q M pc lv (.int x :: st) res :=
  fun out h0 ls H locs hl hP hS => lv_tableIn hC.x hC.b hd (by rw [hx]; exact h1) (by rw [hx]; exact h2) (by rw [hx]; exact ho) ht (k out h0 ls H locs hl hP hS)
theorem j_tabOut (hC : Ok X ad cid cc own nL ret fr lo) {dflt lo' hi' : Int} {offs : Array Int} {len : Nat} {x : Int32} {tgt : Nat} (hd : decode cc pc = .ok (.tableswitch dflt lo' hi' offs, len)) (h : x.toInt < lo' ∨ hi' < x.toInt) (ht : (pc : Int) + dflt = (tgt : Int)) (k : Jp X ad cid nL Q M tgt lv st res) : Jp X ad cid nL Q M pc lv (.int x :: st) res :=
  fun out h0 ls H locs hl hP hS => lv_tableOut hC.x hC.b hd h ht (k out h0 ls H locs hl hP hS)
theorem j_look (hC : Ok X ad cid cc own nL ret fr lo) {dflt : Int} {ps : Array (Int × Int)} {len : Nat} {x : Int32} {off : Int} {tgt : Nat} (hd : decode cc pc = .ok (.lookupswitch dflt ps, len)) (hp : (ps.toList.zip (ps.toList.drop 1)).all (fun (a, next) => a.1 < next.1) = true) (ho : Op.lookupswitch.offset ps.toList dflt x.toInt = off) (ht : (pc : Int) + off = (tgt : Int)) (k : Jp X ad cid nL Q M tgt lv st res) : Jp X ad cid nL Q M pc lv (.int x :: st) res :=
  fun out h0 ls H locs hl hP hS => lv_lookup hC.x hC.b hd hp ho ht (k out h0 ls H locs hl hP hS)
theorem ne_i {x v : Int32} {n : Int} (h : ¬ x = v) (hv : v.toInt = n) : ¬ x.toInt = n := fun e => h (Int32.toInt_inj.mp (e.trans hv.symm))
/-- super.m(..) -/
def cU (own : String) (y : MethodName) (cc : ByteArray) (nL : Nat) (ret : Option FieldType) (n : Nat) : Prop := (y.name ≠ "<init>" ∧ (parseMethodDescriptor y.desc).map (fun d => d.parameters.length) = some n) ∧ Cond.sameMethod y.cls y.cls y.name y.desc ∈ wAll ∧ Cond.superclass own y.cls ∈ wAll ∧ Cond.instanceMethod y ∈ wAll ∧ Cond.initialized y.cls ∈ wAll ∧ Cond.code y cc nL ret ∈ wAll
theorem run_SU (hC : Ok X ad cid cc own nL ret fr lo) {β : Type} {q : qTy β} {rc : Option β} {y : MethodName} {C : String} {T : u_T} {N ci i n index nL2 fr2 lo2 : Nat} {c2 : ByteArray} {ret2 : Option FieldType} {fs : List Value} {as : List Value} (hM : Ct q (cxL X) ad cid (cxD X) y c2 nL2 ret2 fr2 lo2 (.ref (ad i) :: as) M rc) (hv : cU own y c2 nL2 ret2 n) (hw : Cond.methodLink own index y ∈ wAll) (hi : i < 126) (hs : shp ad cid M i = .inr (ci, fs)) (hc : vwCl[ci]? = some (C, T, N)) (hR : fr2 + 1 ≤ fr ∧ 8 + (nL2 + 11) + lo2 ≤ lo) (hn : as.length = n) (hst : st0 = as.reverse ++ .ref (ad i) :: st) (hcat : (st.map fun v => v.category).sum ≤ 8) (hd : decode cc pc = .ok (.invokespecial index, 3)) : ∀ o, rc = some o → jRun X ad cid nL M pc lv st0 st q (.ref (ad i) :: as).toArray o :=
  fun o ho ls H locs hl hP hS => va_runSU (As := as) (rest := st) (C := C) (hC.K.1 ci _ hc).2 ⟨hC.x, hC.b, hC.ml, hC.ow, hC.ts⟩ (hM o ho) (va_cwSU n hC.ts (good_more _ (fun _ h => h) (List.forall_mem_cons.mpr ⟨hw, List.forall_mem_cons.mpr ⟨hv.2.1, List.forall_mem_cons.mpr ⟨hv.2.2.1, List.forall_mem_cons.mpr ⟨hv.2.2.2.1, List.forall_mem_cons.mpr ⟨hv.2.2.2.2.1, fun _ h => absurd h List.not_mem_nil⟩⟩⟩⟩⟩) (good_ws (fun _ h => h) hv.2.2.2.2.2)) rfl rfl rfl hv.1 ⟨Nat.le_trans hR.1 hC.f1, Nat.le_trans hR.2 hC.l1⟩) ⟨blindO, va_recv hC.K hP hc ((wld_get hi).trans (by rw [hs])), fun U hU hW => ⟨rfl, preO_at hP hC.K hC.nest hU hW⟩⟩ rfl hn hl.1 hst (lv_room hcat) hd ⟨hC.kc, hC.kn⟩
/-- a call of x on an object of the class C, whose own method is y -/
def cO (C owner : String) (x y : MethodName) (cc : ByteArray) (nL : Nat) (ret : Option FieldType) (n : Nat) (b0 : ByteArray) (m0 : Nat) (r0 : Option FieldType) : Prop := (owner ≠ "java/lang/invoke/MethodHandle" ∧ owner ≠ "java/lang/invoke/VarHandle" ∧ (parseMethodDescriptor x.desc).map (fun d => d.parameters.length) = some n) ∧ Cond.sameMethod x.cls owner x.name x.desc ∈ wAll ∧ Cond.instanceMethod ⟨owner, x.name, x.desc⟩ ∈ wAll ∧ Cond.selects C x y ∈ wAll ∧ Cond.instanceMethod y ∈ wAll ∧ Cond.initialized y.cls ∈ wAll ∧ Cond.code y cc nL ret ∈ wAll ∧ Cond.code ⟨owner, x.name, x.desc⟩ b0 m0 r0 ∈ wAll
theorem run_O (hC : Ok X ad cid cc own nL ret fr lo) {β : Type} {q : qTy β} {rc : Option β} {x y : MethodName} {C owner : String} {T : u_T} {N ci i n index nL2 fr2 lo2 m0 : Nat} {c2 b0 : ByteArray} {ret2 r0 : Option FieldType} {fs : List Value} {as : List Value} (hM : Ct q (cxL X) ad cid (cxD X) y c2 nL2 ret2 fr2 lo2 (.ref (ad i) :: as) M rc) (hv : cO C owner x y c2 nL2 ret2 n b0 m0 r0) (hw : Cond.methodLink own index x ∈ wAll) (hi : i < 126) (hs : shp ad cid M i = .inr (ci, fs)) (hc : vwCl[ci]? = some (C, T, N)) (hR : fr2 + 1 ≤ fr ∧ 8 + (nL2 + 11) + lo2 ≤ lo) (hn : as.length = n) (hst : st0 = as.reverse ++ .ref (ad i) :: st) (hcat : (st.map fun v => v.category).sum ≤ 8) (hd : decode cc pc = .ok (.invokevirtual index, 3)) : ∀ o, rc = some o → jRun X ad cid nL M pc lv st0 st q (.ref (ad i) :: as).toArray o :=
  fun o ho ls H locs hl hP hS => va_runU (As := as) (rest := st) (C := C) (owner := owner) (x := x) ⟨hC.x, hC.b, hC.ml, hC.ow, hC.ts⟩ (hM o ho) (va_cwO n hC.ts (good_more _ (fun _ h => h) (List.forall_mem_cons.mpr ⟨hw, List.forall_mem_cons.mpr ⟨hv.2.1, List.forall_mem_cons.mpr ⟨hv.2.2.1, List.forall_mem_cons.mpr ⟨hv.2.2.2.1, List.forall_mem_cons.mpr ⟨hv.2.2.2.2.1, List.forall_mem_cons.mpr ⟨hv.2.2.2.2.2.1, fun _ h => absurd h List.not_mem_nil⟩⟩⟩⟩⟩⟩) (good_ws (fun _ h => h) hv.2.2.2.2.2.2.1)) rfl rfl rfl hv.2.2.2.2.2.2.2 hv.1 ⟨Nat.le_trans hR.1 hC.f1, Nat.le_trans hR.2 hC.l1⟩) ⟨blindO, va_recv hC.K hP hc ((wld_get hi).trans (by rw [hs])), fun U hU hW => ⟨rfl, preO_at hP hC.K hC.nest hU hW⟩⟩ rfl hn hl.1 hst (lv_room hcat) hd ⟨hC.kc, hC.kn⟩
theorem j_ialdC (hC : Ok X ad cid cc own nL ret fr lo) {i n e : Nat} {x : Int32} (he : x.toNatClampNeg = e) (hk : shK i = 0) (hn : shN i = n) (hb : inB x n) (hd : decode cc pc = .ok (.iaload, 1)) (kk : Jp X ad cid nL Q M (pc + 1) lv (.int (gM M i e) :: st) res) : Jp X ad cid nL Q M pc lv (.int x :: .ref (ad i) :: st) res := by
  subst he
  exact j_iald hC hk hn hb hd kk
theorem j_zaldC (hC : Ok X ad cid cc own nL ret fr lo) {i n e : Nat} {x : Int32} (he : x.toNatClampNeg = e) (hk : shK i = 1) (hn : shN i = n) (hb : inB x n) (hd : decode cc pc = .ok (.baload, 1)) (kk : Jp X ad cid nL Q M (pc + 1) lv (.int (gM M i e) :: st) res) : Jp X ad cid nL Q M pc lv (.int x :: .ref (ad i) :: st) res := by
  subst he
  exact j_zald hC hk hn hb hd kk
theorem j_iastC (hC : Ok X ad cid cc own nL ret fr lo) {i n e : Nat} {x v : Int32} (he : x.toNatClampNeg = e) (hk : shK i = 0) (hn : shN i = n) (hb : inB x n) (hd : decode cc pc = .ok (.iastore, 1)) (kk : Jp X ad cid nL Q (sM M i e v) (pc + 1) lv st res) : Jp X ad cid nL Q M pc lv (.int v :: .int x :: .ref (ad i) :: st) res := by
  subst he
  exact j_iast hC hk hn hb hd kk
theorem j_zastC (hC : Ok X ad cid cc own nL ret fr lo) {i n e : Nat} {x v : Int32} (he : x.toNatClampNeg = e) (hk : shK i = 1) (hn : shN i = n) (hb : inB x n) (hv : vp_nar .boolean v = v) (hd : decode cc pc = .ok (.bastore, 1)) (kk : Jp X ad cid nL Q (sM M i e v) (pc + 1) lv st res) : Jp X ad cid nL Q M pc lv (.int v :: .int x :: .ref (ad i) :: st) res := by
  subst he
  exact j_zast hC hk hn hb hv hd kk
theorem j_aaldC (hC : Ok X ad cid cc own nL ret fr lo) {i n b0 e : Nat} {x : Int32} (he : b0 + 3 * x.toNatClampNeg = e) (hk : shK i = 3) (hn : shN i = n) (hB : shB i = b0) (hb : inB x n) (hd : decode cc pc = .ok (.aaload, 1)) (kk : Jp X ad cid nL Q M (pc + 1) lv (.ref (ad e) :: st) res) : Jp X ad cid nL Q M pc lv (.int x :: .ref (ad i) :: st) res := by
  subst he
  exact j_aald hC hk hn hB hb hd kk
end JM
theorem ct_of2 {α : Type} {q : qTy α} {l : Launch} {ad : Nat → Nat} {cid : Nat → ClassId} {D : va_G} {y : MethodName} {cc : ByteArray} {nL : Nat} {ret : Option FieldType} {fr lo : Nat} {as : List Value} {M : Mem} {res : Option α} {own : String} {lv : List (Option Value)} (hL : lyOk ad) (hy : plainName y.cls = true) (ho : y.cls = own) (hlv : prs 0 lv = lv_args 0 as) (hlen : (lg_sl as).length ≤ nL)
    (body : ∀ X, cxL X = l → cxD X = D → Ok X ad cid cc own nL ret fr lo → Jp X ad cid nL (qm X ad q) M 0 lv [] res) : Ct q l ad cid D y cc nL ret fr lo as M res := by
  intro out hout
  refine Met.ofW (cc := cc) (maxL := nL) (ret := ret) hy rfl ?_
  intro p e s m args below meth c s₁ B hml hv
  obtain ⟨rfl, hP, hK, hN⟩ := hv
  have hts := atoms_spec (ws := wsO y cc nL ret) B.pre
  have hown : s.vm.findClass own = some m.cls := by rw [← ho]; exact findClass_of_methodNamed B.named
  have hb := body (p, l, e, rmO fr lo, s, m, as.toArray, below, meth, c, D, 0, 0) rfl rfl ⟨B.exec, B.bytes, hml, hown, fun w hw => hts w (List.mem_cons_of_mem _ hw), hK, hN, hL, B.notSynchronized, B.returns, Nat.le_refl _, Nat.le_refl _, Nat.le_refl _, Nat.le_refl _⟩ out hout
  rw [lg_entry_eq]
  exact hb _ _ _ (by rw [hlv]; exact lv_entry as hlen) hP va_S.rf
