/-! the world as a function of the memory; the judgement Jp: 'the rest of the method, from this pc on, does what res says' -/
def shp (ad : Nat → Nat) (cid : Nat → ClassId) (M : Mem) (i : Nat) : va_E :=
  match shK i with
  | 0 => .inl (cid 0, shN i, .inl (gM M i))
  | 1 => .inl (cid 1, shN i, .inl (gM M i))
  | 2 => .inl (cid 2, shN i, .inr (.inl (fun j => if j = 0 then gL M i else 0)))
  | 3 => .inl (cid 3, shN i, .inr (.inr (.inr (.inr (fun j => if j < shN i then some (ad (shB i + 3 * j)) else none)))))
  | 4 => .inl (cid 4, shN i, .inr (.inr (.inr (.inr (fun j => if j < shN i then some (ad (103 + j)) else none)))))
  | 12 => .inr (2, [.int (gM M i 0), .ref (ad (i + 1)), .ref (ad (i + 2)), .ref (ad (i + 3)), .int (gM M i 4), .ref (ad (i + 4)), .ref (ad (i + 5)), .int (gM M i 7), .int (gM M i 8), .ref (ad (i + 6)), .ref (ad (i + 7))])
  | 14 => .inr (4, [.int (gM M i 0), .int (gM M i 1), .int (gM M i 2), .ref (ad (i + 1)), .ref (ad (i + 2)), .int (gM M i 5)])
  | 18 => .inr (8, [.ref (ad 23), .int (gM M i 1), .int (gM M i 2)])
  | 19 => .inr (9, [.ref (ad 59), .ref (ad 60), .ref (ad 61), .int (gM M i 3), .int (gM M i 4), .int (gM M i 5)])
  | 20 => .inr (10, [.ref (ad 2), .int (gM M i 1), .int (gM M i 2), .int (gM M i 3), .int (gM M i 4), .int (gM M i 5)])
  | 21 => .inr (11, [.ref (ad 1), .ref (ad (feB (gM M i 1))), .ref (ad (feB (gM M i 2))), .ref (ad 19), .ref (ad 22), .ref (ad 54), .int (gM M i 6), .ref (ad 55), .ref (ad 56), .int (gM M i 9), .ref (ad 57), .ref (ad 58), .ref (ad 74), .ref (ad 75)])
  | 22 => .inr (12, [.int (gM M i 0), .long (gL M i), .ref (ad 110), .int (gM M i 3), .int (gM M i 4), .int (gM M i 5), .int (gM M i 6), .int (gM M i 7), .int (gM M i 8), .ref (ad 111), .ref (ad 112), .ref (ad 113), .ref (ad 114), .ref (ad 115), .ref (ad 116), .int (gM M i 15), .ref (ad 117), .ref (ad 118), .ref (ad 119), .ref (ad 120), .ref (ad 121), .int (gM M i 21), .ref (ad 122), .ref (ad 123), .int (gM M i 24), .ref (ad 124), .ref (ad 125)])
  | n => .inr (n - 10, [])
def wld (ad : Nat → Nat) (cid : Nat → ClassId) (M : Mem) : va_W := (List.range 126).map (fun i => (ad i, shp ad cid M i))
theorem wld_get {ad : Nat → Nat} {cid : Nat → ClassId} {M : Mem} {i : Nat} (h : i < 126) : (wld ad cid M)[i]? = some (ad i, shp ad cid M i) := by
  simp [wld, h]
theorem wld_len {ad : Nat → Nat} {cid : Nat → ClassId} {M : Mem} : (wld ad cid M).length = 126 := by simp [wld]
theorem wld_lt {ad : Nat → Nat} {cid : Nat → ClassId} {M : Mem} {i : Nat} {q : Nat × va_E} (h : (wld ad cid M)[i]? = some q) : i < 126 ∧ q = (ad i, shp ad cid M i) := by
  have h1 : i < 126 := by have := (List.getElem?_eq_some_iff.mp h).1; rwa [wld_len] at this
  rw [wld_get h1] at h
  exact ⟨h1, (Option.some.inj h).symm⟩
theorem shp_congr {ad : Nat → Nat} {cid : Nat → ClassId} {M N : Mem} {i : Nat} (h : gM N i = gM M i) (h2 : gL N i = gL M i) : shp ad cid N i = shp ad cid M i := by
  unfold shp
  rw [h, h2]
theorem wld_set {ad : Nat → Nat} {cid : Nat → ClassId} {M N : Mem} {i : Nat} {e : va_E} (he : shp ad cid N i = e) (h : ∀ j, j ≠ i → gM N j = gM M j ∧ gL N j = gL M j) : (wld ad cid M).set i (ad i, e) = wld ad cid N := by
  apply List.ext_getElem?
  intro j
  by_cases hj : j < 126
  · rw [wld_get hj]
    by_cases hji : j = i
    · subst hji
      rw [List.getElem?_set_self (by rw [wld_len]; exact hj), he]
    · rw [List.getElem?_set_ne (Ne.symm hji), wld_get hj, shp_congr (h j hji).1 (h j hji).2]
  · rw [List.getElem?_eq_none (by rw [List.length_set, wld_len]; omega), List.getElem?_eq_none (by rw [wld_len]; omega)]
def iA (ad : Nat → Nat) : Nat → Prop := fun q => ∃ i, i < 126 ∧ q = ad i
def lyOk (ad : Nat → Nat) : Prop := ∀ i j, i < 126 → j < 126 → ad i = ad j → i = j
theorem wld_D {ad : Nat → Nat} {cid : Nat → ClassId} {M : Mem} (h : lyOk ad) : va_D (iA ad) (wld ad cid M) := by
  refine ⟨fun i j p q hi hj hpq => ?_, fun k q hk => ?_⟩
  · obtain ⟨h1, rfl⟩ := wld_lt hi
    obtain ⟨h2, rfl⟩ := wld_lt hj
    exact h i j h1 h2 hpq
  · obtain ⟨h1, rfl⟩ := wld_lt hk
    exact ⟨k, h1, rfl⟩
abbrev tysOf (cid : Nat → ClassId) : List (ClassId × FieldType) := [(cid 0, .int), (cid 1, .boolean), (cid 2, .long), (cid 3, .object RX4), (cid 4, .object RX7)]
/-- words of the tables that every method may lean on -/
def wAll : List Cond := lw_tbl.filter goodWord
theorem wAll_of {w : Cond} (h : w ∈ lw_tbl) (hg : goodWord w = true) : w ∈ wAll := List.mem_filter.mpr ⟨h, hg⟩
theorem wAll_good {w : Cond} (h : w ∈ wAll) : goodWord w = true := (List.mem_filter.mp h).2
theorem good_ws {T : List Cond} {b : Cond} (hT : ∀ w ∈ wAll, w ∈ T) (hb : b ∈ wAll) : GoodIn T (b :: wAll) := by
  intro w hw
  rcases List.mem_cons.mp hw with rfl | hw
  · exact ⟨hT _ hb, good_of_word (wAll_good hb)⟩
  · exact ⟨hT _ hw, good_of_word (wAll_good hw)⟩
theorem good_more {T : List Cond} (a : List Cond) {b : List Cond} (hT : ∀ w ∈ wAll, w ∈ T) (ha : ∀ w ∈ a, w ∈ wAll) (hb : GoodIn T b) : GoodIn T (a ++ b) := by
  intro w hw
  rcases List.mem_append.mp hw with hw | hw
  · exact ⟨hT _ (ha w hw), good_of_word (wAll_good (ha w hw))⟩
  · exact hb w hw
def isNest : Cond → Bool
  | .fieldLinkNest .. => true
  | .methodLinkNest .. => true
  | _ => false
/-- the links to private members of nest mates: they go along from state to state -/
def nestOk (U : State) : Prop := ∀ w ∈ lw_tbl, isNest w = true → va_Nw w U
theorem nest_warm {s U : State} (hW : s.WarmedH U.vm) (h : nestOk s) : nestOk U := by
  intro w hw hn
  have h1 := h w hw hn
  match w, hn, h1 with
  | .fieldLinkNest .., _, h1 => exact va_Nw.warmF hW h1
  | .methodLinkNest .., _, h1 => exact va_Nw.warmM hW h1
theorem nest_same {s U : State} (hv : s.vm = U.vm) (h : nestOk s) : nestOk U := by
  intro w hw hn
  have h1 := h w hw hn
  match w, hn, h1 with
  | .fieldLinkNest .., _, h1 => exact va_Nw.same rfl hv h1
  | .methodLinkNest .., _, h1 => exact va_Nw.same rfl hv h1
abbrev Cx : Type := Program × Launch × Env × Room × State × MethodId × Array Value × List Frame × Method × Code × va_G × Nat × Nat
def cxL (X : Cx) : Launch := X.2.1
def cxR (X : Cx) : Room := X.2.2.2.1
def cxS (X : Cx) : State := X.2.2.2.2.1
def cxM (X : Cx) : MethodId := X.2.2.2.2.2.1
def cxA (X : Cx) : Array Value := X.2.2.2.2.2.2.1
def cxB (X : Cx) : List Frame := X.2.2.2.2.2.2.2.1
def cxMe (X : Cx) : Method := X.2.2.2.2.2.2.2.2.1
def cxC (X : Cx) : Code := X.2.2.2.2.2.2.2.2.2.1
def cxD (X : Cx) : va_G := X.2.2.2.2.2.2.2.2.2.2.1
def cxK (X : Cx) : Nat := X.2.2.2.2.2.2.2.2.2.2.2.1
def cxN (X : Cx) : Nat := X.2.2.2.2.2.2.2.2.2.2.2.2
def cxW (X : Cx) (H : Heap) (locs : List Loc) (Q : State → Prop) (g : JFrame) : Prop := W X.1 (cxL X) X.2.2.1 (cxR X) (cxS X) (cxM X) (cxA X) (cxB X) (cxMe X) (cxC X) H locs (cxK X) (cxN X) Q g
/-- locals by their numbers -/
def prs : Nat → List (Option Value) → List (Nat × Value)
  | _, [] => []
  | k, none :: t => prs (k + 1) t
  | k, some v :: t => (k, v) :: prs (k + 1) t
theorem prs_mem : ∀ (l : List (Option Value)) (k i : Nat) (v : Value), (i, v) ∈ prs k l ↔ ∃ j, i = k + j ∧ l[j]? = some (some v)
  | [], k, i, v => by simp [prs]
  | none :: t, k, i, v => by
    rw [prs, prs_mem t]
    constructor
    · rintro ⟨j, rfl, h⟩
      exact ⟨j + 1, by omega, by simpa using h⟩
    · rintro ⟨j, rfl, h⟩
      cases j with
      | zero => simp at h
      | succ j => exact ⟨j, by omega, by simpa using h⟩
  | some w :: t, k, i, v => by
    rw [prs, List.mem_cons, prs_mem t]
    constructor
    · rintro (h | ⟨j, rfl, h⟩)
      · cases h
        exact ⟨0, rfl, rfl⟩
      · exact ⟨j + 1, by omega, by simpa using h⟩
    · rintro ⟨j, rfl, h⟩
      cases j with
      | zero => simp at h; exact Or.inl (by rw [h]; rfl)
      | succ j => exact Or.inr ⟨j, by omega, by simpa using h⟩
theorem prs_at {ls : Array Slot} {nL : Nat} {lv : List (Option Value)} (h : lv_has ls nL (prs 0 lv)) {i : Nat} {v : Value} (hi : lv[i]? = some (some v)) : ls[i]? = some (.val v) := h.2.2 (i, v) ((prs_mem lv 0 i v).mpr ⟨i, by omega, hi⟩)
def cat1 (o : Option Value) : Bool := match o with
  | none => true
  | some v => v.category == 1
theorem prs_set {ls : Array Slot} {nL i : Nat} {x : Value} {lv : List (Option Value)} (hc : lv.all cat1 = true) (h : lv_has ls nL ((i, x) :: (prs 0 lv).filter (fun q => !(q.1 == i) && !(q.1 + 1 == i && q.2.category == 2)))) : lv_has ls nL (prs 0 (lv.set i (some x))) := by
  refine ⟨h.1, h.2.1, fun q hq => h.2.2 q ?_⟩
  obtain ⟨a, v⟩ := q
  obtain ⟨j, rfl, hj⟩ := (prs_mem _ 0 a v).mp hq
  rw [Nat.zero_add] at *
  by_cases hji : j = i
  · subst hji
    have hl : j < lv.length := by have := (List.getElem?_eq_some_iff.mp hj).1; simpa using this
    rw [List.getElem?_set_self hl] at hj
    cases hj
    exact List.mem_cons_self
  · rw [List.getElem?_set_ne (Ne.symm hji)] at hj
    refine List.mem_cons_of_mem _ (List.mem_filter.mpr ⟨(prs_mem lv 0 j v).mpr ⟨j, by omega, hj⟩, ?_⟩)
    have h1 := List.all_eq_true.mp hc _ (List.mem_of_getElem? hj)
    simp only [cat1, beq_iff_eq] at h1
    simp [hji, h1]
theorem prs_mask {ls : Array Slot} {nL : Nat} {lv lv' : List (Option Value)} (ms : List Bool) (he : List.zipWith (fun (b : Bool) (o : Option Value) => if b then o else none) ms lv = lv') (h : lv_has ls nL (prs 0 lv)) : lv_has ls nL (prs 0 lv') := by
  refine ⟨h.1, h.2.1, fun q hq => ?_⟩
  obtain ⟨a, v⟩ := q
  obtain ⟨j, rfl, hj⟩ := (prs_mem _ 0 a v).mp hq
  rw [← he, List.getElem?_zipWith] at hj
  refine h.2.2 _ ((prs_mem lv 0 _ v).mpr ⟨j, rfl, ?_⟩)
  cases h1 : ms[j]? with
  | none => rw [h1] at hj; simp at hj
  | some b =>
    cases h2 : lv[j]? with
    | none => rw [h1, h2] at hj; simp at hj
    | some o =>
      rw [h1, h2] at hj
      cases b with
      | true => simpa using hj
      | false => simp at hj
/-- THE JUDGEMENT -/
def Jp (X : Cx) (ad : Nat → Nat) (cid : Nat → ClassId) (nL : Nat) {α : Type} (Q : α → State → Prop) (M : Mem) (pc : Nat) (lv : List (Option Value)) (st : List Value) (res : Option α) : Prop :=
  ∀ out, res = some out → ∀ (ls : Array Slot) (H : Heap) (locs : List Loc), lv_has ls nL (prs 0 lv) → va_P (cxD X) vwCl (wld ad cid M) H → va_S (iA ad) (cxS X).heap H locs → cxW X H locs (Q out) (F0 (cxM X) pc ls st)
/-- what holds all through a method's body -/
def Ok (X : Cx) (ad : Nat → Nat) (cid : Nat → ClassId) (cc : ByteArray) (own : String) (nL : Nat) (ret : Option FieldType) (fr lo : Nat) : Prop :=
  X.1.tables.exec = Jvm.exec ∧ (cxC X).code = cc ∧ (cxC X).maxLocals = nL ∧ (cxS X).vm.findClass own = some (cxM X).cls ∧ (∀ w ∈ wAll, w.before (cxA X) (cxS X) = true) ∧ va_K (cxD X) vwCl (tysOf cid) (cxS X) ∧ nestOk (cxS X) ∧ lyOk ad ∧ (cxMe X).locks = false ∧ (cxMe X).sig.returnType = ret ∧ fr ≤ (cxR X).frames ∧ lo ≤ (cxR X).locals ∧ cxK X ≤ (cxR X).cells ∧ cxN X ≤ (cxR X).slots
section JR
variable {X : Cx} {ad : Nat → Nat} {cid : Nat → ClassId} {cc : ByteArray} {own : String} {nL : Nat} {ret : Option FieldType} {fr lo : Nat} {α : Type} {Q : α → State → Prop} {M : Mem} {pc : Nat} {lv : List (Option Value)} {st : List Value} {res : Option α}
theorem Ok.x (h : Ok X ad cid cc own nL ret fr lo) : X.1.tables.exec = Jvm.exec := h.1
theorem Ok.b (h : Ok X ad cid cc own nL ret fr lo) : (cxC X).code = cc := h.2.1
theorem Ok.ml (h : Ok X ad cid cc own nL ret fr lo) : (cxC X).maxLocals = nL := h.2.2.1
theorem Ok.ow (h : Ok X ad cid cc own nL ret fr lo) : (cxS X).vm.findClass own = some (cxM X).cls := h.2.2.2.1
theorem Ok.ts (h : Ok X ad cid cc own nL ret fr lo) : ∀ w ∈ wAll, w.before (cxA X) (cxS X) = true := h.2.2.2.2.1
theorem Ok.K (h : Ok X ad cid cc own nL ret fr lo) : va_K (cxD X) vwCl (tysOf cid) (cxS X) := h.2.2.2.2.2.1
theorem Ok.nest (h : Ok X ad cid cc own nL ret fr lo) : nestOk (cxS X) := h.2.2.2.2.2.2.1
theorem Ok.ly (h : Ok X ad cid cc own nL ret fr lo) : lyOk ad := h.2.2.2.2.2.2.2.1
theorem Ok.lk (h : Ok X ad cid cc own nL ret fr lo) : (cxMe X).locks = false := h.2.2.2.2.2.2.2.2.1
theorem Ok.r (h : Ok X ad cid cc own nL ret fr lo) : (cxMe X).sig.returnType = ret := h.2.2.2.2.2.2.2.2.2.1
theorem Ok.f1 (h : Ok X ad cid cc own nL ret fr lo) : fr ≤ (cxR X).frames := h.2.2.2.2.2.2.2.2.2.2.1
theorem Ok.l1 (h : Ok X ad cid cc own nL ret fr lo) : lo ≤ (cxR X).locals := h.2.2.2.2.2.2.2.2.2.2.2.1
theorem Ok.kc (h : Ok X ad cid cc own nL ret fr lo) : cxK X ≤ (cxR X).cells := h.2.2.2.2.2.2.2.2.2.2.2.2.1
theorem Ok.kn (h : Ok X ad cid cc own nL ret fr lo) : cxN X ≤ (cxR X).slots := h.2.2.2.2.2.2.2.2.2.2.2.2.2
theorem j_none : Jp X ad cid nL Q M pc lv st none := fun _ h => by cases h
theorem j_eq {res' : Option α} (h : res = res') (k : Jp X ad cid nL Q M pc lv st res') : Jp X ad cid nL Q M pc lv st res := h ▸ k
theorem j_pc {pc' : Nat} (h : pc = pc') (k : Jp X ad cid nL Q M pc' lv st res) : Jp X ad cid nL Q M pc lv st res := h ▸ k
theorem j_mask (ms : List Bool) {lv' : List (Option Value)} (he : List.zipWith (fun (b : Bool) (o : Option Value) => if b then o else none) ms lv = lv') (k : Jp X ad cid nL Q M pc lv' st res) : Jp X ad cid nL Q M pc lv st res :=
  fun out ho ls H locs hl hP hS => k out ho ls H locs (prs_mask ms he hl) hP hS
theorem j_iconst (hC : Ok X ad cid cc own nL ret fr lo) {n : Int} {v : Int32} (hd : decode cc pc = .ok (.iconst n, 1)) (hv : Int32.ofInt n = v) (k : Jp X ad cid nL Q M (pc + 1) lv (.int v :: st) res) : Jp X ad cid nL Q M pc lv st res :=
  fun out ho ls H locs hl hP hS => lv_iconst hC.x hC.b hd hv (k out ho ls H locs hl hP hS)
theorem j_bipush (hC : Ok X ad cid cc own nL ret fr lo) {n : Int} {v : Int32} (hd : decode cc pc = .ok (.bipush n, 2)) (hv : (Int8.ofInt n).toInt32 = v) (k : Jp X ad cid nL Q M (pc + 2) lv (.int v :: st) res) : Jp X ad cid nL Q M pc lv st res :=
  fun out ho ls H locs hl hP hS => lv_bipush hC.x hC.b hd hv (k out ho ls H locs hl hP hS)
theorem j_sipush (hC : Ok X ad cid cc own nL ret fr lo) {n : Int} {v : Int32} (hd : decode cc pc = .ok (.sipush n, 3)) (hv : (Int16.ofInt n).toInt32 = v) (k : Jp X ad cid nL Q M (pc + 3) lv (.int v :: st) res) : Jp X ad cid nL Q M pc lv st res :=
  fun out ho ls H locs hl hP hS => lv_sipush hC.x hC.b hd hv (k out ho ls H locs hl hP hS)
theorem j_lconst (hC : Ok X ad cid cc own nL ret fr lo) {n : Fin 2} {v : Int64} (hd : decode cc pc = .ok (.lconst n, 1)) (hv : Int64.ofNat (n : Nat) = v) (k : Jp X ad cid nL Q M (pc + 1) lv (.long v :: st) res) : Jp X ad cid nL Q M pc lv st res :=
  fun out ho ls H locs hl hP hS => lv_lconst hC.x hC.b hd hv (k out ho ls H locs hl hP hS)
theorem j_ldc (hC : Ok X ad cid cc own nL ret fr lo) {index : Nat} {v : Int32} (hw : Cond.constant own index v ∈ lw_tbl) (hg : goodWord (Cond.constant own index v) = true) (hd : decode cc pc = .ok (.ldc index, 2)) (k : Jp X ad cid nL Q M (pc + 2) lv (.int v :: st) res) : Jp X ad cid nL Q M pc lv st res :=
  fun out ho ls H locs hl hP hS => lv_ldc hC.x hC.b hC.ow (hC.ts _ (wAll_of hw hg)) hd (k out ho ls H locs hl hP hS)
theorem j_ldc2 (hC : Ok X ad cid cc own nL ret fr lo) {index : Nat} {v : Int64} (hw : Cond.constantLong own index v ∈ lw_tbl) (hg : goodWord (Cond.constantLong own index v) = true) (hd : decode cc pc = .ok (.ldc2_w index, 3)) (k : Jp X ad cid nL Q M (pc + 3) lv (.long v :: st) res) : Jp X ad cid nL Q M pc lv st res :=
  fun out ho ls H locs hl hP hS => lv_ldc2 hC.x hC.b hC.ow (hC.ts _ (wAll_of hw hg)) hd (k out ho ls H locs hl hP hS)
theorem j_iload_n (hC : Ok X ad cid cc own nL ret fr lo) {n : Fin 4} {x : Int32} (hd : decode cc pc = .ok (.iload_n n, 1)) (hl : lv[(n : Nat)]? = some (some (.int x))) (k : Jp X ad cid nL Q M (pc + 1) lv (.int x :: st) res) : Jp X ad cid nL Q M pc lv st res :=
  fun out ho ls H locs hh hP hS => lv_iload_n hC.x hC.b hd rfl (prs_at hh hl) (k out ho ls H locs hh hP hS)
theorem j_iload (hC : Ok X ad cid cc own nL ret fr lo) {n : Nat} {x : Int32} (hd : decode cc pc = .ok (.iload n, 2)) (hl : lv[n]? = some (some (.int x))) (k : Jp X ad cid nL Q M (pc + 2) lv (.int x :: st) res) : Jp X ad cid nL Q M pc lv st res :=
  fun out ho ls H locs hh hP hS => lv_iload hC.x hC.b hd (prs_at hh hl) (k out ho ls H locs hh hP hS)
theorem j_aload_n (hC : Ok X ad cid cc own nL ret fr lo) {n : Fin 4} {x : Nat} (hd : decode cc pc = .ok (.aload_n n, 1)) (hl : lv[(n : Nat)]? = some (some (.ref x))) (k : Jp X ad cid nL Q M (pc + 1) lv (.ref x :: st) res) : Jp X ad cid nL Q M pc lv st res :=
  fun out ho ls H locs hh hP hS => lv_aload_n hC.x hC.b hd rfl (prs_at hh hl) (k out ho ls H locs hh hP hS)
theorem j_aload (hC : Ok X ad cid cc own nL ret fr lo) {n : Nat} {x : Nat} (hd : decode cc pc = .ok (.aload n, 2)) (hl : lv[n]? = some (some (.ref x))) (k : Jp X ad cid nL Q M (pc + 2) lv (.ref x :: st) res) : Jp X ad cid nL Q M pc lv st res :=
  fun out ho ls H locs hh hP hS => lv_aload hC.x hC.b hd (prs_at hh hl) (k out ho ls H locs hh hP hS)
theorem j_istore_n (hC : Ok X ad cid cc own nL ret fr lo) {n : Fin 4} {x : Int32} {lv' : List (Option Value)} (hd : decode cc pc = .ok (.istore_n n, 1)) (hn : (n : Nat) < nL) (hc : lv.all cat1 = true) (hl : lv.set n (some (.int x)) = lv') (k : Jp X ad cid nL Q M (pc + 1) lv' st res) : Jp X ad cid nL Q M pc lv (.int x :: st) res :=
  fun out ho ls H locs hh hP hS => lv_istore_n hC.x hC.b hd rfl hh hn rfl (fun ls' h' => k out ho ls' H locs (hl ▸ prs_set hc h') hP hS)
theorem j_istore (hC : Ok X ad cid cc own nL ret fr lo) {n : Nat} {x : Int32} {lv' : List (Option Value)} (hd : decode cc pc = .ok (.istore n, 2)) (hn : n < nL) (hc : lv.all cat1 = true) (hl : lv.set n (some (.int x)) = lv') (k : Jp X ad cid nL Q M (pc + 2) lv' st res) : Jp X ad cid nL Q M pc lv (.int x :: st) res :=
  fun out ho ls H locs hh hP hS => lv_istore hC.x hC.b hd hh hn rfl (fun ls' h' => k out ho ls' H locs (hl ▸ prs_set hc h') hP hS)
theorem j_astore_n (hC : Ok X ad cid cc own nL ret fr lo) {n : Fin 4} {x : Nat} {lv' : List (Option Value)} (hd : decode cc pc = .ok (.astore_n n, 1)) (hn : (n : Nat) < nL) (hc : lv.all cat1 = true) (hl : lv.set n (some (.ref x)) = lv') (k : Jp X ad cid nL Q M (pc + 1) lv' st res) : Jp X ad cid nL Q M pc lv (.ref x :: st) res :=
  fun out ho ls H locs hh hP hS => lv_astore_n hC.x hC.b hd rfl hh hn rfl (fun ls' h' => k out ho ls' H locs (hl ▸ prs_set hc h') hP hS)
theorem j_astore (hC : Ok X ad cid cc own nL ret fr lo) {n : Nat} {x : Nat} {lv' : List (Option Value)} (hd : decode cc pc = .ok (.astore n, 2)) (hn : n < nL) (hc : lv.all cat1 = true) (hl : lv.set n (some (.ref x)) = lv') (k : Jp X ad cid nL Q M (pc + 2) lv' st res) : Jp X ad cid nL Q M pc lv (.ref x :: st) res :=
  fun out ho ls H locs hh hP hS => lv_astore hC.x hC.b hd hh hn rfl (fun ls' h' => k out ho ls' H locs (hl ▸ prs_set hc h') hP hS)
theorem j_iinc (hC : Ok X ad cid cc own nL ret fr lo) {i : Nat} {n : Int} {x v : Int32} {lv' : List (Option Value)} (hd : decode cc pc = .ok (.iinc i n, 3)) (hx : lv[i]? = some (some (.int x))) (hv : Int32.ofInt n = v) (hn : i < nL) (hc : lv.all cat1 = true) (hl : lv.set i (some (.int (x + v))) = lv') (k : Jp X ad cid nL Q M (pc + 3) lv' st res) : Jp X ad cid nL Q M pc lv st res := by
  intro out ho ls H locs hh hP hS
  obtain ⟨kx, hkx⟩ := List.getElem?_of_mem ((prs_mem lv 0 i (.int x)).mpr ⟨i, by omega, hx⟩)
  exact lv_iinc hC.x hC.b hd hh hkx (by rw [hv]) hn rfl (fun ls' h' => k out ho ls' H locs (hl ▸ prs_set hc h') hP hS)
theorem j_iadd (hC : Ok X ad cid cc own nL ret fr lo) {x y : Int32} (hd : decode cc pc = .ok (.iadd, 1)) (k : Jp X ad cid nL Q M (pc + 1) lv (.int (x + y) :: st) res) : Jp X ad cid nL Q M pc lv (.int y :: .int x :: st) res :=
  fun out ho ls H locs hl hP hS => lv_iadd hC.x hC.b hd (k out ho ls H locs hl hP hS)
theorem j_isub (hC : Ok X ad cid cc own nL ret fr lo) {x y : Int32} (hd : decode cc pc = .ok (.isub, 1)) (k : Jp X ad cid nL Q M (pc + 1) lv (.int (x - y) :: st) res) : Jp X ad cid nL Q M pc lv (.int y :: .int x :: st) res :=
  fun out ho ls H locs hl hP hS => lv_isub hC.x hC.b hd (k out ho ls H locs hl hP hS)
theorem j_imul (hC : Ok X ad cid cc own nL ret fr lo) {x y : Int32} (hd : decode cc pc = .ok (.imul, 1)) (k : Jp X ad cid nL Q M (pc + 1) lv (.int (x * y) :: st) res) : Jp X ad cid nL Q M pc lv (.int y :: .int x :: st) res :=
  fun out ho ls H locs hl hP hS => lv_imul hC.x hC.b hd (k out ho ls H locs hl hP hS)
theorem j_iand (hC : Ok X ad cid cc own nL ret fr lo) {x y : Int32} (hd : decode cc pc = .ok (.iand, 1)) (k : Jp X ad cid nL Q M (pc + 1) lv (.int (x &&& y) :: st) res) : Jp X ad cid nL Q M pc lv (.int y :: .int x :: st) res :=
  fun out ho ls H locs hl hP hS => lv_iand hC.x hC.b hd (k out ho ls H locs hl hP hS)
theorem j_ior (hC : Ok X ad cid cc own nL ret fr lo) {x y : Int32} (hd : decode cc pc = .ok (.ior, 1)) (k : Jp X ad cid nL Q M (pc + 1) lv (.int (x ||| y) :: st) res) : Jp X ad cid nL Q M pc lv (.int y :: .int x :: st) res :=
  fun out ho ls H locs hl hP hS => lv_ior hC.x hC.b hd (k out ho ls H locs hl hP hS)
theorem j_ixor (hC : Ok X ad cid cc own nL ret fr lo) {x y : Int32} (hd : decode cc pc = .ok (.ixor, 1)) (k : Jp X ad cid nL Q M (pc + 1) lv (.int (x ^^^ y) :: st) res) : Jp X ad cid nL Q M pc lv (.int y :: .int x :: st) res :=
  fun out ho ls H locs hl hP hS => lv_ixor hC.x hC.b hd (k out ho ls H locs hl hP hS)
theorem j_ishl (hC : Ok X ad cid cc own nL ret fr lo) {x y : Int32} (hd : decode cc pc = .ok (.ishl, 1)) (k : Jp X ad cid nL Q M (pc + 1) lv (.int (x <<< (y &&& 31)) :: st) res) : Jp X ad cid nL Q M pc lv (.int y :: .int x :: st) res :=
  fun out ho ls H locs hl hP hS => lv_ishl hC.x hC.b hd (k out ho ls H locs hl hP hS)
theorem j_ishr (hC : Ok X ad cid cc own nL ret fr lo) {x y : Int32} (hd : decode cc pc = .ok (.ishr, 1)) (k : Jp X ad cid nL Q M (pc + 1) lv (.int (x >>> (y &&& 31)) :: st) res) : Jp X ad cid nL Q M pc lv (.int y :: .int x :: st) res :=
  fun out ho ls H locs hl hP hS => lv_ishr hC.x hC.b hd (k out ho ls H locs hl hP hS)
theorem j_idiv (hC : Ok X ad cid cc own nL ret fr lo) {x y : Int32} (hd : decode cc pc = .ok (.idiv, 1)) (hy : ¬ y = 0) (k : Jp X ad cid nL Q M (pc + 1) lv (.int (x / y) :: st) res) : Jp X ad cid nL Q M pc lv (.int y :: .int x :: st) res :=
  fun out ho ls H locs hl hP hS => lv_idiv hC.x hC.b hd hy (k out ho ls H locs hl hP hS)
theorem j_irem (hC : Ok X ad cid cc own nL ret fr lo) {x y : Int32} (hd : decode cc pc = .ok (.irem, 1)) (hy : ¬ y = 0) (k : Jp X ad cid nL Q M (pc + 1) lv (.int (x - x / y * y) :: st) res) : Jp X ad cid nL Q M pc lv (.int y :: .int x :: st) res :=
  fun out ho ls H locs hl hP hS => lv_irem hC.x hC.b hd hy (k out ho ls H locs hl hP hS)
theorem j_ladd (hC : Ok X ad cid cc own nL ret fr lo) {x y : Int64} (hd : decode cc pc = .ok (.ladd, 1)) (k : Jp X ad cid nL Q M (pc + 1) lv (.long (x + y) :: st) res) : Jp X ad cid nL Q M pc lv (.long y :: .long x :: st) res :=
  fun out ho ls H locs hl hP hS => lv_ladd hC.x hC.b hd (k out ho ls H locs hl hP hS)
theorem j_dup (hC : Ok X ad cid cc own nL ret fr lo) {v : Value} (hd : decode cc pc = .ok (.dup, 1)) (hv : v.category = 1) (k : Jp X ad cid nL Q M (pc + 1) lv (v :: v :: st) res) : Jp X ad cid nL Q M pc lv (v :: st) res :=
  fun out ho ls H locs hl hP hS => lv_dup hC.x hC.b hd hv (k out ho ls H locs hl hP hS)
theorem j_dup2 (hC : Ok X ad cid cc own nL ret fr lo) {v w : Value} (hd : decode cc pc = .ok (.dup2, 1)) (hv : v.category = 1) (hw : w.category = 1) (k : Jp X ad cid nL Q M (pc + 1) lv (v :: w :: v :: w :: st) res) : Jp X ad cid nL Q M pc lv (v :: w :: st) res :=
  fun out ho ls H locs hl hP hS => lv_dup2_11 hC.x hC.b hd hv hw (k out ho ls H locs hl hP hS)
theorem j_pop (hC : Ok X ad cid cc own nL ret fr lo) {v : Value} (hd : decode cc pc = .ok (.pop, 1)) (hv : v.category = 1) (k : Jp X ad cid nL Q M (pc + 1) lv st res) : Jp X ad cid nL Q M pc lv (v :: st) res :=
  fun out ho ls H locs hl hP hS => lv_pop hC.x hC.b hd hv (k out ho ls H locs hl hP hS)
theorem j_dup_x1 (hC : Ok X ad cid cc own nL ret fr lo) {v w : Value} (hd : decode cc pc = .ok (.dup_x1, 1)) (hv : v.category = 1) (hw : w.category = 1) (k : Jp X ad cid nL Q M (pc + 1) lv (v :: w :: v :: st) res) : Jp X ad cid nL Q M pc lv (v :: w :: st) res :=
  fun out ho ls H locs hl hP hS => lv_dup_x1 hC.x hC.b hd hv hw (k out ho ls H locs hl hP hS)
theorem j_goto (hC : Ok X ad cid cc own nL ret fr lo) {off : Int} {tgt : Nat} (hd : decode cc pc = .ok (.goto off, 3)) (ht : (pc : Int) + off = (tgt : Int)) (k : Jp X ad cid nL Q M tgt lv st res) : Jp X ad cid nL Q M pc lv st res :=
  fun out ho ls H locs hl hP hS => lv_goto hC.x hC.b hd ht (k out ho ls H locs hl hP hS)
theorem j_if_eq (hC : Ok X ad cid cc own nL ret fr lo) {x : Int32} {off : Int} {tgt : Nat} {ra rb : Option α} (hd : decode cc pc = .ok (.ifCond .eq off, 3)) (ht : (pc : Int) + off = (tgt : Int)) (ka : x = 0 → Jp X ad cid nL Q M tgt lv st ra) (kb : ¬ x = 0 → Jp X ad cid nL Q M (pc + 3) lv st rb) : Jp X ad cid nL Q M pc lv (.int x :: st) (if x = 0 then ra else rb) :=
  fun out ho ls H locs hl hP hS => lv_if_eq hC.x hC.b hd ht (fun h => ka h out (by rw [if_pos h] at ho; exact ho) ls H locs hl hP hS) (fun h => kb h out (by rw [if_neg h] at ho; exact ho) ls H locs hl hP hS)
theorem j_icmp_eq (hC : Ok X ad cid cc own nL ret fr lo) {x y : Int32} {off : Int} {tgt : Nat} {ra rb : Option α} (hd : decode cc pc = .ok (.if_icmp .eq off, 3)) (ht : (pc : Int) + off = (tgt : Int)) (ka : x = y → Jp X ad cid nL Q M tgt lv st ra) (kb : ¬ x = y → Jp X ad cid nL Q M (pc + 3) lv st rb) : Jp X ad cid nL Q M pc lv (.int y :: .int x :: st) (if x = y then ra else rb) :=
  fun out ho ls H locs hl hP hS => lv_icmp_eq hC.x hC.b hd ht (fun h => ka h out (by rw [if_pos h] at ho; exact ho) ls H locs hl hP hS) (fun h => kb h out (by rw [if_neg h] at ho; exact ho) ls H locs hl hP hS)
theorem j_if_lt (hC : Ok X ad cid cc own nL ret fr lo) {x : Int32} {off : Int} {tgt : Nat} {ra rb : Option α} (hd : decode cc pc = .ok (.ifCond .lt off, 3)) (ht : (pc : Int) + off = (tgt : Int)) (ka : x < 0 → Jp X ad cid nL Q M tgt lv st ra) (kb : ¬ x < 0 → Jp X ad cid nL Q M (pc + 3) lv st rb) : Jp X ad cid nL Q M pc lv (.int x :: st) (if x < 0 then ra else rb) :=
  fun out ho ls H locs hl hP hS => lv_if_lt hC.x hC.b hd ht (fun h => ka h out (by rw [if_pos h] at ho; exact ho) ls H locs hl hP hS) (fun h => kb h out (by rw [if_neg h] at ho; exact ho) ls H locs hl hP hS)
theorem j_icmp_lt (hC : Ok X ad cid cc own nL ret fr lo) {x y : Int32} {off : Int} {tgt : Nat} {ra rb : Option α} (hd : decode cc pc = .ok (.if_icmp .lt off, 3)) (ht : (pc : Int) + off = (tgt : Int)) (ka : x < y → Jp X ad cid nL Q M tgt lv st ra) (kb : ¬ x < y → Jp X ad cid nL Q M (pc + 3) lv st rb) : Jp X ad cid nL Q M pc lv (.int y :: .int x :: st) (if x < y then ra else rb) :=
  fun out ho ls H locs hl hP hS => lv_icmp_lt hC.x hC.b hd ht (fun h => ka h out (by rw [if_pos h] at ho; exact ho) ls H locs hl hP hS) (fun h => kb h out (by rw [if_neg h] at ho; exact ho) ls H locs hl hP hS)
theorem j_if_ge (hC : Ok X ad cid cc own nL ret fr lo) {x : Int32} {off : Int} {tgt : Nat} {ra rb : Option α} (hd : decode cc pc = .ok (.ifCond .ge off, 3)) (ht : (pc : Int) + off = (tgt : Int)) (ka : 0 ≤ x → Jp X ad cid nL Q M tgt lv st ra) (kb : ¬ 0 ≤ x → Jp X ad cid nL Q M (pc + 3) lv st rb) : Jp X ad cid nL Q M pc lv (.int x :: st) (if 0 ≤ x then ra else rb) :=
  fun out ho ls H locs hl hP hS => lv_if_ge hC.x hC.b hd ht (fun h => ka h out (by rw [if_pos h] at ho; exact ho) ls H locs hl hP hS) (fun h => kb h out (by rw [if_neg h] at ho; exact ho) ls H locs hl hP hS)
theorem j_icmp_ge (hC : Ok X ad cid cc own nL ret fr lo) {x y : Int32} {off : Int} {tgt : Nat} {ra rb : Option α} (hd : decode cc pc = .ok (.if_icmp .ge off, 3)) (ht : (pc : Int) + off = (tgt : Int)) (ka : y ≤ x → Jp X ad cid nL Q M tgt lv st ra) (kb : ¬ y ≤ x → Jp X ad cid nL Q M (pc + 3) lv st rb) : Jp X ad cid nL Q M pc lv (.int y :: .int x :: st) (if y ≤ x then ra else rb) :=
  fun out ho ls H locs hl hP hS => lv_icmp_ge hC.x hC.b hd ht (fun h => ka h out (by rw [if_pos h] at ho; exact ho) ls H locs hl hP hS) (fun h => kb h out (by rw [if_neg h] at ho; exact ho) ls H locs hl hP hS)
theorem j_if_gt (hC : Ok X ad cid cc own nL ret fr lo) {x : Int32} {off : Int} {tgt : Nat} {ra rb : Option α} (hd : decode cc pc = .ok (.ifCond .gt off, 3)) (ht : (pc : Int) + off = (tgt : Int)) (ka : 0 < x → Jp X ad cid nL Q M tgt lv st ra) (kb : ¬ 0 < x → Jp X ad cid nL Q M (pc + 3) lv st rb) : Jp X ad cid nL Q M pc lv (.int x :: st) (if 0 < x then ra else rb) :=
  fun out ho ls H locs hl hP hS => lv_if_gt hC.x hC.b hd ht (fun h => ka h out (by rw [if_pos h] at ho; exact ho) ls H locs hl hP hS) (fun h => kb h out (by rw [if_neg h] at ho; exact ho) ls H locs hl hP hS)
theorem j_icmp_gt (hC : Ok X ad cid cc own nL ret fr lo) {x y : Int32} {off : Int} {tgt : Nat} {ra rb : Option α} (hd : decode cc pc = .ok (.if_icmp .gt off, 3)) (ht : (pc : Int) + off = (tgt : Int)) (ka : y < x → Jp X ad cid nL Q M tgt lv st ra) (kb : ¬ y < x → Jp X ad cid nL Q M (pc + 3) lv st rb) : Jp X ad cid nL Q M pc lv (.int y :: .int x :: st) (if y < x then ra else rb) :=
  fun out ho ls H locs hl hP hS => lv_icmp_gt hC.x hC.b hd ht (fun h => ka h out (by rw [if_pos h] at ho; exact ho) ls H locs hl hP hS) (fun h => kb h out (by rw [if_neg h] at ho; exact ho) ls H locs hl hP hS)
theorem j_if_le (hC : Ok X ad cid cc own nL ret fr lo) {x : Int32} {off : Int} {tgt : Nat} {ra rb : Option α} (hd : decode cc pc = .ok (.ifCond .le off, 3)) (ht : (pc : Int) + off = (tgt : Int)) (ka : x ≤ 0 → Jp X ad cid nL Q M tgt lv st ra) (kb : ¬ x ≤ 0 → Jp X ad cid nL Q M (pc + 3) lv st rb) : Jp X ad cid nL Q M pc lv (.int x :: st) (if x ≤ 0 then ra else rb) :=
  fun out ho ls H locs hl hP hS => lv_if_le hC.x hC.b hd ht (fun h => ka h out (by rw [if_pos h] at ho; exact ho) ls H locs hl hP hS) (fun h => kb h out (by rw [if_neg h] at ho; exact ho) ls H locs hl hP hS)
theorem j_icmp_le (hC : Ok X ad cid cc own nL ret fr lo) {x y : Int32} {off : Int} {tgt : Nat} {ra rb : Option α} (hd : decode cc pc = .ok (.if_icmp .le off, 3)) (ht : (pc : Int) + off = (tgt : Int)) (ka : x ≤ y → Jp X ad cid nL Q M tgt lv st ra) (kb : ¬ x ≤ y → Jp X ad cid nL Q M (pc + 3) lv st rb) : Jp X ad cid nL Q M pc lv (.int y :: .int x :: st) (if x ≤ y then ra else rb) :=
  fun out ho ls H locs hl hP hS => lv_icmp_le hC.x hC.b hd ht (fun h => ka h out (by rw [if_pos h] at ho; exact ho) ls H locs hl hP hS) (fun h => kb h out (by rw [if_neg h] at ho; exact ho) ls H locs hl hP hS)
theorem j_if_ne (hC : Ok X ad cid cc own nL ret fr lo) {x : Int32} {off : Int} {tgt : Nat} {ra rb : Option α} (hd : decode cc pc = .ok (.ifCond .ne off, 3)) (ht : (pc : Int) + off = (tgt : Int)) (ka : ¬ x = 0 → Jp X ad cid nL Q M tgt lv st ra) (kb : x = 0 → Jp X ad cid nL Q M (pc + 3) lv st rb) : Jp X ad cid nL Q M pc lv (.int x :: st) (if x = 0 then rb else ra) :=
  fun out ho ls H locs hl hP hS => lv_if_ne hC.x hC.b hd ht (fun h => ka h out (by rw [if_neg h] at ho; exact ho) ls H locs hl hP hS) (fun h => kb h out (by rw [if_pos h] at ho; exact ho) ls H locs hl hP hS)
theorem j_icmp_ne (hC : Ok X ad cid cc own nL ret fr lo) {x y : Int32} {off : Int} {tgt : Nat} {ra rb : Option α} (hd : decode cc pc = .ok (.if_icmp .ne off, 3)) (ht : (pc : Int) + off = (tgt : Int)) (ka : ¬ x = y → Jp X ad cid nL Q M tgt lv st ra) (kb : x = y → Jp X ad cid nL Q M (pc + 3) lv st rb) : Jp X ad cid nL Q M pc lv (.int y :: .int x :: st) (if x = y then rb else ra) :=
  fun out ho ls H locs hl hP hS => lv_icmp_ne hC.x hC.b hd ht (fun h => ka h out (by rw [if_neg h] at ho; exact ho) ls H locs hl hP hS) (fun h => kb h out (by rw [if_pos h] at ho; exact ho) ls H locs hl hP hS)
theorem j_ck {c : Prop} [Decidable c] (k : c → Jp X ad cid nL Q M pc lv st res) : Jp X ad cid nL Q M pc lv st (if c then res else none) := by
  intro out ho
  by_cases h : c
  · rw [if_pos h] at ho; exact k h out ho
  · rw [if_neg h] at ho; cases ho
theorem j_get (hC : Ok X ad cid cc own nL ret fr lo) {ci index i : Nat} {C ref : String} {T : u_T} {N : Nat} {fs : List Value} {v : Value} (k : Nat) (hi : i < 126) (hs : shp ad cid M i = .inr (ci, fs)) (hc : vwCl[ci]? = some (C, T, N)) (hin : ∀ w ∈ u_ws C T N, w ∈ wAll) (hk : k < N) (href : (T k).1 = ref) (hw : Cond.fieldLink own index ref (T k).2.1 (T k).2.2.1 ∈ wAll) (hv : fs[k]? = some v) (hd : decode cc pc = .ok (.getfield index, 3)) (kk : Jp X ad cid nL Q M (pc + 3) lv (v :: st) res) : Jp X ad cid nL Q M pc lv (.ref (ad i) :: st) res :=
  fun out ho ls H locs hl hP hS => va_get hC.x hC.b hC.ts hin hC.ow hC.K hP i ((wld_get hi).trans (by rw [hs])) hc k hk (hC.ts _ hw) (fun x h => href ▸ h) hv hd (kk out ho ls H locs hl hP hS)
theorem j_getN (hC : Ok X ad cid cc own nL ret fr lo) {ci index i : Nat} {C ref host : String} {T : u_T} {N : Nat} {fs : List Value} {v : Value} (k : Nat) (hi : i < 126) (hs : shp ad cid M i = .inr (ci, fs)) (hc : vwCl[ci]? = some (C, T, N)) (hin : ∀ w ∈ u_ws C T N, w ∈ wAll) (hk : k < N) (href : (T k).1 = ref) (hw : Cond.fieldLinkNest own index ref (T k).2.1 (T k).2.2.1 host ∈ lw_tbl) (hv : fs[k]? = some v) (hd : decode cc pc = .ok (.getfield index, 3)) (kk : Jp X ad cid nL Q M (pc + 3) lv (v :: st) res) : Jp X ad cid nL Q M pc lv (.ref (ad i) :: st) res :=
  fun out ho ls H locs hl hP hS => va_getN hC.x hC.b hC.ts hin hC.ow hC.K hP i ((wld_get hi).trans (by rw [hs])) hc k hk (va_Nw.use rfl (hC.nest _ hw rfl)) (fun x h => href ▸ h) hv hd (kk out ho ls H locs hl hP hS)
theorem j_put (hC : Ok X ad cid cc own nL ret fr lo) {ci index i : Nat} {C ref : String} {T : u_T} {N : Nat} {fs : List Value} {v : Value} {M' : Mem} {ty : FieldType} (ty0 : Nat → FieldType) (k : Nat) (hi : i < 126) (hs : shp ad cid M i = .inr (ci, fs)) (hs' : shp ad cid M' i = .inr (ci, fs.set k v)) (hM : ∀ j, j ≠ i → gM M' j = gM M j ∧ gL M' j = gL M j) (hc : vwCl[ci]? = some (C, T, N)) (hin : ∀ w ∈ u_ws C T N, w ∈ wAll) (hty : ∀ k, k < N → parseFieldDescriptor (T k).2.2.1 = some (ty0 k)) (hnm : ∀ a, a < N → ∀ b, b < N → a ≠ b → (T a).2.1 ≠ (T b).2.1) (hk : k < N) (href : (T k).1 = ref) (hw : Cond.fieldLink own index ref (T k).2.1 (T k).2.2.1 ∈ wAll) (hfin : (T k).2.2.2 = false) (hdt : parseFieldDescriptor (T k).2.2.1 = some ty) (hn : narrow ty v = v) (hfit : fits ty v = true) (hl : k < fs.length) (hd : decode cc pc = .ok (.putfield index, 3)) (kk : Jp X ad cid nL Q M' (pc + 3) lv st res) : Jp X ad cid nL Q M pc lv (v :: .ref (ad i) :: st) res :=
  fun out ho ls H locs hl2 hP hS => va_put hC.x hC.b hC.ts hin ty0 hty hnm hC.ow hC.K hP (wld_D hC.ly) hS i ((wld_get hi).trans (by rw [hs])) hc k hk (hC.ts _ hw) (fun x h => href ▸ h) hfin hdt hn hfit hl hd (fun H1 locs1 hP1 _ hS1 => kk out ho ls H1 locs1 hl2 (by rw [wld_set hs' hM] at hP1; exact hP1) hS1)
theorem j_putN (hC : Ok X ad cid cc own nL ret fr lo) {ci index i : Nat} {C ref host : String} {T : u_T} {N : Nat} {fs : List Value} {v : Value} {M' : Mem} {ty : FieldType} (ty0 : Nat → FieldType) (k : Nat) (hi : i < 126) (hs : shp ad cid M i = .inr (ci, fs)) (hs' : shp ad cid M' i = .inr (ci, fs.set k v)) (hM : ∀ j, j ≠ i → gM M' j = gM M j ∧ gL M' j = gL M j) (hc : vwCl[ci]? = some (C, T, N)) (hin : ∀ w ∈ u_ws C T N, w ∈ wAll) (hty : ∀ k, k < N → parseFieldDescriptor (T k).2.2.1 = some (ty0 k)) (hnm : ∀ a, a < N → ∀ b, b < N → a ≠ b → (T a).2.1 ≠ (T b).2.1) (hk : k < N) (href : (T k).1 = ref) (hw : Cond.fieldLinkNest own index ref (T k).2.1 (T k).2.2.1 host ∈ lw_tbl) (hfin : (T k).2.2.2 = false) (hdt : parseFieldDescriptor (T k).2.2.1 = some ty) (hn : narrow ty v = v) (hfit : fits ty v = true) (hl : k < fs.length) (hd : decode cc pc = .ok (.putfield index, 3)) (kk : Jp X ad cid nL Q M' (pc + 3) lv st res) : Jp X ad cid nL Q M pc lv (v :: .ref (ad i) :: st) res :=
  fun out ho ls H locs hl2 hP hS => va_putN hC.x hC.b hC.ts hin ty0 hty hnm hC.ow hC.K hP (wld_D hC.ly) hS i ((wld_get hi).trans (by rw [hs])) hc k hk (va_Nw.use rfl (hC.nest _ hw rfl)) (fun x h => href ▸ h) hfin hdt hn hfit hl hd (fun H1 locs1 hP1 _ hS1 => kk out ho ls H1 locs1 hl2 (by rw [wld_set hs' hM] at hP1; exact hP1) hS1)
theorem sM_other (M : Mem) (i k : Nat) (v : Int32) : ∀ j, j ≠ i → gM (sM M i k v) j = gM M j ∧ gL (sM M i k v) j = gL M j := fun j hj => ⟨funext fun l => g_si hj, rfl⟩
theorem sL_other (M : Mem) (i : Nat) (v : Int64) : ∀ j, j ≠ i → gM (sL M i v) j = gM M j ∧ gL (sL M i v) j = gL M j := fun j hj => ⟨rfl, by rw [l_sL, if_neg hj]⟩
theorem shp_0 {i : Nat} (h : shK i = 0) : shp ad cid M i = .inl (cid 0, shN i, .inl (gM M i)) := by simp only [shp, h]
theorem shp_1 {i : Nat} (h : shK i = 1) : shp ad cid M i = .inl (cid 1, shN i, .inl (gM M i)) := by simp only [shp, h]
theorem shp_2 {i : Nat} (h : shK i = 2) : shp ad cid M i = .inl (cid 2, shN i, .inr (.inl (fun j => if j = 0 then gL M i else 0))) := by simp only [shp, h]
theorem shp_3 {i : Nat} (h : shK i = 3) : shp ad cid M i = .inl (cid 3, shN i, .inr (.inr (.inr (.inr (fun j => if j < shN i then some (ad (shB i + 3 * j)) else none))))) := by simp only [shp, h]
theorem shp_4 {i : Nat} (h : shK i = 4) : shp ad cid M i = .inl (cid 4, shN i, .inr (.inr (.inr (.inr (fun j => if j < shN i then some (ad (103 + j)) else none))))) := by simp only [shp, h]
theorem shK_lt {i : Nat} (h : shK i ≠ 99) : i < 126 := by
  rcases Nat.lt_or_ge i 126 with q | q
  · exact q
  · exact absurd (by unfold shK; rw [List.getD_eq_getElem?_getD, List.getElem?_eq_none (by exact q)]; rfl) h
theorem j_iald (hC : Ok X ad cid cc own nL ret fr lo) {i n : Nat} {x : Int32} (hk : shK i = 0) (hn : shN i = n) (hb : inB x n) (hd : decode cc pc = .ok (.iaload, 1)) (kk : Jp X ad cid nL Q M (pc + 1) lv (.int (gM M i x.toNatClampNeg) :: st) res) : Jp X ad cid nL Q M pc lv (.int x :: .ref (ad i) :: st) res :=
  fun out ho ls H locs hl hP hS => va_iald hC.x hC.b hC.K hP i 0 ((wld_get (shK_lt (by rw [hk]; decide))).trans (by rw [shp_0 hk, hn])) rfl (vp_in_iff.mpr hb) hd (kk out ho ls H locs hl hP hS)
theorem j_zald (hC : Ok X ad cid cc own nL ret fr lo) {i n : Nat} {x : Int32} (hk : shK i = 1) (hn : shN i = n) (hb : inB x n) (hd : decode cc pc = .ok (.baload, 1)) (kk : Jp X ad cid nL Q M (pc + 1) lv (.int (gM M i x.toNatClampNeg) :: st) res) : Jp X ad cid nL Q M pc lv (.int x :: .ref (ad i) :: st) res :=
  fun out ho ls H locs hl hP hS => va_zald hC.x hC.b hC.K hP i 1 ((wld_get (shK_lt (by rw [hk]; decide))).trans (by rw [shp_1 hk, hn])) rfl (vp_in_iff.mpr hb) hd (kk out ho ls H locs hl hP hS)
theorem j_lald (hC : Ok X ad cid cc own nL ret fr lo) {i n : Nat} {x : Int32} (hk : shK i = 2) (hn : shN i = n) (hb : inB x n) (h0 : x.toNatClampNeg = 0) (hd : decode cc pc = .ok (.laload, 1)) (kk : Jp X ad cid nL Q M (pc + 1) lv (.long (gL M i) :: st) res) : Jp X ad cid nL Q M pc lv (.int x :: .ref (ad i) :: st) res :=
  fun out ho ls H locs hl hP hS => va_lald hC.x hC.b hC.K hP i 2 ((wld_get (shK_lt (by rw [hk]; decide))).trans (by rw [shp_2 hk, hn])) rfl (vp_in_iff.mpr hb) hd (by simp only [h0, if_true]; exact kk out ho ls H locs hl hP hS)
theorem j_iast (hC : Ok X ad cid cc own nL ret fr lo) {i n : Nat} {x v : Int32} (hk : shK i = 0) (hn : shN i = n) (hb : inB x n) (hd : decode cc pc = .ok (.iastore, 1)) (kk : Jp X ad cid nL Q (sM M i x.toNatClampNeg v) (pc + 1) lv st res) : Jp X ad cid nL Q M pc lv (.int v :: .int x :: .ref (ad i) :: st) res :=
  fun out ho ls H locs hl hP hS => va_iast hC.x hC.b hC.K hP (wld_D hC.ly) hS i 0 ((wld_get (shK_lt (by rw [hk]; decide))).trans (by rw [shp_0 hk, hn])) rfl (vp_in_iff.mpr hb) hd (fun H1 locs1 hP1 _ hS1 => kk out ho ls H1 locs1 hl (by
    rw [wld_set (N := sM M i x.toNatClampNeg v) (by rw [shp_0 hk, hn, show gM (sM M i x.toNatClampNeg v) i = upd (gM M i) x.toNatClampNeg v from funext fun l => by simp [g_s, upd]]) (sM_other M i _ v)] at hP1; exact hP1) hS1)
theorem j_zast (hC : Ok X ad cid cc own nL ret fr lo) {i n : Nat} {x v : Int32} (hk : shK i = 1) (hn : shN i = n) (hb : inB x n) (hv : vp_nar .boolean v = v) (hd : decode cc pc = .ok (.bastore, 1)) (kk : Jp X ad cid nL Q (sM M i x.toNatClampNeg v) (pc + 1) lv st res) : Jp X ad cid nL Q M pc lv (.int v :: .int x :: .ref (ad i) :: st) res :=
  fun out ho ls H locs hl hP hS => va_zast hC.x hC.b hC.K hP (wld_D hC.ly) hS i 1 ((wld_get (shK_lt (by rw [hk]; decide))).trans (by rw [shp_1 hk, hn])) rfl (vp_in_iff.mpr hb) hd (fun H1 locs1 hP1 _ hS1 => kk out ho ls H1 locs1 hl (by
    rw [hv, wld_set (N := sM M i x.toNatClampNeg v) (by rw [shp_1 hk, hn, show gM (sM M i x.toNatClampNeg v) i = upd (gM M i) x.toNatClampNeg v from funext fun l => by simp [g_s, upd]]) (sM_other M i _ v)] at hP1; exact hP1) hS1)
theorem j_last (hC : Ok X ad cid cc own nL ret fr lo) {i n : Nat} {x : Int32} {v : Int64} (hk : shK i = 2) (hn : shN i = n) (hb : inB x n) (h0 : x.toNatClampNeg = 0) (hd : decode cc pc = .ok (.lastore, 1)) (kk : Jp X ad cid nL Q (sL M i v) (pc + 1) lv st res) : Jp X ad cid nL Q M pc lv (.long v :: .int x :: .ref (ad i) :: st) res :=
  fun out ho ls H locs hl hP hS => va_last hC.x hC.b hC.K hP (wld_D hC.ly) hS i 2 ((wld_get (shK_lt (by rw [hk]; decide))).trans (by rw [shp_2 hk, hn])) rfl (vp_in_iff.mpr hb) hd (fun H1 locs1 hP1 _ hS1 => kk out ho ls H1 locs1 hl (by
    rw [wld_set (N := sL M i v) (by rw [shp_2 hk, hn, h0, show (fun j => if j = 0 then gL (sL M i v) i else 0) = vp_updL (fun j => if j = 0 then gL M i else 0) 0 v from funext fun l => by by_cases hl0 : l = 0 <;> simp [l_sL, vp_updL, hl0]]) (sL_other M i v)] at hP1; exact hP1) hS1)
theorem j_aald (hC : Ok X ad cid cc own nL ret fr lo) {i n b0 : Nat} {x : Int32} (hk : shK i = 3) (hn : shN i = n) (hB : shB i = b0) (hb : inB x n) (hd : decode cc pc = .ok (.aaload, 1)) (kk : Jp X ad cid nL Q M (pc + 1) lv (.ref (ad (b0 + 3 * x.toNatClampNeg)) :: st) res) : Jp X ad cid nL Q M pc lv (.int x :: .ref (ad i) :: st) res :=
  fun out ho ls H locs hl hP hS => va_aldq hC.x hC.b hC.K hP i 3 ((wld_get (shK_lt (by rw [hk]; decide))).trans (by rw [shp_3 hk, hn])) rfl (vp_in_iff.mpr hb) hd (by simp only [inB_lt hb, if_true, hB]; exact kk out ho ls H locs hl hP hS)
theorem j_aaldP (hC : Ok X ad cid cc own nL ret fr lo) {i n : Nat} {x : Int32} (hk : shK i = 4) (hn : shN i = n) (hb : inB x n) (hd : decode cc pc = .ok (.aaload, 1)) (kk : Jp X ad cid nL Q M (pc + 1) lv (.ref (ad (103 + x.toNatClampNeg)) :: st) res) : Jp X ad cid nL Q M pc lv (.int x :: .ref (ad i) :: st) res :=
  fun out ho ls H locs hl hP hS => va_aldq hC.x hC.b hC.K hP i 4 ((wld_get (shK_lt (by rw [hk]; decide))).trans (by rw [shp_4 hk, hn])) rfl (vp_in_iff.mpr hb) hd (by simp only [inB_lt hb, if_true]; exact kk out ho ls H locs hl hP hS)
theorem j_alen0 (hC : Ok X ad cid cc own nL ret fr lo) {i : Nat} {v : Int32} (hk : shK i = 0) (hv : Int32.ofNat (shN i) = v) (hd : decode cc pc = .ok (.arraylength, 1)) (kk : Jp X ad cid nL Q M (pc + 1) lv (.int v :: st) res) : Jp X ad cid nL Q M pc lv (.ref (ad i) :: st) res :=
  fun out ho ls H locs hl hP hS => va_alen hC.x hC.b hC.K hP i 0 ((wld_get (shK_lt (by rw [hk]; decide))).trans (by rw [shp_0 hk])) rfl hv hd (kk out ho ls H locs hl hP hS)
theorem j_alen3 (hC : Ok X ad cid cc own nL ret fr lo) {i : Nat} {v : Int32} (hk : shK i = 3) (hv : Int32.ofNat (shN i) = v) (hd : decode cc pc = .ok (.arraylength, 1)) (kk : Jp X ad cid nL Q M (pc + 1) lv (.int v :: st) res) : Jp X ad cid nL Q M pc lv (.ref (ad i) :: st) res :=
  fun out ho ls H locs hl hP hS => va_alen hC.x hC.b hC.K hP i 3 ((wld_get (shK_lt (by rw [hk]; decide))).trans (by rw [shp_3 hk])) rfl hv hd (kk out ho ls H locs hl hP hS)
theorem j_alen4 (hC : Ok X ad cid cc own nL ret fr lo) {i : Nat} {v : Int32} (hk : shK i = 4) (hv : Int32.ofNat (shN i) = v) (hd : decode cc pc = .ok (.arraylength, 1)) (kk : Jp X ad cid nL Q M (pc + 1) lv (.int v :: st) res) : Jp X ad cid nL Q M pc lv (.ref (ad i) :: st) res :=
  fun out ho ls H locs hl hP hS => va_alen hC.x hC.b hC.K hP i 4 ((wld_get (shK_lt (by rw [hk]; decide))).trans (by rw [shp_4 hk])) rfl hv hd (kk out ho ls H locs hl hP hS)
end JR
