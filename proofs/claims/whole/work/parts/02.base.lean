/-! worlds of mine: the heap's size, shapes (kind, length) by address, contents; kinds 0..10: objects of vwCl, 11: int[], 12: long[], 13: Walk[], 14: Fact[], 15: Net[] -/
abbrev Sg : Type := Nat × (Nat → Option (Nat × Nat)) × (Nat → Nat → Value)
abbrev Cx : Type := Launch × va_G × (Nat → ClassId) × Nat × Nat × (Nat → Int32)
abbrev Mt : Type := MethodName × ByteArray × Nat × Option FieldType
abbrev Ev : Type := Room × (Nat → Prop) × Nat × Nat × (Option Value → Sg → Prop)
abbrev Lv : Type := List (Nat × Value)
def tgF (t : Nat) : FieldType := match t with
  | 11 => .int
  | 12 => .long
  | 13 => .object "SnowTracks$Walk"
  | 14 => .object "SnowTracks$Fact"
  | _ => .object "SnowTracks$Net"
def tysG (G : Cx) : List (ClassId × FieldType) := [(G.2.2.1 11, tgF 11), (G.2.2.1 12, tgF 12), (G.2.2.1 13, tgF 13), (G.2.2.1 14, tgF 14), (G.2.2.1 15, tgF 15)]
def celR (G : Cx) (H : Heap) (a t n : Nat) (f : Nat → Value) : Prop :=
  (t < 11 ∧ ∃ r : vw_C, vwCl[t]? = some r ∧ n = r.2.2 ∧ t_OB a (G.2.1.1 t) r.2.2 (G.2.1.2 t) H f) ∨ (11 ≤ t ∧ H[a]? = some (arrV (G.2.2.1 t) n f))
def RepS (G : Cx) (H : Heap) (σ : Sg) : Prop := H.size = σ.1 ∧ σ.2.1 G.2.2.2.1 = none ∧ ∀ a t n, σ.2.1 a = some (t, n) → celR G H a t n (σ.2.2 a)
def isNe : Cond → Bool
  | .fieldLinkNest .. => true
  | .methodLinkNest .. => true
  | _ => false
def KS (G : Cx) (U : State) : Prop := va_K G.2.1 vwCl (tysG G) U ∧ (∀ w ∈ lw_tbl, isNe w = true → va_Nw w U) ∧ va_AO "SnowTracks$Walk" U ∧ va_AO "SnowTracks$Fact" U ∧ va_AO "SnowTracks$Net" U
def XS (G : Cx) (U : State) (H : Heap) : Prop := va_X G.2.2.2.1 G.2.2.2.2.1 G.2.2.2.2.2 U H ∧ G.2.2.2.1 < H.size
theorem KS.warm {G : Cx} {s U : State} (hW : s.WarmedH U.vm) (h : KS G s) : KS G U := by
  obtain ⟨h1, h2, h3, h4, h5⟩ := h
  refine ⟨va_K.moved hW.alike h1, fun w hw hn => ?_, h3.moved hW.alike, h4.moved hW.alike, h5.moved hW.alike⟩
  have h := h2 w hw hn
  cases w <;> first | (exact absurd hn (by decide)) | (exact va_Nw.warmF hW h) | (exact va_Nw.warmM hW h) | (simp [isNe] at hn)
theorem KS.same {G : Cx} {s U : State} (hv : s.vm = U.vm) (h : KS G s) : KS G U := by
  obtain ⟨h1, h2, h3, h4, h5⟩ := h
  have ha : s.vm.Alike U.vm := by rw [hv]; exact Vm.Alike.refl _
  refine ⟨va_K.moved ha h1, fun w hw hn => ?_, h3.moved ha, h4.moved ha, h5.moved ha⟩
  have h := h2 w hw hn
  cases w <;> first | (exact absurd hn (by decide)) | (exact va_Nw.same rfl hv h) | (simp [isNe] at hn)
theorem XS.moved {G : Cx} {s U : State} {H : Heap} (hvm : s.vm.Alike U.vm) (h : XS G s H) : XS G U H := ⟨h.1.moved hvm, h.2⟩
/-- what a method may write -/
def Aof (σ : Sg) : Nat → Prop := fun q => σ.2.1 q ≠ none ∨ σ.1 ≤ q
def PcS (G : Cx) (vs : List Value) (σ : Sg) : Array Value → State → Prop := va_Pc vs (fun U => RepS G U.heap σ ∧ KS G U ∧ XS G U U.heap)
def QcS (G : Cx) (Q : Option Value → Sg → Prop) (A : Nat → Prop) : Array Value → State → Outcome → State → Prop := fun _ st o t =>
  (∃ (r : Option Value) (σ' : Sg), o = .returned r ∧ Q r σ' ∧ RepS G t.heap σ' ∧ ∀ a, σ'.2.1 a ≠ none → A a) ∧ va_F A st t
def wsM (mt : Mt) : List Cond := Cond.code mt.1 mt.2.1 mt.2.2.1 mt.2.2.2 :: lw_tbl.filter goodWord
/-- a method's contract: frames fr, locals lo, new cells mc of ms slots -/
def BM (G : Cx) (mt : Mt) (fr lo mc ms : Nat) (vs : List Value) (σ : Sg) (Q : Option Value → Sg → Prop) : Prop :=
  Met G.1 mt.1 (wsM mt) ({ frames := fr, cells := mc, slots := ms, locals := lo }) (PcS G vs σ) (QcS G Q (Aof σ)) mc ms (Aof σ)
/-- what stays through a method's body -/
def EntB (G : Cx) (mt : Mt) (A : Nat → Prop) (p : Program) (s : State) (m : MethodId) (args : Array Value) (meth : Method) (c : Code) : Prop :=
  p.tables.exec = Jvm.exec ∧ c.code = mt.2.1 ∧ meth.sig.returnType = mt.2.2.2 ∧ meth.locks = false ∧ c.maxLocals = mt.2.2.1 ∧ s.vm.findClass mt.1.cls = some m.cls ∧ (∀ w ∈ lw_tbl, goodWord w = true → w.before args s = true) ∧ KS G s ∧ XS G s s.heap ∧ ¬ A G.2.2.2.1 ∧ (∀ q, s.heap.size ≤ q → A q) ∧ meth.name = mt.1.name ∧ (∀ w ∈ wsM mt, w.before args s = true)
def BW (G : Cx) (mt : Mt) (E : Ev) (cells slots pc : Nat) (lv : Lv) (st : List Value) (σ : Sg) : Prop :=
  ∀ (p : Program) (e : Env) (s : State) (m : MethodId) (args : Array Value) (below : List Frame) (meth : Method) (c : Code) (H : Heap) (locs : List Loc) (ls : Array Slot),
    EntB G mt E.2.1 p s m args meth c → RepS G H σ → va_S E.2.1 s.heap H locs → (∀ a, σ.2.1 a ≠ none → E.2.1 a) → lv_has ls mt.2.2.1 lv →
    W p G.1 e E.1 s m args below meth c H locs cells slots (MQ below (QcS G E.2.2.2.2 E.2.1) args s E.2.2.1 E.2.2.2.1 E.2.1) (F0 m pc ls st)
theorem celR.lt {G : Cx} {H : Heap} {a t n : Nat} {f : Nat → Value} (h : celR G H a t n f) : a < H.size := by
  rcases h with ⟨-, r, -, -, cell, h, -⟩ | ⟨-, h⟩
  · exact (Array.getElem?_eq_some_iff.mp h).1
  · exact (Array.getElem?_eq_some_iff.mp h).1
theorem celR.kept {G : Cx} {H H1 : Heap} {a t n : Nat} {f : Nat → Value} (h : celR G H a t n f) (hq : H1[a]? = H[a]?) : celR G H1 a t n f := by
  rcases h with ⟨h0, r, h1, h2, h3⟩ | ⟨h0, h⟩
  · exact Or.inl ⟨h0, r, h1, h2, h3.kept hq⟩
  · exact Or.inr ⟨h0, hq.trans h⟩
theorem frameBlindS (G : Cx) (vs : List Value) (σ : Sg) : FrameBlind (PcS G vs σ) := fun a U g mk q => by
  obtain ⟨q0, q1, q2, q3⟩ := q
  exact ⟨q0, q1, KS.same (show U.vm = (U.calling g mk a).vm from rfl) q2, q3.moved (Vm.Alike.refl U.vm)⟩
/-- a body's walk is its contract -/
theorem BM.of {G : Cx} {mt : Mt} {fr lo mc ms : Nat} {vs : List Value} {σ : Sg} {Q : Option Value → Sg → Prop} (hy : plainName mt.1.cls = true) (hl : (lg_sl vs).length ≤ mt.2.2.1)
    (h : BW G mt (({ frames := fr, cells := mc, slots := ms, locals := lo }), Aof σ, mc, ms, Q) 0 0 0 (lv_args 0 vs) [] σ) : BM G mt fr lo mc ms vs σ Q := by
  refine Met.ofW (cc := mt.2.1) (maxL := mt.2.2.1) (ret := mt.2.2.2) hy rfl ?_
  intro p e s m args below meth c s₁ B hml hv
  obtain ⟨rfl, hR, hK, hX⟩ := hv
  have hts := atoms_spec (ws := wsM mt) B.pre
  have hbA : ¬ Aof σ G.2.2.2.1 := fun h => by
    rcases h with h | h
    · exact h hR.2.1
    · have := hX.2
      rw [hR.1] at this
      omega
  rw [lg_entry_eq]
  refine h p e s m _ below meth c s.heap [] _ ⟨B.exec, B.bytes, B.returns, B.notSynchronized, hml, findClass_of_methodNamed B.named, fun w hw hg => hts w (List.mem_cons_of_mem _ (List.mem_filter.mpr ⟨hw, hg⟩)), hK, hX, hbA, fun q hq => Or.inr (by rw [← hR.1]; exact hq), (name_of_methodNamed B.named B.method).1, hts⟩ hR va_S.rf (fun a ha => Or.inl ha) (lv_entry vs hl)
/-! ===== straight stretches: no heap, no jump ===== -/
def lnI : Instr → Nat
  | .bipush _ | .iload _ | .aload _ | .istore _ | .astore _ | .newarray _ | .ldc _ => 2
  | .iconst _ | .iload_n _ | .aload_n _ | .istore_n _ | .astore_n _ | .iadd | .isub | .imul | .idiv | .irem | .ineg | .iand | .ior | .ixor | .ishl | .ishr | .iushr | .dup | .dup2 | .pop | .aconst_null | .i2l | .lcmp | .iaload | .iastore | .aaload | .aastore | .laload | .lastore | .arraylength | .ireturn | .areturn | .return_ | .athrow => 1
  | _ => 3
def insL (i : Nat) (v : Value) : Lv → Lv
  | [] => [(i, v)]
  | q :: r => if i < q.1 then (i, v) :: q :: r else q :: insL i v r
def putL (i : Nat) (v : Value) (lv : Lv) : Lv := insL i v (lv.filter (fun q => !(q.1 == i) && !(q.1 + 1 == i && q.2.category == 2)))
def getL (i : Nat) : Lv → Option Value
  | [] => none
  | q :: r => if q.1 = i then some q.2 else getL i r
theorem insL_mem {i : Nat} {v : Value} : ∀ {lv : Lv} {q : Nat × Value}, q ∈ insL i v lv → q ∈ (i, v) :: lv
  | [], q, h => h
  | a :: r, q, h => by
    unfold insL at h
    split at h
    · exact h
    · rcases List.mem_cons.mp h with h | h
      · rw [h]; simp
      · rcases List.mem_cons.mp (insL_mem h) with h | h
        · rw [h]; simp
        · simp [h]
theorem getL_mem {i : Nat} {v : Value} : ∀ {lv : Lv}, getL i lv = some v → (i, v) ∈ lv
  | [], h => by cases h
  | a :: r, h => by
    unfold getL at h
    split at h
    · rename_i hi
      cases h
      rw [← hi]; simp
    · exact List.mem_cons_of_mem _ (getL_mem h)
theorem lv_get {ls : Array Slot} {nL : Nat} {lv : Lv} (h : lv_has ls nL lv) {i : Nat} {v : Value} (hg : getL i lv = some v) : ls[i]? = some (.val v) := h.2.2 _ (getL_mem hg)
theorem lv_put {ls : Array Slot} {nL : Nat} {lv : Lv} {i : Nat} {v : Value} (h : lv_has ls nL ((i, v) :: lv.filter (fun q => !(q.1 == i) && !(q.1 + 1 == i && q.2.category == 2)))) : lv_has ls nL (putL i v lv) := ⟨h.1, h.2.1, fun q hq => h.2.2 q (insL_mem hq)⟩
def st1 (nL : Nat) (i : Instr) (lv : Lv) (st : List Value) : Option (Lv × List Value) :=
  match i with
  | .iconst n => some (lv, .int (Int32.ofInt n) :: st)
  | .bipush n => some (lv, .int (Int8.ofInt n).toInt32 :: st)
  | .sipush n => some (lv, .int (Int16.ofInt n).toInt32 :: st)
  | .aconst_null => some (lv, .null :: st)
  | .iload_n k => match getL k lv with | some (.int x) => some (lv, .int x :: st) | _ => none
  | .iload k => match getL k lv with | some (.int x) => some (lv, .int x :: st) | _ => none
  | .aload_n k => match getL k lv with | some (.ref x) => some (lv, .ref x :: st) | some .null => some (lv, .null :: st) | _ => none
  | .aload k => match getL k lv with | some (.ref x) => some (lv, .ref x :: st) | some .null => some (lv, .null :: st) | _ => none
  | .istore_n k => match st with | .int x :: r => if k.val < nL then some (putL k (.int x) lv, r) else none | _ => none
  | .istore k => match st with | .int x :: r => if k < nL then some (putL k (.int x) lv, r) else none | _ => none
  | .astore_n k => match st with | .ref x :: r => if k.val < nL then some (putL k (.ref x) lv, r) else none | .null :: r => if k.val < nL then some (putL k .null lv, r) else none | _ => none
  | .astore k => match st with | .ref x :: r => if k < nL then some (putL k (.ref x) lv, r) else none | .null :: r => if k < nL then some (putL k .null lv, r) else none | _ => none
  | .iinc k n => match getL k lv with | some (.int x) => if k < nL then some (putL k (.int (x + Int32.ofInt n)) lv, st) else none | _ => none
  | .iadd => match st with | .int y :: .int x :: r => some (lv, .int (x + y) :: r) | _ => none
  | .isub => match st with | .int y :: .int x :: r => some (lv, .int (x - y) :: r) | _ => none
  | .imul => match st with | .int y :: .int x :: r => some (lv, .int (x * y) :: r) | _ => none
  | .iand => match st with | .int y :: .int x :: r => some (lv, .int (x &&& y) :: r) | _ => none
  | .ior => match st with | .int y :: .int x :: r => some (lv, .int (x ||| y) :: r) | _ => none
  | .ixor => match st with | .int y :: .int x :: r => some (lv, .int (x ^^^ y) :: r) | _ => none
  | .ishl => match st with | .int y :: .int x :: r => some (lv, .int (x <<< (y &&& 31)) :: r) | _ => none
  | .ishr => match st with | .int y :: .int x :: r => some (lv, .int (x >>> (y &&& 31)) :: r) | _ => none
  | .iushr => match st with | .int y :: .int x :: r => some (lv, .int (x.toUInt32 >>> (y.toUInt32 &&& Int32.toUInt32 31)).toInt32 :: r) | _ => none
  | .ineg => match st with | .int x :: r => some (lv, .int (-x) :: r) | _ => none
  | .dup => match st with | .int x :: r => some (lv, .int x :: .int x :: r) | .ref x :: r => some (lv, .ref x :: .ref x :: r) | _ => none
  | .dup2 => match st with | .int x :: .ref y :: r => some (lv, .int x :: .ref y :: .int x :: .ref y :: r) | _ => none
  | .pop => match st with | .int _ :: r => some (lv, r) | .ref _ :: r => some (lv, r) | .null :: r => some (lv, r) | _ => none
  | _ => none
def stL (nL : Nat) : List Instr → Lv → List Value → Option (Lv × List Value)
  | [], lv, st => some (lv, st)
  | i :: r, lv, st => match st1 nL i lv st with
    | some q => stL nL r q.1 q.2
    | none => none
def lnL : List Instr → Nat
  | [] => 0
  | i :: r => lnI i + lnL r
def dcL (cc : ByteArray) : Nat → List Instr → Bool
  | _, [] => true
  | pc, i :: r => decide (decode cc pc = .ok (i, lnI i)) && dcL cc (pc + lnI i) r
set_option maxHeartbeats 4000000 in
theorem BW.one {G : Cx} {mt : Mt} {E : Ev} {cells slots pc : Nat} {lv lv' : Lv} {st st' : List Value} {σ : Sg} {i : Instr} (hd : decode mt.2.1 pc = .ok (i, lnI i)) (hs : st1 mt.2.2.1 i lv st = some (lv', st')) (k : BW G mt E cells slots (pc + lnI i) lv' st' σ) : BW G mt E cells slots pc lv st σ := by
  intro p e s m args below meth c H locs ls C hR hS hA hl
  have hx := C.1
  have hb := C.2.1
  have k' := fun ls hl => k p e s m args below meth c H locs ls C hR hS hA hl
  clear k
  cases i <;> first | (cases hs; done) | skip
  all_goals dsimp only [st1] at hs
  case iconst n => cases hs; exact lv_iconst hx hb hd rfl (k' ls hl)
  case bipush n => cases hs; exact lv_bipush hx hb hd rfl (k' ls hl)
  case sipush n => cases hs; exact lv_sipush hx hb hd rfl (k' ls hl)
  case aconst_null => cases hs; exact lv_null hx hb hd (k' ls hl)
  case iload_n n =>
    split at hs
    · rename_i x hg; cases hs; exact lv_iload_n hx hb hd rfl (lv_get hl hg) (k' ls hl)
    · cases hs
  case iload n =>
    split at hs
    · rename_i x hg; cases hs; exact lv_iload hx hb hd (lv_get hl hg) (k' ls hl)
    · cases hs
  case aload_n n =>
    split at hs
    · rename_i x hg; cases hs; exact lv_aload_n hx hb hd rfl (lv_get hl hg) (k' ls hl)
    · rename_i hg; cases hs; exact lv_aload_nN hx hb hd rfl (lv_get hl hg) (k' ls hl)
    · cases hs
  case aload n =>
    split at hs
    · rename_i x hg; cases hs; exact lv_aload hx hb hd (lv_get hl hg) (k' ls hl)
    · rename_i hg; cases hs; exact lv_aloadN hx hb hd (lv_get hl hg) (k' ls hl)
    · cases hs
  case istore_n n =>
    match st, hs with
    | .int x :: r, hs =>
      dsimp only at hs
      split at hs
      · rename_i hn; cases hs; exact lv_istore_n hx hb hd rfl hl hn rfl (fun ls' h' => k' ls' (lv_put h'))
      · cases hs
  case istore n =>
    match st, hs with
    | .int x :: r, hs =>
      dsimp only at hs
      split at hs
      · rename_i hn; cases hs; exact lv_istore hx hb hd hl hn rfl (fun ls' h' => k' ls' (lv_put h'))
      · cases hs
  case astore_n n =>
    match st, hs with
    | .ref x :: r, hs =>
      dsimp only at hs
      split at hs
      · rename_i hn; cases hs; exact lv_astore_n hx hb hd rfl hl hn rfl (fun ls' h' => k' ls' (lv_put h'))
      · cases hs
    | .null :: r, hs =>
      dsimp only at hs
      split at hs
      · rename_i hn; cases hs; exact lv_astore_nN hx hb hd rfl hl hn rfl (fun ls' h' => k' ls' (lv_put h'))
      · cases hs
  case astore n =>
    match st, hs with
    | .ref x :: r, hs =>
      dsimp only at hs
      split at hs
      · rename_i hn; cases hs; exact lv_astore hx hb hd hl hn rfl (fun ls' h' => k' ls' (lv_put h'))
      · cases hs
    | .null :: r, hs =>
      dsimp only at hs
      split at hs
      · rename_i hn; cases hs; exact lv_astoreN hx hb hd hl hn rfl (fun ls' h' => k' ls' (lv_put h'))
      · cases hs
  case iinc n d =>
    split at hs
    · rename_i x hg
      split at hs
      · rename_i hn
        cases hs
        obtain ⟨q, hq⟩ := List.getElem?_of_mem (getL_mem hg)
        exact lv_iinc hx hb hd hl hq rfl hn rfl (fun ls' h' => k' ls' (lv_put h'))
      · cases hs
    · cases hs
  case iadd =>
    match st, hs with
    | .int y :: .int x :: r, hs => cases hs; exact lv_iadd hx hb hd (k' ls hl)
  case isub =>
    match st, hs with
    | .int y :: .int x :: r, hs => cases hs; exact lv_isub hx hb hd (k' ls hl)
  case imul =>
    match st, hs with
    | .int y :: .int x :: r, hs => cases hs; exact lv_imul hx hb hd (k' ls hl)
  case iand =>
    match st, hs with
    | .int y :: .int x :: r, hs => cases hs; exact lv_iand hx hb hd (k' ls hl)
  case ior =>
    match st, hs with
    | .int y :: .int x :: r, hs => cases hs; exact lv_ior hx hb hd (k' ls hl)
  case ixor =>
    match st, hs with
    | .int y :: .int x :: r, hs => cases hs; exact lv_ixor hx hb hd (k' ls hl)
  case ishl =>
    match st, hs with
    | .int y :: .int x :: r, hs => cases hs; exact lv_ishl hx hb hd (k' ls hl)
  case ishr =>
    match st, hs with
    | .int y :: .int x :: r, hs => cases hs; exact lv_ishr hx hb hd (k' ls hl)
  case iushr =>
    match st, hs with
    | .int y :: .int x :: r, hs => cases hs; exact lv_iushr hx hb hd rfl (k' ls hl)
  case ineg =>
    match st, hs with
    | .int x :: r, hs => cases hs; exact lv_ineg hx hb hd (k' ls hl)
  case dup =>
    match st, hs with
    | .int x :: r, hs => cases hs; exact lv_dup hx hb hd rfl (k' ls hl)
    | .ref x :: r, hs => cases hs; exact lv_dup hx hb hd rfl (k' ls hl)
  case dup2 =>
    match st, hs with
    | .int x :: .ref y :: r, hs => cases hs; exact lv_dup2_11 hx hb hd rfl rfl (k' ls hl)
  case pop =>
    match st, hs with
    | .int x :: r, hs => cases hs; exact lv_pop hx hb hd rfl (k' ls hl)
    | .ref x :: r, hs => cases hs; exact lv_pop hx hb hd rfl (k' ls hl)
    | .null :: r, hs => cases hs; exact lv_pop hx hb hd rfl (k' ls hl)
theorem BW.run {G : Cx} {mt : Mt} {E : Ev} {cells slots : Nat} {σ : Sg} : ∀ (is : List Instr) {pc pc' : Nat} {lv lv' : Lv} {st st' : List Value}, dcL mt.2.1 pc is = true → pc + lnL is = pc' → stL mt.2.2.1 is lv st = some (lv', st') → BW G mt E cells slots pc' lv' st' σ → BW G mt E cells slots pc lv st σ
  | [], pc, pc', lv, lv', st, st', _, hp, hs, k => by cases hs; rw [← hp] at k; exact k
  | i :: r, pc, pc', lv, lv', st, st', hd, hp, hs, k => by
    unfold dcL at hd
    simp only [Bool.and_eq_true, decide_eq_true_eq] at hd
    unfold stL at hs
    split at hs
    · rename_i q hq
      obtain ⟨q1, q2⟩ := q
      refine BW.one hd.1 hq (BW.run r hd.2 ?_ hs k)
      have h3 : lnL (i :: r) = lnI i + lnL r := rfl
      omega
    · cases hs
theorem BW.sub {G : Cx} {mt : Mt} {E : Ev} {cells slots pc : Nat} {lv lv' : Lv} {st : List Value} {σ : Sg} (ks : List Nat) (h : lv_pick lv ks = lv') (k : BW G mt E cells slots pc lv' st σ) : BW G mt E cells slots pc lv st σ :=
  fun p e s m args below meth c H locs ls C hR hS hA hl => k p e s m args below meth c H locs ls C hR hS hA (lv_sub hl ks h)
