/-! ===== calls ===== -/
/-- what the tables say of a method -/
def MF (mt : Mt) (n : Nat) : Prop := Cond.code mt.1 mt.2.1 mt.2.2.1 mt.2.2.2 ∈ lw_tbl ∧ Cond.initialized mt.1.cls ∈ lw_tbl ∧ (mt.1.cls ≠ "java/lang/invoke/MethodHandle" ∧ mt.1.cls ≠ "java/lang/invoke/VarHandle" ∧ (parseMethodDescriptor mt.1.desc).map (fun d => d.parameters.length) = some n)
theorem wsM_good {mt : Mt} {n : Nat} (mf : MF mt n) : GoodIn (lw_tbl.filter goodWord) (wsM mt) := by
  intro w hw
  rcases List.mem_cons.mp hw with h | h
  · subst h
    exact ⟨List.mem_filter.mpr ⟨mf.1, rfl⟩, good_of_word rfl⟩
  · exact ⟨h, good_of_word (List.mem_filter.mp h).2⟩
section BWC
variable {G : Cx} {mt mt' : Mt} {E : Ev} {cells slots pc : Nat} {lv : Lv} {st stk : List Value} {σ σ' : Sg} {a b k t idx n n0 : Nat} {C : String} {T : u_T} {N : Nat} {ty : Nat → FieldType} {v : Value} {i x y : Int32} {As : List Value} {Q' : Option Value → Sg → Prop} {fr lo mc ms : Nat}
variable {p : Program} {e : Env} {s : State} {m : MethodId} {args : Array Value} {below : List Frame} {meth : Method} {c : Code} {H : Heap} {locs : List Loc} {ls : Array Slot}
theorem PcS.now {vs : List Value} (C0 : EntB G mt E.2.1 p s m args meth c) (hR : RepS G H σ) (hS : va_S E.2.1 s.heap H locs) : ∀ U : State, U.heap = H → s.WarmedH U.vm → PcS G vs σ vs.toArray U := by
  intro U hU hW
  obtain ⟨-, -, -, -, -, -, -, hK, hX, hbA, -⟩ := C0
  refine ⟨rfl, by rw [hU]; exact hR, hK.warm hW, ?_⟩
  rw [hU]
  exact ⟨(hX.1.kept (hS.2.1 _ hX.2 hbA)).moved hW.alike, Nat.lt_of_lt_of_le hX.2 hS.1⟩
theorem callFin {arr : Array Value} (C0 : EntB G mt E.2.1 p s m args meth c) (hR : RepS G H σ) (hS : va_S E.2.1 s.heap H locs) (hA : ∀ a, σ.2.1 a ≠ none → E.2.1 a) (hl : lv_has ls mt.2.2.1 lv)
    (hr : va_Run p G.1 e E.1 s m args below meth c H locs cells slots mc ms (F0 m pc ls stk) st (QcS G Q' (Aof σ) arr) (Aof σ))
    (kk : ∀ (r : Option Value) (σ' : Sg), Q' r σ' → BW G mt E (cells + mc) (slots + ms) (pc + 3) lv (r.toList ++ st) σ') :
    W p G.1 e E.1 s m args below meth c H locs cells slots (MQ below (QcS G E.2.2.2.2 E.2.1) args s E.2.2.1 E.2.2.2.1 E.2.1) (F0 m pc ls stk) := by
  intro T hT X
  obtain ⟨v, st₀, t, T', L, h0, X', hL, e1, e2, ⟨⟨r, σ', hv, hq, hrep, hdom⟩, hz, hk⟩, stp⟩ := hr T hT X
  cases hv
  rw [h0] at hz hk
  have hAs := C0.2.2.2.2.2.2.2.2.2.2.1
  have sub : ∀ q, Aof σ q → E.2.1 q := fun q h => by
    rcases h with h | h
    · exact hA q h
    · exact hAs q (Nat.le_trans hS.1 (by rw [hR.1]; exact h))
  obtain ⟨t2, a1, b1⟩ := kk v σ' hq p e s m args below meth c T'.heap (locs ++ L) ls C0 (by rw [e1]; exact hrep)
    ⟨Nat.le_trans hS.1 (by rw [e1]; exact hz), fun q h1 h2 => by rw [e1, hk q (Nat.lt_of_lt_of_le h1 hS.1) (fun z => h2 (sub q z))]; exact hS.2.1 q h1 h2, fun q hq => by
      rcases List.mem_append.mp hq with h | h
      · exact hS.2.2 q h
      · exact sub _ (hL q h)⟩ (fun a ha => sub a (hdom a ha)) hl T' rfl X'
  exact ⟨t2, stp t2 a1, b1⟩
theorem callFix (C0 : EntB G mt E.2.1 p s m args meth c) : CallFix p m c mt.2.1 mt.2.2.1 s args (lw_tbl.filter goodWord) mt.1.cls :=
  ⟨C0.1, C0.2.1, C0.2.2.2.2.1, C0.2.2.2.2.2.1, fun w hw => C0.2.2.2.2.2.2.1 w (List.mem_filter.mp hw).1 (List.mem_filter.mp hw).2⟩
theorem recvS (C0 : EntB G mt E.2.1 p s m args meth c) (hR : RepS G H σ) (ci : CI t C T N ty) (hb : σ.2.1 b = some (t, n0)) : ∃ cellB : Cell, H[b]? = some cellB ∧ cellB.vm.isStatics = false ∧ s.vm.findClass C = some cellB.cls := by
  obtain ⟨-, cell, g1, g2, g3, -⟩ := hR.obj ci hb
  exact ⟨cell, g1, by rw [g3]; rfl, by rw [g2]; exact (C0.2.2.2.2.2.2.2.1.1.1 t _ ci.1).2.1⟩
theorem BW.callV (hd : decode mt.2.1 pc = .ok (.invokevirtual idx, 3)) (hM : BM G mt' fr lo mc ms (.ref b :: As) σ Q') (mf : MF mt' n) (hlk : Cond.methodLink mt.1.cls idx mt'.1 ∈ lw_tbl) (him : Cond.instanceMethod mt'.1 ∈ lw_tbl) (hsel : Cond.selects C mt'.1 mt'.1 ∈ lw_tbl) (ci : CI t C T N ty) (hb : σ.2.1 b = some (t, n0)) (hn : As.length = n) (hstk : stk = As.reverse ++ .ref b :: st) (hw : (st.map fun v => v.category).sum ≤ 8)
    (hRm : fr + 1 ≤ E.1.frames ∧ 8 + (mt'.2.2.1 + 11) + lo ≤ E.1.locals) (hf : cells + mc ≤ E.1.cells ∧ slots + ms ≤ E.1.slots) (kk : ∀ (r : Option Value) (σ' : Sg), Q' r σ' → BW G mt E (cells + mc) (slots + ms) (pc + 3) lv (r.toList ++ st) σ') : BW G mt E cells slots pc lv stk σ := by
  intro p e s m args below meth c H locs ls C0 hR hS hA hl
  have hts := C0.2.2.2.2.2.2.1
  refine callFin C0 hR hS hA hl (va_runV (As := As) (C := C) (n := n) (callFix C0) hM ⟨callB_of n (callFix C0).2.2.2.2 (wsM_good mf) rfl rfl rfl (hts _ mf.2.1 rfl) (hts _ hlk rfl) mf.2.2 hRm, hts _ him rfl, hts _ hsel rfl⟩ ⟨frameBlindS _ _ _, recvS C0 hR ci hb, PcS.now C0 hR hS⟩ rfl hn hl.1 hstk (lv_room hw) hd hf) kk
theorem BW.callVN {host : String} (hd : decode mt.2.1 pc = .ok (.invokevirtual idx, 3)) (hM : BM G mt' fr lo mc ms (.ref b :: As) σ Q') (mf : MF mt' n) (hlk : Cond.methodLinkNest mt.1.cls idx mt'.1 host ∈ lw_tbl) (him : Cond.instanceMethod mt'.1 ∈ lw_tbl) (hsel : Cond.selects C mt'.1 mt'.1 ∈ lw_tbl) (ci : CI t C T N ty) (hb : σ.2.1 b = some (t, n0)) (hn : As.length = n) (hstk : stk = As.reverse ++ .ref b :: st) (hw : (st.map fun v => v.category).sum ≤ 8)
    (hRm : fr + 1 ≤ E.1.frames ∧ 8 + (mt'.2.2.1 + 11) + lo ≤ E.1.locals) (hf : cells + mc ≤ E.1.cells ∧ slots + ms ≤ E.1.slots) (kk : ∀ (r : Option Value) (σ' : Sg), Q' r σ' → BW G mt E (cells + mc) (slots + ms) (pc + 3) lv (r.toList ++ st) σ') : BW G mt E cells slots pc lv stk σ := by
  intro p e s m args below meth c H locs ls C0 hR hS hA hl
  have hts := C0.2.2.2.2.2.2.1
  have hK := C0.2.2.2.2.2.2.2.1
  refine callFin C0 hR hS hA hl (va_runVN (As := As) (C := C) (n := n) (callFix C0) hM ⟨va_cnB n (callFix C0).2.2.2.2 (wsM_good mf) rfl rfl rfl (hK.2.1 _ hlk rfl) (hts _ mf.2.1 rfl) mf.2.2 hRm, hts _ him rfl, hts _ hsel rfl⟩ ⟨frameBlindS _ _ _, recvS C0 hR ci hb, PcS.now C0 hR hS⟩ rfl hn hl.1 hstk (lv_room hw) hd hf) kk
theorem BW.callS (hd : decode mt.2.1 pc = .ok (.invokestatic idx, 3)) (hM : BM G mt' fr lo mc ms As σ Q') (mf : MF mt' n) (hlk : Cond.methodLink mt.1.cls idx mt'.1 ∈ lw_tbl) (hst : Cond.static mt'.1 ∈ lw_tbl) (hn : As.length = n) (hstk : stk = As.reverse ++ st) (hw : (st.map fun v => v.category).sum ≤ 8)
    (hRm : fr + 1 ≤ E.1.frames ∧ 8 + (mt'.2.2.1 + 11) + lo ≤ E.1.locals) (hf : cells + mc ≤ E.1.cells ∧ slots + ms ≤ E.1.slots) (kk : ∀ (r : Option Value) (σ' : Sg), Q' r σ' → BW G mt E (cells + mc) (slots + ms) (pc + 3) lv (r.toList ++ st) σ') : BW G mt E cells slots pc lv stk σ := by
  intro p e s m args below meth c H locs ls C0 hR hS hA hl
  have hts := C0.2.2.2.2.2.2.1
  refine callFin C0 hR hS hA hl (va_runS (As := As) (n := n) (callFix C0) hM ⟨callB_of n (callFix C0).2.2.2.2 (wsM_good mf) rfl rfl rfl (hts _ mf.2.1 rfl) (hts _ hlk rfl) mf.2.2 hRm, hts _ hst rfl⟩ ⟨frameBlindS _ _ _, PcS.now C0 hR hS⟩ rfl hn hl.1 hstk (lv_room hw) hd hf) kk
theorem BW.callSN {host : String} (hd : decode mt.2.1 pc = .ok (.invokestatic idx, 3)) (hM : BM G mt' fr lo mc ms As σ Q') (mf : MF mt' n) (hlk : Cond.methodLinkNest mt.1.cls idx mt'.1 host ∈ lw_tbl) (hst : Cond.static mt'.1 ∈ lw_tbl) (hn : As.length = n) (hstk : stk = As.reverse ++ st) (hw : (st.map fun v => v.category).sum ≤ 8)
    (hRm : fr + 1 ≤ E.1.frames ∧ 8 + (mt'.2.2.1 + 11) + lo ≤ E.1.locals) (hf : cells + mc ≤ E.1.cells ∧ slots + ms ≤ E.1.slots) (kk : ∀ (r : Option Value) (σ' : Sg), Q' r σ' → BW G mt E (cells + mc) (slots + ms) (pc + 3) lv (r.toList ++ st) σ') : BW G mt E cells slots pc lv stk σ := by
  intro p e s m args below meth c H locs ls C0 hR hS hA hl
  have hts := C0.2.2.2.2.2.2.1
  have hK := C0.2.2.2.2.2.2.2.1
  refine callFin C0 hR hS hA hl (va_runSN (As := As) (n := n) (callFix C0) hM ⟨va_cnB n (callFix C0).2.2.2.2 (wsM_good mf) rfl rfl rfl (hK.2.1 _ hlk rfl) (hts _ mf.2.1 rfl) mf.2.2 hRm, hts _ hst rfl, trivial⟩ ⟨frameBlindS _ _ _, PcS.now C0 hR hS⟩ rfl hn hl.1 hstk (lv_room hw) hd hf) kk
theorem BW.callI (hd : decode mt.2.1 pc = .ok (.invokespecial idx, 3)) (hM : BM G mt' fr lo mc ms (.ref b :: As) σ Q') (mf : MF mt' n) (hr : mt'.2.2.2 = none) (hlk : Cond.methodLink mt.1.cls idx mt'.1 ∈ lw_tbl) (him : Cond.instanceMethod mt'.1 ∈ lw_tbl) (hi : mt'.1.name = "<init>") (hn : As.length = n) (hstk : stk = As.reverse ++ .ref b :: st) (hw : (st.map fun v => v.category).sum ≤ 8)
    (hRm : fr + 1 ≤ E.1.frames ∧ 8 + (mt'.2.2.1 + 11) + lo ≤ E.1.locals) (hf : cells + mc ≤ E.1.cells ∧ slots + ms ≤ E.1.slots) (kk : ∀ (r : Option Value) (σ' : Sg), Q' r σ' → BW G mt E (cells + mc) (slots + ms) (pc + 3) lv (r.toList ++ st) σ') : BW G mt E cells slots pc lv stk σ := by
  intro p e s m args below meth c H locs ls C0 hR hS hA hl
  have hts := C0.2.2.2.2.2.2.1
  have hB : CallB E.1 s args mt.1.cls idx mt'.1 mt'.2.1 mt'.2.2.1 none (wsM mt') ({ frames := fr, cells := mc, slots := ms, locals := lo }) mc ms n := by
    rw [← hr]; exact callB_of n (callFix C0).2.2.2.2 (wsM_good mf) rfl rfl rfl (hts _ mf.2.1 rfl) (hts _ hlk rfl) mf.2.2 hRm
  refine callFin C0 hR hS hA hl (va_runI (As := As) (b := b) (n := n) (callFix C0) hM ⟨hB, hi, hts _ him rfl⟩ ⟨frameBlindS _ _ _, PcS.now C0 hR hS⟩ rfl hn hl.1 hstk (lv_room hw) hd hf) kk
theorem BW.callIN {host : String} (hd : decode mt.2.1 pc = .ok (.invokespecial idx, 3)) (hM : BM G mt' fr lo mc ms (.ref b :: As) σ Q') (mf : MF mt' n) (hr : mt'.2.2.2 = none) (hlk : Cond.methodLinkNest mt.1.cls idx mt'.1 host ∈ lw_tbl) (him : Cond.instanceMethod mt'.1 ∈ lw_tbl) (hi : mt'.1.name = "<init>") (hn : As.length = n) (hstk : stk = As.reverse ++ .ref b :: st) (hw : (st.map fun v => v.category).sum ≤ 8)
    (hRm : fr + 1 ≤ E.1.frames ∧ 8 + (mt'.2.2.1 + 11) + lo ≤ E.1.locals) (hf : cells + mc ≤ E.1.cells ∧ slots + ms ≤ E.1.slots) (kk : ∀ (r : Option Value) (σ' : Sg), Q' r σ' → BW G mt E (cells + mc) (slots + ms) (pc + 3) lv (r.toList ++ st) σ') : BW G mt E cells slots pc lv stk σ := by
  intro p e s m args below meth c H locs ls C0 hR hS hA hl
  have hts := C0.2.2.2.2.2.2.1
  have hK := C0.2.2.2.2.2.2.2.1
  have hB : va_CN E.1 s args mt.1.cls idx mt'.1 host mt'.2.1 mt'.2.2.1 none (wsM mt') ({ frames := fr, cells := mc, slots := ms, locals := lo }) mc ms n := by
    rw [← hr]; exact va_cnB n (callFix C0).2.2.2.2 (wsM_good mf) rfl rfl rfl (hK.2.1 _ hlk rfl) (hts _ mf.2.1 rfl) mf.2.2 hRm
  refine callFin C0 hR hS hA hl (va_runIN (As := As) (b := b) (n := n) (callFix C0) hM ⟨hB, hi, hts _ him rfl⟩ ⟨frameBlindS _ _ _, PcS.now C0 hR hS⟩ rfl hn hl.1 hstk (lv_room hw) hd hf) kk
theorem BW.objInit (hd : decode mt.2.1 pc = .ok (.invokespecial idx, 3)) (hlk : Cond.methodLink mt.1.cls idx Lib.objectInit ∈ lw_tbl) (him : Cond.instanceMethod Lib.objectInit ∈ lw_tbl) (hcd : Cond.code Lib.objectInit ⟨#[0xb1]⟩ 1 none ∈ lw_tbl) (hw : (st.map fun v => v.category).sum ≤ 8) (hRm : 1 ≤ E.1.frames ∧ 20 ≤ E.1.locals) (kk : BW G mt E cells slots (pc + 3) lv st σ) : BW G mt E cells slots pc lv (.ref a :: st) σ := by
  intro p e s m args below meth c H locs ls C0 hR hS hA hl
  have hts := C0.2.2.2.2.2.2.1
  refine W.objInit C0.1 C0.2.1 C0.2.2.2.2.2.1 (hts _ hlk rfl) (hts _ him rfl) (hts _ hcd rfl) rfl (hl.1.trans C0.2.2.2.2.1.symm) rfl hd hRm.1 ?_ (kk p e s m args below meth c H locs ls C0 hR hS hA hl)
  show 2 * 0 + _ + 12 ≤ _
  omega
end BWC
