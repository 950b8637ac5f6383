/-! ===== the rows again, for any end of a body (printed by wip/whole/gen98.py) ===== -/
/-- room, what may be written, the end, what else is known -/
abbrev Ex : Type := Room × (Nat → Prop) × (List Frame → Array Value → State → State → Prop) × (Program → State → MethodId → Array Value → Method → Code → Prop)
def EntX (G : Cx) (mt : Mt) (E : Ex) (p : Program) (s : State) (m : MethodId) (args : Array Value) (meth : Method) (c : Code) : Prop :=
  p.tables.exec = Jvm.exec ∧ c.code = mt.2.1 ∧ meth.sig.returnType = mt.2.2.2 ∧ meth.locks = false ∧ c.maxLocals = mt.2.2.1 ∧ s.vm.findClass mt.1.cls = some m.cls ∧ (∀ w ∈ lw_tbl, goodWord w = true → w.before args s = true) ∧ KS G s ∧ XS G s s.heap ∧ ¬ E.2.1 G.2.2.2.1 ∧ (∀ q, s.heap.size ≤ q → E.2.1 q) ∧ E.2.2.2 p s m args meth c
def BX (G : Cx) (mt : Mt) (E : Ex) (cells slots pc : Nat) (lv : Lv) (st : List Value) (σ : Sg) : Prop :=
  ∀ (p : Program) (e : Env) (s : State) (m : MethodId) (args : Array Value) (below : List Frame) (meth : Method) (c : Code) (H : Heap) (locs : List Loc) (ls : Array Slot),
    EntX G mt E p s m args meth c → RepS G H σ → va_S E.2.1 s.heap H locs → (∀ a, σ.2.1 a ≠ none → E.2.1 a) → lv_has ls mt.2.2.1 lv →
    W p G.1 e E.1 s m args below meth c H locs cells slots (E.2.2.1 below args s) (F0 m pc ls st)
set_option maxHeartbeats 4000000 in
theorem BX.one {G : Cx} {mt : Mt} {E : Ex} {cells slots pc : Nat} {lv lv' : Lv} {st st' : List Value} {σ : Sg} {i : Instr} (hd : decode mt.2.1 pc = .ok (i, lnI i)) (hs : st1 mt.2.2.1 i lv st = some (lv', st')) (k : BX G mt E cells slots (pc + lnI i) lv' st' σ) : BX G mt E cells slots pc lv st σ := by
  intro p e s m args below meth c H locs ls C hR hS hA hl
  have hx := C.1
  have hb := C.2.1
  have k' := fun ls hl => k p e s m args below meth c H locs ls C hR hS hA hl
  clear k
  cases i <;> first | (cases hs; done) | skip
  all_goals dsimp only [st1] at hs
  case iconst n => cases hs; exact lv_iconst hx hb hd rfl (k' ls hl)
  case bipush n => cases hs; exact lv_bipush hx hb hd rfl (k' ls hl)
  case sipush n => cases hs; exact lv_sipush hx hb hd rfl (k' ls hl)
  case aconst_null => cases hs; exact lv_null hx hb hd (k' ls hl)
  case iload_n n =>
    split at hs
    · rename_i x hg; cases hs; exact lv_iload_n hx hb hd rfl (lv_get hl hg) (k' ls hl)
    · cases hs
  case iload n =>
    split at hs
    · rename_i x hg; cases hs; exact lv_iload hx hb hd (lv_get hl hg) (k' ls hl)
    · cases hs
  case aload_n n =>
    split at hs
    · rename_i x hg; cases hs; exact lv_aload_n hx hb hd rfl (lv_get hl hg) (k' ls hl)
    · rename_i hg; cases hs; exact lv_aload_nN hx hb hd rfl (lv_get hl hg) (k' ls hl)
    · cases hs
  case aload n =>
    split at hs
    · rename_i x hg; cases hs; exact lv_aload hx hb hd (lv_get hl hg) (k' ls hl)
    · rename_i hg; cases hs; exact lv_aloadN hx hb hd (lv_get hl hg) (k' ls hl)
    · cases hs
  case istore_n n =>
    match st, hs with
    | .int x :: r, hs =>
      dsimp only at hs
      split at hs
      · rename_i hn; cases hs; exact lv_istore_n hx hb hd rfl hl hn rfl (fun ls' h' => k' ls' (lv_put h'))
      · cases hs
  case istore n =>
    match st, hs with
    | .int x :: r, hs =>
      dsimp only at hs
      split at hs
      · rename_i hn; cases hs; exact lv_istore hx hb hd hl hn rfl (fun ls' h' => k' ls' (lv_put h'))
      · cases hs
  case astore_n n =>
    match st, hs with
    | .ref x :: r, hs =>
      dsimp only at hs
      split at hs
      · rename_i hn; cases hs; exact lv_astore_n hx hb hd rfl hl hn rfl (fun ls' h' => k' ls' (lv_put h'))
      · cases hs
    | .null :: r, hs =>
      dsimp only at hs
      split at hs
      · rename_i hn; cases hs; exact lv_astore_nN hx hb hd rfl hl hn rfl (fun ls' h' => k' ls' (lv_put h'))
      · cases hs
  case astore n =>
    match st, hs with
    | .ref x :: r, hs =>
      dsimp only at hs
      split at hs
      · rename_i hn; cases hs; exact lv_astore hx hb hd hl hn rfl (fun ls' h' => k' ls' (lv_put h'))
      · cases hs
    | .null :: r, hs =>
      dsimp only at hs
      split at hs
      · rename_i hn; cases hs; exact lv_astoreN hx hb hd hl hn rfl (fun ls' h' => k' ls' (lv_put h'))
      · cases hs
  case iinc n d =>
    split at hs
    · rename_i x hg
      split at hs
      · rename_i hn
        cases hs
        obtain ⟨q, hq⟩ := List.getElem?_of_mem (getL_mem hg)
        exact lv_iinc hx hb hd hl hq rfl hn rfl (fun ls' h' => k' ls' (lv_put h'))
      · cases hs
    · cases hs
  case iadd =>
    match st, hs with
    | .int y :: .int x :: r, hs => cases hs; exact lv_iadd hx hb hd (k' ls hl)
  case isub =>
    match st, hs with
    | .int y :: .int x :: r, hs => cases hs; exact lv_isub hx hb hd (k' ls hl)
  case imul =>
    match st, hs with
    | .int y :: .int x :: r, hs => cases hs; exact lv_imul hx hb hd (k' ls hl)
  case iand =>
    match st, hs with
    | .int y :: .int x :: r, hs => cases hs; exact lv_iand hx hb hd (k' ls hl)
  case ior =>
    match st, hs with
    | .int y :: .int x :: r, hs => cases hs; exact lv_ior hx hb hd (k' ls hl)
  case ixor =>
    match st, hs with
    | .int y :: .int x :: r, hs => cases hs; exact lv_ixor hx hb hd (k' ls hl)
  case ishl =>
    match st, hs with
    | .int y :: .int x :: r, hs => cases hs; exact lv_ishl hx hb hd (k' ls hl)
  case ishr =>
    match st, hs with
    | .int y :: .int x :: r, hs => cases hs; exact lv_ishr hx hb hd (k' ls hl)
  case iushr =>
    match st, hs with
    | .int y :: .int x :: r, hs => cases hs; exact lv_iushr hx hb hd rfl (k' ls hl)
  case ineg =>
    match st, hs with
    | .int x :: r, hs => cases hs; exact lv_ineg hx hb hd (k' ls hl)
  case dup =>
    match st, hs with
    | .int x :: r, hs => cases hs; exact lv_dup hx hb hd rfl (k' ls hl)
    | .ref x :: r, hs => cases hs; exact lv_dup hx hb hd rfl (k' ls hl)
  case dup2 =>
    match st, hs with
    | .int x :: .ref y :: r, hs => cases hs; exact lv_dup2_11 hx hb hd rfl rfl (k' ls hl)
  case pop =>
    match st, hs with
    | .int x :: r, hs => cases hs; exact lv_pop hx hb hd rfl (k' ls hl)
    | .ref x :: r, hs => cases hs; exact lv_pop hx hb hd rfl (k' ls hl)
    | .null :: r, hs => cases hs; exact lv_pop hx hb hd rfl (k' ls hl)
theorem BX.run {G : Cx} {mt : Mt} {E : Ex} {cells slots : Nat} {σ : Sg} : ∀ (is : List Instr) {pc pc' : Nat} {lv lv' : Lv} {st st' : List Value}, dcL mt.2.1 pc is = true → pc + lnL is = pc' → stL mt.2.2.1 is lv st = some (lv', st') → BX G mt E cells slots pc' lv' st' σ → BX G mt E cells slots pc lv st σ
  | [], pc, pc', lv, lv', st, st', _, hp, hs, k => by cases hs; rw [← hp] at k; exact k
  | i :: r, pc, pc', lv, lv', st, st', hd, hp, hs, k => by
    unfold dcL at hd
    simp only [Bool.and_eq_true, decide_eq_true_eq] at hd
    unfold stL at hs
    split at hs
    · rename_i q hq
      obtain ⟨q1, q2⟩ := q
      refine BX.one hd.1 hq (BX.run r hd.2 ?_ hs k)
      have h3 : lnL (i :: r) = lnI i + lnL r := rfl
      omega
    · cases hs
theorem BX.sub {G : Cx} {mt : Mt} {E : Ex} {cells slots pc : Nat} {lv lv' : Lv} {st : List Value} {σ : Sg} (ks : List Nat) (h : lv_pick lv ks = lv') (k : BX G mt E cells slots pc lv' st σ) : BX G mt E cells slots pc lv st σ :=
  fun p e s m args below meth c H locs ls C hR hS hA hl => k p e s m args below meth c H locs ls C hR hS hA (lv_sub hl ks h)

section BXR
variable {G : Cx} {mt : Mt} {E : Ex} {cells slots pc : Nat} {lv : Lv} {st : List Value} {σ σ' : Sg} {a k t idx : Nat} {C : String} {T : u_T} {N : Nat} {ty : Nat → FieldType} {v : Value} {i x y : Int32}
theorem BX.last {z : Int64} (hd : decode mt.2.1 pc = .ok (.lastore, 1)) (hv : sV 12 σ a i (.long z) = some σ') (kk : BX G mt E cells slots (pc + 1) lv st σ') : BX G mt E cells slots pc lv (.long z :: .int i :: .ref a :: st) σ := by
  intro p e s m args below meth c H locs ls C0 hR hS hA hl
  have C1 := C0
  obtain ⟨hx, hb, -, -, -, hown, hts, hK, -⟩ := C0
  obtain ⟨n, h1, h2, rfl⟩ := sV_spec hv
  refine W.last hx hb (hR.arr (by omega) h1) ((hK.ty (t := 12) (by omega) (by omega)).1 n _) (fun q => by cases q) (by rw [arrV_size]; exact h2) rfl rfl hd fun H' e1 e2 e3 => ?_
  rw [arrV_store] at e1
  exact kk p e s m args below meth c H' _ ls C1 (hR.put h1 (Or.inr ⟨by omega, e1⟩) e2 e3) (hS.put e2 e3 (hA a (by rw [h1]; exact fun h => by cases h))) hA hl
theorem BX.goto {off : Int} (tgt : Nat) (hd : decode mt.2.1 pc = .ok (.goto off, 3)) (ht : (pc : Int) + off = (tgt : Int)) (k : BX G mt E cells slots tgt lv st σ) : BX G mt E cells slots pc lv st σ :=
  fun p e s m args below meth c H locs ls C0 hR hS hA hl => lv_goto C0.1 C0.2.1 hd ht (k p e s m args below meth c H locs ls C0 hR hS hA hl)
theorem BX.ifnonnull {off : Int} {q : Nat} (tgt : Nat) (hd : decode mt.2.1 pc = .ok (.ifnonnull off, 3)) (ht : (pc : Int) + off = (tgt : Int)) (k : BX G mt E cells slots tgt lv st σ) : BX G mt E cells slots pc lv (.ref q :: st) σ :=
  fun p e s m args below meth c H locs ls C0 hR hS hA hl => lv_ifnonnull C0.1 C0.2.1 hd ht (k p e s m args below meth c H locs ls C0 hR hS hA hl)
theorem BX.ifnonnullN {off : Int} (hd : decode mt.2.1 pc = .ok (.ifnonnull off, 3)) (k : BX G mt E cells slots (pc + 3) lv st σ) : BX G mt E cells slots pc lv (.null :: st) σ :=
  fun p e s m args below meth c H locs ls C0 hR hS hA hl => lv_ifnonnullN C0.1 C0.2.1 hd (k p e s m args below meth c H locs ls C0 hR hS hA hl)
theorem BX.tblIn {dflt lo hi off : Int} {offs : Array Int} {len : Nat} (tgt : Nat) (hd : decode mt.2.1 pc = .ok (.tableswitch dflt lo hi offs, len)) (h1 : ¬ x.toInt < lo) (h2 : ¬ hi < x.toInt) (ho : offs[(x.toInt - lo).toNat]? = some off) (ht : (pc : Int) + off = (tgt : Int)) (k : BX G mt E cells slots tgt lv st σ) : BX G mt E cells slots pc lv (.int x :: st) σ :=
  fun p e s m args below meth c H locs ls C0 hR hS hA hl => lv_tableIn C0.1 C0.2.1 hd h1 h2 ho ht (k p e s m args below meth c H locs ls C0 hR hS hA hl)
theorem BX.tblOut {dflt lo hi : Int} {offs : Array Int} {len : Nat} (tgt : Nat) (hd : decode mt.2.1 pc = .ok (.tableswitch dflt lo hi offs, len)) (h : x.toInt < lo ∨ hi < x.toInt) (ht : (pc : Int) + dflt = (tgt : Int)) (k : BX G mt E cells slots tgt lv st σ) : BX G mt E cells slots pc lv (.int x :: st) σ :=
  fun p e s m args below meth c H locs ls C0 hR hS hA hl => lv_tableOut C0.1 C0.2.1 hd h ht (k p e s m args below meth c H locs ls C0 hR hS hA hl)
theorem BX.i2l (hd : decode mt.2.1 pc = .ok (.i2l, 1)) (k : BX G mt E cells slots (pc + 1) lv (.long x.toInt64 :: st) σ) : BX G mt E cells slots pc lv (.int x :: st) σ :=
  fun p e s m args below meth c H locs ls C0 hR hS hA hl => lv_i2l C0.1 C0.2.1 hd rfl (k p e s m args below meth c H locs ls C0 hR hS hA hl)
theorem BX.widen {c2 s2 : Nat} (h1 : cells ≤ c2) (h2 : slots ≤ s2) (k : BX G mt E c2 s2 pc lv st σ) : BX G mt E cells slots pc lv st σ :=
  fun p e s m args below meth c H locs ls C0 hR hS hA hl => W.widen h1 h2 (k p e s m args below meth c H locs ls C0 hR hS hA hl)
theorem BX.sld (hd : decode mt.2.1 pc = .ok (.iaload, 1)) (hv : vp_in i G.2.2.2.2.1) (kk : BX G mt E cells slots (pc + 1) lv (.int (G.2.2.2.2.2 i.toNatClampNeg) :: st) σ) : BX G mt E cells slots pc lv (.int i :: .ref G.2.2.2.1 :: st) σ := by
  intro p e s m args below meth c H locs ls C0 hR hS hA hl
  have kk' := kk p e s m args below meth c H locs ls C0 hR hS hA hl
  obtain ⟨hx, hb, -, -, -, hown, hts, hK, hX, hbA, -⟩ := C0
  exact va_sld hx hb hX.1 hX.2 hbA hS hv hd kk'
theorem BX.slen (hd : decode mt.2.1 pc = .ok (.arraylength, 1)) (kk : BX G mt E cells slots (pc + 1) lv (.int (Int32.ofNat G.2.2.2.2.1) :: st) σ) : BX G mt E cells slots pc lv (.ref G.2.2.2.1 :: st) σ := by
  intro p e s m args below meth c H locs ls C0 hR hS hA hl
  have kk' := kk p e s m args below meth c H locs ls C0 hR hS hA hl
  obtain ⟨hx, hb, -, -, -, hown, hts, hK, hX, hbA, -⟩ := C0
  exact va_slen hx hb hX.1 hX.2 hbA hS hd kk'
theorem BX.newa {atype : ArrayType} {n : Nat} (hd : decode mt.2.1 pc = .ok (.newarray atype, 2)) (ht : (t = 11 ∧ atype = .int) ∨ (t = 12 ∧ atype = .long)) (hm : Cond.arrayClass (newarray.typeOf atype) ∈ lw_tbl) (hn : ¬ x < 0) (hN : x.toNatClampNeg = n) (hby : n ≤ 60000000) (hc : cells + 1 ≤ E.1.cells) (hs : slots + n ≤ E.1.slots)
    (kk : BX G mt E (cells + 1) (slots + n) (pc + 2) lv (.ref σ.1 :: st) (nw σ t n (fun _ => defaultValue (tgF t)))) : BX G mt E cells slots pc lv (.int x :: st) σ := by
  intro p e s m args below meth c H locs ls C0 hR hS hA hl
  have C1 := C0
  obtain ⟨hx, hb, -, -, -, hown, hts, hK, hX, hbA, hAs, -⟩ := C0
  have hty : newarray.typeOf atype = tgF t := by rcases ht with ⟨rfl, rfl⟩ | ⟨rfl, rfl⟩ <;> rfl
  refine va_newaK hx hb (hts _ hm rfl) rfl hd rfl hn hN ?_ hc hs hR.1 fun H' cA e1 z1 o1 hAr hNm => ?_
  · rw [hty]
    rcases ht with ⟨rfl, -⟩ | ⟨rfl, -⟩
    · show n * 4 ≤ 536870912
      omega
    · show n * 8 ≤ 536870912
      omega
  · have hcA : cA = G.2.2.1 t := by
      have h1 := (hK.ty (t := t) (by omega) (by omega)).2
      rw [hty] at hNm
      rcases ht with ⟨rfl, -⟩ | ⟨rfl, -⟩
      · exact Option.some.inj (hNm.symm.trans h1)
      · exact Option.some.inj (hNm.symm.trans h1)
    rw [hty, hcA] at e1
    have o2 : ∀ q, q < H.size → H'[q]? = H[q]? := fun q hq => o1 q (by rw [← hR.1]; exact hq)
    exact kk p e s m args below meth c H' locs ls C1 (hR.new (XS.lt hX hS) (Or.inr ⟨by omega, e1⟩) (by rw [z1, hR.1]) o2) ⟨Nat.le_trans hS.1 (by rw [z1, hR.1]; omega), fun q h1 h2 => (o2 q (Nat.lt_of_lt_of_le h1 hS.1)).trans (hS.2.1 q h1 h2), hS.2.2⟩ (nw_A hA (hAs _ (by rw [← hR.1]; exact hS.1))) hl
theorem BX.new (hd : decode mt.2.1 pc = .ok (.new idx, 3)) (ci : CI t C T N ty) (hm : Cond.classLink mt.1.cls idx C ∈ lw_tbl) (hi : Cond.instantiable C N ∈ lw_tbl) (hini : Cond.initialized C ∈ lw_tbl) (hc : cells + 1 ≤ E.1.cells) (hs : slots + N ≤ E.1.slots)
    (kk : BX G mt E (cells + 1) (slots + N) (pc + 3) lv (.ref σ.1 :: st) (nw σ t N (fun j => defaultValue (ty j)))) : BX G mt E cells slots pc lv st σ := by
  intro p e s m args below meth c H locs ls C0 hR hS hA hl
  have C1 := C0
  obtain ⟨hx, hb, -, -, -, hown, hts, hK, hX, hbA, hAs, -⟩ := C0
  have hts' : ∀ w ∈ lw_tbl.filter goodWord, w.before args s = true := fun w hw => hts w (List.mem_filter.mp hw).1 (List.mem_filter.mp hw).2
  have hKn := hK.1.1 t _ ci.1
  have ht : t < 11 := by
    have := (List.getElem?_eq_some_iff.mp ci.1).1
    simpa using this
  refine W.newcK hx hb hown (hts _ hm rfl) (hts _ hi rfl) (hts _ hini rfl) rfl hd hc hs hKn.2.1 hR.1 fun H1 kC hkC e1 z1 o1 => ?_
  have o2 : ∀ q, q < H.size → H1[q]? = H[q]? := fun q hq => o1 q (by rw [← hR.1]; exact hq)
  exact kk p e s m args below meth c H1 locs ls C1 (hR.new (XS.lt hX hS) (Or.inl ⟨ht, _, ci.1, rfl, u_born ty hts' ci.2.1 hKn hkC e1 ci.2.2.1⟩) (by rw [z1, hR.1]) o2) ⟨Nat.le_trans hS.1 (by rw [z1, hR.1]; omega), fun q h1 h2 => (o2 q (Nat.lt_of_lt_of_le h1 hS.1)).trans (hS.2.1 q h1 h2), hS.2.2⟩ (nw_A hA (hAs _ (by rw [← hR.1]; exact hS.1))) hl
theorem BX.icmp_eq {off : Int} (tgt : Nat) (hd : decode mt.2.1 pc = .ok (.if_icmp .eq off, 3)) (ht : (pc : Int) + off = (tgt : Int)) (kt : x = y → BX G mt E cells slots tgt lv st σ) (kf : ¬ (x = y) → BX G mt E cells slots (pc + 3) lv st σ) : BX G mt E cells slots pc lv (.int y :: .int x :: st) σ :=
  fun p e s m args below meth c H locs ls C0 hR hS hA hl => lv_icmp_eq C0.1 C0.2.1 hd ht (fun h => kt h p e s m args below meth c H locs ls C0 hR hS hA hl) (fun h => kf h p e s m args below meth c H locs ls C0 hR hS hA hl)
theorem BX.icmp_gt {off : Int} (tgt : Nat) (hd : decode mt.2.1 pc = .ok (.if_icmp .gt off, 3)) (ht : (pc : Int) + off = (tgt : Int)) (kt : y < x → BX G mt E cells slots tgt lv st σ) (kf : ¬ (y < x) → BX G mt E cells slots (pc + 3) lv st σ) : BX G mt E cells slots pc lv (.int y :: .int x :: st) σ :=
  fun p e s m args below meth c H locs ls C0 hR hS hA hl => lv_icmp_gt C0.1 C0.2.1 hd ht (fun h => kt h p e s m args below meth c H locs ls C0 hR hS hA hl) (fun h => kf h p e s m args below meth c H locs ls C0 hR hS hA hl)
theorem BX.if_eq {off : Int} (tgt : Nat) (hd : decode mt.2.1 pc = .ok (.ifCond .eq off, 3)) (ht : (pc : Int) + off = (tgt : Int)) (kt : x = 0 → BX G mt E cells slots tgt lv st σ) (kf : ¬ (x = 0) → BX G mt E cells slots (pc + 3) lv st σ) : BX G mt E cells slots pc lv (.int x :: st) σ :=
  fun p e s m args below meth c H locs ls C0 hR hS hA hl => lv_if_eq C0.1 C0.2.1 hd ht (fun h => kt h p e s m args below meth c H locs ls C0 hR hS hA hl) (fun h => kf h p e s m args below meth c H locs ls C0 hR hS hA hl)
theorem BX.if_ne {off : Int} (tgt : Nat) (hd : decode mt.2.1 pc = .ok (.ifCond .ne off, 3)) (ht : (pc : Int) + off = (tgt : Int)) (kt : ¬ x = 0 → BX G mt E cells slots tgt lv st σ) (kf : x = 0 → BX G mt E cells slots (pc + 3) lv st σ) : BX G mt E cells slots pc lv (.int x :: st) σ :=
  fun p e s m args below meth c H locs ls C0 hR hS hA hl => lv_if_ne C0.1 C0.2.1 hd ht (fun h => kt h p e s m args below meth c H locs ls C0 hR hS hA hl) (fun h => kf h p e s m args below meth c H locs ls C0 hR hS hA hl)
theorem BX.lald (hd : decode mt.2.1 pc = .ok (.laload, 1)) (hv : aV 12 σ a i = some v) (kk : BX G mt E cells slots (pc + 1) lv (v :: st) σ) : BX G mt E cells slots pc lv (.int i :: .ref a :: st) σ := by
  intro p e s m args below meth c H locs ls C0 hR hS hA hl
  have kk' := kk p e s m args below meth c H locs ls C0 hR hS hA hl
  obtain ⟨hx, hb, -, -, -, hown, hts, hK, -⟩ := C0
  obtain ⟨n, h1, h2, rfl⟩ := aV_spec hv
  have hlt : i.toNatClampNeg < n := Nat.not_le.mp fun q => h2 (Or.inr q)
  exact W.lald hx hb (hR.arr (by omega) h1) ((hK.ty (t := 12) (by omega) (by omega)).1 n _) (fun q => by cases q) (by rw [arrV_size]; exact h2) (by rw [arrV_read _ _ hlt]) rfl rfl hd kk'
theorem BX.iret {Q : Option Value → Sg → Prop} {mc ms : Nat} (hE : E.2.2.1 = fun below args s => MQ below (QcS G Q E.2.1) args s mc ms E.2.1) (hd : decode mt.2.1 pc = .ok (.ireturn, 1)) (hr : mt.2.2.2 = some .int) (hc : cells ≤ mc) (hs : slots ≤ ms) (hq : Q (some (.int x)) σ) : BX G mt E cells slots pc lv [.int x] σ :=
  fun p e s m args below meth c H locs ls C0 hR hS hA hl => by
    rw [hE]
    exact W.widen hc hs (W.iret C0.1 C0.2.1 (C0.2.2.1.trans hr) (fun t ht _ => QcS.mk (E := (E.1, E.2.1, mc, ms, Q)) hq hR hS hA ht) (fun q h => hS.2.2 q h) hd C0.2.2.2.1)
theorem BX.zret {Q : Option Value → Sg → Prop} {mc ms : Nat} (hE : E.2.2.1 = fun below args s => MQ below (QcS G Q E.2.1) args s mc ms E.2.1) (hd : decode mt.2.1 pc = .ok (.ireturn, 1)) (hr : mt.2.2.2 = some .boolean) (hx : x = 0 ∨ x = 1) (hc : cells ≤ mc) (hs : slots ≤ ms) (hq : Q (some (.int x)) σ) : BX G mt E cells slots pc lv [.int x] σ :=
  fun p e s m args below meth c H locs ls C0 hR hS hA hl => by
    rw [hE]
    exact W.widen hc hs (W.zret C0.1 C0.2.1 (C0.2.2.1.trans hr) (by rcases hx with rfl | rfl <;> decide +kernel) (fun t ht _ => QcS.mk (E := (E.1, E.2.1, mc, ms, Q)) hq hR hS hA ht) (fun q h => hS.2.2 q h) hd C0.2.2.2.1)
theorem BX.newB {b : Nat} (hd : decode mt.2.1 pc = .ok (.new idx, 3)) (ci : CI t C T N ty) (hm : Cond.classLink mt.1.cls idx C ∈ lw_tbl) (hi : Cond.instantiable C N ∈ lw_tbl) (hini : Cond.initialized C ∈ lw_tbl) (hc : cells + 1 ≤ E.1.cells) (hs : slots + N ≤ E.1.slots) (e : nwO t N (fun j => defaultValue (ty j)) σ = some (b, σ'))
    (kk : BX G mt E (cells + 1) (slots + N) (pc + 3) lv (.ref b :: st) σ') : BX G mt E cells slots pc lv st σ := by
  cases e
  exact BX.new hd ci hm hi hini hc hs kk
theorem BX.newaB {b n : Nat} {atype : ArrayType} {f : Nat → Value} (hd : decode mt.2.1 pc = .ok (.newarray atype, 2)) (ht : (t = 11 ∧ atype = .int) ∨ (t = 12 ∧ atype = .long)) (hm : Cond.arrayClass (newarray.typeOf atype) ∈ lw_tbl) (hn : ¬ x < 0) (hN : x.toNatClampNeg = n) (hby : n ≤ 60000000) (hc : cells + 1 ≤ E.1.cells) (hs : slots + n ≤ E.1.slots) (e : nwO t n f σ = some (b, σ')) (hf : f = fun _ => defaultValue (tgF t))
    (kk : BX G mt E (cells + 1) (slots + n) (pc + 2) lv (.ref b :: st) σ') : BX G mt E cells slots pc lv (.int x :: st) σ := by
  cases e
  subst hf
  exact BX.newa hd ht hm hn hN hby hc hs kk
end BXR
section BXC
variable {G : Cx} {mt mt' : Mt} {E : Ex} {cells slots pc : Nat} {lv : Lv} {st stk : List Value} {σ σ' : Sg} {a b k t idx n n0 : Nat} {C : String} {T : u_T} {N : Nat} {ty : Nat → FieldType} {v : Value} {i x y : Int32} {As : List Value} {Q' : Option Value → Sg → Prop} {fr lo mc ms : Nat}
variable {p : Program} {e : Env} {s : State} {m : MethodId} {args : Array Value} {below : List Frame} {meth : Method} {c : Code} {H : Heap} {locs : List Loc} {ls : Array Slot}
theorem PcS.nowX {vs : List Value} (C0 : EntX G mt E p s m args meth c) (hR : RepS G H σ) (hS : va_S E.2.1 s.heap H locs) : ∀ U : State, U.heap = H → s.WarmedH U.vm → PcS G vs σ vs.toArray U := by
  intro U hU hW
  obtain ⟨-, -, -, -, -, -, -, hK, hX, hbA, -⟩ := C0
  refine ⟨rfl, by rw [hU]; exact hR, hK.warm hW, ?_⟩
  rw [hU]
  exact ⟨(hX.1.kept (hS.2.1 _ hX.2 hbA)).moved hW.alike, Nat.lt_of_lt_of_le hX.2 hS.1⟩
theorem callFinX {arr : Array Value} (C0 : EntX G mt E p s m args meth c) (hR : RepS G H σ) (hS : va_S E.2.1 s.heap H locs) (hA : ∀ a, σ.2.1 a ≠ none → E.2.1 a) (hl : lv_has ls mt.2.2.1 lv)
    (hr : va_Run p G.1 e E.1 s m args below meth c H locs cells slots mc ms (F0 m pc ls stk) st (QcS G Q' (Aof σ) arr) (Aof σ))
    (kk : ∀ (r : Option Value) (σ' : Sg), Q' r σ' → BX G mt E (cells + mc) (slots + ms) (pc + 3) lv (r.toList ++ st) σ') :
    W p G.1 e E.1 s m args below meth c H locs cells slots (E.2.2.1 below args s) (F0 m pc ls stk) := by
  intro T hT X
  obtain ⟨v, st₀, t, T', L, h0, X', hL, e1, e2, ⟨⟨r, σ', hv, hq, hrep, hdom⟩, hz, hk⟩, stp⟩ := hr T hT X
  cases hv
  rw [h0] at hz hk
  have hAs := C0.2.2.2.2.2.2.2.2.2.2.1
  have sub : ∀ q, Aof σ q → E.2.1 q := fun q h => by
    rcases h with h | h
    · exact hA q h
    · exact hAs q (Nat.le_trans hS.1 (by rw [hR.1]; exact h))
  obtain ⟨t2, a1, b1⟩ := kk v σ' hq p e s m args below meth c T'.heap (locs ++ L) ls C0 (by rw [e1]; exact hrep)
    ⟨Nat.le_trans hS.1 (by rw [e1]; exact hz), fun q h1 h2 => by rw [e1, hk q (Nat.lt_of_lt_of_le h1 hS.1) (fun z => h2 (sub q z))]; exact hS.2.1 q h1 h2, fun q hq => by
      rcases List.mem_append.mp hq with h | h
      · exact hS.2.2 q h
      · exact sub _ (hL q h)⟩ (fun a ha => sub a (hdom a ha)) hl T' rfl X'
  exact ⟨t2, stp t2 a1, b1⟩
theorem callFixX (C0 : EntX G mt E p s m args meth c) : CallFix p m c mt.2.1 mt.2.2.1 s args (lw_tbl.filter goodWord) mt.1.cls :=
  ⟨C0.1, C0.2.1, C0.2.2.2.2.1, C0.2.2.2.2.2.1, fun w hw => C0.2.2.2.2.2.2.1 w (List.mem_filter.mp hw).1 (List.mem_filter.mp hw).2⟩
theorem recvX (C0 : EntX G mt E p s m args meth c) (hR : RepS G H σ) (ci : CI t C T N ty) (hb : σ.2.1 b = some (t, n0)) : ∃ cellB : Cell, H[b]? = some cellB ∧ cellB.vm.isStatics = false ∧ s.vm.findClass C = some cellB.cls := by
  obtain ⟨-, cell, g1, g2, g3, -⟩ := hR.obj ci hb
  exact ⟨cell, g1, by rw [g3]; rfl, by rw [g2]; exact (C0.2.2.2.2.2.2.2.1.1.1 t _ ci.1).2.1⟩
theorem BX.callV (hd : decode mt.2.1 pc = .ok (.invokevirtual idx, 3)) (hM : BM G mt' fr lo mc ms (.ref b :: As) σ Q') (mf : MF mt' n) (hlk : Cond.methodLink mt.1.cls idx mt'.1 ∈ lw_tbl) (him : Cond.instanceMethod mt'.1 ∈ lw_tbl) (hsel : Cond.selects C mt'.1 mt'.1 ∈ lw_tbl) (ci : CI t C T N ty) (hb : σ.2.1 b = some (t, n0)) (hn : As.length = n) (hstk : stk = As.reverse ++ .ref b :: st) (hw : (st.map fun v => v.category).sum ≤ 8)
    (hRm : fr + 1 ≤ E.1.frames ∧ 8 + (mt'.2.2.1 + 11) + lo ≤ E.1.locals) (hf : cells + mc ≤ E.1.cells ∧ slots + ms ≤ E.1.slots) (kk : ∀ (r : Option Value) (σ' : Sg), Q' r σ' → BX G mt E (cells + mc) (slots + ms) (pc + 3) lv (r.toList ++ st) σ') : BX G mt E cells slots pc lv stk σ := by
  intro p e s m args below meth c H locs ls C0 hR hS hA hl
  have hts := C0.2.2.2.2.2.2.1
  refine callFinX C0 hR hS hA hl (va_runV (As := As) (C := C) (n := n) (callFixX C0) hM ⟨callB_of n (callFixX C0).2.2.2.2 (wsM_good mf) rfl rfl rfl (hts _ mf.2.1 rfl) (hts _ hlk rfl) mf.2.2 hRm, hts _ him rfl, hts _ hsel rfl⟩ ⟨frameBlindS _ _ _, recvX C0 hR ci hb, PcS.nowX C0 hR hS⟩ rfl hn hl.1 hstk (lv_room hw) hd hf) kk
theorem BX.callS (hd : decode mt.2.1 pc = .ok (.invokestatic idx, 3)) (hM : BM G mt' fr lo mc ms As σ Q') (mf : MF mt' n) (hlk : Cond.methodLink mt.1.cls idx mt'.1 ∈ lw_tbl) (hst : Cond.static mt'.1 ∈ lw_tbl) (hn : As.length = n) (hstk : stk = As.reverse ++ st) (hw : (st.map fun v => v.category).sum ≤ 8)
    (hRm : fr + 1 ≤ E.1.frames ∧ 8 + (mt'.2.2.1 + 11) + lo ≤ E.1.locals) (hf : cells + mc ≤ E.1.cells ∧ slots + ms ≤ E.1.slots) (kk : ∀ (r : Option Value) (σ' : Sg), Q' r σ' → BX G mt E (cells + mc) (slots + ms) (pc + 3) lv (r.toList ++ st) σ') : BX G mt E cells slots pc lv stk σ := by
  intro p e s m args below meth c H locs ls C0 hR hS hA hl
  have hts := C0.2.2.2.2.2.2.1
  refine callFinX C0 hR hS hA hl (va_runS (As := As) (n := n) (callFixX C0) hM ⟨callB_of n (callFixX C0).2.2.2.2 (wsM_good mf) rfl rfl rfl (hts _ mf.2.1 rfl) (hts _ hlk rfl) mf.2.2 hRm, hts _ hst rfl⟩ ⟨frameBlindS _ _ _, PcS.nowX C0 hR hS⟩ rfl hn hl.1 hstk (lv_room hw) hd hf) kk
theorem BX.callI (hd : decode mt.2.1 pc = .ok (.invokespecial idx, 3)) (hM : BM G mt' fr lo mc ms (.ref b :: As) σ Q') (mf : MF mt' n) (hr : mt'.2.2.2 = none) (hlk : Cond.methodLink mt.1.cls idx mt'.1 ∈ lw_tbl) (him : Cond.instanceMethod mt'.1 ∈ lw_tbl) (hi : mt'.1.name = "<init>") (hn : As.length = n) (hstk : stk = As.reverse ++ .ref b :: st) (hw : (st.map fun v => v.category).sum ≤ 8)
    (hRm : fr + 1 ≤ E.1.frames ∧ 8 + (mt'.2.2.1 + 11) + lo ≤ E.1.locals) (hf : cells + mc ≤ E.1.cells ∧ slots + ms ≤ E.1.slots) (kk : ∀ (r : Option Value) (σ' : Sg), Q' r σ' → BX G mt E (cells + mc) (slots + ms) (pc + 3) lv (r.toList ++ st) σ') : BX G mt E cells slots pc lv stk σ := by
  intro p e s m args below meth c H locs ls C0 hR hS hA hl
  have hts := C0.2.2.2.2.2.2.1
  have hB : CallB E.1 s args mt.1.cls idx mt'.1 mt'.2.1 mt'.2.2.1 none (wsM mt') ({ frames := fr, cells := mc, slots := ms, locals := lo }) mc ms n := by
    rw [← hr]; exact callB_of n (callFixX C0).2.2.2.2 (wsM_good mf) rfl rfl rfl (hts _ mf.2.1 rfl) (hts _ hlk rfl) mf.2.2 hRm
  refine callFinX C0 hR hS hA hl (va_runI (As := As) (b := b) (n := n) (callFixX C0) hM ⟨hB, hi, hts _ him rfl⟩ ⟨frameBlindS _ _ _, PcS.nowX C0 hR hS⟩ rfl hn hl.1 hstk (lv_room hw) hd hf) kk
end BXC
