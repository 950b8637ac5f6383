/-! ===== arrays, makings, jumps, ends ===== -/
theorem KS.ty {G : Cx} {U : State} (h : KS G U) {t : Nat} (h1 : 11 ≤ t) (h2 : t ≤ 15) : ArrOfT U (G.2.2.1 t) (tgF t) ∧ va_RA U (G.2.2.1 t) (tgF t) := by
  refine h.1.2 (t - 11) (G.2.2.1 t, tgF t) ?_
  rcases (show t = 11 ∨ t = 12 ∨ t = 13 ∨ t = 14 ∨ t = 15 by omega) with rfl | rfl | rfl | rfl | rfl <;> rfl
section BWA
variable {G : Cx} {mt : Mt} {E : Ev} {cells slots pc : Nat} {lv : Lv} {st : List Value} {σ σ' : Sg} {a k t idx : Nat} {C : String} {T : u_T} {N : Nat} {ty : Nat → FieldType} {v : Value} {i x y : Int32}
theorem BW.iald (hd : decode mt.2.1 pc = .ok (.iaload, 1)) (hv : aV 11 σ a i = some v) (kk : BW G mt E cells slots (pc + 1) lv (v :: st) σ) : BW G mt E cells slots pc lv (.int i :: .ref a :: st) σ := by
  intro p e s m args below meth c H locs ls C0 hR hS hA hl
  have kk' := kk p e s m args below meth c H locs ls C0 hR hS hA hl
  obtain ⟨hx, hb, -, -, -, hown, hts, hK, -⟩ := C0
  obtain ⟨n, h1, h2, rfl⟩ := aV_spec hv
  have hlt : i.toNatClampNeg < n := Nat.not_le.mp fun q => h2 (Or.inr q)
  exact W.iald hx hb (hR.arr (Nat.le_refl 11) h1) ((hK.ty (Nat.le_refl 11) (by omega)).1 n _) (fun q => by cases q) (by rw [arrV_size]; exact h2) (by rw [arrV_read _ _ hlt]) rfl rfl hd kk'
theorem BW.lald (hd : decode mt.2.1 pc = .ok (.laload, 1)) (hv : aV 12 σ a i = some v) (kk : BW G mt E cells slots (pc + 1) lv (v :: st) σ) : BW G mt E cells slots pc lv (.int i :: .ref a :: st) σ := by
  intro p e s m args below meth c H locs ls C0 hR hS hA hl
  have kk' := kk p e s m args below meth c H locs ls C0 hR hS hA hl
  obtain ⟨hx, hb, -, -, -, hown, hts, hK, -⟩ := C0
  obtain ⟨n, h1, h2, rfl⟩ := aV_spec hv
  have hlt : i.toNatClampNeg < n := Nat.not_le.mp fun q => h2 (Or.inr q)
  exact W.lald hx hb (hR.arr (by omega) h1) ((hK.ty (t := 12) (by omega) (by omega)).1 n _) (fun q => by cases q) (by rw [arrV_size]; exact h2) (by rw [arrV_read _ _ hlt]) rfl rfl hd kk'
theorem BW.aald (hd : decode mt.2.1 pc = .ok (.aaload, 1)) (ht : 13 ≤ t ∧ t ≤ 15) (hv : aV t σ a i = some v) (kk : BW G mt E cells slots (pc + 1) lv (v :: st) σ) : BW G mt E cells slots pc lv (.int i :: .ref a :: st) σ := by
  intro p e s m args below meth c H locs ls C0 hR hS hA hl
  have kk' := kk p e s m args below meth c H locs ls C0 hR hS hA hl
  obtain ⟨hx, hb, -, -, -, hown, hts, hK, -⟩ := C0
  obtain ⟨n, h1, h2, rfl⟩ := aV_spec hv
  have hlt : i.toNatClampNeg < n := Nat.not_le.mp fun q => h2 (Or.inr q)
  have hty : (tgF t).isReference = true := by rcases (show t = 13 ∨ t = 14 ∨ t = 15 by omega) with rfl | rfl | rfl <;> rfl
  exact W.aald hx hb (hR.arr (by omega) h1) ((hK.ty (t := t) (by omega) (by omega)).1 n _) hty (fun q => by cases q) (by rw [arrV_size]; exact h2) (by rw [arrV_read _ _ hlt]) rfl rfl hd kk'
theorem BW.iast (hd : decode mt.2.1 pc = .ok (.iastore, 1)) (hv : sV 11 σ a i (.int x) = some σ') (kk : BW G mt E cells slots (pc + 1) lv st σ') : BW G mt E cells slots pc lv (.int x :: .int i :: .ref a :: st) σ := by
  intro p e s m args below meth c H locs ls C0 hR hS hA hl
  have C1 := C0
  obtain ⟨hx, hb, -, -, -, hown, hts, hK, -⟩ := C0
  obtain ⟨n, h1, h2, rfl⟩ := sV_spec hv
  refine W.iast hx hb (hR.arr (Nat.le_refl 11) h1) ((hK.ty (Nat.le_refl 11) (by omega)).1 n _) (fun q => by cases q) (by rw [arrV_size]; exact h2) rfl rfl hd fun H' e1 e2 e3 => ?_
  rw [arrV_store] at e1
  exact kk p e s m args below meth c H' _ ls C1 (hR.put h1 (Or.inr ⟨Nat.le_refl 11, e1⟩) e2 e3) (hS.put e2 e3 (hA a (by rw [h1]; exact fun h => by cases h))) hA hl
theorem BW.last {z : Int64} (hd : decode mt.2.1 pc = .ok (.lastore, 1)) (hv : sV 12 σ a i (.long z) = some σ') (kk : BW G mt E cells slots (pc + 1) lv st σ') : BW G mt E cells slots pc lv (.long z :: .int i :: .ref a :: st) σ := by
  intro p e s m args below meth c H locs ls C0 hR hS hA hl
  have C1 := C0
  obtain ⟨hx, hb, -, -, -, hown, hts, hK, -⟩ := C0
  obtain ⟨n, h1, h2, rfl⟩ := sV_spec hv
  refine W.last hx hb (hR.arr (by omega) h1) ((hK.ty (t := 12) (by omega) (by omega)).1 n _) (fun q => by cases q) (by rw [arrV_size]; exact h2) rfl rfl hd fun H' e1 e2 e3 => ?_
  rw [arrV_store] at e1
  exact kk p e s m args below meth c H' _ ls C1 (hR.put h1 (Or.inr ⟨by omega, e1⟩) e2 e3) (hS.put e2 e3 (hA a (by rw [h1]; exact fun h => by cases h))) hA hl
theorem BW.aast {c0 q n0 : Nat} (hd : decode mt.2.1 pc = .ok (.aastore, 1)) (ht : 13 ≤ t ∧ t ≤ 15) (ci : CI c0 C T N ty) (hC : tgF t = .object C) (hq : σ.2.1 q = some (c0, n0)) (hv : sV t σ a i (.ref q) = some σ') (kk : BW G mt E cells slots (pc + 1) lv st σ') : BW G mt E cells slots pc lv (.ref q :: .int i :: .ref a :: st) σ := by
  intro p e s m args below meth c H locs ls C0 hR hS hA hl
  have C1 := C0
  obtain ⟨hx, hb, -, -, -, hown, hts, hK, -⟩ := C0
  obtain ⟨n, h1, h2, rfl⟩ := sV_spec hv
  obtain ⟨-, cellV, g1, g2, g3, -⟩ := hR.obj ci hq
  have hcls := (hK.1.1 c0 _ ci.1).2
  have hra := (hK.ty (t := t) (by omega) (by omega)).2
  rw [hC] at hra
  obtain ⟨kA, comp, k1, k2, k3, -⟩ := hra
  have hcomp : comp = G.2.1.1 c0 := Option.some.inj (k3.symm.trans hcls.1)
  subst hcomp
  obtain ⟨kC, hkC, -⟩ := hcls.2
  refine W.aast hx hb (hR.arr (by omega) h1) (fun q h => by cases h) (fun h => by cases h) k1 k2 rfl hkC ⟨fun h => h2 (Or.inl h), by rw [arrV_size]; exact Nat.not_le.mp fun q => h2 (Or.inr q)⟩ g1 (fun q h => by rw [g3] at h; cases h) (by rw [g2]; exact hkC) (by rw [g2]; exact va_assign hcls) rfl rfl hd fun H' e1 e2 e3 => ?_
  rw [arrV_store] at e1
  exact kk p e s m args below meth c H' _ ls C1 (hR.put h1 (Or.inr ⟨by omega, e1⟩) e2 e3) (hS.put e2 e3 (hA a (by rw [h1]; exact fun h => by cases h))) hA hl
theorem BW.alen (hd : decode mt.2.1 pc = .ok (.arraylength, 1)) (ht : 11 ≤ t ∧ t ≤ 15) (hv : lenA t σ a = some x) (kk : BW G mt E cells slots (pc + 1) lv (.int x :: st) σ) : BW G mt E cells slots pc lv (.ref a :: st) σ := by
  intro p e s m args below meth c H locs ls C0 hR hS hA hl
  have kk' := kk p e s m args below meth c H locs ls C0 hR hS hA hl
  obtain ⟨hx, hb, -, -, -, hown, hts, hK, -⟩ := C0
  obtain ⟨n, h1, rfl⟩ := lenA_spec hv
  exact W.alen hx hb (hR.arr ht.1 h1) ((hK.ty (t := t) ht.1 ht.2).1 n _) (by rw [arrV_size]) rfl rfl hd kk'
/-- the script -/
theorem BW.sld (hd : decode mt.2.1 pc = .ok (.iaload, 1)) (hv : vp_in i G.2.2.2.2.1) (kk : BW G mt E cells slots (pc + 1) lv (.int (G.2.2.2.2.2 i.toNatClampNeg) :: st) σ) : BW G mt E cells slots pc lv (.int i :: .ref G.2.2.2.1 :: st) σ := by
  intro p e s m args below meth c H locs ls C0 hR hS hA hl
  have kk' := kk p e s m args below meth c H locs ls C0 hR hS hA hl
  obtain ⟨hx, hb, -, -, -, hown, hts, hK, hX, hbA, -⟩ := C0
  exact va_sld hx hb hX.1 hX.2 hbA hS hv hd kk'
theorem BW.slen (hd : decode mt.2.1 pc = .ok (.arraylength, 1)) (kk : BW G mt E cells slots (pc + 1) lv (.int (Int32.ofNat G.2.2.2.2.1) :: st) σ) : BW G mt E cells slots pc lv (.ref G.2.2.2.1 :: st) σ := by
  intro p e s m args below meth c H locs ls C0 hR hS hA hl
  have kk' := kk p e s m args below meth c H locs ls C0 hR hS hA hl
  obtain ⟨hx, hb, -, -, -, hown, hts, hK, hX, hbA, -⟩ := C0
  exact va_slen hx hb hX.1 hX.2 hbA hS hd kk'
/-- a new world is within what may be written -/
theorem nw_A {A : Nat → Prop} {f : Nat → Value} {n : Nat} (hA : ∀ a, σ.2.1 a ≠ none → A a) (h : A σ.1) : ∀ a, (nw σ t n f).2.1 a ≠ none → A a := by
  intro a ha
  by_cases hs : a = σ.1
  · rw [hs]; exact h
  · refine hA a ?_
    have h2 : (if a = σ.1 then some (t, n) else σ.2.1 a) ≠ none := ha
    rw [if_neg hs] at h2
    exact h2
theorem XS.lt {s : State} {H : Heap} {locs : List Loc} {A : Nat → Prop} (hX : XS G s s.heap) (hS : va_S A s.heap H locs) : G.2.2.2.1 < H.size := Nat.lt_of_lt_of_le hX.2 hS.1
theorem BW.newa {atype : ArrayType} {n : Nat} (hd : decode mt.2.1 pc = .ok (.newarray atype, 2)) (ht : (t = 11 ∧ atype = .int) ∨ (t = 12 ∧ atype = .long)) (hm : Cond.arrayClass (newarray.typeOf atype) ∈ lw_tbl) (hn : ¬ x < 0) (hN : x.toNatClampNeg = n) (hby : n ≤ 60000000) (hc : cells + 1 ≤ E.1.cells) (hs : slots + n ≤ E.1.slots)
    (kk : BW G mt E (cells + 1) (slots + n) (pc + 2) lv (.ref σ.1 :: st) (nw σ t n (fun _ => defaultValue (tgF t)))) : BW G mt E cells slots pc lv (.int x :: st) σ := by
  intro p e s m args below meth c H locs ls C0 hR hS hA hl
  have C1 := C0
  obtain ⟨hx, hb, -, -, -, hown, hts, hK, hX, hbA, hAs, -⟩ := C0
  have hty : newarray.typeOf atype = tgF t := by rcases ht with ⟨rfl, rfl⟩ | ⟨rfl, rfl⟩ <;> rfl
  refine va_newaK hx hb (hts _ hm rfl) rfl hd rfl hn hN ?_ hc hs hR.1 fun H' cA e1 z1 o1 hAr hNm => ?_
  · rw [hty]
    rcases ht with ⟨rfl, -⟩ | ⟨rfl, -⟩
    · show n * 4 ≤ 536870912
      omega
    · show n * 8 ≤ 536870912
      omega
  · have hcA : cA = G.2.2.1 t := by
      have h1 := (hK.ty (t := t) (by omega) (by omega)).2
      rw [hty] at hNm
      rcases ht with ⟨rfl, -⟩ | ⟨rfl, -⟩
      · exact Option.some.inj (hNm.symm.trans h1)
      · exact Option.some.inj (hNm.symm.trans h1)
    rw [hty, hcA] at e1
    have o2 : ∀ q, q < H.size → H'[q]? = H[q]? := fun q hq => o1 q (by rw [← hR.1]; exact hq)
    exact kk p e s m args below meth c H' locs ls C1 (hR.new (XS.lt hX hS) (Or.inr ⟨by omega, e1⟩) (by rw [z1, hR.1]) o2) ⟨Nat.le_trans hS.1 (by rw [z1, hR.1]; omega), fun q h1 h2 => (o2 q (Nat.lt_of_lt_of_le h1 hS.1)).trans (hS.2.1 q h1 h2), hS.2.2⟩ (nw_A hA (hAs _ (by rw [← hR.1]; exact hS.1))) hl
theorem BW.anew {n : Nat} (hd : decode mt.2.1 pc = .ok (.anewarray idx, 3)) (ht : 13 ≤ t ∧ t ≤ 15) (hC : tgF t = .object C) (hm : Cond.classLink mt.1.cls idx C ∈ lw_tbl) (hn : ¬ x < 0) (hN : x.toNatClampNeg = n) (hby : n ≤ 60000000) (hc : cells + 1 ≤ E.1.cells) (hs : slots + n ≤ E.1.slots)
    (kk : BW G mt E (cells + 1) (slots + n) (pc + 3) lv (.ref σ.1 :: st) (nw σ t n (fun _ => .null))) : BW G mt E cells slots pc lv (.int x :: st) σ := by
  intro p e s m args below meth c H locs ls C0 hR hS hA hl
  have C1 := C0
  obtain ⟨hx, hb, -, -, -, hown, hts, hK, hX, hbA, hAs, -⟩ := C0
  subst hN
  have hov : va_AO C s := by
    rcases (show t = 13 ∨ t = 14 ∨ t = 15 by omega) with rfl | rfl | rfl
    · cases hC; exact hK.2.2.1
    · cases hC; exact hK.2.2.2.1
    · cases hC; exact hK.2.2.2.2
  refine W.anew hx hb hown (hts _ hm rfl) (va_AO.use hov) rfl hd rfl hn (by omega) hc hs fun cA kA comp f1 f2 f3 f4 => ?_
  have hcA : cA = G.2.2.1 t := by
    have h1 := (hK.ty (t := t) (by omega) (by omega)).2
    rw [hC] at h1
    obtain ⟨_, _, -, -, -, h1⟩ := h1
    exact Option.some.inj (f1.symm.trans h1)
  subst hcA
  rw [arrV_new]
  have e1 : (H.push (arrV (G.2.2.1 t) x.toNatClampNeg (fun _ => .null)))[σ.1]? = some (arrV (G.2.2.1 t) x.toNatClampNeg (fun _ => .null)) := by rw [← hR.1]; simp
  have o2 : ∀ q, q < H.size → (H.push (arrV (G.2.2.1 t) x.toNatClampNeg (fun _ => .null)))[q]? = H[q]? := fun q hq => by rw [Array.getElem?_push, if_neg (Nat.ne_of_lt hq)]
  have hz : (H.push (arrV (G.2.2.1 t) x.toNatClampNeg (fun _ => .null))).size = H.size + 1 := by simp
  show W p G.1 e E.1 s m args below meth c _ locs (cells + 1) (slots + x.toNatClampNeg) _ (F0 m (pc + 3) ls (.ref H.size :: st))
  rw [hR.1]
  exact kk p e s m args below meth c _ locs ls C1 (hR.new (XS.lt hX hS) (Or.inr ⟨by omega, e1⟩) hz o2) ⟨Nat.le_trans hS.1 (by rw [hz]; omega), fun q h1 h2 => (o2 q (Nat.lt_of_lt_of_le h1 hS.1)).trans (hS.2.1 q h1 h2), hS.2.2⟩ (nw_A hA (hAs _ (by rw [← hR.1]; exact hS.1))) hl
theorem BW.new (hd : decode mt.2.1 pc = .ok (.new idx, 3)) (ci : CI t C T N ty) (hm : Cond.classLink mt.1.cls idx C ∈ lw_tbl) (hi : Cond.instantiable C N ∈ lw_tbl) (hini : Cond.initialized C ∈ lw_tbl) (hc : cells + 1 ≤ E.1.cells) (hs : slots + N ≤ E.1.slots)
    (kk : BW G mt E (cells + 1) (slots + N) (pc + 3) lv (.ref σ.1 :: st) (nw σ t N (fun j => defaultValue (ty j)))) : BW G mt E cells slots pc lv st σ := by
  intro p e s m args below meth c H locs ls C0 hR hS hA hl
  have C1 := C0
  obtain ⟨hx, hb, -, -, -, hown, hts, hK, hX, hbA, hAs, -⟩ := C0
  have hts' : ∀ w ∈ lw_tbl.filter goodWord, w.before args s = true := fun w hw => hts w (List.mem_filter.mp hw).1 (List.mem_filter.mp hw).2
  have hKn := hK.1.1 t _ ci.1
  have ht : t < 11 := by
    have := (List.getElem?_eq_some_iff.mp ci.1).1
    simpa using this
  refine W.newcK hx hb hown (hts _ hm rfl) (hts _ hi rfl) (hts _ hini rfl) rfl hd hc hs hKn.2.1 hR.1 fun H1 kC hkC e1 z1 o1 => ?_
  have o2 : ∀ q, q < H.size → H1[q]? = H[q]? := fun q hq => o1 q (by rw [← hR.1]; exact hq)
  exact kk p e s m args below meth c H1 locs ls C1 (hR.new (XS.lt hX hS) (Or.inl ⟨ht, _, ci.1, rfl, u_born ty hts' ci.2.1 hKn hkC e1 ci.2.2.1⟩) (by rw [z1, hR.1]) o2) ⟨Nat.le_trans hS.1 (by rw [z1, hR.1]; omega), fun q h1 h2 => (o2 q (Nat.lt_of_lt_of_le h1 hS.1)).trans (hS.2.1 q h1 h2), hS.2.2⟩ (nw_A hA (hAs _ (by rw [← hR.1]; exact hS.1))) hl
theorem BW.icmp_eq {off : Int} (tgt : Nat) (hd : decode mt.2.1 pc = .ok (.if_icmp .eq off, 3)) (ht : (pc : Int) + off = (tgt : Int)) (kt : x = y → BW G mt E cells slots tgt lv st σ) (kf : ¬ (x = y) → BW G mt E cells slots (pc + 3) lv st σ) : BW G mt E cells slots pc lv (.int y :: .int x :: st) σ :=
  fun p e s m args below meth c H locs ls C0 hR hS hA hl => lv_icmp_eq C0.1 C0.2.1 hd ht (fun h => kt h p e s m args below meth c H locs ls C0 hR hS hA hl) (fun h => kf h p e s m args below meth c H locs ls C0 hR hS hA hl)
theorem BW.if_eq {off : Int} (tgt : Nat) (hd : decode mt.2.1 pc = .ok (.ifCond .eq off, 3)) (ht : (pc : Int) + off = (tgt : Int)) (kt : x = 0 → BW G mt E cells slots tgt lv st σ) (kf : ¬ (x = 0) → BW G mt E cells slots (pc + 3) lv st σ) : BW G mt E cells slots pc lv (.int x :: st) σ :=
  fun p e s m args below meth c H locs ls C0 hR hS hA hl => lv_if_eq C0.1 C0.2.1 hd ht (fun h => kt h p e s m args below meth c H locs ls C0 hR hS hA hl) (fun h => kf h p e s m args below meth c H locs ls C0 hR hS hA hl)
theorem BW.icmp_ne {off : Int} (tgt : Nat) (hd : decode mt.2.1 pc = .ok (.if_icmp .ne off, 3)) (ht : (pc : Int) + off = (tgt : Int)) (kt : ¬ x = y → BW G mt E cells slots tgt lv st σ) (kf : x = y → BW G mt E cells slots (pc + 3) lv st σ) : BW G mt E cells slots pc lv (.int y :: .int x :: st) σ :=
  fun p e s m args below meth c H locs ls C0 hR hS hA hl => lv_icmp_ne C0.1 C0.2.1 hd ht (fun h => kt h p e s m args below meth c H locs ls C0 hR hS hA hl) (fun h => kf h p e s m args below meth c H locs ls C0 hR hS hA hl)
theorem BW.if_ne {off : Int} (tgt : Nat) (hd : decode mt.2.1 pc = .ok (.ifCond .ne off, 3)) (ht : (pc : Int) + off = (tgt : Int)) (kt : ¬ x = 0 → BW G mt E cells slots tgt lv st σ) (kf : x = 0 → BW G mt E cells slots (pc + 3) lv st σ) : BW G mt E cells slots pc lv (.int x :: st) σ :=
  fun p e s m args below meth c H locs ls C0 hR hS hA hl => lv_if_ne C0.1 C0.2.1 hd ht (fun h => kt h p e s m args below meth c H locs ls C0 hR hS hA hl) (fun h => kf h p e s m args below meth c H locs ls C0 hR hS hA hl)
theorem BW.icmp_lt {off : Int} (tgt : Nat) (hd : decode mt.2.1 pc = .ok (.if_icmp .lt off, 3)) (ht : (pc : Int) + off = (tgt : Int)) (kt : x < y → BW G mt E cells slots tgt lv st σ) (kf : ¬ (x < y) → BW G mt E cells slots (pc + 3) lv st σ) : BW G mt E cells slots pc lv (.int y :: .int x :: st) σ :=
  fun p e s m args below meth c H locs ls C0 hR hS hA hl => lv_icmp_lt C0.1 C0.2.1 hd ht (fun h => kt h p e s m args below meth c H locs ls C0 hR hS hA hl) (fun h => kf h p e s m args below meth c H locs ls C0 hR hS hA hl)
theorem BW.if_lt {off : Int} (tgt : Nat) (hd : decode mt.2.1 pc = .ok (.ifCond .lt off, 3)) (ht : (pc : Int) + off = (tgt : Int)) (kt : x < 0 → BW G mt E cells slots tgt lv st σ) (kf : ¬ (x < 0) → BW G mt E cells slots (pc + 3) lv st σ) : BW G mt E cells slots pc lv (.int x :: st) σ :=
  fun p e s m args below meth c H locs ls C0 hR hS hA hl => lv_if_lt C0.1 C0.2.1 hd ht (fun h => kt h p e s m args below meth c H locs ls C0 hR hS hA hl) (fun h => kf h p e s m args below meth c H locs ls C0 hR hS hA hl)
theorem BW.icmp_ge {off : Int} (tgt : Nat) (hd : decode mt.2.1 pc = .ok (.if_icmp .ge off, 3)) (ht : (pc : Int) + off = (tgt : Int)) (kt : y ≤ x → BW G mt E cells slots tgt lv st σ) (kf : ¬ (y ≤ x) → BW G mt E cells slots (pc + 3) lv st σ) : BW G mt E cells slots pc lv (.int y :: .int x :: st) σ :=
  fun p e s m args below meth c H locs ls C0 hR hS hA hl => lv_icmp_ge C0.1 C0.2.1 hd ht (fun h => kt h p e s m args below meth c H locs ls C0 hR hS hA hl) (fun h => kf h p e s m args below meth c H locs ls C0 hR hS hA hl)
theorem BW.if_ge {off : Int} (tgt : Nat) (hd : decode mt.2.1 pc = .ok (.ifCond .ge off, 3)) (ht : (pc : Int) + off = (tgt : Int)) (kt : 0 ≤ x → BW G mt E cells slots tgt lv st σ) (kf : ¬ (0 ≤ x) → BW G mt E cells slots (pc + 3) lv st σ) : BW G mt E cells slots pc lv (.int x :: st) σ :=
  fun p e s m args below meth c H locs ls C0 hR hS hA hl => lv_if_ge C0.1 C0.2.1 hd ht (fun h => kt h p e s m args below meth c H locs ls C0 hR hS hA hl) (fun h => kf h p e s m args below meth c H locs ls C0 hR hS hA hl)
theorem BW.icmp_gt {off : Int} (tgt : Nat) (hd : decode mt.2.1 pc = .ok (.if_icmp .gt off, 3)) (ht : (pc : Int) + off = (tgt : Int)) (kt : y < x → BW G mt E cells slots tgt lv st σ) (kf : ¬ (y < x) → BW G mt E cells slots (pc + 3) lv st σ) : BW G mt E cells slots pc lv (.int y :: .int x :: st) σ :=
  fun p e s m args below meth c H locs ls C0 hR hS hA hl => lv_icmp_gt C0.1 C0.2.1 hd ht (fun h => kt h p e s m args below meth c H locs ls C0 hR hS hA hl) (fun h => kf h p e s m args below meth c H locs ls C0 hR hS hA hl)
theorem BW.if_gt {off : Int} (tgt : Nat) (hd : decode mt.2.1 pc = .ok (.ifCond .gt off, 3)) (ht : (pc : Int) + off = (tgt : Int)) (kt : 0 < x → BW G mt E cells slots tgt lv st σ) (kf : ¬ (0 < x) → BW G mt E cells slots (pc + 3) lv st σ) : BW G mt E cells slots pc lv (.int x :: st) σ :=
  fun p e s m args below meth c H locs ls C0 hR hS hA hl => lv_if_gt C0.1 C0.2.1 hd ht (fun h => kt h p e s m args below meth c H locs ls C0 hR hS hA hl) (fun h => kf h p e s m args below meth c H locs ls C0 hR hS hA hl)
theorem BW.icmp_le {off : Int} (tgt : Nat) (hd : decode mt.2.1 pc = .ok (.if_icmp .le off, 3)) (ht : (pc : Int) + off = (tgt : Int)) (kt : x ≤ y → BW G mt E cells slots tgt lv st σ) (kf : ¬ (x ≤ y) → BW G mt E cells slots (pc + 3) lv st σ) : BW G mt E cells slots pc lv (.int y :: .int x :: st) σ :=
  fun p e s m args below meth c H locs ls C0 hR hS hA hl => lv_icmp_le C0.1 C0.2.1 hd ht (fun h => kt h p e s m args below meth c H locs ls C0 hR hS hA hl) (fun h => kf h p e s m args below meth c H locs ls C0 hR hS hA hl)
theorem BW.if_le {off : Int} (tgt : Nat) (hd : decode mt.2.1 pc = .ok (.ifCond .le off, 3)) (ht : (pc : Int) + off = (tgt : Int)) (kt : x ≤ 0 → BW G mt E cells slots tgt lv st σ) (kf : ¬ (x ≤ 0) → BW G mt E cells slots (pc + 3) lv st σ) : BW G mt E cells slots pc lv (.int x :: st) σ :=
  fun p e s m args below meth c H locs ls C0 hR hS hA hl => lv_if_le C0.1 C0.2.1 hd ht (fun h => kt h p e s m args below meth c H locs ls C0 hR hS hA hl) (fun h => kf h p e s m args below meth c H locs ls C0 hR hS hA hl)
theorem BW.goto {off : Int} (tgt : Nat) (hd : decode mt.2.1 pc = .ok (.goto off, 3)) (ht : (pc : Int) + off = (tgt : Int)) (k : BW G mt E cells slots tgt lv st σ) : BW G mt E cells slots pc lv st σ :=
  fun p e s m args below meth c H locs ls C0 hR hS hA hl => lv_goto C0.1 C0.2.1 hd ht (k p e s m args below meth c H locs ls C0 hR hS hA hl)
theorem BW.ifnull {off : Int} {q : Nat} (hd : decode mt.2.1 pc = .ok (.ifnull off, 3)) (k : BW G mt E cells slots (pc + 3) lv st σ) : BW G mt E cells slots pc lv (.ref q :: st) σ :=
  fun p e s m args below meth c H locs ls C0 hR hS hA hl => lv_ifnull C0.1 C0.2.1 hd (k p e s m args below meth c H locs ls C0 hR hS hA hl)
theorem BW.ifnullN {off : Int} (tgt : Nat) (hd : decode mt.2.1 pc = .ok (.ifnull off, 3)) (ht : (pc : Int) + off = (tgt : Int)) (k : BW G mt E cells slots tgt lv st σ) : BW G mt E cells slots pc lv (.null :: st) σ :=
  fun p e s m args below meth c H locs ls C0 hR hS hA hl => lv_ifnullN C0.1 C0.2.1 hd ht (k p e s m args below meth c H locs ls C0 hR hS hA hl)
theorem BW.ifnonnull {off : Int} {q : Nat} (tgt : Nat) (hd : decode mt.2.1 pc = .ok (.ifnonnull off, 3)) (ht : (pc : Int) + off = (tgt : Int)) (k : BW G mt E cells slots tgt lv st σ) : BW G mt E cells slots pc lv (.ref q :: st) σ :=
  fun p e s m args below meth c H locs ls C0 hR hS hA hl => lv_ifnonnull C0.1 C0.2.1 hd ht (k p e s m args below meth c H locs ls C0 hR hS hA hl)
theorem BW.ifnonnullN {off : Int} (hd : decode mt.2.1 pc = .ok (.ifnonnull off, 3)) (k : BW G mt E cells slots (pc + 3) lv st σ) : BW G mt E cells slots pc lv (.null :: st) σ :=
  fun p e s m args below meth c H locs ls C0 hR hS hA hl => lv_ifnonnullN C0.1 C0.2.1 hd (k p e s m args below meth c H locs ls C0 hR hS hA hl)
theorem BW.ldc (hd : decode mt.2.1 pc = .ok (.ldc idx, 2)) (hm : Cond.constant mt.1.cls idx x ∈ lw_tbl) (k : BW G mt E cells slots (pc + 2) lv (.int x :: st) σ) : BW G mt E cells slots pc lv st σ :=
  fun p e s m args below meth c H locs ls C0 hR hS hA hl => lv_ldc C0.1 C0.2.1 C0.2.2.2.2.2.1 (C0.2.2.2.2.2.2.1 _ hm rfl) hd (k p e s m args below meth c H locs ls C0 hR hS hA hl)
theorem BW.ldcw (hd : decode mt.2.1 pc = .ok (.ldc_w idx, 3)) (hm : Cond.constant mt.1.cls idx x ∈ lw_tbl) (k : BW G mt E cells slots (pc + 3) lv (.int x :: st) σ) : BW G mt E cells slots pc lv st σ :=
  fun p e s m args below meth c H locs ls C0 hR hS hA hl => lv_ldcw C0.1 C0.2.1 C0.2.2.2.2.2.1 (C0.2.2.2.2.2.2.1 _ hm rfl) hd (k p e s m args below meth c H locs ls C0 hR hS hA hl)
theorem BW.idiv (hd : decode mt.2.1 pc = .ok (.idiv, 1)) (hy : ¬ y = 0) (k : BW G mt E cells slots (pc + 1) lv (.int (x / y) :: st) σ) : BW G mt E cells slots pc lv (.int y :: .int x :: st) σ :=
  fun p e s m args below meth c H locs ls C0 hR hS hA hl => lv_idiv C0.1 C0.2.1 hd hy (k p e s m args below meth c H locs ls C0 hR hS hA hl)
theorem BW.irem (hd : decode mt.2.1 pc = .ok (.irem, 1)) (hy : ¬ y = 0) (k : BW G mt E cells slots (pc + 1) lv (.int (x - x / y * y) :: st) σ) : BW G mt E cells slots pc lv (.int y :: .int x :: st) σ :=
  fun p e s m args below meth c H locs ls C0 hR hS hA hl => lv_irem C0.1 C0.2.1 hd hy (k p e s m args below meth c H locs ls C0 hR hS hA hl)
theorem BW.tblOut {dflt lo hi : Int} {offs : Array Int} {len : Nat} (tgt : Nat) (hd : decode mt.2.1 pc = .ok (.tableswitch dflt lo hi offs, len)) (h : x.toInt < lo ∨ hi < x.toInt) (ht : (pc : Int) + dflt = (tgt : Int)) (k : BW G mt E cells slots tgt lv st σ) : BW G mt E cells slots pc lv (.int x :: st) σ :=
  fun p e s m args below meth c H locs ls C0 hR hS hA hl => lv_tableOut C0.1 C0.2.1 hd h ht (k p e s m args below meth c H locs ls C0 hR hS hA hl)
theorem BW.tblIn {dflt lo hi off : Int} {offs : Array Int} {len : Nat} (tgt : Nat) (hd : decode mt.2.1 pc = .ok (.tableswitch dflt lo hi offs, len)) (h1 : ¬ x.toInt < lo) (h2 : ¬ hi < x.toInt) (ho : offs[(x.toInt - lo).toNat]? = some off) (ht : (pc : Int) + off = (tgt : Int)) (k : BW G mt E cells slots tgt lv st σ) : BW G mt E cells slots pc lv (.int x :: st) σ :=
  fun p e s m args below meth c H locs ls C0 hR hS hA hl => lv_tableIn C0.1 C0.2.1 hd h1 h2 ho ht (k p e s m args below meth c H locs ls C0 hR hS hA hl)
theorem BW.i2l (hd : decode mt.2.1 pc = .ok (.i2l, 1)) (k : BW G mt E cells slots (pc + 1) lv (.long x.toInt64 :: st) σ) : BW G mt E cells slots pc lv (.int x :: st) σ :=
  fun p e s m args below meth c H locs ls C0 hR hS hA hl => lv_i2l C0.1 C0.2.1 hd rfl (k p e s m args below meth c H locs ls C0 hR hS hA hl)
theorem BW.widen {c2 s2 : Nat} (h1 : cells ≤ c2) (h2 : slots ≤ s2) (k : BW G mt E c2 s2 pc lv st σ) : BW G mt E cells slots pc lv st σ :=
  fun p e s m args below meth c H locs ls C0 hR hS hA hl => W.widen h1 h2 (k p e s m args below meth c H locs ls C0 hR hS hA hl)
theorem QcS.mk {s t : State} {H : Heap} {locs : List Loc} {args : Array Value} {r : Option Value} (hq : E.2.2.2.2 r σ) (hR : RepS G H σ) (hS : va_S E.2.1 s.heap H locs) (hA : ∀ a, σ.2.1 a ≠ none → E.2.1 a) (ht : t.heap = H) : QcS G E.2.2.2.2 E.2.1 args s (.returned r) t := ⟨⟨r, σ, rfl, hq, by rw [ht]; exact hR, hA⟩, hS.F ht⟩
theorem BW.iret (hd : decode mt.2.1 pc = .ok (.ireturn, 1)) (hr : mt.2.2.2 = some .int) (hc : cells ≤ E.2.2.1) (hs : slots ≤ E.2.2.2.1) (hq : E.2.2.2.2 (some (.int x)) σ) : BW G mt E cells slots pc lv [.int x] σ :=
  fun p e s m args below meth c H locs ls C0 hR hS hA hl => W.widen hc hs (W.iret C0.1 C0.2.1 (C0.2.2.1.trans hr) (fun t ht _ => QcS.mk hq hR hS hA ht) (fun q h => hS.2.2 q h) hd C0.2.2.2.1)
theorem BW.zret (hd : decode mt.2.1 pc = .ok (.ireturn, 1)) (hr : mt.2.2.2 = some .boolean) (hx : x = 0 ∨ x = 1) (hc : cells ≤ E.2.2.1) (hs : slots ≤ E.2.2.2.1) (hq : E.2.2.2.2 (some (.int x)) σ) : BW G mt E cells slots pc lv [.int x] σ :=
  fun p e s m args below meth c H locs ls C0 hR hS hA hl => W.widen hc hs (W.zret C0.1 C0.2.1 (C0.2.2.1.trans hr) (by rcases hx with rfl | rfl <;> decide +kernel) (fun t ht _ => QcS.mk hq hR hS hA ht) (fun q h => hS.2.2 q h) hd C0.2.2.2.1)
theorem BW.vret (hd : decode mt.2.1 pc = .ok (.return_, 1)) (hr : mt.2.2.2 = none) (hc : cells ≤ E.2.2.1) (hs : slots ≤ E.2.2.2.1) (hq : E.2.2.2.2 none σ) : BW G mt E cells slots pc lv [] σ :=
  fun p e s m args below meth c H locs ls C0 hR hS hA hl => W.widen hc hs (W.vret C0.1 C0.2.1 (C0.2.2.1.trans hr) (fun t ht _ => QcS.mk hq hR hS hA ht) (fun q h => hS.2.2 q h) hd C0.2.2.2.1)
theorem BW.aret {q : Option Nat} (hd : decode mt.2.1 pc = .ok (.areturn, 1)) (hr : mt.2.2.2 = some (.object C)) (hc : cells ≤ E.2.2.1) (hs : slots ≤ E.2.2.2.1) (hq : E.2.2.2.2 (some (va_rf q)) σ) : BW G mt E cells slots pc lv [va_rf q] σ :=
  fun p e s m args below meth c H locs ls C0 hR hS hA hl => W.widen hc hs (W.aret C0.1 C0.2.1 (C0.2.2.1.trans hr) (Or.inl ⟨_, rfl⟩) (va_rf_or q) (fun t ht _ => QcS.mk hq hR hS hA ht) (fun q h => hS.2.2 q h) hd C0.2.2.2.1)
end BWA
