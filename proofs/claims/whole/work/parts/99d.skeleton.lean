/-! ===== the claim, from the law ===== -/
def R_law : String := "SnowTracksLaw"
def lw_P (b : Addr) (xs : List Int32) (args : Array Value) (s : State) : Prop := args = #[.ref b] ∧ s.IntsAt b xs ∧ xs.length ≤ 3587 ∧ (Jvm.Cond.and given_1 narrow_1).before args s = true
def lw_Q (_ : Array Value) (s : State) (o : Outcome) (t : State) : Prop := o = .returned (some (.int 1)) ∧ Framed s o t [] 601024 7293000
def lw_Z (below : List Frame) (a : Array Value) (s : State) : State → Prop := fun t => ∃ o, t.status = .running ∧ Ended t below o ∧ lw_Q a s o t
/-- what holds at the law's entry: the machine, the code, the tables' words (any of lw_tbl by 'hts w (by decide +kernel)'), the script of L ints xs at the cell b, what the Statement gives of the start (any of its parts by flat_of_before) -/
def lw_At (p : Program) (s : State) (m : MethodId) (meth : Method) (c : Code) (b L : Nat) (xs : Nat → Int32) : Prop :=
  p.tables.exec = Jvm.exec ∧ c.code = code ∧ meth.sig.returnType = ret ∧ c.maxLocals = 7 ∧ s.vm.findClass R_law = some m.cls ∧ (∀ w ∈ lw_tbl, w.before #[Value.ref b] s = true) ∧ va_X b L xs s s.heap ∧ b < s.heap.size ∧ meth.locks = false ∧ (Jvm.Cond.and given_1 narrow_1).before #[Value.ref b] s = true
theorem k_arrI {s : State} {args : Array Value} {ty : FieldType} (h : (Cond.arrayClass ty).before args s = true) (ht : ty = .int ∨ ty = .long) : ∃ cA, ArrOfT s cA ty ∧ va_RA s cA ty := by
  obtain ⟨c, k, comp, h1, h2, h3⟩ := Cond.arrayClass_spec h
  refine ⟨c, fun n z => ⟨fun k h => (by cases h), k, h2, comp, h3⟩, ?_⟩
  rcases ht with rfl | rfl <;> exact h1
theorem k_arrO {s : State} {args : Array Value} {C : String} (h : (Cond.arrayOver (.object C)).before args s = true) : ∃ cA, ArrOfT s cA (.object C) ∧ va_RA s cA (.object C) := by
  obtain ⟨comp, c, k, h1, h2, h3, h4, h5⟩ := Cond.arrayOver_spec h
  exact ⟨c, fun n z => ⟨fun k h => (by cases h), k, h3, comp, h4⟩, k, comp, h3, h4, h1, h5⟩
set_option maxRecDepth 100000 in
theorem k_mem : ([Cond.laysStatic Bundle.tN "UNASSIGNED_STACK" Bundle.steD, .laysStatic Bundle.tN "SUPPRESSED_SENTINEL" Bundle.listD, .initialized Bundle.tN, .arrayOver (.object "SnowTracks$Walk"), .arrayOver (.object "SnowTracks$Fact"), .arrayOver (.object "SnowTracks$Net"), .arrayClass .int, .arrayClass .long] ++ nsB).all (fun w => decide (w ∈ lw_tbl)) = true := by decide +kernel
theorem k_in (w : Cond) (h : w ∈ ([Cond.laysStatic Bundle.tN "UNASSIGNED_STACK" Bundle.steD, .laysStatic Bundle.tN "SUPPRESSED_SENTINEL" Bundle.listD, .initialized Bundle.tN, .arrayOver (.object "SnowTracks$Walk"), .arrayOver (.object "SnowTracks$Fact"), .arrayOver (.object "SnowTracks$Net"), .arrayClass .int, .arrayClass .long] ++ nsB)) : w ∈ lw_tbl := of_decide_eq_true (List.all_eq_true.mp k_mem w h)
/-- from the entry, for every script of at most 3587 ints, the law comes to its end with true -/
theorem whole_start {p : Program} {e : Env} {s : State} {m : MethodId} {below : List Frame} {meth : Method} {c : Code} (l : Launch) (hG : l.stackTraces = false) {b L : Nat} {xs : Nat → Int32} (hL : L ≤ 3587) (C0 : lw_At p s m meth c b L xs) : W p l e room_1 s m #[Value.ref b] below meth c s.heap [] 0 0 (lw_Z below #[Value.ref b] s) (entryFrame m ([Value.ref b] : List Value).toArray 7) := by
  obtain ⟨hx, hb, hr, hml, hown, hts, hX, hbl, hlk, hgv⟩ := C0
  have hin : ∀ w, w ∈ ([Cond.laysStatic Bundle.tN "UNASSIGNED_STACK" Bundle.steD, .laysStatic Bundle.tN "SUPPRESSED_SENTINEL" Bundle.listD, .initialized Bundle.tN, .arrayOver (.object "SnowTracks$Walk"), .arrayOver (.object "SnowTracks$Fact"), .arrayOver (.object "SnowTracks$Net"), .arrayClass .int, .arrayClass .long] ++ nsB) → w.before #[Value.ref b] s = true := fun w hw => hts w (k_in w hw)
  obtain ⟨c0, i0, u0⟩ := u_known (C := RX0) (T := TX0) (N := 5) hts luX0 (hts _ ins0)
  obtain ⟨c1, i1, u1⟩ := u_known (C := RX1) (T := TX1) (N := 2) hts luX1 (hts _ ins1)
  obtain ⟨c2, i2, u2⟩ := u_known (C := RX2) (T := TX2) (N := 5) hts luX2 (hts _ ins2)
  obtain ⟨c3, i3, u3⟩ := u_known (C := RX3) (T := TX3) (N := 4) hts luX3 (hts _ ins3)
  obtain ⟨c4, i4, u4⟩ := u_known (C := RX4) (T := TX4) (N := 2) hts luX4 (hts _ ins4)
  obtain ⟨c5, i5, u5⟩ := u_known (C := RX5) (T := TX5) (N := 6) hts luX5 (hts _ ins5)
  obtain ⟨c6, i6, u6⟩ := u_known (C := RX6) (T := TX6) (N := 5) hts luX6 (hts _ ins6)
  obtain ⟨c7, i7, u7⟩ := u_known (C := RX7) (T := TX7) (N := 7) hts luX7 (hts _ ins7)
  obtain ⟨c8, i8, u8⟩ := u_known (C := RX8) (T := TX8) (N := 9) hts luX8 (hts _ ins8)
  obtain ⟨c9, i9, u9⟩ := u_known (C := RX9) (T := TX9) (N := 18) hts luX9 (hts _ ins9)
  obtain ⟨c10, i10, u10⟩ := u_known (C := RX10) (T := TX10) (N := 41) hts luX10 (hts _ ins10)
  obtain ⟨a11, b11⟩ := k_arrI (hin (.arrayClass .int) (by simp)) (Or.inl rfl)
  obtain ⟨a12, b12⟩ := k_arrI (hin (.arrayClass .long) (by simp)) (Or.inr rfl)
  obtain ⟨a13, b13⟩ := k_arrO (hin (.arrayOver (.object "SnowTracks$Walk")) (by simp))
  obtain ⟨a14, b14⟩ := k_arrO (hin (.arrayOver (.object "SnowTracks$Fact")) (by simp))
  obtain ⟨a15, b15⟩ := k_arrO (hin (.arrayOver (.object "SnowTracks$Net")) (by simp))
  obtain ⟨G, hGd⟩ : ∃ G : Cx, G = (l, ((fun k => match k with | 0 => c0 | 1 => c1 | 2 => c2 | 3 => c3 | 4 => c4 | 5 => c5 | 6 => c6 | 7 => c7 | 8 => c8 | 9 => c9 | _ => c10), (fun k => match k with | 0 => i0 | 1 => i1 | 2 => i2 | 3 => i3 | 4 => i4 | 5 => i5 | 6 => i6 | 7 => i7 | 8 => i8 | 9 => i9 | _ => i10)), (fun t => match t with | 11 => a11 | 12 => a12 | 13 => a13 | 14 => a14 | _ => a15), b, L, xs) := ⟨_, rfl⟩
  have hs := flat_of_before _ hgv
  have hZ : ZU (fun q => s.heap.size ≤ q) s s.heap := ⟨vx_Zqof (hin (.laysStatic Bundle.tN "UNASSIGNED_STACK" Bundle.steD) (by simp)) (hin (.initialized Bundle.tN) (by simp)) (hs _ (by decide +kernel)) (fun a ha h => by omega), vx_Zqof (hin (.laysStatic Bundle.tN "SUPPRESSED_SENTINEL" Bundle.listD) (by simp)) (hin (.initialized Bundle.tN) (by simp)) (hs _ (by decide +kernel)) (fun a ha h => by omega), va_Nw.of rfl (hin _ (by simp [nsB])), va_Nw.of rfl (hin (.declares (Bundle.init0 "java/lang/RuntimeException")) (by simp [nsB])), va_Nw.of rfl (hin (.declares (Bundle.init0 "java/lang/Exception")) (by simp [nsB])), va_Nw.of rfl (hin (.declares (Bundle.init0 Bundle.tN)) (by simp [nsB]))⟩
  have hK : KS G s := by
    subst hGd
    refine ⟨⟨fun c q hq => ?_, fun k q hk => ?_⟩, fun w hw hn => va_Nw.of (by cases w <;> first | rfl | (simp [isNe] at hn)) (hts w hw), hin (.arrayOver (.object "SnowTracks$Walk")) (by simp), hin (.arrayOver (.object "SnowTracks$Fact")) (by simp), hin (.arrayOver (.object "SnowTracks$Net")) (by simp)⟩
    · match c, hq with
      | 0, hq => cases hq; exact u0
      | 1, hq => cases hq; exact u1
      | 2, hq => cases hq; exact u2
      | 3, hq => cases hq; exact u3
      | 4, hq => cases hq; exact u4
      | 5, hq => cases hq; exact u5
      | 6, hq => cases hq; exact u6
      | 7, hq => cases hq; exact u7
      | 8, hq => cases hq; exact u8
      | 9, hq => cases hq; exact u9
      | 10, hq => cases hq; exact u10
      | n + 11, hq => cases hq
    · match k, hk with
      | 0, hk => cases hk; exact b11
      | 1, hk => cases hk; exact b12
      | 2, hk => cases hk; exact b13
      | 3, hk => cases hk; exact b14
      | 4, hk => cases hk; exact b15
      | n + 5, hk => cases hk
  have hXS : XS G s s.heap := by
    subst hGd
    exact ⟨hX, hbl⟩
  have hGb : G.2.2.2.1 = b := by rw [hGd]
  have hGl : G.1 = l := by rw [hGd]
  have hGL : G.2.2.2.2.1 ≤ 4096 := by rw [hGd]; show L ≤ 4096; omega
  have conv : ∀ ls, lv_has ls 7 [(0, .ref b)] → W p l e room_1 s m #[Value.ref b] below meth c s.heap [] 0 0 (lw_Z below #[Value.ref b] s) (F0 m 0 ls []) := fun ls hlv => by
    have k := law_begin (G := G) (Af := fun q => s.heap.size ≤ q) (Q := fun r _ => r = some (.int 1)) (law_told (by rw [hGl]; exact hG)) (fun _ => rfl) hGL s.heap.size p e s m #[Value.ref b] below meth c s.heap [] ls ⟨hx, hb, hr, hlk, hml, hown, fun w hw _ => hts w hw, hK, hXS, (by rw [hGb]; exact Nat.not_le_of_lt hbl), fun q h => h, hZ⟩ ⟨rfl, rfl, fun a t n h => by cases h⟩ va_S.rf (fun a ha => absurd rfl ha) (by unfold L0; rw [hGb]; exact hlv)
    rw [hGl] at k
    intro T hT X
    obtain ⟨t, a1, o, b1, b2, ⟨⟨r, σ', ho, hq, -⟩, -⟩, Lw, ⟨hv, hW, hF⟩, hLb⟩ := k T hT X
    refine ⟨t, a1, o, b1, b2, by rw [ho, hq], hv, hW, hF.1, hF.2.1, hF.2.2.1, hF.2.2.2.1, hF.2.2.2.2.1, fun a cc hc => ?_⟩
    obtain ⟨c', d1, d2, d3, d4⟩ := hF.2.2.2.2.2 a cc hc
    refine ⟨c', d1, d2, d3, fun i _ => d4 i (fun hm => ?_)⟩
    have h1 := hLb _ hm
    have h2 := (Array.getElem?_eq_some_iff.mp hc).1
    exact absurd h1 (Nat.not_le_of_lt h2)
  rw [lg_entry_eq]
  exact conv _ (lv_entry [.ref b] (Nat.le_of_ble_eq_true rfl))
set_option maxHeartbeats 4000000 in
theorem lw_walk (l : Launch) (hG : l.stackTraces = false) (b : Addr) (xs : List Int32) : MetFree l x (headSpec (Jvm.Cond.code x code maxLocals ret :: tables_1) room_1) (lw_P b xs) (fun _ _ _ _ _ => True) lw_Q := by
  refine MetFree.of_bodyS (code := code) (maxLocals := maxLocals) (ret := ret) (by decide) ?_ ?_
  · intro args s m h hn
    obtain ⟨meth, c, h1, h2, h3, h4, h5, h6, -, -⟩ := Cond.code_spec hn (atoms_spec (ws := Jvm.Cond.code x code maxLocals ret :: tables_1) h _ List.mem_cons_self)
    exact ⟨meth, c, h1, h2, h3, h4, h5, h6⟩
  · intro p e s m args below meth c s₁ B hml0 hP _
    obtain ⟨rfl, hx, hbd, hgv⟩ := hP
    obtain ⟨scr, harrAt, hlist, hof, hsmall⟩ := hx
    obtain ⟨hcb, hkn, -, -⟩ := State.arrayAt?_spec harrAt
    have hown : s.vm.findClass R_law = some m.cls := findClass_of_methodNamed B.named
    have hts0 : ∀ c ∈ (Jvm.Cond.code x code maxLocals ret :: tables_1), c.before #[Value.ref b] s = true := atoms_spec (ws := Jvm.Cond.code x code maxLocals ret :: tables_1) B.pre
    have hts : ∀ w ∈ lw_tbl, w.before #[Value.ref b] s = true := k2_hts_sels lw_privs (fun w hw => hts0 w (List.mem_cons_of_mem _ hw)) lw_privs_ok
    have hml : c.maxLocals = 7 := B.maxLocals_eq (hts0 _ List.mem_cons_self)
    have X₀ : Stand p l e room_1 s m #[Value.ref b] below meth c s₁ [] 0 0 := Stand.of_body B
    have hh0 : s₁.heap = s.heap := by rw [B.state]; rfl
    have hsz : scr.slots.size = xs.length := by rw [← Array.length_toList, hlist, List.length_map]
    have hval : ∀ j : Nat, j < xs.length → scr.slots[j]? = some (.int (xs.getD j 0)) := fun j hj => by
      rw [← Array.getElem?_toList, hlist]
      simp [hj]
    have hbl : b < s.heap.size := (Array.getElem?_eq_some_iff.mp hcb).1
    have hX : va_X b xs.length (fun j => xs.getD j 0) s s.heap := ⟨scr, hcb, hof, hkn, hsz, hval⟩
    have K : W p l e room_1 s m #[Value.ref b] below meth c s₁.heap [] 0 0 (lw_Z below #[Value.ref b] s) (entryFrame m ([Value.ref b] : List Value).toArray 7) := by
      rw [hh0]
      exact whole_start l hG hbd ⟨B.exec, B.bytes, B.returns, hml, hown, hts, hX, hbl, B.notSynchronized, hgv⟩
    obtain ⟨t, a1, o, b1, b2, b3⟩ := K s₁ rfl X₀
    exact ⟨t, o, a1, b1, b2, b3⟩
theorem lw_pre_spec {args : Array Value} {s : State} (h : (Jvm.Cond.and given_1 narrow_1).before args s = true) (hr : rest_1_c.before args s = true) : ∃ (b : Addr) (xs : List Int32), lw_P b xs args s := by
  have hs := flat_of_before _ h
  have hq := flat_of_before _ hr
  have hc : (Cond.count 1).before args s = true := hs _ (by decide +kernel)
  have harr : (Cond.arrayOf (.arg 0) .int).before args s = true := hs _ (by decide +kernel)
  have hle : (Cond.le (.length (.arg 0)) (.int 3587)).before args s = true := hs _ (by decide +kernel)
  have hlen : (Cond.isInt (.length (.arg 0))).before args s = true := hq _ (by decide +kernel)
  have hall : (Cond.all (.arg 0) (.isInt (.elem (.arg 0) (.index 0)))).before args s = true := hq _ (by decide +kernel)
  obtain ⟨b, xs, hb, hx⟩ := State.ints_of_pre rfl harr hlen hall
  have hsm : xs.length < 2 ^ 31 := hx.choose_spec.2.2.2
  have hev : (Term.length (.arg 0)).eval args s none [] s = some (.int xs.length.toInt32) := hx.length_eval hb
  have hv := Cond.le_ints hev (show (Term.int 3587).eval args s none [] s = some (.int 3587) from rfl)
  have hd : xs.length.toInt32 ≤ 3587 := by
    simpa [Cond.before, Cond.holds, hv] using hle
  have hN : xs.length ≤ 3587 := (Int32.ofNat_le_ofNat hsm (by decide)).mp (show Int32.ofNat xs.length ≤ Int32.ofNat 3587 from hd)
  exact ⟨b, xs, Cond.one_arg hc (show args[0]? = some (.ref b) from hb), hx, hN, h⟩
theorem lw_comes (l : Launch) (hG : l.stackTraces = false) : Comes l x (Jvm.Cond.code x code maxLocals ret :: tables_1) room_1 (fun tb e args s => Calls_1 tb e args s ∧ rest_1 tb e args s ∧ Pre_1 tb e args s)
    (fun _ _ args s o t => lw_Q args s o t) := by
  intro p e ha hc hk s m args below hf hfit hheap happ hpre
  obtain ⟨b, xs, hP⟩ := lw_pre_spec hpre.2.2 hpre.2.1
  obtain ⟨k, o, h1, h2, h3, hQ⟩   := lw_walk l hG b xs p e ha hc hk s m args below hf ((Spec.applies_iff_loose hf).mp happ).1 hP trivial
  exact ⟨k, o, h1, h2, h3, hQ⟩
theorem lw_frame {s t : State} {o : Outcome} {args : Array Value} (h : Framed s o t [] 601024 7293000) :
    Framed s o t (fieldLocs frame_1_writes args s ++ arrayLocs frame_1_arrays args s ++ staticLocs frame_1_statics s) 601024 7293000 := h
theorem lw_limb (L : Cond) (hL : ∀ (args : Array Value) (s t : State), L.after args s (.returned (some (.int 1))) t = true) :
    ArmFor flags0 classFile x code maxLocals ret World_1 tables_1 room_1 Calls_1 rest_1 Pre_1
      (fun tb e a s o t => postC L tb e a s o t ∧ Framed s o t (fieldLocs frame_1_writes a s ++ arrayLocs frame_1_arrays a s ++ staticLocs frame_1_statics s) 601024 7293000) := by
  intro l hfl _ _ p e ha hc hk s m args below hf hfit hheap happ hpre
  have hG : l.stackTraces = false := by
    unfold Launch.stackTraces
    rw [hfl]
    decide +kernel
  obtain ⟨k, o, h1, h2, h3, rfl, hF⟩ := lw_comes l hG p e ha hc hk s m args below hf hfit hheap happ hpre
  exact ⟨k, _, h1, h2, h3, hL args s _, lw_frame hF⟩
theorem i_vc : Claimed_1_1 ∧ Claimed_1_2 := ⟨lw_limb limb_1_1 (fun args s t => by simp [limb_1_1, Cond.after, Cond.holds, Cond.value]), lw_limb limb_1_2 (fun args s t => Cond.after_iff.mpr (by
  first | (rw [show limb_1_2 = Cond.eq .result (.int 1) from rfl, Cond.eq_ints (x := 1) (y := 1) rfl rfl]; simp; done) | (simp [limb_1_2, Cond.value, Term.eval]; done)))⟩
