/-! ===== the class's told: it answers or throws (printed by wip/whole/gen98.py) ===== -/
set_option maxRecDepth 100000 in
theorem nse_in : (((vx_at0 "SnowTracks" 149 NSE NSu).filter goodWord).all fun w => decide (w ∈ lw_tbl)) = true := by decide +kernel
set_option maxRecDepth 100000 in
theorem nse_nb : (((vx_at0 "SnowTracks" 149 NSE NSu).filter fun w => !goodWord w).all fun w => decide (w ∈ nsB)) = true := by decide +kernel
theorem NwB.h3 {s : State} {args : Array Value} (h : NwB s) : ∀ w ∈ nsB, w.before args s = true := vx_c (va_Nw.use rfl h.1) (vx_c (va_Nw.use rfl h.2.1) (vx_c (va_Nw.use rfl h.2.2.1) (vx_c (va_Nw.use rfl h.2.2.2) vx_n)))
theorem NwB.warm {s U : State} (hW : s.WarmedH U.vm) (h : NwB s) : NwB U := ⟨va_Nw.warmC hW h.1, va_Nw.warmD hW h.2.1, va_Nw.warmD hW h.2.2.1, va_Nw.warmD hW h.2.2.2⟩
theorem NwB.same {s U : State} (hv : s.vm = U.vm) (h : NwB s) : NwB U := ⟨va_Nw.same rfl hv h.1, va_Nw.same rfl hv h.2.1, va_Nw.same rfl hv h.2.2.1, va_Nw.same rfl hv h.2.2.2⟩
set_option maxRecDepth 100000 in
theorem nse_ot : ((Cond.classLink "SnowTracks" 147 NSE :: Cond.initialized NSE :: vx_at0 "SnowTracks" 149 NSE NSu).all vx_ot) = true := by decide +kernel
set_option maxRecDepth 100000 in
theorem ini_nse : decide (Cond.initialized NSE ∈ lw_tbl) = true := by decide +kernel
section X98
variable {G : Cx} {mt : Mt} {E : Ex} {cells slots pc : Nat} {lv : Lv} {st : List Value} {σ σ' : Sg} {a k t idx : Nat} {C : String} {T : u_T} {N : Nat} {ty : Nat → FieldType} {v : Value} {i x y : Int32}
theorem BX.getN {host : String} (hd : decode mt.2.1 pc = .ok (.getfield idx, 3)) (ci : CI t C T N ty) (hk : k < N) (hlk : Cond.fieldLinkNest mt.1.cls idx C (T k).2.1 (T k).2.2.1 host ∈ lw_tbl) (hv : gV t σ a k = some v) (kk : BX G mt E cells slots (pc + 3) lv (v :: st) σ) : BX G mt E cells slots pc lv (.ref a :: st) σ := by
  intro p e s m args below meth c H locs ls C0 hR hS hA hl
  have kk' := kk p e s m args below meth c H locs ls C0 hR hS hA hl
  obtain ⟨hx, hb, -, -, -, hown, hts, hK, -⟩ := C0
  obtain ⟨n, h1, h2, rfl⟩ := gV_spec hv
  obtain ⟨rfl, hO⟩ := hR.obj ci h1
  refine va_getN (D := G.2.1) (cl := vwCl) (ws := [(a, .inr (t, (List.range n).map (σ.2.2 a)))]) (Ts := lw_tbl.filter goodWord) hx hb (fun w hw => hts w (List.mem_filter.mp hw).1 (List.mem_filter.mp hw).2) ci.2.1 hown hK.1 ?_ 0 rfl ci.1 k hk (va_Nw.use rfl (hK.2.1 _ hlk rfl)) (fun x h => by rw [ci.2.2.2.2 k hk] at h; exact h) (by simp [hk]) hd kk'
  intro q x hq
  have hz : q < 1 := (List.getElem?_eq_some_iff.mp hq).1
  rw [show q = 0 by omega] at hq
  cases hq
  exact ⟨_, ci.1, hO.to (fun j hj => (vp_V_range n _ hj).symm)⟩
theorem BX.iretV {Q : Option Value → Sg → Prop} {XC : String → State → State → Prop} {mc ms : Nat} (hE : E.2.2.1 = fun below args s => vx_MQ below (QcS G Q E.2.1) XC args s mc ms E.2.1) (hd : decode mt.2.1 pc = .ok (.ireturn, 1)) (hr : mt.2.2.2 = some .int) (hc : cells ≤ mc) (hs : slots ≤ ms) (hq : Q (some (.int x)) σ) : BX G mt E cells slots pc lv [.int x] σ :=
  fun p e s m args below meth c H locs ls C0 hR hS hA hl => by
    rw [hE]
    exact vx_ret (W.widen hc hs (W.iret C0.1 C0.2.1 (C0.2.2.1.trans hr) (fun t ht _ => QcS.mk (E := (E.1, E.2.1, mc, ms, Q)) hq hR hS hA ht) (fun q h => hS.2.2 q h) hd C0.2.2.2.1))
def PZ (G : Cx) (vs : List Value) (σ : Sg) : Array Value → State → Prop := va_Pc vs (fun U => (RepS G U.heap σ ∧ KS G U ∧ XS G U U.heap) ∧ ZU (Aof σ) U U.heap)
/-- thrown: the heap holds what it held -/
def XT (G : Cx) (σ : Sg) (ok : Prop) : String → State → State → Prop := vx_X (fun _ : Unit => ¬ ok) (fun E _ t => E = NSE ∧ RepS G t.heap (t.heap.size, σ.2.1, σ.2.2)) (Aof σ)
def rmT : Room := { frames := 6, cells := 1, slots := 6, locals := 200 }
def ET (G : Cx) (σ : Sg) (Q : Option Value → Sg → Prop) (ok : Prop) : Ex := (rmT, Aof σ, fun below args s => vx_MQ below (QcS G Q (Aof σ)) (XT G σ ok) args s 1 6 (Aof σ), fun _ s _ _ _ c => ZU (Aof σ) s s.heap ∧ ∀ x ∈ c.exceptionTable.toList, False)
theorem BX.thr {Q : Option Value → Sg → Prop} {ok : Prop} (hG : G.1.stackTraces = false) (hno : ¬ ok) (d0 : decode tX9_told.2.1 pc = .ok (.new 147, 3)) (d3 : decode tX9_told.2.1 (pc + 3) = .ok (.dup, 1)) (d4 : decode tX9_told.2.1 (pc + 4) = .ok (.invokespecial 149, 3)) (d7 : decode tX9_told.2.1 (pc + 7) = .ok (.athrow, 1)) : BX G tX9_told (ET G σ Q ok) 0 0 pc lv [] σ :=
  fun p e s m args below meth c H locs ls C0 hR hS hA hl => by
    have hts := C0.2.2.2.2.2.2.1
    have hz := C0.2.2.2.2.2.2.2.2.2.2.2
    refine vx_throw0 (cc := tX9_told.2.1) C0.1 C0.2.1 hG (own := "SnowTracks") (cls := NSE) (names := NSu) (ik := 147) (ic := 149) (A := Aof σ) C0.2.2.2.2.2.1 (by decide +kernel) (by decide +kernel) (hts _ lkC_X9_147 rfl) (hts _ (of_decide_eq_true ini_nse) rfl) (fun w hw => ?_) (fun w hw => List.all_eq_true.mp nse_ot w hw) hz.1.1 hz.1.2.1 hS (hl.1.trans C0.2.2.2.2.1.symm) d0 d3 d4 d7 (fun x hx => (hz.2 x hx).elim) (Nat.le_of_ble_eq_true rfl) (Nat.le_of_ble_eq_true rfl) (Nat.le_of_ble_eq_true rfl) (Nat.le_of_ble_eq_true rfl) C0.2.2.2.1 (fun t _ hz' hk => ?_) (fun z hz' => hS.2.2 z hz') (by decide) (by decide)
    · exact vx_hat (fun w hw => hts w (of_decide_eq_true (List.all_eq_true.mp nse_in w hw)) (List.mem_filter.mp hw).2) (fun w hw => of_decide_eq_true (List.all_eq_true.mp nse_nb w hw)) hz.1.2.2.h3 w hw
    · refine ⟨(), hno, ⟨rfl, rfl, hR.2.1, fun a t n h => (hR.2.2 a t n h).kept (hk a (hR.2.2 a t n h).lt)⟩, Nat.le_trans hS.1 hz', fun q hq hn => (hk q (Nat.lt_of_lt_of_le hq hS.1)).trans (hS.2.1 q hq hn)⟩
/-- what told answers -/
def QT (A : AS) (σ : Sg) (w z : Int) : Option Value → Sg → Prop := fun v s' => s' = σ ∧ ∃ r, v = some (.int (iI r)) ∧ (isW A w ∧ 0 ≤ z ∧ z ≤ 4) ∧ r = tldV (wk A w.toNat) z
set_option maxRecDepth 100000 in
set_option maxHeartbeats 4000000 in
theorem told_body {B : Nat} {wa : Nat → Nat} {A : AS} {w z : Int} (hG : G.1.stackTraces = false) (h : St B wa σ A) (hw : RI w) (hz : RI z) : BX G tX9_told (ET G σ (QT A σ w z) (isW A w ∧ 0 ≤ z ∧ z ≤ 4)) 0 0 0 [(0, .ref B), (1, .int (iI w)), (2, .int (iI z))] [] σ := by
  have hb : σ.2.1 B = some (9, 18) := h.1.1 0 (by omega)
  refine BX.run [.aload_n 0, .iload_n 1] (pc' := 2) (lv' := [(0, .ref B), (1, .int (iI w)), (2, .int (iI z))]) (st' := [.int (iI w), .ref B]) (by decide +kernel) rfl rfl ?_
  refine BX.callV (As := [.int (iI w)]) (st := []) (by decide +kernel : decode tX9_told.2.1 2 = .ok (.invokevirtual 143, 3)) (DX9_walkOf (P := fun q => q = _) ⟨_, x_walkOf (n := 2000000) h.1 h.2.2 hw, rfl⟩) mfX9_walkOf lkM_X9_143 imX9_walkOf selX9_walkOf ciX9 hb rfl rfl (Nat.le_of_ble_eq_true rfl) ⟨Nat.le_of_ble_eq_true rfl, Nat.le_of_ble_eq_true rfl⟩ ⟨Nat.le_of_ble_eq_true rfl, Nat.le_of_ble_eq_true rfl⟩ (fun r' σ' hq => ?_)
  obtain ⟨r1, rfl, hq⟩ := hq
  by_cases c : 0 ≤ w ∧ w < wn A
  · rw [if_pos c] at hq
    cases hq
    obtain ⟨-, hW, -, -⟩ := h.1.2.2.2.2.2.2.2.2.2.1 w.toNat (by omega)
    refine BX.run [.astore_n 3, .aload_n 3] (pc' := 7) (lv' := [(0, .ref B), (1, .int (iI w)), (2, .int (iI z)), (3, .ref (wa w.toNat))]) (st' := [.ref (wa w.toNat)]) (by decide +kernel) rfl rfl ?_
    refine BX.ifnonnull 18 (by decide +kernel : decode tX9_told.2.1 7 = .ok (.ifnonnull 11, 3)) rfl ?_
    refine BX.run [.iload_n 2] (pc' := 19) (lv' := [(0, .ref B), (1, .int (iI w)), (2, .int (iI z)), (3, .ref (wa w.toNat))]) (st' := [.int (iI z)]) (by decide +kernel) rfl rfl ?_
    have ez : (iI z).toInt = z := iI_toInt hz.1 hz.2
    by_cases d : z < 0 ∨ 4 < z
    · refine BX.tblOut 77 (by decide +kernel : decode tX9_told.2.1 19 = .ok (.tableswitch 58 0 4 #[33, 38, 43, 48, 53], 33)) (by rw [ez]; exact d) rfl ?_
      exact BX.thr hG (fun q => by omega) (by decide +kernel) (by decide +kernel) (by decide +kernel) (by decide +kernel)
    · have hok : isW A w ∧ 0 ≤ z ∧ z ≤ 4 := ⟨c, by omega, by omega⟩
      obtain ⟨⟨hs0, -⟩, ⟨g0, g1, -, -, -, -, g6, g7, g8⟩, -⟩ := hW
      have gv : ∀ k v, k < 9 → σ.2.2 (wa w.toNat) k = v → gV 8 σ (wa w.toNat) k = some v := fun k v hk hv => by
        unfold gV
        rw [hs0, hv]
        exact if_pos ⟨rfl, hk⟩
      have : z = 0 ∨ z = 1 ∨ z = 2 ∨ z = 3 ∨ z = 4 := by omega
      rcases this with rfl | rfl | rfl | rfl | rfl
      · refine BX.tblIn 52 (by decide +kernel : decode tX9_told.2.1 19 = .ok (.tableswitch 58 0 4 #[33, 38, 43, 48, 53], 33)) (by decide) (by decide) (by rfl) rfl ?_
        refine BX.run [.aload_n 3] (pc' := 53) (lv' := [(0, .ref B), (1, .int (iI w)), (2, .int (iI 0)), (3, .ref (wa w.toNat))]) (st' := [.ref (wa w.toNat)]) (by decide +kernel) rfl rfl ?_
        refine BX.getN (by decide +kernel : decode tX9_told.2.1 53 = .ok (.getfield 150, 3)) ciX8 (k := 6) (by decide) lkF_X9_150 (gv 6 _ (by decide) g6) ?_
        exact BX.iretV (Q := QT A σ w 0) (XC := XT G σ (isW A w ∧ (0 : Int) ≤ 0 ∧ (0 : Int) ≤ 4)) (mc := 1) (ms := 6) rfl (by decide +kernel : decode tX9_told.2.1 56 = .ok (.ireturn, 1)) rfl (by decide) (by decide) ⟨rfl, _, rfl, hok, rfl⟩
      · refine BX.tblIn 57 (by decide +kernel : decode tX9_told.2.1 19 = .ok (.tableswitch 58 0 4 #[33, 38, 43, 48, 53], 33)) (by decide) (by decide) (by rfl) rfl ?_
        refine BX.run [.aload_n 3] (pc' := 58) (lv' := [(0, .ref B), (1, .int (iI w)), (2, .int (iI 1)), (3, .ref (wa w.toNat))]) (st' := [.ref (wa w.toNat)]) (by decide +kernel) rfl rfl ?_
        refine BX.getN (by decide +kernel : decode tX9_told.2.1 58 = .ok (.getfield 153, 3)) ciX8 (k := 0) (by decide) lkF_X9_153 (gv 0 _ (by decide) g0) ?_
        exact BX.iretV (Q := QT A σ w 1) (XC := XT G σ (isW A w ∧ (0 : Int) ≤ 1 ∧ (1 : Int) ≤ 4)) (mc := 1) (ms := 6) rfl (by decide +kernel : decode tX9_told.2.1 61 = .ok (.ireturn, 1)) rfl (by decide) (by decide) ⟨rfl, _, rfl, hok, rfl⟩
      · refine BX.tblIn 62 (by decide +kernel : decode tX9_told.2.1 19 = .ok (.tableswitch 58 0 4 #[33, 38, 43, 48, 53], 33)) (by decide) (by decide) (by rfl) rfl ?_
        refine BX.run [.aload_n 3] (pc' := 63) (lv' := [(0, .ref B), (1, .int (iI w)), (2, .int (iI 2)), (3, .ref (wa w.toNat))]) (st' := [.ref (wa w.toNat)]) (by decide +kernel) rfl rfl ?_
        refine BX.getN (by decide +kernel : decode tX9_told.2.1 63 = .ok (.getfield 156, 3)) ciX8 (k := 1) (by decide) lkF_X9_156 (gv 1 _ (by decide) g1) ?_
        exact BX.iretV (Q := QT A σ w 2) (XC := XT G σ (isW A w ∧ (0 : Int) ≤ 2 ∧ (2 : Int) ≤ 4)) (mc := 1) (ms := 6) rfl (by decide +kernel : decode tX9_told.2.1 66 = .ok (.ireturn, 1)) rfl (by decide) (by decide) ⟨rfl, _, rfl, hok, rfl⟩
      · refine BX.tblIn 67 (by decide +kernel : decode tX9_told.2.1 19 = .ok (.tableswitch 58 0 4 #[33, 38, 43, 48, 53], 33)) (by decide) (by decide) (by rfl) rfl ?_
        refine BX.run [.aload_n 3] (pc' := 68) (lv' := [(0, .ref B), (1, .int (iI w)), (2, .int (iI 3)), (3, .ref (wa w.toNat))]) (st' := [.ref (wa w.toNat)]) (by decide +kernel) rfl rfl ?_
        refine BX.getN (by decide +kernel : decode tX9_told.2.1 68 = .ok (.getfield 159, 3)) ciX8 (k := 7) (by decide) lkF_X9_159 (gv 7 _ (by decide) g7) ?_
        exact BX.iretV (Q := QT A σ w 3) (XC := XT G σ (isW A w ∧ (0 : Int) ≤ 3 ∧ (3 : Int) ≤ 4)) (mc := 1) (ms := 6) rfl (by decide +kernel : decode tX9_told.2.1 71 = .ok (.ireturn, 1)) rfl (by decide) (by decide) ⟨rfl, _, rfl, hok, rfl⟩
      · refine BX.tblIn 72 (by decide +kernel : decode tX9_told.2.1 19 = .ok (.tableswitch 58 0 4 #[33, 38, 43, 48, 53], 33)) (by decide) (by decide) (by rfl) rfl ?_
        refine BX.run [.aload_n 3] (pc' := 73) (lv' := [(0, .ref B), (1, .int (iI w)), (2, .int (iI 4)), (3, .ref (wa w.toNat))]) (st' := [.ref (wa w.toNat)]) (by decide +kernel) rfl rfl ?_
        refine BX.getN (by decide +kernel : decode tX9_told.2.1 73 = .ok (.getfield 162, 3)) ciX8 (k := 8) (by decide) lkF_X9_162 (gv 8 _ (by decide) g8) ?_
        exact BX.iretV (Q := QT A σ w 4) (XC := XT G σ (isW A w ∧ (0 : Int) ≤ 4 ∧ (4 : Int) ≤ 4)) (mc := 1) (ms := 6) rfl (by decide +kernel : decode tX9_told.2.1 76 = .ok (.ireturn, 1)) rfl (by decide) (by decide) ⟨rfl, _, rfl, hok, rfl⟩
  · rw [if_neg c] at hq
    cases hq
    refine BX.run [.astore_n 3, .aload_n 3] (pc' := 7) (lv' := [(0, .ref B), (1, .int (iI w)), (2, .int (iI z)), (3, .null)]) (st' := [.null]) (by decide +kernel) rfl rfl ?_
    refine BX.ifnonnullN (by decide +kernel : decode tX9_told.2.1 7 = .ok (.ifnonnull 11, 3)) ?_
    exact BX.thr hG (fun q => c q.1) (by decide +kernel) (by decide +kernel) (by decide +kernel) (by decide +kernel)
end X98
