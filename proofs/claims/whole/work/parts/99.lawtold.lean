/-! ===== the law's told: it catches what the class's told throws ===== -/
section X99
variable {G : Cx} {B : Nat} {wa : Nat → Nat} {σ : Sg} {A : AS} {w z : Int}
theorem ZU.now {A1 A2 : Nat → Prop} {s U : State} {H : Heap} {locs : List Loc} (h : ZU A1 s s.heap) (hS : va_S A1 s.heap H locs) (hU : U.heap = H) (hW : s.WarmedH U.vm) (hsub : ∀ q, A2 q → A1 q) : ZU A2 U U.heap := by
  obtain ⟨h1, h2, h3⟩ := h
  rw [hU]
  exact ⟨(vx_Zq.moved hW.alike (h1.kept hS.2.1)).narrow hsub, (vx_Zq.moved hW.alike (h2.kept hS.2.1)).narrow hsub, h3.warm hW⟩
theorem frameBlindZ (G : Cx) (vs : List Value) (σ : Sg) : FrameBlind (PZ G vs σ) := fun a U g mk q => by
  obtain ⟨q0, ⟨q1, q2, q3⟩, q4, q5, q6⟩ := q
  exact ⟨q0, ⟨q1, KS.same (show U.vm = (U.calling g mk a).vm from rfl) q2, q3.moved (Vm.Alike.refl U.vm)⟩, vx_Zq.moved (Vm.Alike.refl U.vm) q4, vx_Zq.moved (Vm.Alike.refl U.vm) q5, NwB.same (show U.vm = (U.calling g mk a).vm from rfl) q6⟩
set_option maxRecDepth 100000 in
theorem d_toldX (hG : G.1.stackTraces = false) (h : St B wa σ A) (hw : RI w) (hz : RI z) : vx_Met G.1 tX9_told.1 (wsM tX9_told) rmT (PZ G [.ref B, .int (iI w), .int (iI z)] σ) (QcS G (QT A σ w z) (Aof σ)) (XT G σ (isW A w ∧ 0 ≤ z ∧ z ≤ 4)) 1 6 (Aof σ) := by
  refine vx_ofW (cc := tX9_told.2.1) (maxL := tX9_told.2.2.1) (ret := tX9_told.2.2.2) (by decide +kernel) rfl ?_
  intro p e s m args below meth c s₁ Bd hml hex hv
  obtain ⟨rfl, ⟨hR, hK, hX⟩, hZ⟩ := hv
  have hts := atoms_spec (ws := wsM tX9_told) Bd.pre
  have hbA : ¬ Aof σ G.2.2.2.1 := fun h => by
    rcases h with h | h
    · exact h hR.2.1
    · have := hX.2
      rw [hR.1] at this
      omega
  rw [lg_entry_eq]
  exact told_body hG h hw hz p e s m _ below meth c s.heap [] _ ⟨Bd.exec, Bd.bytes, Bd.returns, Bd.notSynchronized, hml, findClass_of_methodNamed Bd.named, fun w hw hg => hts w (List.mem_cons_of_mem _ (List.mem_filter.mpr ⟨hw, hg⟩)), hK, hX, hbA, fun q hq => Or.inr (by rw [← hR.1]; exact hq), hZ, hex⟩ hR va_S.rf (fun a ha => Or.inl ha) (lv_entry [.ref B, .int (iI w), .int (iI z)] (Nat.le_of_ble_eq_true rfl))
abbrev hhT : List (Nat × Nat × Nat × Nat) := [(0, 10, 13, 13)]
def wsT : List Cond := Cond.codeWith tL_told.1 tL_told.2.1 5 (some .int) hhT :: lw_tbl.filter goodWord
/-- what the law's told answers -/
def QL (B : Nat) (A : AS) (σ : Sg) (w z : Int) : Option Value → Sg → Prop := fun v s' => ((isW A w ∧ 0 ≤ z ∧ z ≤ 4) ∧ v = some (.int 0) ∧ s' = (σ.1, σ.2.1, up2 σ.2.2 (B + 89) 0 (.long (iI (tldV (wk A w.toNat) z)).toInt64))) ∨ (¬ (isW A w ∧ 0 ≤ z ∧ z ≤ 4) ∧ v = some (.int 1) ∧ σ.1 ≤ s'.1 ∧ s'.2 = σ.2)
def rmL : Room := { frames := 7, cells := 1, slots := 6, locals := 300 }
def XF : String → State → State → Prop := fun _ _ _ => False
def EW (G : Cx) (σ : Sg) (Q : Option Value → Sg → Prop) : Ex := (rmL, Aof σ, fun below args s => vx_MQ below (QcS G Q (Aof σ)) XF args s 1 6 (Aof σ), fun _ s _ args _ c => ZU (Aof σ) s s.heap ∧ c.exceptionTable.toList = tableOf hhT)
abbrev LT (B : Nat) (w z : Int) : Lv := [(0, .ref B), (1, .int (iI w)), (2, .int (iI z)), (3, .ref (B + 89))]
theorem cast_nse : decide (Cond.castable NSE NSE ∈ lw_tbl) = true := by decide +kernel
set_option maxRecDepth 100000 in
set_option maxHeartbeats 4000000 in
theorem ltold_body (hG : G.1.stackTraces = false) (h : St B wa σ A) (ho : σ.2.1 (B + 89) = some (12, 1)) (hw : RI w) (hz : RI z) : BX G tL_told (EW G σ (QL B A σ w z)) 0 0 0 (LT B w z) [] σ := by
  have hb : σ.2.1 B = some (9, 18) := h.1.1 0 (by omega)
  refine BX.run [.aload_n 3, .iconst 0, .aload_n 0, .iload_n 1, .iload_n 2] (pc' := 5) (lv' := LT B w z) (st' := [.int (iI z), .int (iI w), .ref B, .int 0, .ref (B + 89)]) (by decide +kernel) rfl rfl ?_
  intro p e s m args below meth c H locs ls C0 hR hS hA hl T hT X
  have hts := C0.2.2.2.2.2.2.1
  have hzx := C0.2.2.2.2.2.2.2.2.2.2.2
  have hAs := C0.2.2.2.2.2.2.2.2.2.2.1
  have mf := mfX9_told
  rcases vx_runV (As := [.int (iI w), .int (iI z)]) (rest := [.int 0, .ref (B + 89)]) (C := RX9) (n := 2) (callFixX C0) (d_toldX hG h hw hz) ⟨callB_of 2 (callFixX C0).2.2.2.2 (wsM_good mf) rfl rfl rfl (hts _ mf.2.1 rfl) (hts _ lkM_L_7 rfl) mf.2.2 ⟨Nat.le_of_ble_eq_true rfl, Nat.le_of_ble_eq_true rfl⟩, hts _ imX9_told rfl, hts _ selX9_told rfl⟩ ⟨frameBlindZ _ _ _, recvX C0 hR ciX9 hb, fun U hU hW => ⟨rfl, (PcS.nowX (vs := [.ref B, .int (iI w), .int (iI z)]) C0 hR hS U hU hW).2, hzx.1.now hS hU hW (fun q hq => by
      rcases hq with hq | hq
      · exact hA q hq
      · exact hAs q (Nat.le_trans hS.1 (by rw [hR.1]; exact hq)))⟩⟩ rfl rfl hl.1 rfl (lv_room (Nat.le_of_ble_eq_true rfl)) (by decide +kernel : decode tL_told.2.1 5 = .ok (.invokevirtual 7, 3)) ⟨Nat.le_of_ble_eq_true rfl, Nat.le_of_ble_eq_true rfl⟩ T hT X with ⟨v, st₀, t, T', L, h0, X', hL, e1, e2, ⟨⟨r, σ', hv, hq, hrep, hdom⟩, hz', hk⟩, stp⟩ | ⟨q, st₀, t, T', L, E, ce, h0, X', hL, e1, e2, ⟨u, hp, ⟨hE, hrep⟩, hz', hk⟩, hce, hcv, hcl, stp⟩
  · cases hv
    obtain ⟨rfl, r0, rfl, hok, rfl⟩ := hq
    rw [h0] at hz' hk
    have hsv : sV 12 σ' (B + 89) 0 (.long (iI (tldV (wk A w.toNat) z)).toInt64) = some (σ'.1, σ'.2.1, up2 σ'.2.2 (B + 89) 0 (.long (iI (tldV (wk A w.toNat) z)).toInt64)) := by
      unfold sV
      rw [ho]
      exact if_pos ⟨rfl, by decide⟩
    have k : BX G tL_told (EW G σ' (QL B A σ' w z)) 1 6 8 (LT B w z) [.int (iI (tldV (wk A w.toNat) z)), .int 0, .ref (B + 89)] σ' := by
      refine BX.i2l (by decide +kernel : decode tL_told.2.1 8 = .ok (.i2l, 1)) ?_
      refine BX.last (by decide +kernel : decode tL_told.2.1 9 = .ok (.lastore, 1)) hsv ?_
      refine BX.goto 17 (by decide +kernel : decode tL_told.2.1 10 = .ok (.goto 7, 3)) rfl ?_
      refine BX.run [.iconst 0] (pc' := 18) (lv' := LT B w z) (st' := [.int 0]) (by decide +kernel) rfl rfl ?_
      exact BX.iretV (Q := QL B A σ' w z) (XC := XF) (mc := 1) (ms := 6) rfl (by decide +kernel : decode tL_told.2.1 18 = .ok (.ireturn, 1)) rfl (by decide) (by decide) (Or.inl ⟨hok, rfl, rfl⟩)
    obtain ⟨t2, a1, b1⟩ := k p e s m args below meth c T'.heap (locs ++ L) ls C0 (by rw [e1]; exact hrep) ⟨Nat.le_trans hS.1 (by rw [e1]; exact hz'), fun q h1 h2 => by rw [e1, hk q (Nat.lt_of_lt_of_le h1 hS.1) h2]; exact hS.2.1 q h1 h2, fun q hq => (List.mem_append.mp hq).elim (hS.2.2 q) (hL q)⟩ hdom hl T' rfl X'
    exact ⟨t2, stp t2 a1, b1⟩
  · subst hE
    rw [h0] at hz' hk
    have k : BX G tL_told (EW G σ (QL B A σ w z)) 1 6 13 (LT B w z) [.ref q] (t.heap.size, σ.2.1, σ.2.2) := by
      refine BX.run [.astore 4, .iconst 1] (pc' := 16) (lv' := LT B w z ++ [(4, .ref q)]) (st' := [.int 1]) (by decide +kernel) rfl rfl ?_
      exact BX.iretV (Q := QL B A σ w z) (XC := XF) (mc := 1) (ms := 6) rfl (by decide +kernel : decode tL_told.2.1 16 = .ok (.ireturn, 1)) rfl (by decide) (by decide) (Or.inr ⟨hp, rfl, by rw [← hR.1]; exact hz', rfl⟩)
    have kk := k p e s m args below meth c T'.heap (locs ++ L) ls C0 (by rw [e1]; exact hrep) ⟨Nat.le_trans hS.1 (by rw [e1]; exact hz'), fun q h1 h2 => by rw [e1, hk q (Nat.lt_of_lt_of_le h1 hS.1) h2]; exact hS.2.1 q h1 h2, fun q hq => (List.mem_append.mp hq).elim (hS.2.2 q) (hL q)⟩ hA hl
    have kc := vx_catch (pc := 5) (rest := [.int 0, .ref (B + 89)]) (own := "SnowTracksLaw") (name := NSE) (E := NSE) C0.2.2.2.2.2.1 [] (⟨0, 10, 13, 13⟩ : ExceptionTableEntry) [] (hzx.2.trans rfl) (fun z hz => (nomatch hz)) (by decide) (by decide) (hts _ lkC_L_13 rfl) (va_Nw.use rfl hzx.1.2.2.1) (by rw [e1]; exact hce) hcv hcl kk
    obtain ⟨t2, a1, b1⟩ := kc T' rfl X'
    exact ⟨t2, stp.trans a1, b1⟩
set_option maxRecDepth 100000 in
theorem d_ltold (hG : G.1.stackTraces = false) (h : St B wa σ A) (ho : σ.2.1 (B + 89) = some (12, 1)) (hw : RI w) (hz : RI z) : vx_Met G.1 tL_told.1 wsT rmL (PZ G [.ref B, .int (iI w), .int (iI z), .ref (B + 89)] σ) (QcS G (QL B A σ w z) (Aof σ)) XF 1 6 (Aof σ) := by
  refine vx_ofWH (cc := tL_told.2.1) (maxL := 5) (ret := some .int) (hh := hhT) (by decide +kernel) rfl ?_
  intro p e s m args below meth c s₁ Bd hml hv
  obtain ⟨rfl, ⟨hR, hK, hX⟩, hZ⟩ := hv
  have hts := atoms_spec (ws := wsT) Bd.pre
  have hbA : ¬ Aof σ G.2.2.2.1 := fun h => by
    rcases h with h | h
    · exact h hR.2.1
    · have := hX.2
      rw [hR.1] at this
      omega
  rw [lg_entry_eq]
  exact ltold_body hG h ho hw hz p e s m _ below meth c s.heap [] _ ⟨Bd.exec, Bd.bytes, Bd.returns, Bd.notSynchronized, hml, findClass_of_methodNamed Bd.named, fun w hw hg => hts w (List.mem_cons_of_mem _ (List.mem_filter.mpr ⟨hw, hg⟩)), hK, hX, hbA, fun q hq => Or.inr (by rw [← hR.1]; exact hq), hZ, vx_table (x := tL_told.1) Bd (hts _ List.mem_cons_self)⟩ hR va_S.rf (fun a ha => Or.inl ha) (lv_entry [.ref B, .int (iI w), .int (iI z), .ref (B + 89)] (Nat.le_of_ble_eq_true rfl))
end X99
