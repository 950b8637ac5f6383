/-! ===== the law's case of told: the machine ===== -/
section X99d
variable {G : Cx} {Af : Nat → Prop} {Q : Option Value → Sg → Prop} {B cells slots : Nat} {σ : Sg} {A : AS} {x : Int32}
set_option maxRecDepth 100000 in
theorem cw_told : decide (Cond.codeWith tL_told.1 tL_told.2.1 5 (some .int) hhT ∈ lw_tbl) = true := by decide +kernel
set_option maxRecDepth 100000 in
theorem sm_told : decide (Cond.static tL_told.1 ∈ lw_tbl) = true := by decide +kernel
set_option maxRecDepth 100000 in
theorem in_told : decide (Cond.initialized tL_told.1.cls ∈ lw_tbl) = true := by decide +kernel
theorem ds_told : (parseMethodDescriptor tL_told.1.desc).map (fun d => d.parameters.length) = some 4 := by decide +kernel
theorem wsT_good : GoodIn (lw_tbl.filter goodWord) wsT := by
  intro w hw
  rcases List.mem_cons.mp hw with h | h
  · subst h
    exact ⟨List.mem_filter.mpr ⟨of_decide_eq_true cw_told, rfl⟩, good_of_word rfl⟩
  · exact ⟨h, good_of_word (List.mem_filter.mp h).2⟩
/-- the law's variables in the case of told -/
abbrev L5 (G : Cx) (B : Nat) (x v5 : Int32) : Lv := LV G B x ++ [(5, .int v5)]
abbrev L6 (G : Cx) (B : Nat) (x v5 v6 : Int32) : Lv := LV G B x ++ [(5, .int v5), (6, .int v6)]
set_option maxRecDepth 100000 in
set_option maxHeartbeats 4000000 in
/-- behind the law's told -/
theorem told_rest {σ' : Sg} {v5 : Int32} (h : Jn B σ A) (v : VP G x) (hc : cells + 5 ≤ 601024 ∧ slots + 400 ≤ 7293000) (K : ∀ σ' A' v5 v6, Jn B σ' A' → BX G tL_law (EL G Af Q) (cells + 5) (slots + 400) 1612 ((LV G B x) ++ [(5, .int v5), (6, .int v6)]) [] σ')
    (hq : QL B A σ (sc G (x + 1)).toInt (sc G (x + 2)).toInt (some (.int v5)) σ') : BX G tL_law (EL G Af Q) (cells + 1) (slots + 6) 389 (LV G B x) [.int v5] σ' := by
  have hw := RI_of (sc G (x + 1))
  have hz := RI_of (sc G (x + 2))
  have k2 : σ'.2.1 = σ.2.1 := by
    rcases hq with ⟨-, -, q⟩ | ⟨-, -, -, q⟩ <;> rw [q]
  have k1 : σ.1 ≤ σ'.1 := by
    rcases hq with ⟨-, -, q⟩ | ⟨-, -, q, -⟩
    · rw [q]
      exact Nat.le_refl _
    · exact q
  have k3 : ∀ a, a ≠ B + 89 → σ'.2.2 a = σ.2.2 a := fun a ha => by
    rcases hq with ⟨-, -, q⟩ | ⟨-, -, -, q⟩
    · rw [q]
      show up2 σ.2.2 (B + 89) 0 _ a = _
      unfold up2
      rw [if_neg ha]
    · rw [q]
  have kx : ∃ y, σ'.2.2 (B + 89) 0 = .long y := by
    rcases hq with ⟨-, -, q⟩ | ⟨-, -, -, q⟩
    · refine ⟨(iI (tldV (wk A (sc G (x + 1)).toInt.toNat) (sc G (x + 2)).toInt)).toInt64, ?_⟩
      rw [q]
      show up2 σ.2.2 (B + 89) 0 _ (B + 89) 0 = _
      unfold up2 updV
      rw [if_pos rfl, if_pos rfl]
    · rw [q]
      obtain ⟨wa, f, e, -, -, -, -, -, g6⟩ := h
      exact g6
  obtain ⟨r, t, σ2, a1, a2, a3, a4, a5, a6⟩ := told_pair h hw hz k1 k2 k3 kx
  rw [← iI_of, ← iI_of] at a1
  have o2 : σ2.2.1 (B + 89) = some (12, 1) := by
    obtain ⟨wa, f, e, -, -, -, -, g5, -⟩ := a3
    exact g5
  refine BX.run [.istore 5, .aload_n 2, .aload_n 0, .iload 4, .iconst 1, .iadd] (pc' := 397) (lv' := L5 G B x v5) (st' := [.int (x + 1), .ref G.2.2.2.1, .ref (B + 70)]) (by decide +kernel) rfl rfl ?_
  refine BX.sld (by decide +kernel : decode tL_law.2.1 397 = .ok (.iaload, 1)) v.1 ?_
  refine BX.run [.aload_n 0, .iload 4, .iconst 2, .iadd] (pc' := 403) (lv' := L5 G B x v5) (st' := [.int (x + 2), .ref G.2.2.2.1, .int (sc G (x + 1)), .ref (B + 70)]) (by decide +kernel) rfl rfl ?_
  refine BX.sld (by decide +kernel : decode tL_law.2.1 403 = .ok (.iaload, 1)) v.2.1 ?_
  refine BX.callV (As := [.int (sc G (x + 1)), .int (sc G (x + 2))]) (st := []) (by decide +kernel : decode tL_law.2.1 404 = .ok (.invokevirtual 49, 3)) (DX10_told (P := fun q => q = (iI r, σ2)) ⟨_, a1, rfl⟩) mfX10_told lkM_L_49 imX10_told selX10_told ciX10 (oX10_told (P := fun q => q = (iI r, σ2)) ⟨_, a1, rfl⟩).choose_spec rfl rfl (Nat.le_of_ble_eq_true rfl) ⟨Nat.le_of_ble_eq_true rfl, Nat.le_of_ble_eq_true rfl⟩ ⟨Nat.le_trans (by omega) hc.1, Nat.le_trans (by omega) hc.2⟩ (fun r' σ' hq => ?_)
  obtain ⟨r1, rfl, hq'⟩ := hq
  cases hq'
  refine BX.run [.istore 6, .aload_n 2] (pc' := 410) (lv' := L6 G B x v5 (iI r)) (st' := [.ref (B + 70)]) (by decide +kernel) rfl rfl ?_
  refine BX.callV (As := []) (st := []) (by decide +kernel : decode tL_law.2.1 410 = .ok (.invokevirtual 50, 3)) (DX10_thrown (P := fun q => q = (iI t, σ2)) ⟨_, a2, rfl⟩) mfX10_thrown lkM_L_50 imX10_thrown selX10_thrown ciX10 (oX10_thrown (P := fun q => q = (iI t, σ2)) ⟨_, a2, rfl⟩).choose_spec rfl rfl (Nat.le_of_ble_eq_true rfl) ⟨Nat.le_of_ble_eq_true rfl, Nat.le_of_ble_eq_true rfl⟩ ⟨Nat.le_trans (by omega) hc.1, Nat.le_trans (by omega) hc.2⟩ (fun r' σ' hq => ?_)
  obtain ⟨r1, rfl, hq'⟩ := hq
  cases hq'
  refine BX.run [.iload 5] (pc' := 415) (lv' := L6 G B x v5 (iI r)) (st' := [.int v5, .int (iI t)]) (by decide +kernel) rfl rfl ?_
  have kend : BX G tL_law (EL G Af Q) (cells + 1 + 0 + 0) (slots + 6 + 0 + 0) 437 (L6 G B x v5 (iI r)) [] σ2 := by
    refine BX.goto 1612 (by decide +kernel : decode tL_law.2.1 437 = .ok (.goto 1175, 3)) rfl ?_
    exact BX.widen (by omega) (by omega) (K σ2 A v5 (iI r) a3)
  rcases hq with ⟨hok, hv, hs⟩ | ⟨hno, hv, -, hs⟩
  · obtain ⟨rfl, rfl⟩ := a5 hok
    cases hv
    refine BX.icmp_eq 420 (by decide +kernel : decode tL_law.2.1 415 = .ok (.if_icmp .eq 5, 3)) rfl (fun _ => ?_) (fun q => (q rfl).elim)
    refine BX.run [.iload 5] (pc' := 422) (lv' := L6 G B x 0 (iI (tldV (wk A (sc G (x + 1)).toInt.toNat) (sc G (x + 2)).toInt))) (st' := [.int 0]) (by decide +kernel) rfl rfl ?_
    refine BX.if_ne 437 (by decide +kernel : decode tL_law.2.1 422 = .ok (.ifCond .ne 15, 3)) rfl (fun q => (q rfl).elim) (fun _ => ?_)
    refine BX.run [.aload_n 3, .iconst 0] (pc' := 427) (lv' := L6 G B x 0 (iI (tldV (wk A (sc G (x + 1)).toInt.toNat) (sc G (x + 2)).toInt))) (st' := [.int 0, .ref (B + 89)]) (by decide +kernel) rfl rfl ?_
    have hav : aV 12 σ2 (B + 89) 0 = some (.long (iI (tldV (wk A (sc G (x + 1)).toInt.toNat) (sc G (x + 2)).toInt)).toInt64) := by
      unfold aV
      rw [o2, a4, hs]
      show (if 12 = 12 ∧ _ then some (up2 σ.2.2 (B + 89) 0 _ (B + 89) 0) else none) = _
      rw [if_pos ⟨rfl, by decide⟩]
      unfold up2 updV
      rw [if_pos rfl, if_pos rfl]
    refine BX.lald (by decide +kernel : decode tL_law.2.1 427 = .ok (.laload, 1)) hav ?_
    refine BX.run [.iload 6] (pc' := 430) (lv' := L6 G B x 0 (iI (tldV (wk A (sc G (x + 1)).toInt.toNat) (sc G (x + 2)).toInt))) (st' := [.int (iI (tldV (wk A (sc G (x + 1)).toInt.toNat) (sc G (x + 2)).toInt)), .long (iI (tldV (wk A (sc G (x + 1)).toInt.toNat) (sc G (x + 2)).toInt)).toInt64]) (by decide +kernel) rfl rfl ?_
    refine BX.i2l (by decide +kernel : decode tL_law.2.1 430 = .ok (.i2l, 1)) ?_
    have kl : BX G tL_law (EL G Af Q) (cells + 1 + 0 + 0) (slots + 6 + 0 + 0) 432 (L6 G B x 0 (iI (tldV (wk A (sc G (x + 1)).toInt.toNat) (sc G (x + 2)).toInt))) [.int 0] σ2 := BX.if_eq 437 (by decide +kernel : decode tL_law.2.1 432 = .ok (.ifCond .eq 5, 3)) rfl (fun _ => kend) (fun q => (q rfl).elim)
    exact fun p e s m args below meth c H locs ls C0 hR hS hA hl => lv_lcmp C0.1 C0.2.1 (by decide +kernel : decode tL_law.2.1 431 = .ok (.lcmp, 1)) (kl p e s m args below meth c H locs ls C0 hR hS hA hl)
  · have ht := a6 hno
    subst ht
    cases hv
    refine BX.icmp_eq 420 (by decide +kernel : decode tL_law.2.1 415 = .ok (.if_icmp .eq 5, 3)) rfl (fun _ => ?_) (fun q => (q rfl).elim)
    refine BX.run [.iload 5] (pc' := 422) (lv' := L6 G B x 1 (iI r)) (st' := [.int 1]) (by decide +kernel) rfl rfl ?_
    exact BX.if_ne 437 (by decide +kernel : decode tL_law.2.1 422 = .ok (.ifCond .ne 15, 3)) rfl (fun _ => kend) (fun q => absurd q (by decide))
set_option maxRecDepth 100000 in
set_option maxHeartbeats 4000000 in
theorem law_told (hG : G.1.stackTraces = false) : LTold G Af Q := by
  intro B cells slots σ A x h v hc K
  have hw := RI_of (sc G (x + 1))
  have hz := RI_of (sc G (x + 2))
  obtain ⟨wa, f, e0, g1, g2, g3, g4, g5, g6⟩ := id h
  refine BX.run [.aload_n 1, .aload_n 0, .iload 4, .iconst 1, .iadd] (pc' := 378) (lv' := LV G B x) (st' := [.int (x + 1), .ref G.2.2.2.1, .ref B]) (by decide +kernel) rfl rfl ?_
  refine BX.sld (by decide +kernel : decode tL_law.2.1 378 = .ok (.iaload, 1)) v.1 ?_
  refine BX.run [.aload_n 0, .iload 4, .iconst 2, .iadd] (pc' := 384) (lv' := LV G B x) (st' := [.int (x + 2), .ref G.2.2.2.1, .int (sc G (x + 1)), .ref B]) (by decide +kernel) rfl rfl ?_
  refine BX.sld (by decide +kernel : decode tL_law.2.1 384 = .ok (.iaload, 1)) v.2.1 ?_
  refine BX.run [.aload_n 3] (pc' := 386) (lv' := LV G B x) (st' := [.ref (B + 89), .int (sc G (x + 2)), .int (sc G (x + 1)), .ref B]) (by decide +kernel) rfl rfl ?_
  intro p e s m args below meth c H locs ls C0 hR hS hA hl T hT X
  have hts := C0.2.2.2.2.2.2.1
  have hzx := C0.2.2.2.2.2.2.2.2.2.2.2
  have hAs := C0.2.2.2.2.2.2.2.2.2.2.1
  have sub : ∀ q, Aof σ q → (EL G Af Q).2.1 q := fun q hq => by
    rcases hq with hq | hq
    · exact hA q hq
    · exact hAs q (Nat.le_trans hS.1 (by rw [hR.1]; exact hq))
  have hM := d_ltold hG g1 g5 hw hz
  rw [← iI_of, ← iI_of] at hM
  rcases vx_runSX (As := [.ref B, .int (sc G (x + 1)), .int (sc G (x + 2)), .ref (B + 89)]) (rest := []) (n := 4) (hh := hhT) (bytes := tL_told.2.1) (maxL := 5) (ret := some .int) (callFixX C0) hM ⟨⟨rfl, rfl, Nat.le_of_ble_eq_true rfl, Nat.le_of_ble_eq_true rfl, pay_in (callFixX C0).2.2.2.2 wsT_good, List.mem_cons_self⟩, hts _ (of_decide_eq_true cw_told) rfl, hts _ (of_decide_eq_true in_told) rfl, ⟨by decide, by decide⟩, (fun sig hsig => by have q := ds_told; rw [hsig] at q; exact (Option.some.inj q).symm), hts _ lkM_L_46 rfl, hts _ (of_decide_eq_true sm_told) rfl⟩ ⟨frameBlindZ _ _ _, fun U hU hW => ⟨rfl, (PcS.nowX (vs := [.ref B, .int (sc G (x + 1)), .int (sc G (x + 2)), .ref (B + 89)]) C0 hR hS U hU hW).2, hzx.now hS hU hW sub⟩⟩ rfl rfl hl.1 rfl (lv_room (Nat.le_of_ble_eq_true rfl)) (by decide +kernel : decode tL_law.2.1 386 = .ok (.invokestatic 46, 3)) ⟨Nat.le_trans (by omega) hc.1, Nat.le_trans (by omega) hc.2⟩ T hT X with ⟨v', st₀, t, T', L, h0, X', hL, e1, e2, ⟨⟨r, σ', hv, hq, hrep, hdom⟩, hz', hk⟩, stp⟩ | ⟨q, st₀, t, T', L, E, ce, h0, X', hL, e1, e2, hx, hce, hcv, hcl, stp⟩
  · cases hv
    rw [h0] at hz' hk
    obtain ⟨v5, rfl⟩ : ∃ v5, v' = some (.int v5) := by
      rcases hq with ⟨-, q, -⟩ | ⟨-, q, -⟩
      · exact ⟨0, q⟩
      · exact ⟨1, q⟩
    obtain ⟨t2, a1, b1⟩ := told_rest h v hc K hq p e s m args below meth c T'.heap (locs ++ L) ls C0 (by rw [e1]; exact hrep) ⟨Nat.le_trans hS.1 (by rw [e1]; exact hz'), fun q h1 h2 => by rw [e1, hk q (Nat.lt_of_lt_of_le h1 hS.1) (fun z => h2 (sub q z))]; exact hS.2.1 q h1 h2, fun q hq => (List.mem_append.mp hq).elim (hS.2.2 q) (fun hh => sub _ (hL q hh))⟩ (fun a ha => sub a (hdom a ha)) hl T' rfl X'
    exact ⟨t2, stp t2 a1, b1⟩
  · exact hx.elim
end X99d
