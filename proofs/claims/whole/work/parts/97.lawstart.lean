/-! ===== the law from its first instruction ===== -/
section X97
variable {G : Cx} {Af : Nat → Prop} {Q : Option Value → Sg → Prop} {σ : Sg} {A : AS}
abbrev L0 (G : Cx) : Lv := [(0, .ref G.2.2.2.1)]
set_option maxRecDepth 100000 in
set_option maxHeartbeats 4000000 in
theorem law_begin (hT : LTold G Af Q) (hQ : ∀ σ, Q (some (.int 1)) σ) (hL : G.2.2.2.2.1 ≤ 4096) (B : Nat) : BX G tL_law (EL G Af Q) 0 0 0 (L0 G) [] (B, (fun _ => none), (fun _ _ => .null)) := by
  have hL' : G.2.2.2.2.1 ≤ 100000 := by omega
  have z0 : Zs B (B, (fun _ => none), (fun _ _ => .null)) 0 [] (B, (fun _ => none), (fun _ _ => .null)) := ⟨rfl, fun i hi => (Nat.not_lt_zero _ hi).elim, fun i k hi => (Nat.not_lt_zero _ hi).elim, fun w hw => (nomatch hw), fun q _ => ⟨rfl, rfl⟩⟩
  obtain ⟨s1, e1, z1⟩ := zNew' (t := 9) (m := 18) (f := fun j => defaultValue (tyX9 j)) z0 rfl rfl
  refine BX.newB (by decide +kernel : decode tL_law.2.1 0 = .ok (.new 8, 3)) ciX9 lkC_L_8 ins9 ini9 (Nat.le_of_ble_eq_true rfl) (Nat.le_of_ble_eq_true rfl) e1 ?_
  refine BX.run [.dup, .aload_n 0, .iconst 0] (pc' := 6) (lv' := L0 G) (st' := [.int 0, .ref G.2.2.2.1, .ref (B + 0), .ref (B + 0)]) (by decide +kernel) rfl rfl ?_
  refine BX.callS (As := [.ref G.2.2.2.1, .int 0]) (st := [.ref (B + 0), .ref (B + 0)]) (by decide +kernel : decode tL_law.2.1 6 = .ok (.invokestatic 15, 3)) (d_cell hL' (by decide)) mfL_cell lkM_L_15 smL_cell rfl rfl (Nat.le_of_ble_eq_true rfl) ⟨Nat.le_of_ble_eq_true rfl, Nat.le_of_ble_eq_true rfl⟩ ⟨Nat.le_of_ble_eq_true rfl, Nat.le_of_ble_eq_true rfl⟩ (fun r σ' hq => ?_)
  obtain ⟨rfl, rfl⟩ := hq
  refine BX.run [.aload_n 0, .iconst 1] (pc' := 11) (lv' := L0 G) (st' := [.int 1, .ref G.2.2.2.1, .int (cel G 0), .ref (B + 0), .ref (B + 0)]) (by decide +kernel) rfl rfl ?_
  refine BX.callS (As := [.ref G.2.2.2.1, .int 1]) (st := [.int (cel G 0), .ref (B + 0), .ref (B + 0)]) (by decide +kernel : decode tL_law.2.1 11 = .ok (.invokestatic 15, 3)) (d_cell hL' (by decide)) mfL_cell lkM_L_15 smL_cell rfl rfl (Nat.le_of_ble_eq_true rfl) ⟨Nat.le_of_ble_eq_true rfl, Nat.le_of_ble_eq_true rfl⟩ ⟨Nat.le_of_ble_eq_true rfl, Nat.le_of_ble_eq_true rfl⟩ (fun r σ' hq => ?_)
  obtain ⟨rfl, rfl⟩ := hq
  refine BX.run [.aload_n 0, .iconst 2] (pc' := 16) (lv' := L0 G) (st' := [.int 2, .ref G.2.2.2.1, .int (cel G 1), .int (cel G 0), .ref (B + 0), .ref (B + 0)]) (by decide +kernel) rfl rfl ?_
  refine BX.callS (As := [.ref G.2.2.2.1, .int 2]) (st := [.int (cel G 1), .int (cel G 0), .ref (B + 0), .ref (B + 0)]) (by decide +kernel : decode tL_law.2.1 16 = .ok (.invokestatic 15, 3)) (d_cell hL' (by decide)) mfL_cell lkM_L_15 smL_cell rfl rfl (Nat.le_of_ble_eq_true rfl) ⟨Nat.le_of_ble_eq_true rfl, Nat.le_of_ble_eq_true rfl⟩ ⟨Nat.le_of_ble_eq_true rfl, Nat.le_of_ble_eq_true rfl⟩ (fun r σ' hq => ?_)
  obtain ⟨rfl, rfl⟩ := hq
  refine BX.callI (b := B + 0) (As := [.int (cel G 0), .int (cel G 1), .int (cel G 2)]) (st := [.ref (B + 0)]) (by decide +kernel : decode tL_law.2.1 19 = .ok (.invokespecial 21, 3)) (DX9_init (z9 (n := 2000000) z1)) mfX9_init rfl lkM_L_21 imX9_init rfl rfl rfl (Nat.le_of_ble_eq_true rfl) ⟨Nat.le_of_ble_eq_true rfl, Nat.le_of_ble_eq_true rfl⟩ ⟨Nat.le_of_ble_eq_true rfl, Nat.le_of_ble_eq_true rfl⟩ (fun r s2 hq => ?_)
  obtain ⟨rfl, z2⟩ := hq
  refine BX.run [.astore_n 1] (pc' := 23) (lv' := [(0, .ref G.2.2.2.1), (1, .ref B)]) (st' := []) (by decide +kernel) rfl rfl ?_
  obtain ⟨s3, e3, z3⟩ := zNew' (t := 10) (m := 41) (f := fun j => defaultValue (tyX10 j)) z2 rfl rfl
  refine BX.newB (by decide +kernel : decode tL_law.2.1 23 = .ok (.new 24, 3)) ciX10 lkC_L_24 ins10 ini10 (Nat.le_of_ble_eq_true rfl) (Nat.le_of_ble_eq_true rfl) e3 ?_
  refine BX.run [.dup, .aload_n 0, .iconst 0] (pc' := 29) (lv' := [(0, .ref G.2.2.2.1), (1, .ref B)]) (st' := [.int 0, .ref G.2.2.2.1, .ref (B + 70), .ref (B + 70)]) (by decide +kernel) rfl rfl ?_
  refine BX.callS (As := [.ref G.2.2.2.1, .int 0]) (st := [.ref (B + 70), .ref (B + 70)]) (by decide +kernel : decode tL_law.2.1 29 = .ok (.invokestatic 15, 3)) (d_cell hL' (by decide)) mfL_cell lkM_L_15 smL_cell rfl rfl (Nat.le_of_ble_eq_true rfl) ⟨Nat.le_of_ble_eq_true rfl, Nat.le_of_ble_eq_true rfl⟩ ⟨Nat.le_of_ble_eq_true rfl, Nat.le_of_ble_eq_true rfl⟩ (fun r σ' hq => ?_)
  obtain ⟨rfl, rfl⟩ := hq
  refine BX.run [.aload_n 0, .iconst 1] (pc' := 34) (lv' := [(0, .ref G.2.2.2.1), (1, .ref B)]) (st' := [.int 1, .ref G.2.2.2.1, .int (cel G 0), .ref (B + 70), .ref (B + 70)]) (by decide +kernel) rfl rfl ?_
  refine BX.callS (As := [.ref G.2.2.2.1, .int 1]) (st := [.int (cel G 0), .ref (B + 70), .ref (B + 70)]) (by decide +kernel : decode tL_law.2.1 34 = .ok (.invokestatic 15, 3)) (d_cell hL' (by decide)) mfL_cell lkM_L_15 smL_cell rfl rfl (Nat.le_of_ble_eq_true rfl) ⟨Nat.le_of_ble_eq_true rfl, Nat.le_of_ble_eq_true rfl⟩ ⟨Nat.le_of_ble_eq_true rfl, Nat.le_of_ble_eq_true rfl⟩ (fun r σ' hq => ?_)
  obtain ⟨rfl, rfl⟩ := hq
  refine BX.run [.aload_n 0, .iconst 2] (pc' := 39) (lv' := [(0, .ref G.2.2.2.1), (1, .ref B)]) (st' := [.int 2, .ref G.2.2.2.1, .int (cel G 1), .int (cel G 0), .ref (B + 70), .ref (B + 70)]) (by decide +kernel) rfl rfl ?_
  refine BX.callS (As := [.ref G.2.2.2.1, .int 2]) (st := [.int (cel G 1), .int (cel G 0), .ref (B + 70), .ref (B + 70)]) (by decide +kernel : decode tL_law.2.1 39 = .ok (.invokestatic 15, 3)) (d_cell hL' (by decide)) mfL_cell lkM_L_15 smL_cell rfl rfl (Nat.le_of_ble_eq_true rfl) ⟨Nat.le_of_ble_eq_true rfl, Nat.le_of_ble_eq_true rfl⟩ ⟨Nat.le_of_ble_eq_true rfl, Nat.le_of_ble_eq_true rfl⟩ (fun r σ' hq => ?_)
  obtain ⟨rfl, rfl⟩ := hq
  refine BX.callI (b := B + 70) (As := [.int (cel G 0), .int (cel G 1), .int (cel G 2)]) (st := [.ref (B + 70)]) (by decide +kernel : decode tL_law.2.1 42 = .ok (.invokespecial 26, 3)) (DX10_init (z10 (n := 2000000) z3)) mfX10_init rfl lkM_L_26 imX10_init rfl rfl rfl (Nat.le_of_ble_eq_true rfl) ⟨Nat.le_of_ble_eq_true rfl, Nat.le_of_ble_eq_true rfl⟩ ⟨Nat.le_of_ble_eq_true rfl, Nat.le_of_ble_eq_true rfl⟩ (fun r s4 hq => ?_)
  obtain ⟨rfl, z4⟩ := hq
  refine BX.run [.astore_n 2, .iconst 1] (pc' := 47) (lv' := [(0, .ref G.2.2.2.1), (1, .ref B), (2, .ref (B + 70))]) (st' := [.int 1]) (by decide +kernel) rfl rfl ?_
  obtain ⟨s5, e5, z5⟩ := zNew' (t := 12) (m := 1) (f := fun _ => .long 0) z4 rfl rfl
  refine BX.newaB (by decide +kernel : decode tL_law.2.1 47 = .ok (.newarray .long, 2)) (t := 12) (by decide) ar12 (by decide) (by decide) (by decide) (Nat.le_of_ble_eq_true rfl) (Nat.le_of_ble_eq_true rfl) e5 rfl ?_
  refine BX.run [.astore_n 3, .iconst 3, .istore 4] (pc' := 53) (lv' := LV G B 3) (st' := []) (by decide +kernel) rfl rfl ?_
  have hj : Jn B s5 (A0 (cel G 0) (cel G 1) (cel G 2)) := s_J (x1 := cel G 0) (x2 := cel G 1) (x3 := cel G 2) z5
  exact BX.widen (c2 := 1000) (s2 := 100000) (Nat.le_of_ble_eq_true rfl) (Nat.le_of_ble_eq_true rfl) (law_loop hT hQ hL' 600 3 1000 100000 s5 _ hj (by decide) (by decide) (by have : ((3 : Int32).toInt) = 3 := rfl; omega) ⟨by omega, by omega⟩)
end X97
