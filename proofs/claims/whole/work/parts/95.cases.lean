/-! ===== the law's cases (printed by wip/whole/gen95.py) ===== -/
def tL_law : Mt := (yL_law, cL_law, 7, some .boolean)
/-- Throwable's two statics, which the library's throw reads -/
def NSE : String := "java/util/NoSuchElementException"
def NSu : List String := ["java/lang/RuntimeException", "java/lang/Exception"]
def nsB : List Cond := [.castable NSE NSE, .declares (Bundle.init0 "java/lang/RuntimeException"), .declares (Bundle.init0 "java/lang/Exception"), .declares (Bundle.init0 Bundle.tN)]
def NwB (s : State) : Prop := va_Nw (.castable NSE NSE) s ∧ va_Nw (.declares (Bundle.init0 "java/lang/RuntimeException")) s ∧ va_Nw (.declares (Bundle.init0 "java/lang/Exception")) s ∧ va_Nw (.declares (Bundle.init0 Bundle.tN)) s
def ZU (Af : Nat → Prop) (s : State) (H : Heap) : Prop := vx_Zq Bundle.tN "UNASSIGNED_STACK" Bundle.steD Af s H ∧ vx_Zq Bundle.tN "SUPPRESSED_SENTINEL" Bundle.listD Af s H ∧ NwB s
def EL (G : Cx) (Af : Nat → Prop) (Q : Option Value → Sg → Prop) : Ex := (room_1, Af, fun below args s => MQ below (QcS G Q Af) args s 601024 7293000 Af, fun _ s _ _ _ _ => ZU Af s s.heap)
/-- the law's variables at the head of its loop -/
abbrev LV (G : Cx) (B : Nat) (x : Int32) : Lv := [(0, .ref G.2.2.2.1), (1, .ref B), (2, .ref (B + 70)), (3, .ref (B + 89)), (4, .int x)]
/-- the script can be read from x to x + 6 -/
def VP (G : Cx) (x : Int32) : Prop := vp_in (x + 1) G.2.2.2.2.1 ∧ vp_in (x + 2) G.2.2.2.2.1 ∧ vp_in (x + 3) G.2.2.2.2.1 ∧ vp_in (x + 4) G.2.2.2.2.1 ∧ vp_in (x + 5) G.2.2.2.2.1 ∧ vp_in (x + 6) G.2.2.2.2.1
abbrev sc (G : Cx) (x : Int32) : Int32 := G.2.2.2.2.2 x.toNatClampNeg
section X95
variable {G : Cx} {Af : Nat → Prop} {Q : Option Value → Sg → Prop} {B cells slots : Nat} {σ : Sg} {A : AS} {x : Int32}
theorem Jn.o9 (h : Jn B σ A) : σ.2.1 B = some (9, 18) := by
  obtain ⟨wa, f, e, g1, -⟩ := h
  exact g1.1.1 0 (by omega)
theorem JP.o10 {m1 m2 : Sg → Option (Int32 × Sg)} (h : Jn B σ A) {σ1 : Sg} (k : Kp B σ σ1) : σ1.2.1 (B + 70) = some (10, 41) := by
  obtain ⟨wa, f, e, g1, g2, g3, -⟩ := h
  have := g1.sz
  exact (k.2.1 _ (by omega)).trans (g3 0 (by omega))
set_option maxRecDepth 100000 in
set_option maxHeartbeats 4000000 in
theorem lc_0 (h : Jn B σ A) (v : VP G x) (hc : cells + 5 ≤ 601024 ∧ slots + 400 ≤ 7293000) (K : ∀ σ' A', Jn B σ' A' → BX G tL_law (EL G Af Q) (cells + 5) (slots + 400) 1612 (LV G B x) [] σ') : BX G tL_law (EL G Af Q) cells slots 224 (LV G B x) [] σ := by
  obtain ⟨r, σ1, σ2, A', e1, e2, j⟩ := j_feed h (sc G (x + 1)) (sc G (x + 2)) (sc G (x + 3)) (sc G (x + 4)) (sc G (x + 5))
  refine BX.run [.aload_n 1, .aload_n 0, .iload 4, .iconst 1, .iadd] (pc' := 230) (lv' := LV G B x) (st' := [.int (x + 1), .ref G.2.2.2.1, .ref B]) (by decide +kernel) rfl rfl ?_
  refine BX.sld (by decide +kernel : decode tL_law.2.1 230 = .ok (.iaload, 1)) v.1 ?_
  refine BX.run [.aload_n 0, .iload 4, .iconst 2, .iadd] (pc' := 236) (lv' := LV G B x) (st' := [.int (x + 2), .ref G.2.2.2.1, .int (sc G (x + 1)), .ref B]) (by decide +kernel) rfl rfl ?_
  refine BX.sld (by decide +kernel : decode tL_law.2.1 236 = .ok (.iaload, 1)) v.2.1 ?_
  refine BX.run [.aload_n 0, .iload 4, .iconst 3, .iadd] (pc' := 242) (lv' := LV G B x) (st' := [.int (x + 3), .ref G.2.2.2.1, .int (sc G (x + 2)), .int (sc G (x + 1)), .ref B]) (by decide +kernel) rfl rfl ?_
  refine BX.sld (by decide +kernel : decode tL_law.2.1 242 = .ok (.iaload, 1)) v.2.2.1 ?_
  refine BX.run [.aload_n 0, .iload 4, .iconst 4, .iadd] (pc' := 248) (lv' := LV G B x) (st' := [.int (x + 4), .ref G.2.2.2.1, .int (sc G (x + 3)), .int (sc G (x + 2)), .int (sc G (x + 1)), .ref B]) (by decide +kernel) rfl rfl ?_
  refine BX.sld (by decide +kernel : decode tL_law.2.1 248 = .ok (.iaload, 1)) v.2.2.2.1 ?_
  refine BX.run [.aload_n 0, .iload 4, .iconst 5, .iadd] (pc' := 254) (lv' := LV G B x) (st' := [.int (x + 5), .ref G.2.2.2.1, .int (sc G (x + 4)), .int (sc G (x + 3)), .int (sc G (x + 2)), .int (sc G (x + 1)), .ref B]) (by decide +kernel) rfl rfl ?_
  refine BX.sld (by decide +kernel : decode tL_law.2.1 254 = .ok (.iaload, 1)) v.2.2.2.2.1 ?_
  refine BX.callV (As := [.int (sc G (x + 1)), .int (sc G (x + 2)), .int (sc G (x + 3)), .int (sc G (x + 4)), .int (sc G (x + 5))]) (st := []) (by decide +kernel : decode tL_law.2.1 255 = .ok (.invokevirtual 27, 3)) (DX9_feed (P := fun q => q = (r, σ1)) ⟨_, e1, rfl⟩) mfX9_feed lkM_L_27 imX9_feed selX9_feed ciX9 h.o9 rfl rfl (Nat.le_of_ble_eq_true rfl) ⟨Nat.le_of_ble_eq_true rfl, Nat.le_of_ble_eq_true rfl⟩ ⟨Nat.le_trans (by omega) hc.1, Nat.le_trans (by omega) hc.2⟩ (fun r' σ' hq => ?_)
  obtain ⟨r1, rfl, hq⟩ := hq
  cases hq
  refine BX.run [.aload_n 2, .aload_n 0, .iload 4, .iconst 1, .iadd] (pc' := 264) (lv' := LV G B x) (st' := [.int (x + 1), .ref G.2.2.2.1, .ref (B + 70), .int r]) (by decide +kernel) rfl rfl ?_
  refine BX.sld (by decide +kernel : decode tL_law.2.1 264 = .ok (.iaload, 1)) v.1 ?_
  refine BX.run [.aload_n 0, .iload 4, .iconst 2, .iadd] (pc' := 270) (lv' := LV G B x) (st' := [.int (x + 2), .ref G.2.2.2.1, .int (sc G (x + 1)), .ref (B + 70), .int r]) (by decide +kernel) rfl rfl ?_
  refine BX.sld (by decide +kernel : decode tL_law.2.1 270 = .ok (.iaload, 1)) v.2.1 ?_
  refine BX.run [.aload_n 0, .iload 4, .iconst 3, .iadd] (pc' := 276) (lv' := LV G B x) (st' := [.int (x + 3), .ref G.2.2.2.1, .int (sc G (x + 2)), .int (sc G (x + 1)), .ref (B + 70), .int r]) (by decide +kernel) rfl rfl ?_
  refine BX.sld (by decide +kernel : decode tL_law.2.1 276 = .ok (.iaload, 1)) v.2.2.1 ?_
  refine BX.run [.aload_n 0, .iload 4, .iconst 4, .iadd] (pc' := 282) (lv' := LV G B x) (st' := [.int (x + 4), .ref G.2.2.2.1, .int (sc G (x + 3)), .int (sc G (x + 2)), .int (sc G (x + 1)), .ref (B + 70), .int r]) (by decide +kernel) rfl rfl ?_
  refine BX.sld (by decide +kernel : decode tL_law.2.1 282 = .ok (.iaload, 1)) v.2.2.2.1 ?_
  refine BX.run [.aload_n 0, .iload 4, .iconst 5, .iadd] (pc' := 288) (lv' := LV G B x) (st' := [.int (x + 5), .ref G.2.2.2.1, .int (sc G (x + 4)), .int (sc G (x + 3)), .int (sc G (x + 2)), .int (sc G (x + 1)), .ref (B + 70), .int r]) (by decide +kernel) rfl rfl ?_
  refine BX.sld (by decide +kernel : decode tL_law.2.1 288 = .ok (.iaload, 1)) v.2.2.2.2.1 ?_
  refine BX.callV (As := [.int (sc G (x + 1)), .int (sc G (x + 2)), .int (sc G (x + 3)), .int (sc G (x + 4)), .int (sc G (x + 5))]) (st := [.int r]) (by decide +kernel : decode tL_law.2.1 289 = .ok (.invokevirtual 31, 3)) (DX10_feed (P := fun q => q = (r, σ2)) ⟨_, e2, rfl⟩) mfX10_feed lkM_L_31 imX10_feed selX10_feed ciX10 (oX10_feed (P := fun q => q = (r, σ2)) ⟨_, e2, rfl⟩).choose_spec rfl rfl (Nat.le_of_ble_eq_true rfl) ⟨Nat.le_of_ble_eq_true rfl, Nat.le_of_ble_eq_true rfl⟩ ⟨Nat.le_trans (by omega) hc.1, Nat.le_trans (by omega) hc.2⟩ (fun r' σ' hq => ?_)
  obtain ⟨r1, rfl, hq⟩ := hq
  cases hq
  refine BX.icmp_eq 1612 (by decide +kernel : decode tL_law.2.1 292 = .ok (.if_icmp .eq 1320, 3)) rfl (fun _ => ?_) (fun q => (q rfl).elim)
  exact BX.widen (by omega) (by omega) (K _ _ j)
set_option maxRecDepth 100000 in
set_option maxHeartbeats 4000000 in
theorem lc_1 (h : Jn B σ A) (v : VP G x) (hc : cells + 5 ≤ 601024 ∧ slots + 400 ≤ 7293000) (K : ∀ σ' A', Jn B σ' A' → BX G tL_law (EL G Af Q) (cells + 5) (slots + 400) 1612 (LV G B x) [] σ') : BX G tL_law (EL G Af Q) cells slots 297 (LV G B x) [] σ := by
  obtain ⟨r, σ1, σ2, A', e1, e2, j⟩ := j_end h (sc G (x + 1))
  refine BX.run [.aload_n 1, .aload_n 0, .iload 4, .iconst 1, .iadd] (pc' := 303) (lv' := LV G B x) (st' := [.int (x + 1), .ref G.2.2.2.1, .ref B]) (by decide +kernel) rfl rfl ?_
  refine BX.sld (by decide +kernel : decode tL_law.2.1 303 = .ok (.iaload, 1)) v.1 ?_
  refine BX.callV (As := [.int (sc G (x + 1))]) (st := []) (by decide +kernel : decode tL_law.2.1 304 = .ok (.invokevirtual 32, 3)) (DX9_end (P := fun q => q = (r, σ1)) ⟨_, e1, rfl⟩) mfX9_end lkM_L_32 imX9_end selX9_end ciX9 h.o9 rfl rfl (Nat.le_of_ble_eq_true rfl) ⟨Nat.le_of_ble_eq_true rfl, Nat.le_of_ble_eq_true rfl⟩ ⟨Nat.le_trans (by omega) hc.1, Nat.le_trans (by omega) hc.2⟩ (fun r' σ' hq => ?_)
  obtain ⟨r1, rfl, hq⟩ := hq
  cases hq
  refine BX.run [.aload_n 2, .aload_n 0, .iload 4, .iconst 1, .iadd] (pc' := 313) (lv' := LV G B x) (st' := [.int (x + 1), .ref G.2.2.2.1, .ref (B + 70), .int r]) (by decide +kernel) rfl rfl ?_
  refine BX.sld (by decide +kernel : decode tL_law.2.1 313 = .ok (.iaload, 1)) v.1 ?_
  refine BX.callV (As := [.int (sc G (x + 1))]) (st := [.int r]) (by decide +kernel : decode tL_law.2.1 314 = .ok (.invokevirtual 36, 3)) (DX10_end (P := fun q => q = (r, σ2)) ⟨_, e2, rfl⟩) mfX10_end lkM_L_36 imX10_end selX10_end ciX10 (oX10_end (P := fun q => q = (r, σ2)) ⟨_, e2, rfl⟩).choose_spec rfl rfl (Nat.le_of_ble_eq_true rfl) ⟨Nat.le_of_ble_eq_true rfl, Nat.le_of_ble_eq_true rfl⟩ ⟨Nat.le_trans (by omega) hc.1, Nat.le_trans (by omega) hc.2⟩ (fun r' σ' hq => ?_)
  obtain ⟨r1, rfl, hq⟩ := hq
  cases hq
  refine BX.icmp_eq 1612 (by decide +kernel : decode tL_law.2.1 317 = .ok (.if_icmp .eq 1295, 3)) rfl (fun _ => ?_) (fun q => (q rfl).elim)
  exact BX.widen (by omega) (by omega) (K _ _ j)
set_option maxRecDepth 100000 in
set_option maxHeartbeats 4000000 in
theorem lc_2 (h : Jn B σ A) (v : VP G x) (hc : cells + 5 ≤ 601024 ∧ slots + 400 ≤ 7293000) (K : ∀ σ' A', Jn B σ' A' → BX G tL_law (EL G Af Q) (cells + 5) (slots + 400) 1612 (LV G B x) [] σ') : BX G tL_law (EL G Af Q) cells slots 322 (LV G B x) [] σ := by
  obtain ⟨r, σ1, σ2, A', e1, e2, j⟩ := j_fault h
  refine BX.run [.aload_n 1] (pc' := 323) (lv' := LV G B x) (st' := [.ref B]) (by decide +kernel) rfl rfl ?_
  refine BX.callV (As := []) (st := []) (by decide +kernel : decode tL_law.2.1 323 = .ok (.invokevirtual 37, 3)) (DX9_fault (P := fun q => q = (r, σ1)) ⟨_, e1, rfl⟩) mfX9_fault lkM_L_37 imX9_fault selX9_fault ciX9 h.o9 rfl rfl (Nat.le_of_ble_eq_true rfl) ⟨Nat.le_of_ble_eq_true rfl, Nat.le_of_ble_eq_true rfl⟩ ⟨Nat.le_trans (by omega) hc.1, Nat.le_trans (by omega) hc.2⟩ (fun r' σ' hq => ?_)
  obtain ⟨r1, rfl, hq⟩ := hq
  cases hq
  refine BX.run [.aload_n 2] (pc' := 327) (lv' := LV G B x) (st' := [.ref (B + 70), .int r]) (by decide +kernel) rfl rfl ?_
  refine BX.callV (As := []) (st := [.int r]) (by decide +kernel : decode tL_law.2.1 327 = .ok (.invokevirtual 41, 3)) (DX10_fault (P := fun q => q = (r, σ2)) ⟨_, e2, rfl⟩) mfX10_fault lkM_L_41 imX10_fault selX10_fault ciX10 (oX10_fault (P := fun q => q = (r, σ2)) ⟨_, e2, rfl⟩).choose_spec rfl rfl (Nat.le_of_ble_eq_true rfl) ⟨Nat.le_of_ble_eq_true rfl, Nat.le_of_ble_eq_true rfl⟩ ⟨Nat.le_trans (by omega) hc.1, Nat.le_trans (by omega) hc.2⟩ (fun r' σ' hq => ?_)
  obtain ⟨r1, rfl, hq⟩ := hq
  cases hq
  refine BX.icmp_eq 1612 (by decide +kernel : decode tL_law.2.1 330 = .ok (.if_icmp .eq 1282, 3)) rfl (fun _ => ?_) (fun q => (q rfl).elim)
  exact BX.widen (by omega) (by omega) (K _ _ j)
set_option maxRecDepth 100000 in
set_option maxHeartbeats 4000000 in
theorem lc_3 (h : Jn B σ A) (v : VP G x) (hc : cells + 5 ≤ 601024 ∧ slots + 400 ≤ 7293000) (K : ∀ σ' A', Jn B σ' A' → BX G tL_law (EL G Af Q) (cells + 5) (slots + 400) 1612 (LV G B x) [] σ') : BX G tL_law (EL G Af Q) cells slots 335 (LV G B x) [] σ := by
  obtain ⟨r, σ1, σ2, A', e1, e2, j⟩ := j_walk h (sc G (x + 1)) (sc G (x + 2))
  refine BX.run [.aload_n 1, .aload_n 0, .iload 4, .iconst 1, .iadd] (pc' := 341) (lv' := LV G B x) (st' := [.int (x + 1), .ref G.2.2.2.1, .ref B]) (by decide +kernel) rfl rfl ?_
  refine BX.sld (by decide +kernel : decode tL_law.2.1 341 = .ok (.iaload, 1)) v.1 ?_
  refine BX.run [.aload_n 0, .iload 4, .iconst 2, .iadd] (pc' := 347) (lv' := LV G B x) (st' := [.int (x + 2), .ref G.2.2.2.1, .int (sc G (x + 1)), .ref B]) (by decide +kernel) rfl rfl ?_
  refine BX.sld (by decide +kernel : decode tL_law.2.1 347 = .ok (.iaload, 1)) v.2.1 ?_
  refine BX.callV (As := [.int (sc G (x + 1)), .int (sc G (x + 2))]) (st := []) (by decide +kernel : decode tL_law.2.1 348 = .ok (.invokevirtual 42, 3)) (DX9_walk (P := fun q => q = (r, σ1)) ⟨_, e1, rfl⟩) mfX9_walk lkM_L_42 imX9_walk selX9_walk ciX9 h.o9 rfl rfl (Nat.le_of_ble_eq_true rfl) ⟨Nat.le_of_ble_eq_true rfl, Nat.le_of_ble_eq_true rfl⟩ ⟨Nat.le_trans (by omega) hc.1, Nat.le_trans (by omega) hc.2⟩ (fun r' σ' hq => ?_)
  obtain ⟨r1, rfl, hq⟩ := hq
  cases hq
  refine BX.run [.aload_n 2, .aload_n 0, .iload 4, .iconst 1, .iadd] (pc' := 357) (lv' := LV G B x) (st' := [.int (x + 1), .ref G.2.2.2.1, .ref (B + 70), .int r]) (by decide +kernel) rfl rfl ?_
  refine BX.sld (by decide +kernel : decode tL_law.2.1 357 = .ok (.iaload, 1)) v.1 ?_
  refine BX.run [.aload_n 0, .iload 4, .iconst 2, .iadd] (pc' := 363) (lv' := LV G B x) (st' := [.int (x + 2), .ref G.2.2.2.1, .int (sc G (x + 1)), .ref (B + 70), .int r]) (by decide +kernel) rfl rfl ?_
  refine BX.sld (by decide +kernel : decode tL_law.2.1 363 = .ok (.iaload, 1)) v.2.1 ?_
  refine BX.callV (As := [.int (sc G (x + 1)), .int (sc G (x + 2))]) (st := [.int r]) (by decide +kernel : decode tL_law.2.1 364 = .ok (.invokevirtual 45, 3)) (DX10_walk (P := fun q => q = (r, σ2)) ⟨_, e2, rfl⟩) mfX10_walk lkM_L_45 imX10_walk selX10_walk ciX10 (oX10_walk (P := fun q => q = (r, σ2)) ⟨_, e2, rfl⟩).choose_spec rfl rfl (Nat.le_of_ble_eq_true rfl) ⟨Nat.le_of_ble_eq_true rfl, Nat.le_of_ble_eq_true rfl⟩ ⟨Nat.le_trans (by omega) hc.1, Nat.le_trans (by omega) hc.2⟩ (fun r' σ' hq => ?_)
  obtain ⟨r1, rfl, hq⟩ := hq
  cases hq
  refine BX.icmp_eq 1612 (by decide +kernel : decode tL_law.2.1 367 = .ok (.if_icmp .eq 1245, 3)) rfl (fun _ => ?_) (fun q => (q rfl).elim)
  exact BX.widen (by omega) (by omega) (K _ _ j)
set_option maxRecDepth 100000 in
set_option maxHeartbeats 4000000 in
theorem lc_5 (h : Jn B σ A) (v : VP G x) (hc : cells + 5 ≤ 601024 ∧ slots + 400 ≤ 7293000) (K : ∀ σ' A', Jn B σ' A' → BX G tL_law (EL G Af Q) (cells + 5) (slots + 400) 1612 (LV G B x) [] σ') : BX G tL_law (EL G Af Q) cells slots 440 (LV G B x) [] σ := by
  obtain ⟨r, σ1, σ2, A', e1, e2, j⟩ := j_where h (sc G (x + 1)) (sc G (x + 2))
  refine BX.run [.aload_n 1, .aload_n 0, .iload 4, .iconst 1, .iadd] (pc' := 446) (lv' := LV G B x) (st' := [.int (x + 1), .ref G.2.2.2.1, .ref B]) (by decide +kernel) rfl rfl ?_
  refine BX.sld (by decide +kernel : decode tL_law.2.1 446 = .ok (.iaload, 1)) v.1 ?_
  refine BX.run [.aload_n 0, .iload 4, .iconst 2, .iadd] (pc' := 452) (lv' := LV G B x) (st' := [.int (x + 2), .ref G.2.2.2.1, .int (sc G (x + 1)), .ref B]) (by decide +kernel) rfl rfl ?_
  refine BX.sld (by decide +kernel : decode tL_law.2.1 452 = .ok (.iaload, 1)) v.2.1 ?_
  refine BX.callV (As := [.int (sc G (x + 1)), .int (sc G (x + 2))]) (st := []) (by decide +kernel : decode tL_law.2.1 453 = .ok (.invokevirtual 53, 3)) (DX9_where (P := fun q => q = (r, σ1)) ⟨_, e1, rfl⟩) mfX9_where lkM_L_53 imX9_where selX9_where ciX9 h.o9 rfl rfl (Nat.le_of_ble_eq_true rfl) ⟨Nat.le_of_ble_eq_true rfl, Nat.le_of_ble_eq_true rfl⟩ ⟨Nat.le_trans (by omega) hc.1, Nat.le_trans (by omega) hc.2⟩ (fun r' σ' hq => ?_)
  obtain ⟨r1, rfl, hq⟩ := hq
  cases hq
  refine BX.run [.aload_n 2, .aload_n 0, .iload 4, .iconst 1, .iadd] (pc' := 462) (lv' := LV G B x) (st' := [.int (x + 1), .ref G.2.2.2.1, .ref (B + 70), .int r]) (by decide +kernel) rfl rfl ?_
  refine BX.sld (by decide +kernel : decode tL_law.2.1 462 = .ok (.iaload, 1)) v.1 ?_
  refine BX.run [.aload_n 0, .iload 4, .iconst 2, .iadd] (pc' := 468) (lv' := LV G B x) (st' := [.int (x + 2), .ref G.2.2.2.1, .int (sc G (x + 1)), .ref (B + 70), .int r]) (by decide +kernel) rfl rfl ?_
  refine BX.sld (by decide +kernel : decode tL_law.2.1 468 = .ok (.iaload, 1)) v.2.1 ?_
  refine BX.callV (As := [.int (sc G (x + 1)), .int (sc G (x + 2))]) (st := [.int r]) (by decide +kernel : decode tL_law.2.1 469 = .ok (.invokevirtual 56, 3)) (DX10_where (P := fun q => q = (r, σ2)) ⟨_, e2, rfl⟩) mfX10_where lkM_L_56 imX10_where selX10_where ciX10 (oX10_where (P := fun q => q = (r, σ2)) ⟨_, e2, rfl⟩).choose_spec rfl rfl (Nat.le_of_ble_eq_true rfl) ⟨Nat.le_of_ble_eq_true rfl, Nat.le_of_ble_eq_true rfl⟩ ⟨Nat.le_trans (by omega) hc.1, Nat.le_trans (by omega) hc.2⟩ (fun r' σ' hq => ?_)
  obtain ⟨r1, rfl, hq⟩ := hq
  cases hq
  refine BX.icmp_eq 1612 (by decide +kernel : decode tL_law.2.1 472 = .ok (.if_icmp .eq 1140, 3)) rfl (fun _ => ?_) (fun q => (q rfl).elim)
  exact BX.widen (by omega) (by omega) (K _ _ j)
set_option maxRecDepth 100000 in
set_option maxHeartbeats 4000000 in
theorem lc_6 (h : Jn B σ A) (v : VP G x) (hc : cells + 5 ≤ 601024 ∧ slots + 400 ≤ 7293000) (K : ∀ σ' A', Jn B σ' A' → BX G tL_law (EL G Af Q) (cells + 5) (slots + 400) 1612 (LV G B x) [] σ') : BX G tL_law (EL G Af Q) cells slots 477 (LV G B x) [] σ := by
  obtain ⟨r, σ1, σ2, A', e1, e2, j⟩ := j_latest h (sc G (x + 1)) (sc G (x + 2)) (sc G (x + 3))
  refine BX.run [.aload_n 1, .aload_n 0, .iload 4, .iconst 1, .iadd] (pc' := 483) (lv' := LV G B x) (st' := [.int (x + 1), .ref G.2.2.2.1, .ref B]) (by decide +kernel) rfl rfl ?_
  refine BX.sld (by decide +kernel : decode tL_law.2.1 483 = .ok (.iaload, 1)) v.1 ?_
  refine BX.run [.aload_n 0, .iload 4, .iconst 2, .iadd] (pc' := 489) (lv' := LV G B x) (st' := [.int (x + 2), .ref G.2.2.2.1, .int (sc G (x + 1)), .ref B]) (by decide +kernel) rfl rfl ?_
  refine BX.sld (by decide +kernel : decode tL_law.2.1 489 = .ok (.iaload, 1)) v.2.1 ?_
  refine BX.run [.aload_n 0, .iload 4, .iconst 3, .iadd] (pc' := 495) (lv' := LV G B x) (st' := [.int (x + 3), .ref G.2.2.2.1, .int (sc G (x + 2)), .int (sc G (x + 1)), .ref B]) (by decide +kernel) rfl rfl ?_
  refine BX.sld (by decide +kernel : decode tL_law.2.1 495 = .ok (.iaload, 1)) v.2.2.1 ?_
  refine BX.callV (As := [.int (sc G (x + 1)), .int (sc G (x + 2)), .int (sc G (x + 3))]) (st := []) (by decide +kernel : decode tL_law.2.1 496 = .ok (.invokevirtual 57, 3)) (DX9_latest (P := fun q => q = (r, σ1)) ⟨_, e1, rfl⟩) mfX9_latest lkM_L_57 imX9_latest selX9_latest ciX9 h.o9 rfl rfl (Nat.le_of_ble_eq_true rfl) ⟨Nat.le_of_ble_eq_true rfl, Nat.le_of_ble_eq_true rfl⟩ ⟨Nat.le_trans (by omega) hc.1, Nat.le_trans (by omega) hc.2⟩ (fun r' σ' hq => ?_)
  obtain ⟨r1, rfl, hq⟩ := hq
  cases hq
  refine BX.run [.aload_n 2, .aload_n 0, .iload 4, .iconst 1, .iadd] (pc' := 505) (lv' := LV G B x) (st' := [.int (x + 1), .ref G.2.2.2.1, .ref (B + 70), .int r]) (by decide +kernel) rfl rfl ?_
  refine BX.sld (by decide +kernel : decode tL_law.2.1 505 = .ok (.iaload, 1)) v.1 ?_
  refine BX.run [.aload_n 0, .iload 4, .iconst 2, .iadd] (pc' := 511) (lv' := LV G B x) (st' := [.int (x + 2), .ref G.2.2.2.1, .int (sc G (x + 1)), .ref (B + 70), .int r]) (by decide +kernel) rfl rfl ?_
  refine BX.sld (by decide +kernel : decode tL_law.2.1 511 = .ok (.iaload, 1)) v.2.1 ?_
  refine BX.run [.aload_n 0, .iload 4, .iconst 3, .iadd] (pc' := 517) (lv' := LV G B x) (st' := [.int (x + 3), .ref G.2.2.2.1, .int (sc G (x + 2)), .int (sc G (x + 1)), .ref (B + 70), .int r]) (by decide +kernel) rfl rfl ?_
  refine BX.sld (by decide +kernel : decode tL_law.2.1 517 = .ok (.iaload, 1)) v.2.2.1 ?_
  refine BX.callV (As := [.int (sc G (x + 1)), .int (sc G (x + 2)), .int (sc G (x + 3))]) (st := [.int r]) (by decide +kernel : decode tL_law.2.1 518 = .ok (.invokevirtual 61, 3)) (DX10_latest (P := fun q => q = (r, σ2)) ⟨_, e2, rfl⟩) mfX10_latest lkM_L_61 imX10_latest selX10_latest ciX10 (oX10_latest (P := fun q => q = (r, σ2)) ⟨_, e2, rfl⟩).choose_spec rfl rfl (Nat.le_of_ble_eq_true rfl) ⟨Nat.le_of_ble_eq_true rfl, Nat.le_of_ble_eq_true rfl⟩ ⟨Nat.le_trans (by omega) hc.1, Nat.le_trans (by omega) hc.2⟩ (fun r' σ' hq => ?_)
  obtain ⟨r1, rfl, hq⟩ := hq
  cases hq
  refine BX.icmp_eq 1612 (by decide +kernel : decode tL_law.2.1 521 = .ok (.if_icmp .eq 1091, 3)) rfl (fun _ => ?_) (fun q => (q rfl).elim)
  exact BX.widen (by omega) (by omega) (K _ _ j)
set_option maxRecDepth 100000 in
set_option maxHeartbeats 4000000 in
theorem lc_7 (h : Jn B σ A) (v : VP G x) (hc : cells + 5 ≤ 601024 ∧ slots + 400 ≤ 7293000) (K : ∀ σ' A', Jn B σ' A' → BX G tL_law (EL G Af Q) (cells + 5) (slots + 400) 1612 (LV G B x) [] σ') : BX G tL_law (EL G Af Q) cells slots 526 (LV G B x) [] σ := by
  obtain ⟨r, σ1, σ2, A', e1, e2, j⟩ := j_prints h (sc G (x + 1)) (sc G (x + 2))
  refine BX.run [.aload_n 1, .aload_n 0, .iload 4, .iconst 1, .iadd] (pc' := 532) (lv' := LV G B x) (st' := [.int (x + 1), .ref G.2.2.2.1, .ref B]) (by decide +kernel) rfl rfl ?_
  refine BX.sld (by decide +kernel : decode tL_law.2.1 532 = .ok (.iaload, 1)) v.1 ?_
  refine BX.run [.aload_n 0, .iload 4, .iconst 2, .iadd] (pc' := 538) (lv' := LV G B x) (st' := [.int (x + 2), .ref G.2.2.2.1, .int (sc G (x + 1)), .ref B]) (by decide +kernel) rfl rfl ?_
  refine BX.sld (by decide +kernel : decode tL_law.2.1 538 = .ok (.iaload, 1)) v.2.1 ?_
  refine BX.callV (As := [.int (sc G (x + 1)), .int (sc G (x + 2))]) (st := []) (by decide +kernel : decode tL_law.2.1 539 = .ok (.invokevirtual 62, 3)) (DX9_prints (P := fun q => q = (r, σ1)) ⟨_, e1, rfl⟩) mfX9_prints lkM_L_62 imX9_prints selX9_prints ciX9 h.o9 rfl rfl (Nat.le_of_ble_eq_true rfl) ⟨Nat.le_of_ble_eq_true rfl, Nat.le_of_ble_eq_true rfl⟩ ⟨Nat.le_trans (by omega) hc.1, Nat.le_trans (by omega) hc.2⟩ (fun r' σ' hq => ?_)
  obtain ⟨r1, rfl, hq⟩ := hq
  cases hq
  refine BX.run [.aload_n 2, .aload_n 0, .iload 4, .iconst 1, .iadd] (pc' := 548) (lv' := LV G B x) (st' := [.int (x + 1), .ref G.2.2.2.1, .ref (B + 70), .int r]) (by decide +kernel) rfl rfl ?_
  refine BX.sld (by decide +kernel : decode tL_law.2.1 548 = .ok (.iaload, 1)) v.1 ?_
  refine BX.run [.aload_n 0, .iload 4, .iconst 2, .iadd] (pc' := 554) (lv' := LV G B x) (st' := [.int (x + 2), .ref G.2.2.2.1, .int (sc G (x + 1)), .ref (B + 70), .int r]) (by decide +kernel) rfl rfl ?_
  refine BX.sld (by decide +kernel : decode tL_law.2.1 554 = .ok (.iaload, 1)) v.2.1 ?_
  refine BX.callV (As := [.int (sc G (x + 1)), .int (sc G (x + 2))]) (st := [.int r]) (by decide +kernel : decode tL_law.2.1 555 = .ok (.invokevirtual 65, 3)) (DX10_prints (P := fun q => q = (r, σ2)) ⟨_, e2, rfl⟩) mfX10_prints lkM_L_65 imX10_prints selX10_prints ciX10 (oX10_prints (P := fun q => q = (r, σ2)) ⟨_, e2, rfl⟩).choose_spec rfl rfl (Nat.le_of_ble_eq_true rfl) ⟨Nat.le_of_ble_eq_true rfl, Nat.le_of_ble_eq_true rfl⟩ ⟨Nat.le_trans (by omega) hc.1, Nat.le_trans (by omega) hc.2⟩ (fun r' σ' hq => ?_)
  obtain ⟨r1, rfl, hq⟩ := hq
  cases hq
  refine BX.icmp_eq 1612 (by decide +kernel : decode tL_law.2.1 558 = .ok (.if_icmp .eq 1054, 3)) rfl (fun _ => ?_) (fun q => (q rfl).elim)
  exact BX.widen (by omega) (by omega) (K _ _ j)
set_option maxRecDepth 100000 in
set_option maxHeartbeats 4000000 in
theorem lc_8 (h : Jn B σ A) (v : VP G x) (hc : cells + 5 ≤ 601024 ∧ slots + 400 ≤ 7293000) (K : ∀ σ' A', Jn B σ' A' → BX G tL_law (EL G Af Q) (cells + 5) (slots + 400) 1612 (LV G B x) [] σ') : BX G tL_law (EL G Af Q) cells slots 563 (LV G B x) [] σ := by
  obtain ⟨r, σ1, σ2, A', e1, e2, j⟩ := j_fact h (sc G (x + 1)) (sc G (x + 2)) (sc G (x + 3)) (sc G (x + 4)) (sc G (x + 5)) (sc G (x + 6))
  refine BX.run [.aload_n 1, .aload_n 0, .iload 4, .iconst 1, .iadd] (pc' := 569) (lv' := LV G B x) (st' := [.int (x + 1), .ref G.2.2.2.1, .ref B]) (by decide +kernel) rfl rfl ?_
  refine BX.sld (by decide +kernel : decode tL_law.2.1 569 = .ok (.iaload, 1)) v.1 ?_
  refine BX.run [.aload_n 0, .iload 4, .iconst 2, .iadd] (pc' := 575) (lv' := LV G B x) (st' := [.int (x + 2), .ref G.2.2.2.1, .int (sc G (x + 1)), .ref B]) (by decide +kernel) rfl rfl ?_
  refine BX.sld (by decide +kernel : decode tL_law.2.1 575 = .ok (.iaload, 1)) v.2.1 ?_
  refine BX.run [.aload_n 0, .iload 4, .iconst 3, .iadd] (pc' := 581) (lv' := LV G B x) (st' := [.int (x + 3), .ref G.2.2.2.1, .int (sc G (x + 2)), .int (sc G (x + 1)), .ref B]) (by decide +kernel) rfl rfl ?_
  refine BX.sld (by decide +kernel : decode tL_law.2.1 581 = .ok (.iaload, 1)) v.2.2.1 ?_
  refine BX.run [.aload_n 0, .iload 4, .iconst 4, .iadd] (pc' := 587) (lv' := LV G B x) (st' := [.int (x + 4), .ref G.2.2.2.1, .int (sc G (x + 3)), .int (sc G (x + 2)), .int (sc G (x + 1)), .ref B]) (by decide +kernel) rfl rfl ?_
  refine BX.sld (by decide +kernel : decode tL_law.2.1 587 = .ok (.iaload, 1)) v.2.2.2.1 ?_
  refine BX.run [.aload_n 0, .iload 4, .iconst 5, .iadd] (pc' := 593) (lv' := LV G B x) (st' := [.int (x + 5), .ref G.2.2.2.1, .int (sc G (x + 4)), .int (sc G (x + 3)), .int (sc G (x + 2)), .int (sc G (x + 1)), .ref B]) (by decide +kernel) rfl rfl ?_
  refine BX.sld (by decide +kernel : decode tL_law.2.1 593 = .ok (.iaload, 1)) v.2.2.2.2.1 ?_
  refine BX.run [.aload_n 0, .iload 4, .bipush 6, .iadd] (pc' := 600) (lv' := LV G B x) (st' := [.int (x + 6), .ref G.2.2.2.1, .int (sc G (x + 5)), .int (sc G (x + 4)), .int (sc G (x + 3)), .int (sc G (x + 2)), .int (sc G (x + 1)), .ref B]) (by decide +kernel) rfl rfl ?_
  refine BX.sld (by decide +kernel : decode tL_law.2.1 600 = .ok (.iaload, 1)) v.2.2.2.2.2 ?_
  refine BX.callV (As := [.int (sc G (x + 1)), .int (sc G (x + 2)), .int (sc G (x + 3)), .int (sc G (x + 4)), .int (sc G (x + 5)), .int (sc G (x + 6))]) (st := []) (by decide +kernel : decode tL_law.2.1 601 = .ok (.invokevirtual 66, 3)) (DX9_fact (P := fun q => q = (r, σ1)) ⟨_, e1, rfl⟩) mfX9_fact lkM_L_66 imX9_fact selX9_fact ciX9 h.o9 rfl rfl (Nat.le_of_ble_eq_true rfl) ⟨Nat.le_of_ble_eq_true rfl, Nat.le_of_ble_eq_true rfl⟩ ⟨Nat.le_trans (by omega) hc.1, Nat.le_trans (by omega) hc.2⟩ (fun r' σ' hq => ?_)
  obtain ⟨r1, rfl, hq⟩ := hq
  cases hq
  refine BX.run [.aload_n 2, .aload_n 0, .iload 4, .iconst 1, .iadd] (pc' := 610) (lv' := LV G B x) (st' := [.int (x + 1), .ref G.2.2.2.1, .ref (B + 70), .int r]) (by decide +kernel) rfl rfl ?_
  refine BX.sld (by decide +kernel : decode tL_law.2.1 610 = .ok (.iaload, 1)) v.1 ?_
  refine BX.run [.aload_n 0, .iload 4, .iconst 2, .iadd] (pc' := 616) (lv' := LV G B x) (st' := [.int (x + 2), .ref G.2.2.2.1, .int (sc G (x + 1)), .ref (B + 70), .int r]) (by decide +kernel) rfl rfl ?_
  refine BX.sld (by decide +kernel : decode tL_law.2.1 616 = .ok (.iaload, 1)) v.2.1 ?_
  refine BX.run [.aload_n 0, .iload 4, .iconst 3, .iadd] (pc' := 622) (lv' := LV G B x) (st' := [.int (x + 3), .ref G.2.2.2.1, .int (sc G (x + 2)), .int (sc G (x + 1)), .ref (B + 70), .int r]) (by decide +kernel) rfl rfl ?_
  refine BX.sld (by decide +kernel : decode tL_law.2.1 622 = .ok (.iaload, 1)) v.2.2.1 ?_
  refine BX.run [.aload_n 0, .iload 4, .iconst 4, .iadd] (pc' := 628) (lv' := LV G B x) (st' := [.int (x + 4), .ref G.2.2.2.1, .int (sc G (x + 3)), .int (sc G (x + 2)), .int (sc G (x + 1)), .ref (B + 70), .int r]) (by decide +kernel) rfl rfl ?_
  refine BX.sld (by decide +kernel : decode tL_law.2.1 628 = .ok (.iaload, 1)) v.2.2.2.1 ?_
  refine BX.run [.aload_n 0, .iload 4, .iconst 5, .iadd] (pc' := 634) (lv' := LV G B x) (st' := [.int (x + 5), .ref G.2.2.2.1, .int (sc G (x + 4)), .int (sc G (x + 3)), .int (sc G (x + 2)), .int (sc G (x + 1)), .ref (B + 70), .int r]) (by decide +kernel) rfl rfl ?_
  refine BX.sld (by decide +kernel : decode tL_law.2.1 634 = .ok (.iaload, 1)) v.2.2.2.2.1 ?_
  refine BX.run [.aload_n 0, .iload 4, .bipush 6, .iadd] (pc' := 641) (lv' := LV G B x) (st' := [.int (x + 6), .ref G.2.2.2.1, .int (sc G (x + 5)), .int (sc G (x + 4)), .int (sc G (x + 3)), .int (sc G (x + 2)), .int (sc G (x + 1)), .ref (B + 70), .int r]) (by decide +kernel) rfl rfl ?_
  refine BX.sld (by decide +kernel : decode tL_law.2.1 641 = .ok (.iaload, 1)) v.2.2.2.2.2 ?_
  refine BX.callV (As := [.int (sc G (x + 1)), .int (sc G (x + 2)), .int (sc G (x + 3)), .int (sc G (x + 4)), .int (sc G (x + 5)), .int (sc G (x + 6))]) (st := [.int r]) (by decide +kernel : decode tL_law.2.1 642 = .ok (.invokevirtual 70, 3)) (DX10_fact (P := fun q => q = (r, σ2)) ⟨_, e2, rfl⟩) mfX10_fact lkM_L_70 imX10_fact selX10_fact ciX10 (oX10_fact (P := fun q => q = (r, σ2)) ⟨_, e2, rfl⟩).choose_spec rfl rfl (Nat.le_of_ble_eq_true rfl) ⟨Nat.le_of_ble_eq_true rfl, Nat.le_of_ble_eq_true rfl⟩ ⟨Nat.le_trans (by omega) hc.1, Nat.le_trans (by omega) hc.2⟩ (fun r' σ' hq => ?_)
  obtain ⟨r1, rfl, hq⟩ := hq
  cases hq
  refine BX.icmp_eq 1612 (by decide +kernel : decode tL_law.2.1 645 = .ok (.if_icmp .eq 967, 3)) rfl (fun _ => ?_) (fun q => (q rfl).elim)
  exact BX.widen (by omega) (by omega) (K _ _ j)
set_option maxRecDepth 100000 in
set_option maxHeartbeats 4000000 in
theorem lc_9 (h : Jn B σ A) (v : VP G x) (hc : cells + 5 ≤ 601024 ∧ slots + 400 ≤ 7293000) (K : ∀ σ' A', Jn B σ' A' → BX G tL_law (EL G Af Q) (cells + 5) (slots + 400) 1612 (LV G B x) [] σ') : BX G tL_law (EL G Af Q) cells slots 650 (LV G B x) [] σ := by
  obtain ⟨r, σ1, σ2, A', e1, e2, j⟩ := j_undo h
  refine BX.run [.aload_n 1] (pc' := 651) (lv' := LV G B x) (st' := [.ref B]) (by decide +kernel) rfl rfl ?_
  refine BX.callV (As := []) (st := []) (by decide +kernel : decode tL_law.2.1 651 = .ok (.invokevirtual 71, 3)) (DX9_undo (P := fun q => q = (r, σ1)) ⟨_, e1, rfl⟩) mfX9_undo lkM_L_71 imX9_undo selX9_undo ciX9 h.o9 rfl rfl (Nat.le_of_ble_eq_true rfl) ⟨Nat.le_of_ble_eq_true rfl, Nat.le_of_ble_eq_true rfl⟩ ⟨Nat.le_trans (by omega) hc.1, Nat.le_trans (by omega) hc.2⟩ (fun r' σ' hq => ?_)
  obtain ⟨r1, rfl, hq⟩ := hq
  cases hq
  refine BX.run [.aload_n 2] (pc' := 655) (lv' := LV G B x) (st' := [.ref (B + 70), .int r]) (by decide +kernel) rfl rfl ?_
  refine BX.callV (As := []) (st := [.int r]) (by decide +kernel : decode tL_law.2.1 655 = .ok (.invokevirtual 74, 3)) (DX10_undo (P := fun q => q = (r, σ2)) ⟨_, e2, rfl⟩) mfX10_undo lkM_L_74 imX10_undo selX10_undo ciX10 (oX10_undo (P := fun q => q = (r, σ2)) ⟨_, e2, rfl⟩).choose_spec rfl rfl (Nat.le_of_ble_eq_true rfl) ⟨Nat.le_of_ble_eq_true rfl, Nat.le_of_ble_eq_true rfl⟩ ⟨Nat.le_trans (by omega) hc.1, Nat.le_trans (by omega) hc.2⟩ (fun r' σ' hq => ?_)
  obtain ⟨r1, rfl, hq⟩ := hq
  cases hq
  refine BX.icmp_eq 1612 (by decide +kernel : decode tL_law.2.1 658 = .ok (.if_icmp .eq 954, 3)) rfl (fun _ => ?_) (fun q => (q rfl).elim)
  exact BX.widen (by omega) (by omega) (K _ _ j)
set_option maxRecDepth 100000 in
set_option maxHeartbeats 4000000 in
theorem lc_10 (h : Jn B σ A) (v : VP G x) (hc : cells + 5 ≤ 601024 ∧ slots + 400 ≤ 7293000) (K : ∀ σ' A', Jn B σ' A' → BX G tL_law (EL G Af Q) (cells + 5) (slots + 400) 1612 (LV G B x) [] σ') : BX G tL_law (EL G Af Q) cells slots 663 (LV G B x) [] σ := by
  obtain ⟨r, σ1, σ2, A', e1, e2, j⟩ := j_words h (sc G (x + 1))
  refine BX.run [.aload_n 1, .aload_n 0, .iload 4, .iconst 1, .iadd] (pc' := 669) (lv' := LV G B x) (st' := [.int (x + 1), .ref G.2.2.2.1, .ref B]) (by decide +kernel) rfl rfl ?_
  refine BX.sld (by decide +kernel : decode tL_law.2.1 669 = .ok (.iaload, 1)) v.1 ?_
  refine BX.callV (As := [.int (sc G (x + 1))]) (st := []) (by decide +kernel : decode tL_law.2.1 670 = .ok (.invokevirtual 75, 3)) (DX9_words (P := fun q => q = (r, σ1)) ⟨_, e1, rfl⟩) mfX9_words lkM_L_75 imX9_words selX9_words ciX9 h.o9 rfl rfl (Nat.le_of_ble_eq_true rfl) ⟨Nat.le_of_ble_eq_true rfl, Nat.le_of_ble_eq_true rfl⟩ ⟨Nat.le_trans (by omega) hc.1, Nat.le_trans (by omega) hc.2⟩ (fun r' σ' hq => ?_)
  obtain ⟨r1, rfl, hq⟩ := hq
  cases hq
  refine BX.run [.aload_n 2, .aload_n 0, .iload 4, .iconst 1, .iadd] (pc' := 679) (lv' := LV G B x) (st' := [.int (x + 1), .ref G.2.2.2.1, .ref (B + 70), .int r]) (by decide +kernel) rfl rfl ?_
  refine BX.sld (by decide +kernel : decode tL_law.2.1 679 = .ok (.iaload, 1)) v.1 ?_
  refine BX.callV (As := [.int (sc G (x + 1))]) (st := [.int r]) (by decide +kernel : decode tL_law.2.1 680 = .ok (.invokevirtual 79, 3)) (DX10_words (P := fun q => q = (r, σ2)) ⟨_, e2, rfl⟩) mfX10_words lkM_L_79 imX10_words selX10_words ciX10 (oX10_words (P := fun q => q = (r, σ2)) ⟨_, e2, rfl⟩).choose_spec rfl rfl (Nat.le_of_ble_eq_true rfl) ⟨Nat.le_of_ble_eq_true rfl, Nat.le_of_ble_eq_true rfl⟩ ⟨Nat.le_trans (by omega) hc.1, Nat.le_trans (by omega) hc.2⟩ (fun r' σ' hq => ?_)
  obtain ⟨r1, rfl, hq⟩ := hq
  cases hq
  refine BX.icmp_eq 1612 (by decide +kernel : decode tL_law.2.1 683 = .ok (.if_icmp .eq 929, 3)) rfl (fun _ => ?_) (fun q => (q rfl).elim)
  exact BX.widen (by omega) (by omega) (K _ _ j)
set_option maxRecDepth 100000 in
set_option maxHeartbeats 4000000 in
theorem lc_11 (h : Jn B σ A) (v : VP G x) (hc : cells + 5 ≤ 601024 ∧ slots + 400 ≤ 7293000) (K : ∀ σ' A', Jn B σ' A' → BX G tL_law (EL G Af Q) (cells + 5) (slots + 400) 1612 (LV G B x) [] σ') : BX G tL_law (EL G Af Q) cells slots 688 (LV G B x) [] σ := by
  obtain ⟨r, σ1, σ2, A', e1, e2, j⟩ := j_can h (sc G (x + 1))
  refine BX.run [.aload_n 1, .aload_n 0, .iload 4, .iconst 1, .iadd] (pc' := 694) (lv' := LV G B x) (st' := [.int (x + 1), .ref G.2.2.2.1, .ref B]) (by decide +kernel) rfl rfl ?_
  refine BX.sld (by decide +kernel : decode tL_law.2.1 694 = .ok (.iaload, 1)) v.1 ?_
  refine BX.callV (As := [.int (sc G (x + 1))]) (st := []) (by decide +kernel : decode tL_law.2.1 695 = .ok (.invokevirtual 80, 3)) (DX9_can (P := fun q => q = (r, σ1)) ⟨_, e1, rfl⟩) mfX9_can lkM_L_80 imX9_can selX9_can ciX9 h.o9 rfl rfl (Nat.le_of_ble_eq_true rfl) ⟨Nat.le_of_ble_eq_true rfl, Nat.le_of_ble_eq_true rfl⟩ ⟨Nat.le_trans (by omega) hc.1, Nat.le_trans (by omega) hc.2⟩ (fun r' σ' hq => ?_)
  obtain ⟨r1, rfl, hq⟩ := hq
  cases hq
  refine BX.run [.aload_n 2, .aload_n 0, .iload 4, .iconst 1, .iadd] (pc' := 704) (lv' := LV G B x) (st' := [.int (x + 1), .ref G.2.2.2.1, .ref (B + 70), .int r]) (by decide +kernel) rfl rfl ?_
  refine BX.sld (by decide +kernel : decode tL_law.2.1 704 = .ok (.iaload, 1)) v.1 ?_
  refine BX.callV (As := [.int (sc G (x + 1))]) (st := [.int r]) (by decide +kernel : decode tL_law.2.1 705 = .ok (.invokevirtual 83, 3)) (DX10_can (P := fun q => q = (r, σ2)) ⟨_, e2, rfl⟩) mfX10_can lkM_L_83 imX10_can selX10_can ciX10 (oX10_can (P := fun q => q = (r, σ2)) ⟨_, e2, rfl⟩).choose_spec rfl rfl (Nat.le_of_ble_eq_true rfl) ⟨Nat.le_of_ble_eq_true rfl, Nat.le_of_ble_eq_true rfl⟩ ⟨Nat.le_trans (by omega) hc.1, Nat.le_trans (by omega) hc.2⟩ (fun r' σ' hq => ?_)
  obtain ⟨r1, rfl, hq⟩ := hq
  cases hq
  refine BX.icmp_eq 1612 (by decide +kernel : decode tL_law.2.1 708 = .ok (.if_icmp .eq 904, 3)) rfl (fun _ => ?_) (fun q => (q rfl).elim)
  exact BX.widen (by omega) (by omega) (K _ _ j)
set_option maxRecDepth 100000 in
set_option maxHeartbeats 4000000 in
theorem lc_12 (h : Jn B σ A) (v : VP G x) (hc : cells + 5 ≤ 601024 ∧ slots + 400 ≤ 7293000) (K : ∀ σ' A', Jn B σ' A' → BX G tL_law (EL G Af Q) (cells + 5) (slots + 400) 1612 (LV G B x) [] σ') : BX G tL_law (EL G Af Q) cells slots 713 (LV G B x) [] σ := by
  obtain ⟨r, σ1, σ2, A', e1, e2, j⟩ := j_bars h (sc G (x + 1))
  refine BX.run [.aload_n 1, .aload_n 0, .iload 4, .iconst 1, .iadd] (pc' := 719) (lv' := LV G B x) (st' := [.int (x + 1), .ref G.2.2.2.1, .ref B]) (by decide +kernel) rfl rfl ?_
  refine BX.sld (by decide +kernel : decode tL_law.2.1 719 = .ok (.iaload, 1)) v.1 ?_
  refine BX.callV (As := [.int (sc G (x + 1))]) (st := []) (by decide +kernel : decode tL_law.2.1 720 = .ok (.invokevirtual 84, 3)) (DX9_bars (P := fun q => q = (r, σ1)) ⟨_, e1, rfl⟩) mfX9_bars lkM_L_84 imX9_bars selX9_bars ciX9 h.o9 rfl rfl (Nat.le_of_ble_eq_true rfl) ⟨Nat.le_of_ble_eq_true rfl, Nat.le_of_ble_eq_true rfl⟩ ⟨Nat.le_trans (by omega) hc.1, Nat.le_trans (by omega) hc.2⟩ (fun r' σ' hq => ?_)
  obtain ⟨r1, rfl, hq⟩ := hq
  cases hq
  refine BX.run [.aload_n 2, .aload_n 0, .iload 4, .iconst 1, .iadd] (pc' := 729) (lv' := LV G B x) (st' := [.int (x + 1), .ref G.2.2.2.1, .ref (B + 70), .int r]) (by decide +kernel) rfl rfl ?_
  refine BX.sld (by decide +kernel : decode tL_law.2.1 729 = .ok (.iaload, 1)) v.1 ?_
  refine BX.callV (As := [.int (sc G (x + 1))]) (st := [.int r]) (by decide +kernel : decode tL_law.2.1 730 = .ok (.invokevirtual 87, 3)) (DX10_bars (P := fun q => q = (r, σ2)) ⟨_, e2, rfl⟩) mfX10_bars lkM_L_87 imX10_bars selX10_bars ciX10 (oX10_bars (P := fun q => q = (r, σ2)) ⟨_, e2, rfl⟩).choose_spec rfl rfl (Nat.le_of_ble_eq_true rfl) ⟨Nat.le_of_ble_eq_true rfl, Nat.le_of_ble_eq_true rfl⟩ ⟨Nat.le_trans (by omega) hc.1, Nat.le_trans (by omega) hc.2⟩ (fun r' σ' hq => ?_)
  obtain ⟨r1, rfl, hq⟩ := hq
  cases hq
  refine BX.icmp_eq 1612 (by decide +kernel : decode tL_law.2.1 733 = .ok (.if_icmp .eq 879, 3)) rfl (fun _ => ?_) (fun q => (q rfl).elim)
  exact BX.widen (by omega) (by omega) (K _ _ j)
set_option maxRecDepth 100000 in
set_option maxHeartbeats 4000000 in
theorem lc_13 (h : Jn B σ A) (v : VP G x) (hc : cells + 5 ≤ 601024 ∧ slots + 400 ≤ 7293000) (K : ∀ σ' A', Jn B σ' A' → BX G tL_law (EL G Af Q) (cells + 5) (slots + 400) 1612 (LV G B x) [] σ') : BX G tL_law (EL G Af Q) cells slots 738 (LV G B x) [] σ := by
  obtain ⟨r, σ1, σ2, A', e1, e2, j⟩ := j_core h (sc G (x + 1))
  refine BX.run [.aload_n 1, .aload_n 0, .iload 4, .iconst 1, .iadd] (pc' := 744) (lv' := LV G B x) (st' := [.int (x + 1), .ref G.2.2.2.1, .ref B]) (by decide +kernel) rfl rfl ?_
  refine BX.sld (by decide +kernel : decode tL_law.2.1 744 = .ok (.iaload, 1)) v.1 ?_
  refine BX.callV (As := [.int (sc G (x + 1))]) (st := []) (by decide +kernel : decode tL_law.2.1 745 = .ok (.invokevirtual 88, 3)) (DX9_core (P := fun q => q = (r, σ1)) ⟨_, e1, rfl⟩) mfX9_core lkM_L_88 imX9_core selX9_core ciX9 h.o9 rfl rfl (Nat.le_of_ble_eq_true rfl) ⟨Nat.le_of_ble_eq_true rfl, Nat.le_of_ble_eq_true rfl⟩ ⟨Nat.le_trans (by omega) hc.1, Nat.le_trans (by omega) hc.2⟩ (fun r' σ' hq => ?_)
  obtain ⟨r1, rfl, hq⟩ := hq
  cases hq
  refine BX.run [.aload_n 2, .aload_n 0, .iload 4, .iconst 1, .iadd] (pc' := 754) (lv' := LV G B x) (st' := [.int (x + 1), .ref G.2.2.2.1, .ref (B + 70), .int r]) (by decide +kernel) rfl rfl ?_
  refine BX.sld (by decide +kernel : decode tL_law.2.1 754 = .ok (.iaload, 1)) v.1 ?_
  refine BX.callV (As := [.int (sc G (x + 1))]) (st := [.int r]) (by decide +kernel : decode tL_law.2.1 755 = .ok (.invokevirtual 91, 3)) (DX10_core (P := fun q => q = (r, σ2)) ⟨_, e2, rfl⟩) mfX10_core lkM_L_91 imX10_core selX10_core ciX10 (oX10_core (P := fun q => q = (r, σ2)) ⟨_, e2, rfl⟩).choose_spec rfl rfl (Nat.le_of_ble_eq_true rfl) ⟨Nat.le_of_ble_eq_true rfl, Nat.le_of_ble_eq_true rfl⟩ ⟨Nat.le_trans (by omega) hc.1, Nat.le_trans (by omega) hc.2⟩ (fun r' σ' hq => ?_)
  obtain ⟨r1, rfl, hq⟩ := hq
  cases hq
  refine BX.icmp_eq 1612 (by decide +kernel : decode tL_law.2.1 758 = .ok (.if_icmp .eq 854, 3)) rfl (fun _ => ?_) (fun q => (q rfl).elim)
  exact BX.widen (by omega) (by omega) (K _ _ j)
set_option maxRecDepth 100000 in
set_option maxHeartbeats 4000000 in
theorem lc_14 (h : Jn B σ A) (v : VP G x) (hc : cells + 5 ≤ 601024 ∧ slots + 400 ≤ 7293000) (K : ∀ σ' A', Jn B σ' A' → BX G tL_law (EL G Af Q) (cells + 5) (slots + 400) 1612 (LV G B x) [] σ') : BX G tL_law (EL G Af Q) cells slots 763 (LV G B x) [] σ := by
  obtain ⟨r, σ1, σ2, A', e1, e2, j⟩ := j_liars h (sc G (x + 1))
  refine BX.run [.aload_n 1, .aload_n 0, .iload 4, .iconst 1, .iadd] (pc' := 769) (lv' := LV G B x) (st' := [.int (x + 1), .ref G.2.2.2.1, .ref B]) (by decide +kernel) rfl rfl ?_
  refine BX.sld (by decide +kernel : decode tL_law.2.1 769 = .ok (.iaload, 1)) v.1 ?_
  refine BX.callV (As := [.int (sc G (x + 1))]) (st := []) (by decide +kernel : decode tL_law.2.1 770 = .ok (.invokevirtual 92, 3)) (DX9_liars (P := fun q => q = (r, σ1)) ⟨_, e1, rfl⟩) mfX9_liars lkM_L_92 imX9_liars selX9_liars ciX9 h.o9 rfl rfl (Nat.le_of_ble_eq_true rfl) ⟨Nat.le_of_ble_eq_true rfl, Nat.le_of_ble_eq_true rfl⟩ ⟨Nat.le_trans (by omega) hc.1, Nat.le_trans (by omega) hc.2⟩ (fun r' σ' hq => ?_)
  obtain ⟨r1, rfl, hq⟩ := hq
  cases hq
  refine BX.run [.aload_n 2, .aload_n 0, .iload 4, .iconst 1, .iadd] (pc' := 779) (lv' := LV G B x) (st' := [.int (x + 1), .ref G.2.2.2.1, .ref (B + 70), .int r]) (by decide +kernel) rfl rfl ?_
  refine BX.sld (by decide +kernel : decode tL_law.2.1 779 = .ok (.iaload, 1)) v.1 ?_
  refine BX.callV (As := [.int (sc G (x + 1))]) (st := [.int r]) (by decide +kernel : decode tL_law.2.1 780 = .ok (.invokevirtual 95, 3)) (DX10_liars (P := fun q => q = (r, σ2)) ⟨_, e2, rfl⟩) mfX10_liars lkM_L_95 imX10_liars selX10_liars ciX10 (oX10_liars (P := fun q => q = (r, σ2)) ⟨_, e2, rfl⟩).choose_spec rfl rfl (Nat.le_of_ble_eq_true rfl) ⟨Nat.le_of_ble_eq_true rfl, Nat.le_of_ble_eq_true rfl⟩ ⟨Nat.le_trans (by omega) hc.1, Nat.le_trans (by omega) hc.2⟩ (fun r' σ' hq => ?_)
  obtain ⟨r1, rfl, hq⟩ := hq
  cases hq
  refine BX.icmp_eq 1612 (by decide +kernel : decode tL_law.2.1 783 = .ok (.if_icmp .eq 829, 3)) rfl (fun _ => ?_) (fun q => (q rfl).elim)
  exact BX.widen (by omega) (by omega) (K _ _ j)
set_option maxRecDepth 100000 in
set_option maxHeartbeats 4000000 in
theorem lc_15 (h : Jn B σ A) (v : VP G x) (hc : cells + 5 ≤ 601024 ∧ slots + 400 ≤ 7293000) (K : ∀ σ' A', Jn B σ' A' → BX G tL_law (EL G Af Q) (cells + 5) (slots + 400) 1612 (LV G B x) [] σ') : BX G tL_law (EL G Af Q) cells slots 788 (LV G B x) [] σ := by
  obtain ⟨r, σ1, σ2, A', e1, e2, j⟩ := j_begins h (sc G (x + 1)) (sc G (x + 2)) (sc G (x + 3))
  refine BX.run [.aload_n 1, .aload_n 0, .iload 4, .iconst 1, .iadd] (pc' := 794) (lv' := LV G B x) (st' := [.int (x + 1), .ref G.2.2.2.1, .ref B]) (by decide +kernel) rfl rfl ?_
  refine BX.sld (by decide +kernel : decode tL_law.2.1 794 = .ok (.iaload, 1)) v.1 ?_
  refine BX.run [.aload_n 0, .iload 4, .iconst 2, .iadd] (pc' := 800) (lv' := LV G B x) (st' := [.int (x + 2), .ref G.2.2.2.1, .int (sc G (x + 1)), .ref B]) (by decide +kernel) rfl rfl ?_
  refine BX.sld (by decide +kernel : decode tL_law.2.1 800 = .ok (.iaload, 1)) v.2.1 ?_
  refine BX.run [.aload_n 0, .iload 4, .iconst 3, .iadd] (pc' := 806) (lv' := LV G B x) (st' := [.int (x + 3), .ref G.2.2.2.1, .int (sc G (x + 2)), .int (sc G (x + 1)), .ref B]) (by decide +kernel) rfl rfl ?_
  refine BX.sld (by decide +kernel : decode tL_law.2.1 806 = .ok (.iaload, 1)) v.2.2.1 ?_
  refine BX.callV (As := [.int (sc G (x + 1)), .int (sc G (x + 2)), .int (sc G (x + 3))]) (st := []) (by decide +kernel : decode tL_law.2.1 807 = .ok (.invokevirtual 96, 3)) (DX9_begins (P := fun q => q = (r, σ1)) ⟨_, e1, rfl⟩) mfX9_begins lkM_L_96 imX9_begins selX9_begins ciX9 h.o9 rfl rfl (Nat.le_of_ble_eq_true rfl) ⟨Nat.le_of_ble_eq_true rfl, Nat.le_of_ble_eq_true rfl⟩ ⟨Nat.le_trans (by omega) hc.1, Nat.le_trans (by omega) hc.2⟩ (fun r' σ' hq => ?_)
  obtain ⟨r1, rfl, hq⟩ := hq
  cases hq
  refine BX.run [.aload_n 2, .aload_n 0, .iload 4, .iconst 1, .iadd] (pc' := 816) (lv' := LV G B x) (st' := [.int (x + 1), .ref G.2.2.2.1, .ref (B + 70), .int r]) (by decide +kernel) rfl rfl ?_
  refine BX.sld (by decide +kernel : decode tL_law.2.1 816 = .ok (.iaload, 1)) v.1 ?_
  refine BX.run [.aload_n 0, .iload 4, .iconst 2, .iadd] (pc' := 822) (lv' := LV G B x) (st' := [.int (x + 2), .ref G.2.2.2.1, .int (sc G (x + 1)), .ref (B + 70), .int r]) (by decide +kernel) rfl rfl ?_
  refine BX.sld (by decide +kernel : decode tL_law.2.1 822 = .ok (.iaload, 1)) v.2.1 ?_
  refine BX.run [.aload_n 0, .iload 4, .iconst 3, .iadd] (pc' := 828) (lv' := LV G B x) (st' := [.int (x + 3), .ref G.2.2.2.1, .int (sc G (x + 2)), .int (sc G (x + 1)), .ref (B + 70), .int r]) (by decide +kernel) rfl rfl ?_
  refine BX.sld (by decide +kernel : decode tL_law.2.1 828 = .ok (.iaload, 1)) v.2.2.1 ?_
  refine BX.callV (As := [.int (sc G (x + 1)), .int (sc G (x + 2)), .int (sc G (x + 3))]) (st := [.int r]) (by decide +kernel : decode tL_law.2.1 829 = .ok (.invokevirtual 99, 3)) (DX10_begins (P := fun q => q = (r, σ2)) ⟨_, e2, rfl⟩) mfX10_begins lkM_L_99 imX10_begins selX10_begins ciX10 (oX10_begins (P := fun q => q = (r, σ2)) ⟨_, e2, rfl⟩).choose_spec rfl rfl (Nat.le_of_ble_eq_true rfl) ⟨Nat.le_of_ble_eq_true rfl, Nat.le_of_ble_eq_true rfl⟩ ⟨Nat.le_trans (by omega) hc.1, Nat.le_trans (by omega) hc.2⟩ (fun r' σ' hq => ?_)
  obtain ⟨r1, rfl, hq⟩ := hq
  cases hq
  refine BX.icmp_eq 1612 (by decide +kernel : decode tL_law.2.1 832 = .ok (.if_icmp .eq 780, 3)) rfl (fun _ => ?_) (fun q => (q rfl).elim)
  exact BX.widen (by omega) (by omega) (K _ _ j)
set_option maxRecDepth 100000 in
set_option maxHeartbeats 4000000 in
theorem lc_16 (h : Jn B σ A) (v : VP G x) (hc : cells + 5 ≤ 601024 ∧ slots + 400 ≤ 7293000) (K : ∀ σ' A', Jn B σ' A' → BX G tL_law (EL G Af Q) (cells + 5) (slots + 400) 1612 (LV G B x) [] σ') : BX G tL_law (EL G Af Q) cells slots 837 (LV G B x) [] σ := by
  obtain ⟨r, σ1, σ2, A', e1, e2, j⟩ := j_gap h (sc G (x + 1)) (sc G (x + 2)) (sc G (x + 3)) (sc G (x + 4))
  refine BX.run [.aload_n 1, .aload_n 0, .iload 4, .iconst 1, .iadd] (pc' := 843) (lv' := LV G B x) (st' := [.int (x + 1), .ref G.2.2.2.1, .ref B]) (by decide +kernel) rfl rfl ?_
  refine BX.sld (by decide +kernel : decode tL_law.2.1 843 = .ok (.iaload, 1)) v.1 ?_
  refine BX.run [.aload_n 0, .iload 4, .iconst 2, .iadd] (pc' := 849) (lv' := LV G B x) (st' := [.int (x + 2), .ref G.2.2.2.1, .int (sc G (x + 1)), .ref B]) (by decide +kernel) rfl rfl ?_
  refine BX.sld (by decide +kernel : decode tL_law.2.1 849 = .ok (.iaload, 1)) v.2.1 ?_
  refine BX.run [.aload_n 0, .iload 4, .iconst 3, .iadd] (pc' := 855) (lv' := LV G B x) (st' := [.int (x + 3), .ref G.2.2.2.1, .int (sc G (x + 2)), .int (sc G (x + 1)), .ref B]) (by decide +kernel) rfl rfl ?_
  refine BX.sld (by decide +kernel : decode tL_law.2.1 855 = .ok (.iaload, 1)) v.2.2.1 ?_
  refine BX.run [.aload_n 0, .iload 4, .iconst 4, .iadd] (pc' := 861) (lv' := LV G B x) (st' := [.int (x + 4), .ref G.2.2.2.1, .int (sc G (x + 3)), .int (sc G (x + 2)), .int (sc G (x + 1)), .ref B]) (by decide +kernel) rfl rfl ?_
  refine BX.sld (by decide +kernel : decode tL_law.2.1 861 = .ok (.iaload, 1)) v.2.2.2.1 ?_
  refine BX.callV (As := [.int (sc G (x + 1)), .int (sc G (x + 2)), .int (sc G (x + 3)), .int (sc G (x + 4))]) (st := []) (by decide +kernel : decode tL_law.2.1 862 = .ok (.invokevirtual 100, 3)) (DX9_gap (P := fun q => q = (r, σ1)) ⟨_, e1, rfl⟩) mfX9_gap lkM_L_100 imX9_gap selX9_gap ciX9 h.o9 rfl rfl (Nat.le_of_ble_eq_true rfl) ⟨Nat.le_of_ble_eq_true rfl, Nat.le_of_ble_eq_true rfl⟩ ⟨Nat.le_trans (by omega) hc.1, Nat.le_trans (by omega) hc.2⟩ (fun r' σ' hq => ?_)
  obtain ⟨r1, rfl, hq⟩ := hq
  cases hq
  refine BX.run [.aload_n 2, .aload_n 0, .iload 4, .iconst 1, .iadd] (pc' := 871) (lv' := LV G B x) (st' := [.int (x + 1), .ref G.2.2.2.1, .ref (B + 70), .int r]) (by decide +kernel) rfl rfl ?_
  refine BX.sld (by decide +kernel : decode tL_law.2.1 871 = .ok (.iaload, 1)) v.1 ?_
  refine BX.run [.aload_n 0, .iload 4, .iconst 2, .iadd] (pc' := 877) (lv' := LV G B x) (st' := [.int (x + 2), .ref G.2.2.2.1, .int (sc G (x + 1)), .ref (B + 70), .int r]) (by decide +kernel) rfl rfl ?_
  refine BX.sld (by decide +kernel : decode tL_law.2.1 877 = .ok (.iaload, 1)) v.2.1 ?_
  refine BX.run [.aload_n 0, .iload 4, .iconst 3, .iadd] (pc' := 883) (lv' := LV G B x) (st' := [.int (x + 3), .ref G.2.2.2.1, .int (sc G (x + 2)), .int (sc G (x + 1)), .ref (B + 70), .int r]) (by decide +kernel) rfl rfl ?_
  refine BX.sld (by decide +kernel : decode tL_law.2.1 883 = .ok (.iaload, 1)) v.2.2.1 ?_
  refine BX.run [.aload_n 0, .iload 4, .iconst 4, .iadd] (pc' := 889) (lv' := LV G B x) (st' := [.int (x + 4), .ref G.2.2.2.1, .int (sc G (x + 3)), .int (sc G (x + 2)), .int (sc G (x + 1)), .ref (B + 70), .int r]) (by decide +kernel) rfl rfl ?_
  refine BX.sld (by decide +kernel : decode tL_law.2.1 889 = .ok (.iaload, 1)) v.2.2.2.1 ?_
  refine BX.callV (As := [.int (sc G (x + 1)), .int (sc G (x + 2)), .int (sc G (x + 3)), .int (sc G (x + 4))]) (st := [.int r]) (by decide +kernel : decode tL_law.2.1 890 = .ok (.invokevirtual 104, 3)) (DX10_gap (P := fun q => q = (r, σ2)) ⟨_, e2, rfl⟩) mfX10_gap lkM_L_104 imX10_gap selX10_gap ciX10 (oX10_gap (P := fun q => q = (r, σ2)) ⟨_, e2, rfl⟩).choose_spec rfl rfl (Nat.le_of_ble_eq_true rfl) ⟨Nat.le_of_ble_eq_true rfl, Nat.le_of_ble_eq_true rfl⟩ ⟨Nat.le_trans (by omega) hc.1, Nat.le_trans (by omega) hc.2⟩ (fun r' σ' hq => ?_)
  obtain ⟨r1, rfl, hq⟩ := hq
  cases hq
  refine BX.icmp_eq 1612 (by decide +kernel : decode tL_law.2.1 893 = .ok (.if_icmp .eq 719, 3)) rfl (fun _ => ?_) (fun q => (q rfl).elim)
  exact BX.widen (by omega) (by omega) (K _ _ j)
set_option maxRecDepth 100000 in
set_option maxHeartbeats 4000000 in
theorem lc_17 (h : Jn B σ A) (v : VP G x) (hc : cells + 5 ≤ 601024 ∧ slots + 400 ≤ 7293000) (K : ∀ σ' A', Jn B σ' A' → BX G tL_law (EL G Af Q) (cells + 5) (slots + 400) 1612 (LV G B x) [] σ') : BX G tL_law (EL G Af Q) cells slots 898 (LV G B x) [] σ := by
  obtain ⟨r, σ1, σ2, A', e1, e2, j⟩ := j_crossings h (sc G (x + 1)) (sc G (x + 2)) (sc G (x + 3))
  refine BX.run [.aload_n 1, .aload_n 0, .iload 4, .iconst 1, .iadd] (pc' := 904) (lv' := LV G B x) (st' := [.int (x + 1), .ref G.2.2.2.1, .ref B]) (by decide +kernel) rfl rfl ?_
  refine BX.sld (by decide +kernel : decode tL_law.2.1 904 = .ok (.iaload, 1)) v.1 ?_
  refine BX.run [.aload_n 0, .iload 4, .iconst 2, .iadd] (pc' := 910) (lv' := LV G B x) (st' := [.int (x + 2), .ref G.2.2.2.1, .int (sc G (x + 1)), .ref B]) (by decide +kernel) rfl rfl ?_
  refine BX.sld (by decide +kernel : decode tL_law.2.1 910 = .ok (.iaload, 1)) v.2.1 ?_
  refine BX.run [.aload_n 0, .iload 4, .iconst 3, .iadd] (pc' := 916) (lv' := LV G B x) (st' := [.int (x + 3), .ref G.2.2.2.1, .int (sc G (x + 2)), .int (sc G (x + 1)), .ref B]) (by decide +kernel) rfl rfl ?_
  refine BX.sld (by decide +kernel : decode tL_law.2.1 916 = .ok (.iaload, 1)) v.2.2.1 ?_
  refine BX.callV (As := [.int (sc G (x + 1)), .int (sc G (x + 2)), .int (sc G (x + 3))]) (st := []) (by decide +kernel : decode tL_law.2.1 917 = .ok (.invokevirtual 105, 3)) (DX9_crossings (P := fun q => q = (r, σ1)) ⟨_, e1, rfl⟩) mfX9_crossings lkM_L_105 imX9_crossings selX9_crossings ciX9 h.o9 rfl rfl (Nat.le_of_ble_eq_true rfl) ⟨Nat.le_of_ble_eq_true rfl, Nat.le_of_ble_eq_true rfl⟩ ⟨Nat.le_trans (by omega) hc.1, Nat.le_trans (by omega) hc.2⟩ (fun r' σ' hq => ?_)
  obtain ⟨r1, rfl, hq⟩ := hq
  cases hq
  refine BX.run [.aload_n 2, .aload_n 0, .iload 4, .iconst 1, .iadd] (pc' := 926) (lv' := LV G B x) (st' := [.int (x + 1), .ref G.2.2.2.1, .ref (B + 70), .int r]) (by decide +kernel) rfl rfl ?_
  refine BX.sld (by decide +kernel : decode tL_law.2.1 926 = .ok (.iaload, 1)) v.1 ?_
  refine BX.run [.aload_n 0, .iload 4, .iconst 2, .iadd] (pc' := 932) (lv' := LV G B x) (st' := [.int (x + 2), .ref G.2.2.2.1, .int (sc G (x + 1)), .ref (B + 70), .int r]) (by decide +kernel) rfl rfl ?_
  refine BX.sld (by decide +kernel : decode tL_law.2.1 932 = .ok (.iaload, 1)) v.2.1 ?_
  refine BX.run [.aload_n 0, .iload 4, .iconst 3, .iadd] (pc' := 938) (lv' := LV G B x) (st' := [.int (x + 3), .ref G.2.2.2.1, .int (sc G (x + 2)), .int (sc G (x + 1)), .ref (B + 70), .int r]) (by decide +kernel) rfl rfl ?_
  refine BX.sld (by decide +kernel : decode tL_law.2.1 938 = .ok (.iaload, 1)) v.2.2.1 ?_
  refine BX.callV (As := [.int (sc G (x + 1)), .int (sc G (x + 2)), .int (sc G (x + 3))]) (st := [.int r]) (by decide +kernel : decode tL_law.2.1 939 = .ok (.invokevirtual 108, 3)) (DX10_crossings (P := fun q => q = (r, σ2)) ⟨_, e2, rfl⟩) mfX10_crossings lkM_L_108 imX10_crossings selX10_crossings ciX10 (oX10_crossings (P := fun q => q = (r, σ2)) ⟨_, e2, rfl⟩).choose_spec rfl rfl (Nat.le_of_ble_eq_true rfl) ⟨Nat.le_of_ble_eq_true rfl, Nat.le_of_ble_eq_true rfl⟩ ⟨Nat.le_trans (by omega) hc.1, Nat.le_trans (by omega) hc.2⟩ (fun r' σ' hq => ?_)
  obtain ⟨r1, rfl, hq⟩ := hq
  cases hq
  refine BX.icmp_eq 1612 (by decide +kernel : decode tL_law.2.1 942 = .ok (.if_icmp .eq 670, 3)) rfl (fun _ => ?_) (fun q => (q rfl).elim)
  exact BX.widen (by omega) (by omega) (K _ _ j)
set_option maxRecDepth 100000 in
set_option maxHeartbeats 4000000 in
theorem lc_18 (h : Jn B σ A) (v : VP G x) (hc : cells + 5 ≤ 601024 ∧ slots + 400 ≤ 7293000) (K : ∀ σ' A', Jn B σ' A' → BX G tL_law (EL G Af Q) (cells + 5) (slots + 400) 1612 (LV G B x) [] σ') : BX G tL_law (EL G Af Q) cells slots 947 (LV G B x) [] σ := by
  obtain ⟨r, σ1, σ2, A', e1, e2, j⟩ := j_sure h (sc G (x + 1)) (sc G (x + 2)) (sc G (x + 3)) (sc G (x + 4)) (sc G (x + 5))
  refine BX.run [.aload_n 1, .aload_n 0, .iload 4, .iconst 1, .iadd] (pc' := 953) (lv' := LV G B x) (st' := [.int (x + 1), .ref G.2.2.2.1, .ref B]) (by decide +kernel) rfl rfl ?_
  refine BX.sld (by decide +kernel : decode tL_law.2.1 953 = .ok (.iaload, 1)) v.1 ?_
  refine BX.run [.aload_n 0, .iload 4, .iconst 2, .iadd] (pc' := 959) (lv' := LV G B x) (st' := [.int (x + 2), .ref G.2.2.2.1, .int (sc G (x + 1)), .ref B]) (by decide +kernel) rfl rfl ?_
  refine BX.sld (by decide +kernel : decode tL_law.2.1 959 = .ok (.iaload, 1)) v.2.1 ?_
  refine BX.run [.aload_n 0, .iload 4, .iconst 3, .iadd] (pc' := 965) (lv' := LV G B x) (st' := [.int (x + 3), .ref G.2.2.2.1, .int (sc G (x + 2)), .int (sc G (x + 1)), .ref B]) (by decide +kernel) rfl rfl ?_
  refine BX.sld (by decide +kernel : decode tL_law.2.1 965 = .ok (.iaload, 1)) v.2.2.1 ?_
  refine BX.run [.aload_n 0, .iload 4, .iconst 4, .iadd] (pc' := 971) (lv' := LV G B x) (st' := [.int (x + 4), .ref G.2.2.2.1, .int (sc G (x + 3)), .int (sc G (x + 2)), .int (sc G (x + 1)), .ref B]) (by decide +kernel) rfl rfl ?_
  refine BX.sld (by decide +kernel : decode tL_law.2.1 971 = .ok (.iaload, 1)) v.2.2.2.1 ?_
  refine BX.run [.aload_n 0, .iload 4, .iconst 5, .iadd] (pc' := 977) (lv' := LV G B x) (st' := [.int (x + 5), .ref G.2.2.2.1, .int (sc G (x + 4)), .int (sc G (x + 3)), .int (sc G (x + 2)), .int (sc G (x + 1)), .ref B]) (by decide +kernel) rfl rfl ?_
  refine BX.sld (by decide +kernel : decode tL_law.2.1 977 = .ok (.iaload, 1)) v.2.2.2.2.1 ?_
  refine BX.callV (As := [.int (sc G (x + 1)), .int (sc G (x + 2)), .int (sc G (x + 3)), .int (sc G (x + 4)), .int (sc G (x + 5))]) (st := []) (by decide +kernel : decode tL_law.2.1 978 = .ok (.invokevirtual 109, 3)) (DX9_sure (P := fun q => q = (r, σ1)) ⟨_, e1, rfl⟩) mfX9_sure lkM_L_109 imX9_sure selX9_sure ciX9 h.o9 rfl rfl (Nat.le_of_ble_eq_true rfl) ⟨Nat.le_of_ble_eq_true rfl, Nat.le_of_ble_eq_true rfl⟩ ⟨Nat.le_trans (by omega) hc.1, Nat.le_trans (by omega) hc.2⟩ (fun r' σ' hq => ?_)
  obtain ⟨r1, rfl, hq⟩ := hq
  cases hq
  refine BX.run [.aload_n 2, .aload_n 0, .iload 4, .iconst 1, .iadd] (pc' := 987) (lv' := LV G B x) (st' := [.int (x + 1), .ref G.2.2.2.1, .ref (B + 70), .int r]) (by decide +kernel) rfl rfl ?_
  refine BX.sld (by decide +kernel : decode tL_law.2.1 987 = .ok (.iaload, 1)) v.1 ?_
  refine BX.run [.aload_n 0, .iload 4, .iconst 2, .iadd] (pc' := 993) (lv' := LV G B x) (st' := [.int (x + 2), .ref G.2.2.2.1, .int (sc G (x + 1)), .ref (B + 70), .int r]) (by decide +kernel) rfl rfl ?_
  refine BX.sld (by decide +kernel : decode tL_law.2.1 993 = .ok (.iaload, 1)) v.2.1 ?_
  refine BX.run [.aload_n 0, .iload 4, .iconst 3, .iadd] (pc' := 999) (lv' := LV G B x) (st' := [.int (x + 3), .ref G.2.2.2.1, .int (sc G (x + 2)), .int (sc G (x + 1)), .ref (B + 70), .int r]) (by decide +kernel) rfl rfl ?_
  refine BX.sld (by decide +kernel : decode tL_law.2.1 999 = .ok (.iaload, 1)) v.2.2.1 ?_
  refine BX.run [.aload_n 0, .iload 4, .iconst 4, .iadd] (pc' := 1005) (lv' := LV G B x) (st' := [.int (x + 4), .ref G.2.2.2.1, .int (sc G (x + 3)), .int (sc G (x + 2)), .int (sc G (x + 1)), .ref (B + 70), .int r]) (by decide +kernel) rfl rfl ?_
  refine BX.sld (by decide +kernel : decode tL_law.2.1 1005 = .ok (.iaload, 1)) v.2.2.2.1 ?_
  refine BX.run [.aload_n 0, .iload 4, .iconst 5, .iadd] (pc' := 1011) (lv' := LV G B x) (st' := [.int (x + 5), .ref G.2.2.2.1, .int (sc G (x + 4)), .int (sc G (x + 3)), .int (sc G (x + 2)), .int (sc G (x + 1)), .ref (B + 70), .int r]) (by decide +kernel) rfl rfl ?_
  refine BX.sld (by decide +kernel : decode tL_law.2.1 1011 = .ok (.iaload, 1)) v.2.2.2.2.1 ?_
  refine BX.callV (As := [.int (sc G (x + 1)), .int (sc G (x + 2)), .int (sc G (x + 3)), .int (sc G (x + 4)), .int (sc G (x + 5))]) (st := [.int r]) (by decide +kernel : decode tL_law.2.1 1012 = .ok (.invokevirtual 112, 3)) (DX10_sure (P := fun q => q = (r, σ2)) ⟨_, e2, rfl⟩) mfX10_sure lkM_L_112 imX10_sure selX10_sure ciX10 (oX10_sure (P := fun q => q = (r, σ2)) ⟨_, e2, rfl⟩).choose_spec rfl rfl (Nat.le_of_ble_eq_true rfl) ⟨Nat.le_of_ble_eq_true rfl, Nat.le_of_ble_eq_true rfl⟩ ⟨Nat.le_trans (by omega) hc.1, Nat.le_trans (by omega) hc.2⟩ (fun r' σ' hq => ?_)
  obtain ⟨r1, rfl, hq⟩ := hq
  cases hq
  refine BX.icmp_eq 1612 (by decide +kernel : decode tL_law.2.1 1015 = .ok (.if_icmp .eq 597, 3)) rfl (fun _ => ?_) (fun q => (q rfl).elim)
  exact BX.widen (by omega) (by omega) (K _ _ j)
set_option maxRecDepth 100000 in
set_option maxHeartbeats 4000000 in
theorem lc_19 (h : Jn B σ A) (v : VP G x) (hc : cells + 5 ≤ 601024 ∧ slots + 400 ≤ 7293000) (K : ∀ σ' A', Jn B σ' A' → BX G tL_law (EL G Af Q) (cells + 5) (slots + 400) 1612 (LV G B x) [] σ') : BX G tL_law (EL G Af Q) cells slots 1020 (LV G B x) [] σ := by
  obtain ⟨r, σ1, σ2, A', e1, e2, j⟩ := j_ahead h (sc G (x + 1)) (sc G (x + 2)) (sc G (x + 3))
  refine BX.run [.aload_n 1, .aload_n 0, .iload 4, .iconst 1, .iadd] (pc' := 1026) (lv' := LV G B x) (st' := [.int (x + 1), .ref G.2.2.2.1, .ref B]) (by decide +kernel) rfl rfl ?_
  refine BX.sld (by decide +kernel : decode tL_law.2.1 1026 = .ok (.iaload, 1)) v.1 ?_
  refine BX.run [.aload_n 0, .iload 4, .iconst 2, .iadd] (pc' := 1032) (lv' := LV G B x) (st' := [.int (x + 2), .ref G.2.2.2.1, .int (sc G (x + 1)), .ref B]) (by decide +kernel) rfl rfl ?_
  refine BX.sld (by decide +kernel : decode tL_law.2.1 1032 = .ok (.iaload, 1)) v.2.1 ?_
  refine BX.run [.aload_n 0, .iload 4, .iconst 3, .iadd] (pc' := 1038) (lv' := LV G B x) (st' := [.int (x + 3), .ref G.2.2.2.1, .int (sc G (x + 2)), .int (sc G (x + 1)), .ref B]) (by decide +kernel) rfl rfl ?_
  refine BX.sld (by decide +kernel : decode tL_law.2.1 1038 = .ok (.iaload, 1)) v.2.2.1 ?_
  refine BX.callV (As := [.int (sc G (x + 1)), .int (sc G (x + 2)), .int (sc G (x + 3))]) (st := []) (by decide +kernel : decode tL_law.2.1 1039 = .ok (.invokevirtual 113, 3)) (DX9_ahead (P := fun q => q = (r, σ1)) ⟨_, e1, rfl⟩) mfX9_ahead lkM_L_113 imX9_ahead selX9_ahead ciX9 h.o9 rfl rfl (Nat.le_of_ble_eq_true rfl) ⟨Nat.le_of_ble_eq_true rfl, Nat.le_of_ble_eq_true rfl⟩ ⟨Nat.le_trans (by omega) hc.1, Nat.le_trans (by omega) hc.2⟩ (fun r' σ' hq => ?_)
  obtain ⟨r1, rfl, hq⟩ := hq
  cases hq
  refine BX.run [.aload_n 2, .aload_n 0, .iload 4, .iconst 1, .iadd] (pc' := 1048) (lv' := LV G B x) (st' := [.int (x + 1), .ref G.2.2.2.1, .ref (B + 70), .int r]) (by decide +kernel) rfl rfl ?_
  refine BX.sld (by decide +kernel : decode tL_law.2.1 1048 = .ok (.iaload, 1)) v.1 ?_
  refine BX.run [.aload_n 0, .iload 4, .iconst 2, .iadd] (pc' := 1054) (lv' := LV G B x) (st' := [.int (x + 2), .ref G.2.2.2.1, .int (sc G (x + 1)), .ref (B + 70), .int r]) (by decide +kernel) rfl rfl ?_
  refine BX.sld (by decide +kernel : decode tL_law.2.1 1054 = .ok (.iaload, 1)) v.2.1 ?_
  refine BX.run [.aload_n 0, .iload 4, .iconst 3, .iadd] (pc' := 1060) (lv' := LV G B x) (st' := [.int (x + 3), .ref G.2.2.2.1, .int (sc G (x + 2)), .int (sc G (x + 1)), .ref (B + 70), .int r]) (by decide +kernel) rfl rfl ?_
  refine BX.sld (by decide +kernel : decode tL_law.2.1 1060 = .ok (.iaload, 1)) v.2.2.1 ?_
  refine BX.callV (As := [.int (sc G (x + 1)), .int (sc G (x + 2)), .int (sc G (x + 3))]) (st := [.int r]) (by decide +kernel : decode tL_law.2.1 1061 = .ok (.invokevirtual 116, 3)) (DX10_ahead (P := fun q => q = (r, σ2)) ⟨_, e2, rfl⟩) mfX10_ahead lkM_L_116 imX10_ahead selX10_ahead ciX10 (oX10_ahead (P := fun q => q = (r, σ2)) ⟨_, e2, rfl⟩).choose_spec rfl rfl (Nat.le_of_ble_eq_true rfl) ⟨Nat.le_of_ble_eq_true rfl, Nat.le_of_ble_eq_true rfl⟩ ⟨Nat.le_trans (by omega) hc.1, Nat.le_trans (by omega) hc.2⟩ (fun r' σ' hq => ?_)
  obtain ⟨r1, rfl, hq⟩ := hq
  cases hq
  refine BX.icmp_eq 1612 (by decide +kernel : decode tL_law.2.1 1064 = .ok (.if_icmp .eq 548, 3)) rfl (fun _ => ?_) (fun q => (q rfl).elim)
  exact BX.widen (by omega) (by omega) (K _ _ j)
set_option maxRecDepth 100000 in
set_option maxHeartbeats 4000000 in
theorem lc_20 (h : Jn B σ A) (v : VP G x) (hc : cells + 5 ≤ 601024 ∧ slots + 400 ≤ 7293000) (K : ∀ σ' A', Jn B σ' A' → BX G tL_law (EL G Af Q) (cells + 5) (slots + 400) 1612 (LV G B x) [] σ') : BX G tL_law (EL G Af Q) cells slots 1069 (LV G B x) [] σ := by
  obtain ⟨r, σ1, σ2, A', e1, e2, j⟩ := j_span h (sc G (x + 1))
  refine BX.run [.aload_n 1, .aload_n 0, .iload 4, .iconst 1, .iadd] (pc' := 1075) (lv' := LV G B x) (st' := [.int (x + 1), .ref G.2.2.2.1, .ref B]) (by decide +kernel) rfl rfl ?_
  refine BX.sld (by decide +kernel : decode tL_law.2.1 1075 = .ok (.iaload, 1)) v.1 ?_
  refine BX.callV (As := [.int (sc G (x + 1))]) (st := []) (by decide +kernel : decode tL_law.2.1 1076 = .ok (.invokevirtual 117, 3)) (DX9_span (P := fun q => q = (r, σ1)) ⟨_, e1, rfl⟩) mfX9_span lkM_L_117 imX9_span selX9_span ciX9 h.o9 rfl rfl (Nat.le_of_ble_eq_true rfl) ⟨Nat.le_of_ble_eq_true rfl, Nat.le_of_ble_eq_true rfl⟩ ⟨Nat.le_trans (by omega) hc.1, Nat.le_trans (by omega) hc.2⟩ (fun r' σ' hq => ?_)
  obtain ⟨r1, rfl, hq⟩ := hq
  cases hq
  refine BX.run [.aload_n 2, .aload_n 0, .iload 4, .iconst 1, .iadd] (pc' := 1085) (lv' := LV G B x) (st' := [.int (x + 1), .ref G.2.2.2.1, .ref (B + 70), .int r]) (by decide +kernel) rfl rfl ?_
  refine BX.sld (by decide +kernel : decode tL_law.2.1 1085 = .ok (.iaload, 1)) v.1 ?_
  refine BX.callV (As := [.int (sc G (x + 1))]) (st := [.int r]) (by decide +kernel : decode tL_law.2.1 1086 = .ok (.invokevirtual 120, 3)) (DX10_span (P := fun q => q = (r, σ2)) ⟨_, e2, rfl⟩) mfX10_span lkM_L_120 imX10_span selX10_span ciX10 (oX10_span (P := fun q => q = (r, σ2)) ⟨_, e2, rfl⟩).choose_spec rfl rfl (Nat.le_of_ble_eq_true rfl) ⟨Nat.le_of_ble_eq_true rfl, Nat.le_of_ble_eq_true rfl⟩ ⟨Nat.le_trans (by omega) hc.1, Nat.le_trans (by omega) hc.2⟩ (fun r' σ' hq => ?_)
  obtain ⟨r1, rfl, hq⟩ := hq
  cases hq
  refine BX.icmp_eq 1612 (by decide +kernel : decode tL_law.2.1 1089 = .ok (.if_icmp .eq 523, 3)) rfl (fun _ => ?_) (fun q => (q rfl).elim)
  exact BX.widen (by omega) (by omega) (K _ _ j)
set_option maxRecDepth 100000 in
set_option maxHeartbeats 4000000 in
theorem lc_21 (h : Jn B σ A) (v : VP G x) (hc : cells + 5 ≤ 601024 ∧ slots + 400 ≤ 7293000) (K : ∀ σ' A', Jn B σ' A' → BX G tL_law (EL G Af Q) (cells + 5) (slots + 400) 1612 (LV G B x) [] σ') : BX G tL_law (EL G Af Q) cells slots 1094 (LV G B x) [] σ := by
  obtain ⟨r, σ1, σ2, A', e1, e2, j⟩ := j_look h (sc G (x + 1)) (sc G (x + 2))
  refine BX.run [.aload_n 1, .aload_n 0, .iload 4, .iconst 1, .iadd] (pc' := 1100) (lv' := LV G B x) (st' := [.int (x + 1), .ref G.2.2.2.1, .ref B]) (by decide +kernel) rfl rfl ?_
  refine BX.sld (by decide +kernel : decode tL_law.2.1 1100 = .ok (.iaload, 1)) v.1 ?_
  refine BX.run [.aload_n 0, .iload 4, .iconst 2, .iadd] (pc' := 1106) (lv' := LV G B x) (st' := [.int (x + 2), .ref G.2.2.2.1, .int (sc G (x + 1)), .ref B]) (by decide +kernel) rfl rfl ?_
  refine BX.sld (by decide +kernel : decode tL_law.2.1 1106 = .ok (.iaload, 1)) v.2.1 ?_
  refine BX.callV (As := [.int (sc G (x + 1)), .int (sc G (x + 2))]) (st := []) (by decide +kernel : decode tL_law.2.1 1107 = .ok (.invokevirtual 121, 3)) (DX9_look (P := fun q => q = (r, σ1)) ⟨_, e1, rfl⟩) mfX9_look lkM_L_121 imX9_look selX9_look ciX9 h.o9 rfl rfl (Nat.le_of_ble_eq_true rfl) ⟨Nat.le_of_ble_eq_true rfl, Nat.le_of_ble_eq_true rfl⟩ ⟨Nat.le_trans (by omega) hc.1, Nat.le_trans (by omega) hc.2⟩ (fun r' σ' hq => ?_)
  obtain ⟨r1, rfl, hq⟩ := hq
  cases hq
  refine BX.run [.aload_n 2, .aload_n 0, .iload 4, .iconst 1, .iadd] (pc' := 1116) (lv' := LV G B x) (st' := [.int (x + 1), .ref G.2.2.2.1, .ref (B + 70), .int r]) (by decide +kernel) rfl rfl ?_
  refine BX.sld (by decide +kernel : decode tL_law.2.1 1116 = .ok (.iaload, 1)) v.1 ?_
  refine BX.run [.aload_n 0, .iload 4, .iconst 2, .iadd] (pc' := 1122) (lv' := LV G B x) (st' := [.int (x + 2), .ref G.2.2.2.1, .int (sc G (x + 1)), .ref (B + 70), .int r]) (by decide +kernel) rfl rfl ?_
  refine BX.sld (by decide +kernel : decode tL_law.2.1 1122 = .ok (.iaload, 1)) v.2.1 ?_
  refine BX.callV (As := [.int (sc G (x + 1)), .int (sc G (x + 2))]) (st := [.int r]) (by decide +kernel : decode tL_law.2.1 1123 = .ok (.invokevirtual 124, 3)) (DX10_look_ (P := fun q => q = (r, σ2)) ⟨_, e2, rfl⟩) mfX10_look_ lkM_L_124 imX10_look_ selX10_look_ ciX10 (oX10_look_ (P := fun q => q = (r, σ2)) ⟨_, e2, rfl⟩).choose_spec rfl rfl (Nat.le_of_ble_eq_true rfl) ⟨Nat.le_of_ble_eq_true rfl, Nat.le_of_ble_eq_true rfl⟩ ⟨Nat.le_trans (by omega) hc.1, Nat.le_trans (by omega) hc.2⟩ (fun r' σ' hq => ?_)
  obtain ⟨r1, rfl, hq⟩ := hq
  cases hq
  refine BX.icmp_eq 1612 (by decide +kernel : decode tL_law.2.1 1126 = .ok (.if_icmp .eq 486, 3)) rfl (fun _ => ?_) (fun q => (q rfl).elim)
  exact BX.widen (by omega) (by omega) (K _ _ j)
set_option maxRecDepth 100000 in
set_option maxHeartbeats 4000000 in
theorem lc_22 (h : Jn B σ A) (v : VP G x) (hc : cells + 5 ≤ 601024 ∧ slots + 400 ≤ 7293000) (K : ∀ σ' A', Jn B σ' A' → BX G tL_law (EL G Af Q) (cells + 5) (slots + 400) 1612 (LV G B x) [] σ') : BX G tL_law (EL G Af Q) cells slots 1131 (LV G B x) [] σ := by
  obtain ⟨r, σ1, σ2, A', e1, e2, j⟩ := j_meets h (sc G (x + 1)) (sc G (x + 2)) (sc G (x + 3))
  refine BX.run [.aload_n 1, .aload_n 0, .iload 4, .iconst 1, .iadd] (pc' := 1137) (lv' := LV G B x) (st' := [.int (x + 1), .ref G.2.2.2.1, .ref B]) (by decide +kernel) rfl rfl ?_
  refine BX.sld (by decide +kernel : decode tL_law.2.1 1137 = .ok (.iaload, 1)) v.1 ?_
  refine BX.run [.aload_n 0, .iload 4, .iconst 2, .iadd] (pc' := 1143) (lv' := LV G B x) (st' := [.int (x + 2), .ref G.2.2.2.1, .int (sc G (x + 1)), .ref B]) (by decide +kernel) rfl rfl ?_
  refine BX.sld (by decide +kernel : decode tL_law.2.1 1143 = .ok (.iaload, 1)) v.2.1 ?_
  refine BX.run [.aload_n 0, .iload 4, .iconst 3, .iadd] (pc' := 1149) (lv' := LV G B x) (st' := [.int (x + 3), .ref G.2.2.2.1, .int (sc G (x + 2)), .int (sc G (x + 1)), .ref B]) (by decide +kernel) rfl rfl ?_
  refine BX.sld (by decide +kernel : decode tL_law.2.1 1149 = .ok (.iaload, 1)) v.2.2.1 ?_
  refine BX.callV (As := [.int (sc G (x + 1)), .int (sc G (x + 2)), .int (sc G (x + 3))]) (st := []) (by decide +kernel : decode tL_law.2.1 1150 = .ok (.invokevirtual 125, 3)) (DX9_meets (P := fun q => q = (r, σ1)) ⟨_, e1, rfl⟩) mfX9_meets lkM_L_125 imX9_meets selX9_meets ciX9 h.o9 rfl rfl (Nat.le_of_ble_eq_true rfl) ⟨Nat.le_of_ble_eq_true rfl, Nat.le_of_ble_eq_true rfl⟩ ⟨Nat.le_trans (by omega) hc.1, Nat.le_trans (by omega) hc.2⟩ (fun r' σ' hq => ?_)
  obtain ⟨r1, rfl, hq⟩ := hq
  cases hq
  refine BX.run [.aload_n 2, .aload_n 0, .iload 4, .iconst 1, .iadd] (pc' := 1159) (lv' := LV G B x) (st' := [.int (x + 1), .ref G.2.2.2.1, .ref (B + 70), .int r]) (by decide +kernel) rfl rfl ?_
  refine BX.sld (by decide +kernel : decode tL_law.2.1 1159 = .ok (.iaload, 1)) v.1 ?_
  refine BX.run [.aload_n 0, .iload 4, .iconst 2, .iadd] (pc' := 1165) (lv' := LV G B x) (st' := [.int (x + 2), .ref G.2.2.2.1, .int (sc G (x + 1)), .ref (B + 70), .int r]) (by decide +kernel) rfl rfl ?_
  refine BX.sld (by decide +kernel : decode tL_law.2.1 1165 = .ok (.iaload, 1)) v.2.1 ?_
  refine BX.run [.aload_n 0, .iload 4, .iconst 3, .iadd] (pc' := 1171) (lv' := LV G B x) (st' := [.int (x + 3), .ref G.2.2.2.1, .int (sc G (x + 2)), .int (sc G (x + 1)), .ref (B + 70), .int r]) (by decide +kernel) rfl rfl ?_
  refine BX.sld (by decide +kernel : decode tL_law.2.1 1171 = .ok (.iaload, 1)) v.2.2.1 ?_
  refine BX.callV (As := [.int (sc G (x + 1)), .int (sc G (x + 2)), .int (sc G (x + 3))]) (st := [.int r]) (by decide +kernel : decode tL_law.2.1 1172 = .ok (.invokevirtual 128, 3)) (DX10_meets (P := fun q => q = (r, σ2)) ⟨_, e2, rfl⟩) mfX10_meets lkM_L_128 imX10_meets selX10_meets ciX10 (oX10_meets (P := fun q => q = (r, σ2)) ⟨_, e2, rfl⟩).choose_spec rfl rfl (Nat.le_of_ble_eq_true rfl) ⟨Nat.le_of_ble_eq_true rfl, Nat.le_of_ble_eq_true rfl⟩ ⟨Nat.le_trans (by omega) hc.1, Nat.le_trans (by omega) hc.2⟩ (fun r' σ' hq => ?_)
  obtain ⟨r1, rfl, hq⟩ := hq
  cases hq
  refine BX.icmp_eq 1612 (by decide +kernel : decode tL_law.2.1 1175 = .ok (.if_icmp .eq 437, 3)) rfl (fun _ => ?_) (fun q => (q rfl).elim)
  exact BX.widen (by omega) (by omega) (K _ _ j)
set_option maxRecDepth 100000 in
set_option maxHeartbeats 4000000 in
theorem lc_23 (h : Jn B σ A) (v : VP G x) (hc : cells + 5 ≤ 601024 ∧ slots + 400 ≤ 7293000) (K : ∀ σ' A', Jn B σ' A' → BX G tL_law (EL G Af Q) (cells + 5) (slots + 400) 1612 (LV G B x) [] σ') : BX G tL_law (EL G Af Q) cells slots 1180 (LV G B x) [] σ := by
  obtain ⟨r, σ1, σ2, A', e1, e2, j⟩ := j_one h (sc G (x + 1)) (sc G (x + 2)) (sc G (x + 3))
  refine BX.run [.aload_n 1, .aload_n 0, .iload 4, .iconst 1, .iadd] (pc' := 1186) (lv' := LV G B x) (st' := [.int (x + 1), .ref G.2.2.2.1, .ref B]) (by decide +kernel) rfl rfl ?_
  refine BX.sld (by decide +kernel : decode tL_law.2.1 1186 = .ok (.iaload, 1)) v.1 ?_
  refine BX.run [.aload_n 0, .iload 4, .iconst 2, .iadd] (pc' := 1192) (lv' := LV G B x) (st' := [.int (x + 2), .ref G.2.2.2.1, .int (sc G (x + 1)), .ref B]) (by decide +kernel) rfl rfl ?_
  refine BX.sld (by decide +kernel : decode tL_law.2.1 1192 = .ok (.iaload, 1)) v.2.1 ?_
  refine BX.run [.aload_n 0, .iload 4, .iconst 3, .iadd] (pc' := 1198) (lv' := LV G B x) (st' := [.int (x + 3), .ref G.2.2.2.1, .int (sc G (x + 2)), .int (sc G (x + 1)), .ref B]) (by decide +kernel) rfl rfl ?_
  refine BX.sld (by decide +kernel : decode tL_law.2.1 1198 = .ok (.iaload, 1)) v.2.2.1 ?_
  refine BX.callV (As := [.int (sc G (x + 1)), .int (sc G (x + 2)), .int (sc G (x + 3))]) (st := []) (by decide +kernel : decode tL_law.2.1 1199 = .ok (.invokevirtual 129, 3)) (DX9_one (P := fun q => q = (r, σ1)) ⟨_, e1, rfl⟩) mfX9_one lkM_L_129 imX9_one selX9_one ciX9 h.o9 rfl rfl (Nat.le_of_ble_eq_true rfl) ⟨Nat.le_of_ble_eq_true rfl, Nat.le_of_ble_eq_true rfl⟩ ⟨Nat.le_trans (by omega) hc.1, Nat.le_trans (by omega) hc.2⟩ (fun r' σ' hq => ?_)
  obtain ⟨r1, rfl, hq⟩ := hq
  cases hq
  refine BX.run [.aload_n 2, .aload_n 0, .iload 4, .iconst 1, .iadd] (pc' := 1208) (lv' := LV G B x) (st' := [.int (x + 1), .ref G.2.2.2.1, .ref (B + 70), .int r]) (by decide +kernel) rfl rfl ?_
  refine BX.sld (by decide +kernel : decode tL_law.2.1 1208 = .ok (.iaload, 1)) v.1 ?_
  refine BX.run [.aload_n 0, .iload 4, .iconst 2, .iadd] (pc' := 1214) (lv' := LV G B x) (st' := [.int (x + 2), .ref G.2.2.2.1, .int (sc G (x + 1)), .ref (B + 70), .int r]) (by decide +kernel) rfl rfl ?_
  refine BX.sld (by decide +kernel : decode tL_law.2.1 1214 = .ok (.iaload, 1)) v.2.1 ?_
  refine BX.run [.aload_n 0, .iload 4, .iconst 3, .iadd] (pc' := 1220) (lv' := LV G B x) (st' := [.int (x + 3), .ref G.2.2.2.1, .int (sc G (x + 2)), .int (sc G (x + 1)), .ref (B + 70), .int r]) (by decide +kernel) rfl rfl ?_
  refine BX.sld (by decide +kernel : decode tL_law.2.1 1220 = .ok (.iaload, 1)) v.2.2.1 ?_
  refine BX.callV (As := [.int (sc G (x + 1)), .int (sc G (x + 2)), .int (sc G (x + 3))]) (st := [.int r]) (by decide +kernel : decode tL_law.2.1 1221 = .ok (.invokevirtual 132, 3)) (DX10_one (P := fun q => q = (r, σ2)) ⟨_, e2, rfl⟩) mfX10_one lkM_L_132 imX10_one selX10_one ciX10 (oX10_one (P := fun q => q = (r, σ2)) ⟨_, e2, rfl⟩).choose_spec rfl rfl (Nat.le_of_ble_eq_true rfl) ⟨Nat.le_of_ble_eq_true rfl, Nat.le_of_ble_eq_true rfl⟩ ⟨Nat.le_trans (by omega) hc.1, Nat.le_trans (by omega) hc.2⟩ (fun r' σ' hq => ?_)
  obtain ⟨r1, rfl, hq⟩ := hq
  cases hq
  refine BX.icmp_eq 1612 (by decide +kernel : decode tL_law.2.1 1224 = .ok (.if_icmp .eq 388, 3)) rfl (fun _ => ?_) (fun q => (q rfl).elim)
  exact BX.widen (by omega) (by omega) (K _ _ j)
set_option maxRecDepth 100000 in
set_option maxHeartbeats 4000000 in
theorem lc_24 (h : Jn B σ A) (v : VP G x) (hc : cells + 5 ≤ 601024 ∧ slots + 400 ≤ 7293000) (K : ∀ σ' A', Jn B σ' A' → BX G tL_law (EL G Af Q) (cells + 5) (slots + 400) 1612 (LV G B x) [] σ') : BX G tL_law (EL G Af Q) cells slots 1229 (LV G B x) [] σ := by
  obtain ⟨r, σ1, σ2, A', e1, e2, j⟩ := j_walkers h (sc G (x + 1))
  refine BX.run [.aload_n 1, .aload_n 0, .iload 4, .iconst 1, .iadd] (pc' := 1235) (lv' := LV G B x) (st' := [.int (x + 1), .ref G.2.2.2.1, .ref B]) (by decide +kernel) rfl rfl ?_
  refine BX.sld (by decide +kernel : decode tL_law.2.1 1235 = .ok (.iaload, 1)) v.1 ?_
  refine BX.callV (As := [.int (sc G (x + 1))]) (st := []) (by decide +kernel : decode tL_law.2.1 1236 = .ok (.invokevirtual 133, 3)) (DX9_walkers (P := fun q => q = (r, σ1)) ⟨_, e1, rfl⟩) mfX9_walkers lkM_L_133 imX9_walkers selX9_walkers ciX9 h.o9 rfl rfl (Nat.le_of_ble_eq_true rfl) ⟨Nat.le_of_ble_eq_true rfl, Nat.le_of_ble_eq_true rfl⟩ ⟨Nat.le_trans (by omega) hc.1, Nat.le_trans (by omega) hc.2⟩ (fun r' σ' hq => ?_)
  obtain ⟨r1, rfl, hq⟩ := hq
  cases hq
  refine BX.run [.aload_n 2, .aload_n 0, .iload 4, .iconst 1, .iadd] (pc' := 1245) (lv' := LV G B x) (st' := [.int (x + 1), .ref G.2.2.2.1, .ref (B + 70), .int r]) (by decide +kernel) rfl rfl ?_
  refine BX.sld (by decide +kernel : decode tL_law.2.1 1245 = .ok (.iaload, 1)) v.1 ?_
  refine BX.callV (As := [.int (sc G (x + 1))]) (st := [.int r]) (by decide +kernel : decode tL_law.2.1 1246 = .ok (.invokevirtual 136, 3)) (DX10_walkers (P := fun q => q = (r, σ2)) ⟨_, e2, rfl⟩) mfX10_walkers lkM_L_136 imX10_walkers selX10_walkers ciX10 (oX10_walkers (P := fun q => q = (r, σ2)) ⟨_, e2, rfl⟩).choose_spec rfl rfl (Nat.le_of_ble_eq_true rfl) ⟨Nat.le_of_ble_eq_true rfl, Nat.le_of_ble_eq_true rfl⟩ ⟨Nat.le_trans (by omega) hc.1, Nat.le_trans (by omega) hc.2⟩ (fun r' σ' hq => ?_)
  obtain ⟨r1, rfl, hq⟩ := hq
  cases hq
  refine BX.icmp_eq 1612 (by decide +kernel : decode tL_law.2.1 1249 = .ok (.if_icmp .eq 363, 3)) rfl (fun _ => ?_) (fun q => (q rfl).elim)
  exact BX.widen (by omega) (by omega) (K _ _ j)
set_option maxRecDepth 100000 in
set_option maxHeartbeats 4000000 in
theorem lc_25 (h : Jn B σ A) (v : VP G x) (hc : cells + 5 ≤ 601024 ∧ slots + 400 ≤ 7293000) (K : ∀ σ' A', Jn B σ' A' → BX G tL_law (EL G Af Q) (cells + 5) (slots + 400) 1612 (LV G B x) [] σ') : BX G tL_law (EL G Af Q) cells slots 1254 (LV G B x) [] σ := by
  obtain ⟨r, σ1, σ2, A', e1, e2, j⟩ := j_start h (sc G (x + 1)) (sc G (x + 2))
  refine BX.run [.aload_n 1, .aload_n 0, .iload 4, .iconst 1, .iadd] (pc' := 1260) (lv' := LV G B x) (st' := [.int (x + 1), .ref G.2.2.2.1, .ref B]) (by decide +kernel) rfl rfl ?_
  refine BX.sld (by decide +kernel : decode tL_law.2.1 1260 = .ok (.iaload, 1)) v.1 ?_
  refine BX.run [.aload_n 0, .iload 4, .iconst 2, .iadd] (pc' := 1266) (lv' := LV G B x) (st' := [.int (x + 2), .ref G.2.2.2.1, .int (sc G (x + 1)), .ref B]) (by decide +kernel) rfl rfl ?_
  refine BX.sld (by decide +kernel : decode tL_law.2.1 1266 = .ok (.iaload, 1)) v.2.1 ?_
  refine BX.callV (As := [.int (sc G (x + 1)), .int (sc G (x + 2))]) (st := []) (by decide +kernel : decode tL_law.2.1 1267 = .ok (.invokevirtual 137, 3)) (DX9_start (P := fun q => q = (r, σ1)) ⟨_, e1, rfl⟩) mfX9_start lkM_L_137 imX9_start selX9_start ciX9 h.o9 rfl rfl (Nat.le_of_ble_eq_true rfl) ⟨Nat.le_of_ble_eq_true rfl, Nat.le_of_ble_eq_true rfl⟩ ⟨Nat.le_trans (by omega) hc.1, Nat.le_trans (by omega) hc.2⟩ (fun r' σ' hq => ?_)
  obtain ⟨r1, rfl, hq⟩ := hq
  cases hq
  refine BX.run [.aload_n 2, .aload_n 0, .iload 4, .iconst 1, .iadd] (pc' := 1276) (lv' := LV G B x) (st' := [.int (x + 1), .ref G.2.2.2.1, .ref (B + 70), .int r]) (by decide +kernel) rfl rfl ?_
  refine BX.sld (by decide +kernel : decode tL_law.2.1 1276 = .ok (.iaload, 1)) v.1 ?_
  refine BX.run [.aload_n 0, .iload 4, .iconst 2, .iadd] (pc' := 1282) (lv' := LV G B x) (st' := [.int (x + 2), .ref G.2.2.2.1, .int (sc G (x + 1)), .ref (B + 70), .int r]) (by decide +kernel) rfl rfl ?_
  refine BX.sld (by decide +kernel : decode tL_law.2.1 1282 = .ok (.iaload, 1)) v.2.1 ?_
  refine BX.callV (As := [.int (sc G (x + 1)), .int (sc G (x + 2))]) (st := [.int r]) (by decide +kernel : decode tL_law.2.1 1283 = .ok (.invokevirtual 141, 3)) (DX10_start (P := fun q => q = (r, σ2)) ⟨_, e2, rfl⟩) mfX10_start lkM_L_141 imX10_start selX10_start ciX10 (oX10_start (P := fun q => q = (r, σ2)) ⟨_, e2, rfl⟩).choose_spec rfl rfl (Nat.le_of_ble_eq_true rfl) ⟨Nat.le_of_ble_eq_true rfl, Nat.le_of_ble_eq_true rfl⟩ ⟨Nat.le_trans (by omega) hc.1, Nat.le_trans (by omega) hc.2⟩ (fun r' σ' hq => ?_)
  obtain ⟨r1, rfl, hq⟩ := hq
  cases hq
  refine BX.icmp_eq 1612 (by decide +kernel : decode tL_law.2.1 1286 = .ok (.if_icmp .eq 326, 3)) rfl (fun _ => ?_) (fun q => (q rfl).elim)
  exact BX.widen (by omega) (by omega) (K _ _ j)
set_option maxRecDepth 100000 in
set_option maxHeartbeats 4000000 in
theorem lc_26 (h : Jn B σ A) (v : VP G x) (hc : cells + 5 ≤ 601024 ∧ slots + 400 ≤ 7293000) (K : ∀ σ' A', Jn B σ' A' → BX G tL_law (EL G Af Q) (cells + 5) (slots + 400) 1612 (LV G B x) [] σ') : BX G tL_law (EL G Af Q) cells slots 1291 (LV G B x) [] σ := by
  obtain ⟨r, σ1, σ2, A', e1, e2, j⟩ := j_judge h (sc G (x + 1))
  refine BX.run [.aload_n 1, .aload_n 0, .iload 4, .iconst 1, .iadd] (pc' := 1297) (lv' := LV G B x) (st' := [.int (x + 1), .ref G.2.2.2.1, .ref B]) (by decide +kernel) rfl rfl ?_
  refine BX.sld (by decide +kernel : decode tL_law.2.1 1297 = .ok (.iaload, 1)) v.1 ?_
  refine BX.callV (As := [.int (sc G (x + 1))]) (st := []) (by decide +kernel : decode tL_law.2.1 1298 = .ok (.invokevirtual 142, 3)) (DX9_judge (P := fun q => q = (r, σ1)) ⟨_, e1, rfl⟩) mfX9_judge lkM_L_142 imX9_judge selX9_judge ciX9 h.o9 rfl rfl (Nat.le_of_ble_eq_true rfl) ⟨Nat.le_of_ble_eq_true rfl, Nat.le_of_ble_eq_true rfl⟩ ⟨Nat.le_trans (by omega) hc.1, Nat.le_trans (by omega) hc.2⟩ (fun r' σ' hq => ?_)
  obtain ⟨r1, rfl, hq⟩ := hq
  cases hq
  refine BX.run [.aload_n 2, .aload_n 0, .iload 4, .iconst 1, .iadd] (pc' := 1307) (lv' := LV G B x) (st' := [.int (x + 1), .ref G.2.2.2.1, .ref (B + 70), .int r]) (by decide +kernel) rfl rfl ?_
  refine BX.sld (by decide +kernel : decode tL_law.2.1 1307 = .ok (.iaload, 1)) v.1 ?_
  refine BX.callV (As := [.int (sc G (x + 1))]) (st := [.int r]) (by decide +kernel : decode tL_law.2.1 1308 = .ok (.invokevirtual 145, 3)) (DX10_judge (P := fun q => q = (r, σ2)) ⟨_, e2, rfl⟩) mfX10_judge lkM_L_145 imX10_judge selX10_judge ciX10 (oX10_judge (P := fun q => q = (r, σ2)) ⟨_, e2, rfl⟩).choose_spec rfl rfl (Nat.le_of_ble_eq_true rfl) ⟨Nat.le_of_ble_eq_true rfl, Nat.le_of_ble_eq_true rfl⟩ ⟨Nat.le_trans (by omega) hc.1, Nat.le_trans (by omega) hc.2⟩ (fun r' σ' hq => ?_)
  obtain ⟨r1, rfl, hq⟩ := hq
  cases hq
  refine BX.icmp_eq 1612 (by decide +kernel : decode tL_law.2.1 1311 = .ok (.if_icmp .eq 301, 3)) rfl (fun _ => ?_) (fun q => (q rfl).elim)
  exact BX.widen (by omega) (by omega) (K _ _ j)
set_option maxRecDepth 100000 in
set_option maxHeartbeats 4000000 in
theorem lc_27 (h : Jn B σ A) (v : VP G x) (hc : cells + 5 ≤ 601024 ∧ slots + 400 ≤ 7293000) (K : ∀ σ' A', Jn B σ' A' → BX G tL_law (EL G Af Q) (cells + 5) (slots + 400) 1612 (LV G B x) [] σ') : BX G tL_law (EL G Af Q) cells slots 1316 (LV G B x) [] σ := by
  obtain ⟨r, σ1, σ2, A', e1, e2, j⟩ := j_top h (sc G (x + 1)) (sc G (x + 2))
  refine BX.run [.aload_n 1, .aload_n 0, .iload 4, .iconst 1, .iadd] (pc' := 1322) (lv' := LV G B x) (st' := [.int (x + 1), .ref G.2.2.2.1, .ref B]) (by decide +kernel) rfl rfl ?_
  refine BX.sld (by decide +kernel : decode tL_law.2.1 1322 = .ok (.iaload, 1)) v.1 ?_
  refine BX.run [.aload_n 0, .iload 4, .iconst 2, .iadd] (pc' := 1328) (lv' := LV G B x) (st' := [.int (x + 2), .ref G.2.2.2.1, .int (sc G (x + 1)), .ref B]) (by decide +kernel) rfl rfl ?_
  refine BX.sld (by decide +kernel : decode tL_law.2.1 1328 = .ok (.iaload, 1)) v.2.1 ?_
  refine BX.callV (As := [.int (sc G (x + 1)), .int (sc G (x + 2))]) (st := []) (by decide +kernel : decode tL_law.2.1 1329 = .ok (.invokevirtual 146, 3)) (DX9_top (P := fun q => q = (r, σ1)) ⟨_, e1, rfl⟩) mfX9_top lkM_L_146 imX9_top selX9_top ciX9 h.o9 rfl rfl (Nat.le_of_ble_eq_true rfl) ⟨Nat.le_of_ble_eq_true rfl, Nat.le_of_ble_eq_true rfl⟩ ⟨Nat.le_trans (by omega) hc.1, Nat.le_trans (by omega) hc.2⟩ (fun r' σ' hq => ?_)
  obtain ⟨r1, rfl, hq⟩ := hq
  cases hq
  refine BX.run [.aload_n 2, .aload_n 0, .iload 4, .iconst 1, .iadd] (pc' := 1338) (lv' := LV G B x) (st' := [.int (x + 1), .ref G.2.2.2.1, .ref (B + 70), .int r]) (by decide +kernel) rfl rfl ?_
  refine BX.sld (by decide +kernel : decode tL_law.2.1 1338 = .ok (.iaload, 1)) v.1 ?_
  refine BX.run [.aload_n 0, .iload 4, .iconst 2, .iadd] (pc' := 1344) (lv' := LV G B x) (st' := [.int (x + 2), .ref G.2.2.2.1, .int (sc G (x + 1)), .ref (B + 70), .int r]) (by decide +kernel) rfl rfl ?_
  refine BX.sld (by decide +kernel : decode tL_law.2.1 1344 = .ok (.iaload, 1)) v.2.1 ?_
  refine BX.callV (As := [.int (sc G (x + 1)), .int (sc G (x + 2))]) (st := [.int r]) (by decide +kernel : decode tL_law.2.1 1345 = .ok (.invokevirtual 149, 3)) (DX10_top (P := fun q => q = (r, σ2)) ⟨_, e2, rfl⟩) mfX10_top lkM_L_149 imX10_top selX10_top ciX10 (oX10_top (P := fun q => q = (r, σ2)) ⟨_, e2, rfl⟩).choose_spec rfl rfl (Nat.le_of_ble_eq_true rfl) ⟨Nat.le_of_ble_eq_true rfl, Nat.le_of_ble_eq_true rfl⟩ ⟨Nat.le_trans (by omega) hc.1, Nat.le_trans (by omega) hc.2⟩ (fun r' σ' hq => ?_)
  obtain ⟨r1, rfl, hq⟩ := hq
  cases hq
  refine BX.icmp_eq 1612 (by decide +kernel : decode tL_law.2.1 1348 = .ok (.if_icmp .eq 264, 3)) rfl (fun _ => ?_) (fun q => (q rfl).elim)
  exact BX.widen (by omega) (by omega) (K _ _ j)
set_option maxRecDepth 100000 in
set_option maxHeartbeats 4000000 in
theorem lc_28 (h : Jn B σ A) (v : VP G x) (hc : cells + 5 ≤ 601024 ∧ slots + 400 ≤ 7293000) (K : ∀ σ' A', Jn B σ' A' → BX G tL_law (EL G Af Q) (cells + 5) (slots + 400) 1612 (LV G B x) [] σ') : BX G tL_law (EL G Af Q) cells slots 1353 (LV G B x) [] σ := by
  obtain ⟨r, σ1, σ2, A', e1, e2, j⟩ := j_settle h (sc G (x + 1))
  refine BX.run [.aload_n 1, .aload_n 0, .iload 4, .iconst 1, .iadd] (pc' := 1359) (lv' := LV G B x) (st' := [.int (x + 1), .ref G.2.2.2.1, .ref B]) (by decide +kernel) rfl rfl ?_
  refine BX.sld (by decide +kernel : decode tL_law.2.1 1359 = .ok (.iaload, 1)) v.1 ?_
  refine BX.callV (As := [.int (sc G (x + 1))]) (st := []) (by decide +kernel : decode tL_law.2.1 1360 = .ok (.invokevirtual 150, 3)) (DX9_settle (P := fun q => q = (r, σ1)) ⟨_, e1, rfl⟩) mfX9_settle lkM_L_150 imX9_settle selX9_settle ciX9 h.o9 rfl rfl (Nat.le_of_ble_eq_true rfl) ⟨Nat.le_of_ble_eq_true rfl, Nat.le_of_ble_eq_true rfl⟩ ⟨Nat.le_trans (by omega) hc.1, Nat.le_trans (by omega) hc.2⟩ (fun r' σ' hq => ?_)
  obtain ⟨r1, rfl, hq⟩ := hq
  cases hq
  refine BX.run [.aload_n 2, .aload_n 0, .iload 4, .iconst 1, .iadd] (pc' := 1369) (lv' := LV G B x) (st' := [.int (x + 1), .ref G.2.2.2.1, .ref (B + 70), .int r]) (by decide +kernel) rfl rfl ?_
  refine BX.sld (by decide +kernel : decode tL_law.2.1 1369 = .ok (.iaload, 1)) v.1 ?_
  refine BX.callV (As := [.int (sc G (x + 1))]) (st := [.int r]) (by decide +kernel : decode tL_law.2.1 1370 = .ok (.invokevirtual 153, 3)) (DX10_settle (P := fun q => q = (r, σ2)) ⟨_, e2, rfl⟩) mfX10_settle lkM_L_153 imX10_settle selX10_settle ciX10 (oX10_settle (P := fun q => q = (r, σ2)) ⟨_, e2, rfl⟩).choose_spec rfl rfl (Nat.le_of_ble_eq_true rfl) ⟨Nat.le_of_ble_eq_true rfl, Nat.le_of_ble_eq_true rfl⟩ ⟨Nat.le_trans (by omega) hc.1, Nat.le_trans (by omega) hc.2⟩ (fun r' σ' hq => ?_)
  obtain ⟨r1, rfl, hq⟩ := hq
  cases hq
  refine BX.icmp_eq 1612 (by decide +kernel : decode tL_law.2.1 1373 = .ok (.if_icmp .eq 239, 3)) rfl (fun _ => ?_) (fun q => (q rfl).elim)
  exact BX.widen (by omega) (by omega) (K _ _ j)
set_option maxRecDepth 100000 in
set_option maxHeartbeats 4000000 in
theorem lc_29 (h : Jn B σ A) (v : VP G x) (hc : cells + 5 ≤ 601024 ∧ slots + 400 ≤ 7293000) (K : ∀ σ' A', Jn B σ' A' → BX G tL_law (EL G Af Q) (cells + 5) (slots + 400) 1612 (LV G B x) [] σ') : BX G tL_law (EL G Af Q) cells slots 1378 (LV G B x) [] σ := by
  obtain ⟨r, σ1, σ2, A', e1, e2, j⟩ := j_snow h (sc G (x + 1))
  refine BX.run [.aload_n 1, .aload_n 0, .iload 4, .iconst 1, .iadd] (pc' := 1384) (lv' := LV G B x) (st' := [.int (x + 1), .ref G.2.2.2.1, .ref B]) (by decide +kernel) rfl rfl ?_
  refine BX.sld (by decide +kernel : decode tL_law.2.1 1384 = .ok (.iaload, 1)) v.1 ?_
  refine BX.callV (As := [.int (sc G (x + 1))]) (st := []) (by decide +kernel : decode tL_law.2.1 1385 = .ok (.invokevirtual 154, 3)) (DX9_snow (P := fun q => q = (r, σ1)) ⟨_, e1, rfl⟩) mfX9_snow lkM_L_154 imX9_snow selX9_snow ciX9 h.o9 rfl rfl (Nat.le_of_ble_eq_true rfl) ⟨Nat.le_of_ble_eq_true rfl, Nat.le_of_ble_eq_true rfl⟩ ⟨Nat.le_trans (by omega) hc.1, Nat.le_trans (by omega) hc.2⟩ (fun r' σ' hq => ?_)
  obtain ⟨r1, rfl, hq⟩ := hq
  cases hq
  refine BX.run [.aload_n 2, .aload_n 0, .iload 4, .iconst 1, .iadd] (pc' := 1394) (lv' := LV G B x) (st' := [.int (x + 1), .ref G.2.2.2.1, .ref (B + 70), .int r]) (by decide +kernel) rfl rfl ?_
  refine BX.sld (by decide +kernel : decode tL_law.2.1 1394 = .ok (.iaload, 1)) v.1 ?_
  refine BX.callV (As := [.int (sc G (x + 1))]) (st := [.int r]) (by decide +kernel : decode tL_law.2.1 1395 = .ok (.invokevirtual 157, 3)) (DX10_snow (P := fun q => q = (r, σ2)) ⟨_, e2, rfl⟩) mfX10_snow lkM_L_157 imX10_snow selX10_snow ciX10 (oX10_snow (P := fun q => q = (r, σ2)) ⟨_, e2, rfl⟩).choose_spec rfl rfl (Nat.le_of_ble_eq_true rfl) ⟨Nat.le_of_ble_eq_true rfl, Nat.le_of_ble_eq_true rfl⟩ ⟨Nat.le_trans (by omega) hc.1, Nat.le_trans (by omega) hc.2⟩ (fun r' σ' hq => ?_)
  obtain ⟨r1, rfl, hq⟩ := hq
  cases hq
  refine BX.icmp_eq 1612 (by decide +kernel : decode tL_law.2.1 1398 = .ok (.if_icmp .eq 214, 3)) rfl (fun _ => ?_) (fun q => (q rfl).elim)
  exact BX.widen (by omega) (by omega) (K _ _ j)
set_option maxRecDepth 100000 in
set_option maxHeartbeats 4000000 in
theorem lc_30 (h : Jn B σ A) (v : VP G x) (hc : cells + 5 ≤ 601024 ∧ slots + 400 ≤ 7293000) (K : ∀ σ' A', Jn B σ' A' → BX G tL_law (EL G Af Q) (cells + 5) (slots + 400) 1612 (LV G B x) [] σ') : BX G tL_law (EL G Af Q) cells slots 1403 (LV G B x) [] σ := by
  obtain ⟨r, σ1, σ2, A', e1, e2, j⟩ := j_shown h (sc G (x + 1)) (sc G (x + 2)) (sc G (x + 3))
  refine BX.run [.aload_n 1, .aload_n 0, .iload 4, .iconst 1, .iadd] (pc' := 1409) (lv' := LV G B x) (st' := [.int (x + 1), .ref G.2.2.2.1, .ref B]) (by decide +kernel) rfl rfl ?_
  refine BX.sld (by decide +kernel : decode tL_law.2.1 1409 = .ok (.iaload, 1)) v.1 ?_
  refine BX.run [.aload_n 0, .iload 4, .iconst 2, .iadd] (pc' := 1415) (lv' := LV G B x) (st' := [.int (x + 2), .ref G.2.2.2.1, .int (sc G (x + 1)), .ref B]) (by decide +kernel) rfl rfl ?_
  refine BX.sld (by decide +kernel : decode tL_law.2.1 1415 = .ok (.iaload, 1)) v.2.1 ?_
  refine BX.run [.aload_n 0, .iload 4, .iconst 3, .iadd] (pc' := 1421) (lv' := LV G B x) (st' := [.int (x + 3), .ref G.2.2.2.1, .int (sc G (x + 2)), .int (sc G (x + 1)), .ref B]) (by decide +kernel) rfl rfl ?_
  refine BX.sld (by decide +kernel : decode tL_law.2.1 1421 = .ok (.iaload, 1)) v.2.2.1 ?_
  refine BX.callV (As := [.int (sc G (x + 1)), .int (sc G (x + 2)), .int (sc G (x + 3))]) (st := []) (by decide +kernel : decode tL_law.2.1 1422 = .ok (.invokevirtual 158, 3)) (DX9_shown (P := fun q => q = (r, σ1)) ⟨_, e1, rfl⟩) mfX9_shown lkM_L_158 imX9_shown selX9_shown ciX9 h.o9 rfl rfl (Nat.le_of_ble_eq_true rfl) ⟨Nat.le_of_ble_eq_true rfl, Nat.le_of_ble_eq_true rfl⟩ ⟨Nat.le_trans (by omega) hc.1, Nat.le_trans (by omega) hc.2⟩ (fun r' σ' hq => ?_)
  obtain ⟨r1, rfl, hq⟩ := hq
  cases hq
  refine BX.run [.aload_n 2, .aload_n 0, .iload 4, .iconst 1, .iadd] (pc' := 1431) (lv' := LV G B x) (st' := [.int (x + 1), .ref G.2.2.2.1, .ref (B + 70), .int r]) (by decide +kernel) rfl rfl ?_
  refine BX.sld (by decide +kernel : decode tL_law.2.1 1431 = .ok (.iaload, 1)) v.1 ?_
  refine BX.run [.aload_n 0, .iload 4, .iconst 2, .iadd] (pc' := 1437) (lv' := LV G B x) (st' := [.int (x + 2), .ref G.2.2.2.1, .int (sc G (x + 1)), .ref (B + 70), .int r]) (by decide +kernel) rfl rfl ?_
  refine BX.sld (by decide +kernel : decode tL_law.2.1 1437 = .ok (.iaload, 1)) v.2.1 ?_
  refine BX.run [.aload_n 0, .iload 4, .iconst 3, .iadd] (pc' := 1443) (lv' := LV G B x) (st' := [.int (x + 3), .ref G.2.2.2.1, .int (sc G (x + 2)), .int (sc G (x + 1)), .ref (B + 70), .int r]) (by decide +kernel) rfl rfl ?_
  refine BX.sld (by decide +kernel : decode tL_law.2.1 1443 = .ok (.iaload, 1)) v.2.2.1 ?_
  refine BX.callV (As := [.int (sc G (x + 1)), .int (sc G (x + 2)), .int (sc G (x + 3))]) (st := [.int r]) (by decide +kernel : decode tL_law.2.1 1444 = .ok (.invokevirtual 161, 3)) (DX10_shown (P := fun q => q = (r, σ2)) ⟨_, e2, rfl⟩) mfX10_shown lkM_L_161 imX10_shown selX10_shown ciX10 (oX10_shown (P := fun q => q = (r, σ2)) ⟨_, e2, rfl⟩).choose_spec rfl rfl (Nat.le_of_ble_eq_true rfl) ⟨Nat.le_of_ble_eq_true rfl, Nat.le_of_ble_eq_true rfl⟩ ⟨Nat.le_trans (by omega) hc.1, Nat.le_trans (by omega) hc.2⟩ (fun r' σ' hq => ?_)
  obtain ⟨r1, rfl, hq⟩ := hq
  cases hq
  refine BX.icmp_eq 1612 (by decide +kernel : decode tL_law.2.1 1447 = .ok (.if_icmp .eq 165, 3)) rfl (fun _ => ?_) (fun q => (q rfl).elim)
  exact BX.widen (by omega) (by omega) (K _ _ j)
set_option maxRecDepth 100000 in
set_option maxHeartbeats 4000000 in
theorem lc_31 (h : Jn B σ A) (v : VP G x) (hc : cells + 5 ≤ 601024 ∧ slots + 400 ≤ 7293000) (K : ∀ σ' A', Jn B σ' A' → BX G tL_law (EL G Af Q) (cells + 5) (slots + 400) 1612 (LV G B x) [] σ') : BX G tL_law (EL G Af Q) cells slots 1452 (LV G B x) [] σ := by
  obtain ⟨r, σ1, σ2, A', e1, e2, j⟩ := j_trail h (sc G (x + 1)) (sc G (x + 2))
  refine BX.run [.aload_n 1, .aload_n 0, .iload 4, .iconst 1, .iadd] (pc' := 1458) (lv' := LV G B x) (st' := [.int (x + 1), .ref G.2.2.2.1, .ref B]) (by decide +kernel) rfl rfl ?_
  refine BX.sld (by decide +kernel : decode tL_law.2.1 1458 = .ok (.iaload, 1)) v.1 ?_
  refine BX.run [.aload_n 0, .iload 4, .iconst 2, .iadd] (pc' := 1464) (lv' := LV G B x) (st' := [.int (x + 2), .ref G.2.2.2.1, .int (sc G (x + 1)), .ref B]) (by decide +kernel) rfl rfl ?_
  refine BX.sld (by decide +kernel : decode tL_law.2.1 1464 = .ok (.iaload, 1)) v.2.1 ?_
  refine BX.callV (As := [.int (sc G (x + 1)), .int (sc G (x + 2))]) (st := []) (by decide +kernel : decode tL_law.2.1 1465 = .ok (.invokevirtual 162, 3)) (DX9_trail (P := fun q => q = (r, σ1)) ⟨_, e1, rfl⟩) mfX9_trail lkM_L_162 imX9_trail selX9_trail ciX9 h.o9 rfl rfl (Nat.le_of_ble_eq_true rfl) ⟨Nat.le_of_ble_eq_true rfl, Nat.le_of_ble_eq_true rfl⟩ ⟨Nat.le_trans (by omega) hc.1, Nat.le_trans (by omega) hc.2⟩ (fun r' σ' hq => ?_)
  obtain ⟨r1, rfl, hq⟩ := hq
  cases hq
  refine BX.run [.aload_n 2, .aload_n 0, .iload 4, .iconst 1, .iadd] (pc' := 1474) (lv' := LV G B x) (st' := [.int (x + 1), .ref G.2.2.2.1, .ref (B + 70), .int r]) (by decide +kernel) rfl rfl ?_
  refine BX.sld (by decide +kernel : decode tL_law.2.1 1474 = .ok (.iaload, 1)) v.1 ?_
  refine BX.run [.aload_n 0, .iload 4, .iconst 2, .iadd] (pc' := 1480) (lv' := LV G B x) (st' := [.int (x + 2), .ref G.2.2.2.1, .int (sc G (x + 1)), .ref (B + 70), .int r]) (by decide +kernel) rfl rfl ?_
  refine BX.sld (by decide +kernel : decode tL_law.2.1 1480 = .ok (.iaload, 1)) v.2.1 ?_
  refine BX.callV (As := [.int (sc G (x + 1)), .int (sc G (x + 2))]) (st := [.int r]) (by decide +kernel : decode tL_law.2.1 1481 = .ok (.invokevirtual 165, 3)) (DX10_trail (P := fun q => q = (r, σ2)) ⟨_, e2, rfl⟩) mfX10_trail lkM_L_165 imX10_trail selX10_trail ciX10 (oX10_trail (P := fun q => q = (r, σ2)) ⟨_, e2, rfl⟩).choose_spec rfl rfl (Nat.le_of_ble_eq_true rfl) ⟨Nat.le_of_ble_eq_true rfl, Nat.le_of_ble_eq_true rfl⟩ ⟨Nat.le_trans (by omega) hc.1, Nat.le_trans (by omega) hc.2⟩ (fun r' σ' hq => ?_)
  obtain ⟨r1, rfl, hq⟩ := hq
  cases hq
  refine BX.icmp_eq 1612 (by decide +kernel : decode tL_law.2.1 1484 = .ok (.if_icmp .eq 128, 3)) rfl (fun _ => ?_) (fun q => (q rfl).elim)
  exact BX.widen (by omega) (by omega) (K _ _ j)
set_option maxRecDepth 100000 in
set_option maxHeartbeats 4000000 in
theorem lc_32 (h : Jn B σ A) (v : VP G x) (hc : cells + 5 ≤ 601024 ∧ slots + 400 ≤ 7293000) (K : ∀ σ' A', Jn B σ' A' → BX G tL_law (EL G Af Q) (cells + 5) (slots + 400) 1612 (LV G B x) [] σ') : BX G tL_law (EL G Af Q) cells slots 1489 (LV G B x) [] σ := by
  obtain ⟨r, σ1, σ2, A', e1, e2, j⟩ := j_orders h (sc G (x + 1)) (sc G (x + 2))
  refine BX.run [.aload_n 1, .aload_n 0, .iload 4, .iconst 1, .iadd] (pc' := 1495) (lv' := LV G B x) (st' := [.int (x + 1), .ref G.2.2.2.1, .ref B]) (by decide +kernel) rfl rfl ?_
  refine BX.sld (by decide +kernel : decode tL_law.2.1 1495 = .ok (.iaload, 1)) v.1 ?_
  refine BX.run [.aload_n 0, .iload 4, .iconst 2, .iadd] (pc' := 1501) (lv' := LV G B x) (st' := [.int (x + 2), .ref G.2.2.2.1, .int (sc G (x + 1)), .ref B]) (by decide +kernel) rfl rfl ?_
  refine BX.sld (by decide +kernel : decode tL_law.2.1 1501 = .ok (.iaload, 1)) v.2.1 ?_
  refine BX.callV (As := [.int (sc G (x + 1)), .int (sc G (x + 2))]) (st := []) (by decide +kernel : decode tL_law.2.1 1502 = .ok (.invokevirtual 166, 3)) (DX9_orders (P := fun q => q = (r, σ1)) ⟨_, e1, rfl⟩) mfX9_orders lkM_L_166 imX9_orders selX9_orders ciX9 h.o9 rfl rfl (Nat.le_of_ble_eq_true rfl) ⟨Nat.le_of_ble_eq_true rfl, Nat.le_of_ble_eq_true rfl⟩ ⟨Nat.le_trans (by omega) hc.1, Nat.le_trans (by omega) hc.2⟩ (fun r' σ' hq => ?_)
  obtain ⟨r1, rfl, hq⟩ := hq
  cases hq
  refine BX.run [.aload_n 2, .aload_n 0, .iload 4, .iconst 1, .iadd] (pc' := 1511) (lv' := LV G B x) (st' := [.int (x + 1), .ref G.2.2.2.1, .ref (B + 70), .int r]) (by decide +kernel) rfl rfl ?_
  refine BX.sld (by decide +kernel : decode tL_law.2.1 1511 = .ok (.iaload, 1)) v.1 ?_
  refine BX.run [.aload_n 0, .iload 4, .iconst 2, .iadd] (pc' := 1517) (lv' := LV G B x) (st' := [.int (x + 2), .ref G.2.2.2.1, .int (sc G (x + 1)), .ref (B + 70), .int r]) (by decide +kernel) rfl rfl ?_
  refine BX.sld (by decide +kernel : decode tL_law.2.1 1517 = .ok (.iaload, 1)) v.2.1 ?_
  refine BX.callV (As := [.int (sc G (x + 1)), .int (sc G (x + 2))]) (st := [.int r]) (by decide +kernel : decode tL_law.2.1 1518 = .ok (.invokevirtual 169, 3)) (DX10_orders (P := fun q => q = (r, σ2)) ⟨_, e2, rfl⟩) mfX10_orders lkM_L_169 imX10_orders selX10_orders ciX10 (oX10_orders (P := fun q => q = (r, σ2)) ⟨_, e2, rfl⟩).choose_spec rfl rfl (Nat.le_of_ble_eq_true rfl) ⟨Nat.le_of_ble_eq_true rfl, Nat.le_of_ble_eq_true rfl⟩ ⟨Nat.le_trans (by omega) hc.1, Nat.le_trans (by omega) hc.2⟩ (fun r' σ' hq => ?_)
  obtain ⟨r1, rfl, hq⟩ := hq
  cases hq
  refine BX.icmp_eq 1612 (by decide +kernel : decode tL_law.2.1 1521 = .ok (.if_icmp .eq 91, 3)) rfl (fun _ => ?_) (fun q => (q rfl).elim)
  exact BX.widen (by omega) (by omega) (K _ _ j)
set_option maxRecDepth 100000 in
set_option maxHeartbeats 4000000 in
theorem lc_33 (h : Jn B σ A) (v : VP G x) (hc : cells + 5 ≤ 601024 ∧ slots + 400 ≤ 7293000) (K : ∀ σ' A', Jn B σ' A' → BX G tL_law (EL G Af Q) (cells + 5) (slots + 400) 1612 (LV G B x) [] σ') : BX G tL_law (EL G Af Q) cells slots 1526 (LV G B x) [] σ := by
  obtain ⟨r, σ1, σ2, A', e1, e2, j⟩ := j_photo h (sc G (x + 1)) (sc G (x + 2)) (sc G (x + 3)) (sc G (x + 4))
  refine BX.run [.aload_n 1, .aload_n 0, .iload 4, .iconst 1, .iadd] (pc' := 1532) (lv' := LV G B x) (st' := [.int (x + 1), .ref G.2.2.2.1, .ref B]) (by decide +kernel) rfl rfl ?_
  refine BX.sld (by decide +kernel : decode tL_law.2.1 1532 = .ok (.iaload, 1)) v.1 ?_
  refine BX.run [.aload_n 0, .iload 4, .iconst 2, .iadd] (pc' := 1538) (lv' := LV G B x) (st' := [.int (x + 2), .ref G.2.2.2.1, .int (sc G (x + 1)), .ref B]) (by decide +kernel) rfl rfl ?_
  refine BX.sld (by decide +kernel : decode tL_law.2.1 1538 = .ok (.iaload, 1)) v.2.1 ?_
  refine BX.run [.aload_n 0, .iload 4, .iconst 3, .iadd] (pc' := 1544) (lv' := LV G B x) (st' := [.int (x + 3), .ref G.2.2.2.1, .int (sc G (x + 2)), .int (sc G (x + 1)), .ref B]) (by decide +kernel) rfl rfl ?_
  refine BX.sld (by decide +kernel : decode tL_law.2.1 1544 = .ok (.iaload, 1)) v.2.2.1 ?_
  refine BX.run [.aload_n 0, .iload 4, .iconst 4, .iadd] (pc' := 1550) (lv' := LV G B x) (st' := [.int (x + 4), .ref G.2.2.2.1, .int (sc G (x + 3)), .int (sc G (x + 2)), .int (sc G (x + 1)), .ref B]) (by decide +kernel) rfl rfl ?_
  refine BX.sld (by decide +kernel : decode tL_law.2.1 1550 = .ok (.iaload, 1)) v.2.2.2.1 ?_
  refine BX.callV (As := [.int (sc G (x + 1)), .int (sc G (x + 2)), .int (sc G (x + 3)), .int (sc G (x + 4))]) (st := []) (by decide +kernel : decode tL_law.2.1 1551 = .ok (.invokevirtual 170, 3)) (DX9_photo (P := fun q => q = (r, σ1)) ⟨_, e1, rfl⟩) mfX9_photo lkM_L_170 imX9_photo selX9_photo ciX9 h.o9 rfl rfl (Nat.le_of_ble_eq_true rfl) ⟨Nat.le_of_ble_eq_true rfl, Nat.le_of_ble_eq_true rfl⟩ ⟨Nat.le_trans (by omega) hc.1, Nat.le_trans (by omega) hc.2⟩ (fun r' σ' hq => ?_)
  obtain ⟨r1, rfl, hq⟩ := hq
  cases hq
  refine BX.run [.aload_n 2, .aload_n 0, .iload 4, .iconst 1, .iadd] (pc' := 1560) (lv' := LV G B x) (st' := [.int (x + 1), .ref G.2.2.2.1, .ref (B + 70), .int r]) (by decide +kernel) rfl rfl ?_
  refine BX.sld (by decide +kernel : decode tL_law.2.1 1560 = .ok (.iaload, 1)) v.1 ?_
  refine BX.run [.aload_n 0, .iload 4, .iconst 2, .iadd] (pc' := 1566) (lv' := LV G B x) (st' := [.int (x + 2), .ref G.2.2.2.1, .int (sc G (x + 1)), .ref (B + 70), .int r]) (by decide +kernel) rfl rfl ?_
  refine BX.sld (by decide +kernel : decode tL_law.2.1 1566 = .ok (.iaload, 1)) v.2.1 ?_
  refine BX.run [.aload_n 0, .iload 4, .iconst 3, .iadd] (pc' := 1572) (lv' := LV G B x) (st' := [.int (x + 3), .ref G.2.2.2.1, .int (sc G (x + 2)), .int (sc G (x + 1)), .ref (B + 70), .int r]) (by decide +kernel) rfl rfl ?_
  refine BX.sld (by decide +kernel : decode tL_law.2.1 1572 = .ok (.iaload, 1)) v.2.2.1 ?_
  refine BX.run [.aload_n 0, .iload 4, .iconst 4, .iadd] (pc' := 1578) (lv' := LV G B x) (st' := [.int (x + 4), .ref G.2.2.2.1, .int (sc G (x + 3)), .int (sc G (x + 2)), .int (sc G (x + 1)), .ref (B + 70), .int r]) (by decide +kernel) rfl rfl ?_
  refine BX.sld (by decide +kernel : decode tL_law.2.1 1578 = .ok (.iaload, 1)) v.2.2.2.1 ?_
  refine BX.callV (As := [.int (sc G (x + 1)), .int (sc G (x + 2)), .int (sc G (x + 3)), .int (sc G (x + 4))]) (st := [.int r]) (by decide +kernel : decode tL_law.2.1 1579 = .ok (.invokevirtual 173, 3)) (DX10_photo (P := fun q => q = (r, σ2)) ⟨_, e2, rfl⟩) mfX10_photo lkM_L_173 imX10_photo selX10_photo ciX10 (oX10_photo (P := fun q => q = (r, σ2)) ⟨_, e2, rfl⟩).choose_spec rfl rfl (Nat.le_of_ble_eq_true rfl) ⟨Nat.le_of_ble_eq_true rfl, Nat.le_of_ble_eq_true rfl⟩ ⟨Nat.le_trans (by omega) hc.1, Nat.le_trans (by omega) hc.2⟩ (fun r' σ' hq => ?_)
  obtain ⟨r1, rfl, hq⟩ := hq
  cases hq
  refine BX.icmp_eq 1612 (by decide +kernel : decode tL_law.2.1 1582 = .ok (.if_icmp .eq 30, 3)) rfl (fun _ => ?_) (fun q => (q rfl).elim)
  exact BX.widen (by omega) (by omega) (K _ _ j)
set_option maxRecDepth 100000 in
set_option maxHeartbeats 4000000 in
theorem lc_34 (h : Jn B σ A) (v : VP G x) (hc : cells + 5 ≤ 601024 ∧ slots + 400 ≤ 7293000) (K : ∀ σ' A', Jn B σ' A' → BX G tL_law (EL G Af Q) (cells + 5) (slots + 400) 1612 (LV G B x) [] σ') : BX G tL_law (EL G Af Q) cells slots 1587 (LV G B x) [] σ := by
  obtain ⟨r, σ1, σ2, A', e1, e2, j⟩ := j_count h (sc G (x + 1))
  refine BX.run [.aload_n 1, .aload_n 0, .iload 4, .iconst 1, .iadd] (pc' := 1593) (lv' := LV G B x) (st' := [.int (x + 1), .ref G.2.2.2.1, .ref B]) (by decide +kernel) rfl rfl ?_
  refine BX.sld (by decide +kernel : decode tL_law.2.1 1593 = .ok (.iaload, 1)) v.1 ?_
  refine BX.callV (As := [.int (sc G (x + 1))]) (st := []) (by decide +kernel : decode tL_law.2.1 1594 = .ok (.invokevirtual 174, 3)) (DX9_count (P := fun q => q = (r, σ1)) ⟨_, e1, rfl⟩) mfX9_count lkM_L_174 imX9_count selX9_count ciX9 h.o9 rfl rfl (Nat.le_of_ble_eq_true rfl) ⟨Nat.le_of_ble_eq_true rfl, Nat.le_of_ble_eq_true rfl⟩ ⟨Nat.le_trans (by omega) hc.1, Nat.le_trans (by omega) hc.2⟩ (fun r' σ' hq => ?_)
  obtain ⟨r1, rfl, hq⟩ := hq
  cases hq
  refine BX.run [.aload_n 2, .aload_n 0, .iload 4, .iconst 1, .iadd] (pc' := 1603) (lv' := LV G B x) (st' := [.int (x + 1), .ref G.2.2.2.1, .ref (B + 70), .int r]) (by decide +kernel) rfl rfl ?_
  refine BX.sld (by decide +kernel : decode tL_law.2.1 1603 = .ok (.iaload, 1)) v.1 ?_
  refine BX.callV (As := [.int (sc G (x + 1))]) (st := [.int r]) (by decide +kernel : decode tL_law.2.1 1604 = .ok (.invokevirtual 177, 3)) (DX10_count (P := fun q => q = (r, σ2)) ⟨_, e2, rfl⟩) mfX10_count lkM_L_177 imX10_count selX10_count ciX10 (oX10_count (P := fun q => q = (r, σ2)) ⟨_, e2, rfl⟩).choose_spec rfl rfl (Nat.le_of_ble_eq_true rfl) ⟨Nat.le_of_ble_eq_true rfl, Nat.le_of_ble_eq_true rfl⟩ ⟨Nat.le_trans (by omega) hc.1, Nat.le_trans (by omega) hc.2⟩ (fun r' σ' hq => ?_)
  obtain ⟨r1, rfl, hq⟩ := hq
  cases hq
  refine BX.icmp_eq 1612 (by decide +kernel : decode tL_law.2.1 1607 = .ok (.if_icmp .eq 5, 3)) rfl (fun _ => ?_) (fun q => (q rfl).elim)
  exact BX.widen (by omega) (by omega) (K _ _ j)
end X95
