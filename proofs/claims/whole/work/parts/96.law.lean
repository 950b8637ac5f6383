/-! ===== the law: cell, its start, its loop ===== -/
/-- what the law's cell reads -/
def cel (G : Cx) (k : Int32) : Int32 := if Int32.ofNat G.2.2.2.2.1 ≤ k then 0 else G.2.2.2.2.2 k.toNatClampNeg
section X96
variable {G : Cx} {Af : Nat → Prop} {Q : Option Value → Sg → Prop} {B cells slots : Nat} {σ σb : Sg} {A : AS} {x k : Int32}
theorem vp_of (hL : G.2.2.2.2.1 ≤ 100000) {k : Int32} (h0 : ¬ k < 0) (h : ¬ Int32.ofNat G.2.2.2.2.1 ≤ k) : vp_in k G.2.2.2.2.1 := by
  have r := RI_of k
  unfold RI at r
  rw [iI_of k, iI_nat, iI_le (by omega) (by omega)] at h
  unfold vp_in
  rintro (q | q)
  · exact h0 q
  · rw [iI_of k, iI_0, iI_lt (by omega) (by omega)] at h0
    rw [iI_of k, iI_clamp (by omega) (by omega)] at q
    omega
set_option maxRecDepth 100000 in
theorem d_cell (hL : G.2.2.2.2.1 ≤ 100000) (h0 : ¬ k < 0) : BM G tL_cell 0 0 0 0 [.ref G.2.2.2.1, .int k] σ (fun v s => v = some (.int (cel G k)) ∧ s = σ) := by
  refine BM.of (by decide +kernel) (Nat.le_of_ble_eq_true rfl) ?_
  refine BW.run [.iload_n 1, .aload_n 0] (pc' := 2) (lv' := [(0, .ref G.2.2.2.1), (1, .int k)]) (st' := [.ref G.2.2.2.1, .int k]) (by decide +kernel) rfl rfl ?_
  refine BW.slen (by decide +kernel : decode tL_cell.2.1 2 = .ok (.arraylength, 1)) ?_
  refine BW.icmp_ge 12 (by decide +kernel : decode tL_cell.2.1 3 = .ok (.if_icmp .ge 9, 3)) rfl (fun q => ?_) (fun q => ?_)
  · refine BW.run [.iconst 0] (pc' := 13) (lv' := [(0, .ref G.2.2.2.1), (1, .int k)]) (st' := [.int 0]) (by decide +kernel) rfl rfl ?_
    refine BW.iret (by decide +kernel : decode tL_cell.2.1 13 = .ok (.ireturn, 1)) rfl (Nat.le_refl _) (Nat.le_refl _) ⟨?_, rfl⟩
    unfold cel
    rw [if_pos q]
  · refine BW.run [.aload_n 0, .iload_n 1] (pc' := 8) (lv' := [(0, .ref G.2.2.2.1), (1, .int k)]) (st' := [.int k, .ref G.2.2.2.1]) (by decide +kernel) rfl rfl ?_
    refine BW.sld (by decide +kernel : decode tL_cell.2.1 8 = .ok (.iaload, 1)) (vp_of hL h0 q) ?_
    refine BW.goto 13 (by decide +kernel : decode tL_cell.2.1 9 = .ok (.goto 4, 3)) rfl ?_
    refine BW.iret (by decide +kernel : decode tL_cell.2.1 13 = .ok (.ireturn, 1)) rfl (Nat.le_refl _) (Nat.le_refl _) ⟨?_, rfl⟩
    unfold cel
    rw [if_neg q]
theorem zNew' {N t m : Nat} {f : Nat → Value} {ws : Ws} (h : Zs B σb N ws σ) (hL : LL[N]? = some (t, m)) (hf : f = dft t) : ∃ σ', nwO t m f σ = some (B + N, σ') ∧ Zs B σb (N + 1) ws σ' := by
  have q : Ok ((nwO t m f σ).bind some) (fun q => q.1 = B + N ∧ Zs B σb (N + 1) ws q.2) := zNew (N + 1) h rfl hL hf (fun σ' hz => okS ⟨rfl, hz⟩)
  obtain ⟨⟨b, σ'⟩, e, h1, h2⟩ := q
  refine ⟨σ', ?_, h2⟩
  have h1' : b = B + N := h1
  subst h1'
  cases hn : nwO t m f σ with
  | none => rw [hn] at e; cases e
  | some q => rw [hn] at e; exact e
/-- the case of told -/
def LTold (G : Cx) (Af : Nat → Prop) (Q : Option Value → Sg → Prop) : Prop := ∀ (B cells slots : Nat) (σ : Sg) (A : AS) (x : Int32), Jn B σ A → VP G x → cells + 5 ≤ 601024 ∧ slots + 400 ≤ 7293000 → (∀ σ' A' v5 v6, Jn B σ' A' → BX G tL_law (EL G Af Q) (cells + 5) (slots + 400) 1612 ((LV G B x) ++ [(5, .int v5), (6, .int v6)]) [] σ') → BX G tL_law (EL G Af Q) cells slots 372 (LV G B x) [] σ
set_option maxRecDepth 100000 in
set_option maxHeartbeats 4000000 in
theorem law_loop (hT : LTold G Af Q) (hQ : ∀ σ, Q (some (.int 1)) σ) (hL : G.2.2.2.2.1 ≤ 100000) : ∀ (n : Nat) (x : Int32) (cells slots : Nat) (σ : Sg) (A : AS), Jn B σ A → 3 ≤ x.toInt → x.toInt ≤ 200000 → (G.2.2.2.2.1 : Int) ≤ x.toInt + 7 * n → cells + 5 * n ≤ 601024 ∧ slots + 400 * n ≤ 7293000 → BX G tL_law (EL G Af Q) cells slots 53 (LV G B x) [] σ := by
  intro n
  induction n with
  | zero =>
    intro x cells slots σ A h h3 h4 h5 hc
    refine BX.run [.iload 4, .aload_n 0] (pc' := 56) (lv' := LV G B x) (st' := [.ref G.2.2.2.1, .int x]) (by decide +kernel) rfl rfl ?_
    refine BX.slen (by decide +kernel : decode tL_law.2.1 56 = .ok (.arraylength, 1)) ?_
    refine BX.run [.bipush 7, .isub] (pc' := 60) (lv' := LV G B x) (st' := [.int (Int32.ofNat G.2.2.2.2.1 - 7), .int x]) (by decide +kernel) rfl rfl ?_
    refine BX.icmp_gt 1618 (by decide +kernel : decode tL_law.2.1 60 = .ok (.if_icmp .gt 1558, 3)) rfl (fun q => ?_) (fun q => ?_)
    · refine BX.run [.iconst 1] (pc' := 1619) (lv' := LV G B x) (st' := [.int 1]) (by decide +kernel) rfl rfl ?_
      exact BX.zret (Q := Q) (mc := 601024) (ms := 7293000) rfl (by decide +kernel : decode tL_law.2.1 1619 = .ok (.ireturn, 1)) rfl (Or.inr rfl) (by show cells ≤ 601024; omega) (by show slots ≤ 7293000; omega) (hQ _)
    · refine (q ?_).elim
      rw [iI_of x, iI_nat, show (7 : Int32) = iI 7 from rfl, iI_sub, iI_lt (by omega) (by omega)]
      omega
  | succ n ih =>
    intro x cells slots σ A h h3 h4 h5 hc
    refine BX.run [.iload 4, .aload_n 0] (pc' := 56) (lv' := LV G B x) (st' := [.ref G.2.2.2.1, .int x]) (by decide +kernel) rfl rfl ?_
    refine BX.slen (by decide +kernel : decode tL_law.2.1 56 = .ok (.arraylength, 1)) ?_
    refine BX.run [.bipush 7, .isub] (pc' := 60) (lv' := LV G B x) (st' := [.int (Int32.ofNat G.2.2.2.2.1 - 7), .int x]) (by decide +kernel) rfl rfl ?_
    refine BX.icmp_gt 1618 (by decide +kernel : decode tL_law.2.1 60 = .ok (.if_icmp .gt 1558, 3)) rfl (fun q => ?_) (fun q => ?_)
    · refine BX.run [.iconst 1] (pc' := 1619) (lv' := LV G B x) (st' := [.int 1]) (by decide +kernel) rfl rfl ?_
      exact BX.zret (Q := Q) (mc := 601024) (ms := 7293000) rfl (by decide +kernel : decode tL_law.2.1 1619 = .ok (.ireturn, 1)) rfl (Or.inr rfl) (by show cells ≤ 601024; omega) (by show slots ≤ 7293000; omega) (hQ _)
    have hl : x.toInt + 7 ≤ (G.2.2.2.2.1 : Int) := by
      rw [iI_of x, iI_nat, show (7 : Int32) = iI 7 from rfl, iI_sub, iI_lt (by omega) (by omega)] at q
      omega
    have vj : ∀ j : Nat, j < 7 → vp_in (x + iI (j : Int)) G.2.2.2.2.1 := fun j hj => by
      rw [iI_of x, iI_add]
      unfold vp_in
      rintro (c | c)
      · rw [iI_0, iI_lt (by omega) (by omega)] at c
        omega
      · rw [iI_clamp (by omega) (by omega)] at c
        omega
    have v0 : vp_in x G.2.2.2.2.1 := by
      have := vj 0 (by omega)
      rwa [show x + iI ((0 : Nat) : Int) = x from by rw [iI_of x, iI_add]; exact congrArg iI (by omega)] at this
    have v : VP G x := ⟨vj 1 (by omega), vj 2 (by omega), vj 3 (by omega), vj 4 (by omega), vj 5 (by omega), vj 6 (by omega)⟩
    have h7 : (x + Int32.ofInt 7).toInt = x.toInt + 7 := by
      have : x + Int32.ofInt 7 = iI (x.toInt + 7) := by
        conv => lhs; rw [iI_of x]
        exact iI_add _ _
      rw [this, iI_toInt (by omega) (by omega)]
    have K : ∀ σ' A', Jn B σ' A' → BX G tL_law (EL G Af Q) (cells + 5) (slots + 400) 1612 (LV G B x) [] σ' := fun σ' A' j => by
      refine BX.run [.iinc 4 7] (pc' := 1615) (lv' := LV G B (x + Int32.ofInt 7)) (st' := []) (by decide +kernel) rfl rfl ?_
      refine BX.goto 53 (by decide +kernel : decode tL_law.2.1 1615 = .ok (.goto (-1562), 3)) rfl ?_
      exact ih (x + Int32.ofInt 7) _ _ _ _ j (by omega) (by omega) (by omega) ⟨by omega, by omega⟩
    have K' : ∀ σ' A' v5 v6, Jn B σ' A' → BX G tL_law (EL G Af Q) (cells + 5) (slots + 400) 1612 ((LV G B x) ++ [(5, .int v5), (6, .int v6)]) [] σ' := fun σ' A' v5 v6 j => BX.sub [0, 1, 2, 3, 4] rfl (K σ' A' j)
    have hc' : cells + 5 ≤ 601024 ∧ slots + 400 ≤ 7293000 := ⟨by omega, by omega⟩
    refine BX.run [.aload_n 0, .iload 4] (pc' := 66) (lv' := LV G B x) (st' := [.int x, .ref G.2.2.2.1]) (by decide +kernel) rfl rfl ?_
    refine BX.sld (by decide +kernel : decode tL_law.2.1 66 = .ok (.iaload, 1)) v0 ?_
    refine BX.run [.bipush 63, .iand] (pc' := 70) (lv' := LV G B x) (st' := [.int (sc G x &&& 63)]) (by decide +kernel) rfl rfl ?_
    generalize sc G x &&& 63 = y
    by_cases c : y.toInt < 0 ∨ 34 < y.toInt
    · exact BX.tblOut 1612 (by decide +kernel : decode tL_law.2.1 70 = .ok (.tableswitch 1542 0 34 #[154, 227, 252, 265, 302, 370, 407, 456, 493, 580, 593, 618, 643, 668, 693, 718, 767, 828, 877, 950, 999, 1024, 1061, 1110, 1159, 1184, 1221, 1246, 1283, 1308, 1333, 1382, 1419, 1456, 1517], 154)) c rfl (BX.widen (by omega) (by omega) (K _ _ h))
    · have : y.toInt = 0 ∨ y.toInt = 1 ∨ y.toInt = 2 ∨ y.toInt = 3 ∨ y.toInt = 4 ∨ y.toInt = 5 ∨ y.toInt = 6 ∨ y.toInt = 7 ∨ y.toInt = 8 ∨ y.toInt = 9 ∨ y.toInt = 10 ∨ y.toInt = 11 ∨ y.toInt = 12 ∨ y.toInt = 13 ∨ y.toInt = 14 ∨ y.toInt = 15 ∨ y.toInt = 16 ∨ y.toInt = 17 ∨ y.toInt = 18 ∨ y.toInt = 19 ∨ y.toInt = 20 ∨ y.toInt = 21 ∨ y.toInt = 22 ∨ y.toInt = 23 ∨ y.toInt = 24 ∨ y.toInt = 25 ∨ y.toInt = 26 ∨ y.toInt = 27 ∨ y.toInt = 28 ∨ y.toInt = 29 ∨ y.toInt = 30 ∨ y.toInt = 31 ∨ y.toInt = 32 ∨ y.toInt = 33 ∨ y.toInt = 34 := by omega
      rcases this with e | e | e | e | e | e | e | e | e | e | e | e | e | e | e | e | e | e | e | e | e | e | e | e | e | e | e | e | e | e | e | e | e | e | e
      · exact BX.tblIn 224 (by decide +kernel : decode tL_law.2.1 70 = .ok (.tableswitch 1542 0 34 #[154, 227, 252, 265, 302, 370, 407, 456, 493, 580, 593, 618, 643, 668, 693, 718, 767, 828, 877, 950, 999, 1024, 1061, 1110, 1159, 1184, 1221, 1246, 1283, 1308, 1333, 1382, 1419, 1456, 1517], 154)) (by omega) (by omega) (by rw [e]; rfl) rfl (lc_0 h v hc' K)
      · exact BX.tblIn 297 (by decide +kernel : decode tL_law.2.1 70 = .ok (.tableswitch 1542 0 34 #[154, 227, 252, 265, 302, 370, 407, 456, 493, 580, 593, 618, 643, 668, 693, 718, 767, 828, 877, 950, 999, 1024, 1061, 1110, 1159, 1184, 1221, 1246, 1283, 1308, 1333, 1382, 1419, 1456, 1517], 154)) (by omega) (by omega) (by rw [e]; rfl) rfl (lc_1 h v hc' K)
      · exact BX.tblIn 322 (by decide +kernel : decode tL_law.2.1 70 = .ok (.tableswitch 1542 0 34 #[154, 227, 252, 265, 302, 370, 407, 456, 493, 580, 593, 618, 643, 668, 693, 718, 767, 828, 877, 950, 999, 1024, 1061, 1110, 1159, 1184, 1221, 1246, 1283, 1308, 1333, 1382, 1419, 1456, 1517], 154)) (by omega) (by omega) (by rw [e]; rfl) rfl (lc_2 h v hc' K)
      · exact BX.tblIn 335 (by decide +kernel : decode tL_law.2.1 70 = .ok (.tableswitch 1542 0 34 #[154, 227, 252, 265, 302, 370, 407, 456, 493, 580, 593, 618, 643, 668, 693, 718, 767, 828, 877, 950, 999, 1024, 1061, 1110, 1159, 1184, 1221, 1246, 1283, 1308, 1333, 1382, 1419, 1456, 1517], 154)) (by omega) (by omega) (by rw [e]; rfl) rfl (lc_3 h v hc' K)
      · exact BX.tblIn 372 (by decide +kernel : decode tL_law.2.1 70 = .ok (.tableswitch 1542 0 34 #[154, 227, 252, 265, 302, 370, 407, 456, 493, 580, 593, 618, 643, 668, 693, 718, 767, 828, 877, 950, 999, 1024, 1061, 1110, 1159, 1184, 1221, 1246, 1283, 1308, 1333, 1382, 1419, 1456, 1517], 154)) (by omega) (by omega) (by rw [e]; rfl) rfl (hT _ _ _ _ _ _ h v hc' K')
      · exact BX.tblIn 440 (by decide +kernel : decode tL_law.2.1 70 = .ok (.tableswitch 1542 0 34 #[154, 227, 252, 265, 302, 370, 407, 456, 493, 580, 593, 618, 643, 668, 693, 718, 767, 828, 877, 950, 999, 1024, 1061, 1110, 1159, 1184, 1221, 1246, 1283, 1308, 1333, 1382, 1419, 1456, 1517], 154)) (by omega) (by omega) (by rw [e]; rfl) rfl (lc_5 h v hc' K)
      · exact BX.tblIn 477 (by decide +kernel : decode tL_law.2.1 70 = .ok (.tableswitch 1542 0 34 #[154, 227, 252, 265, 302, 370, 407, 456, 493, 580, 593, 618, 643, 668, 693, 718, 767, 828, 877, 950, 999, 1024, 1061, 1110, 1159, 1184, 1221, 1246, 1283, 1308, 1333, 1382, 1419, 1456, 1517], 154)) (by omega) (by omega) (by rw [e]; rfl) rfl (lc_6 h v hc' K)
      · exact BX.tblIn 526 (by decide +kernel : decode tL_law.2.1 70 = .ok (.tableswitch 1542 0 34 #[154, 227, 252, 265, 302, 370, 407, 456, 493, 580, 593, 618, 643, 668, 693, 718, 767, 828, 877, 950, 999, 1024, 1061, 1110, 1159, 1184, 1221, 1246, 1283, 1308, 1333, 1382, 1419, 1456, 1517], 154)) (by omega) (by omega) (by rw [e]; rfl) rfl (lc_7 h v hc' K)
      · exact BX.tblIn 563 (by decide +kernel : decode tL_law.2.1 70 = .ok (.tableswitch 1542 0 34 #[154, 227, 252, 265, 302, 370, 407, 456, 493, 580, 593, 618, 643, 668, 693, 718, 767, 828, 877, 950, 999, 1024, 1061, 1110, 1159, 1184, 1221, 1246, 1283, 1308, 1333, 1382, 1419, 1456, 1517], 154)) (by omega) (by omega) (by rw [e]; rfl) rfl (lc_8 h v hc' K)
      · exact BX.tblIn 650 (by decide +kernel : decode tL_law.2.1 70 = .ok (.tableswitch 1542 0 34 #[154, 227, 252, 265, 302, 370, 407, 456, 493, 580, 593, 618, 643, 668, 693, 718, 767, 828, 877, 950, 999, 1024, 1061, 1110, 1159, 1184, 1221, 1246, 1283, 1308, 1333, 1382, 1419, 1456, 1517], 154)) (by omega) (by omega) (by rw [e]; rfl) rfl (lc_9 h v hc' K)
      · exact BX.tblIn 663 (by decide +kernel : decode tL_law.2.1 70 = .ok (.tableswitch 1542 0 34 #[154, 227, 252, 265, 302, 370, 407, 456, 493, 580, 593, 618, 643, 668, 693, 718, 767, 828, 877, 950, 999, 1024, 1061, 1110, 1159, 1184, 1221, 1246, 1283, 1308, 1333, 1382, 1419, 1456, 1517], 154)) (by omega) (by omega) (by rw [e]; rfl) rfl (lc_10 h v hc' K)
      · exact BX.tblIn 688 (by decide +kernel : decode tL_law.2.1 70 = .ok (.tableswitch 1542 0 34 #[154, 227, 252, 265, 302, 370, 407, 456, 493, 580, 593, 618, 643, 668, 693, 718, 767, 828, 877, 950, 999, 1024, 1061, 1110, 1159, 1184, 1221, 1246, 1283, 1308, 1333, 1382, 1419, 1456, 1517], 154)) (by omega) (by omega) (by rw [e]; rfl) rfl (lc_11 h v hc' K)
      · exact BX.tblIn 713 (by decide +kernel : decode tL_law.2.1 70 = .ok (.tableswitch 1542 0 34 #[154, 227, 252, 265, 302, 370, 407, 456, 493, 580, 593, 618, 643, 668, 693, 718, 767, 828, 877, 950, 999, 1024, 1061, 1110, 1159, 1184, 1221, 1246, 1283, 1308, 1333, 1382, 1419, 1456, 1517], 154)) (by omega) (by omega) (by rw [e]; rfl) rfl (lc_12 h v hc' K)
      · exact BX.tblIn 738 (by decide +kernel : decode tL_law.2.1 70 = .ok (.tableswitch 1542 0 34 #[154, 227, 252, 265, 302, 370, 407, 456, 493, 580, 593, 618, 643, 668, 693, 718, 767, 828, 877, 950, 999, 1024, 1061, 1110, 1159, 1184, 1221, 1246, 1283, 1308, 1333, 1382, 1419, 1456, 1517], 154)) (by omega) (by omega) (by rw [e]; rfl) rfl (lc_13 h v hc' K)
      · exact BX.tblIn 763 (by decide +kernel : decode tL_law.2.1 70 = .ok (.tableswitch 1542 0 34 #[154, 227, 252, 265, 302, 370, 407, 456, 493, 580, 593, 618, 643, 668, 693, 718, 767, 828, 877, 950, 999, 1024, 1061, 1110, 1159, 1184, 1221, 1246, 1283, 1308, 1333, 1382, 1419, 1456, 1517], 154)) (by omega) (by omega) (by rw [e]; rfl) rfl (lc_14 h v hc' K)
      · exact BX.tblIn 788 (by decide +kernel : decode tL_law.2.1 70 = .ok (.tableswitch 1542 0 34 #[154, 227, 252, 265, 302, 370, 407, 456, 493, 580, 593, 618, 643, 668, 693, 718, 767, 828, 877, 950, 999, 1024, 1061, 1110, 1159, 1184, 1221, 1246, 1283, 1308, 1333, 1382, 1419, 1456, 1517], 154)) (by omega) (by omega) (by rw [e]; rfl) rfl (lc_15 h v hc' K)
      · exact BX.tblIn 837 (by decide +kernel : decode tL_law.2.1 70 = .ok (.tableswitch 1542 0 34 #[154, 227, 252, 265, 302, 370, 407, 456, 493, 580, 593, 618, 643, 668, 693, 718, 767, 828, 877, 950, 999, 1024, 1061, 1110, 1159, 1184, 1221, 1246, 1283, 1308, 1333, 1382, 1419, 1456, 1517], 154)) (by omega) (by omega) (by rw [e]; rfl) rfl (lc_16 h v hc' K)
      · exact BX.tblIn 898 (by decide +kernel : decode tL_law.2.1 70 = .ok (.tableswitch 1542 0 34 #[154, 227, 252, 265, 302, 370, 407, 456, 493, 580, 593, 618, 643, 668, 693, 718, 767, 828, 877, 950, 999, 1024, 1061, 1110, 1159, 1184, 1221, 1246, 1283, 1308, 1333, 1382, 1419, 1456, 1517], 154)) (by omega) (by omega) (by rw [e]; rfl) rfl (lc_17 h v hc' K)
      · exact BX.tblIn 947 (by decide +kernel : decode tL_law.2.1 70 = .ok (.tableswitch 1542 0 34 #[154, 227, 252, 265, 302, 370, 407, 456, 493, 580, 593, 618, 643, 668, 693, 718, 767, 828, 877, 950, 999, 1024, 1061, 1110, 1159, 1184, 1221, 1246, 1283, 1308, 1333, 1382, 1419, 1456, 1517], 154)) (by omega) (by omega) (by rw [e]; rfl) rfl (lc_18 h v hc' K)
      · exact BX.tblIn 1020 (by decide +kernel : decode tL_law.2.1 70 = .ok (.tableswitch 1542 0 34 #[154, 227, 252, 265, 302, 370, 407, 456, 493, 580, 593, 618, 643, 668, 693, 718, 767, 828, 877, 950, 999, 1024, 1061, 1110, 1159, 1184, 1221, 1246, 1283, 1308, 1333, 1382, 1419, 1456, 1517], 154)) (by omega) (by omega) (by rw [e]; rfl) rfl (lc_19 h v hc' K)
      · exact BX.tblIn 1069 (by decide +kernel : decode tL_law.2.1 70 = .ok (.tableswitch 1542 0 34 #[154, 227, 252, 265, 302, 370, 407, 456, 493, 580, 593, 618, 643, 668, 693, 718, 767, 828, 877, 950, 999, 1024, 1061, 1110, 1159, 1184, 1221, 1246, 1283, 1308, 1333, 1382, 1419, 1456, 1517], 154)) (by omega) (by omega) (by rw [e]; rfl) rfl (lc_20 h v hc' K)
      · exact BX.tblIn 1094 (by decide +kernel : decode tL_law.2.1 70 = .ok (.tableswitch 1542 0 34 #[154, 227, 252, 265, 302, 370, 407, 456, 493, 580, 593, 618, 643, 668, 693, 718, 767, 828, 877, 950, 999, 1024, 1061, 1110, 1159, 1184, 1221, 1246, 1283, 1308, 1333, 1382, 1419, 1456, 1517], 154)) (by omega) (by omega) (by rw [e]; rfl) rfl (lc_21 h v hc' K)
      · exact BX.tblIn 1131 (by decide +kernel : decode tL_law.2.1 70 = .ok (.tableswitch 1542 0 34 #[154, 227, 252, 265, 302, 370, 407, 456, 493, 580, 593, 618, 643, 668, 693, 718, 767, 828, 877, 950, 999, 1024, 1061, 1110, 1159, 1184, 1221, 1246, 1283, 1308, 1333, 1382, 1419, 1456, 1517], 154)) (by omega) (by omega) (by rw [e]; rfl) rfl (lc_22 h v hc' K)
      · exact BX.tblIn 1180 (by decide +kernel : decode tL_law.2.1 70 = .ok (.tableswitch 1542 0 34 #[154, 227, 252, 265, 302, 370, 407, 456, 493, 580, 593, 618, 643, 668, 693, 718, 767, 828, 877, 950, 999, 1024, 1061, 1110, 1159, 1184, 1221, 1246, 1283, 1308, 1333, 1382, 1419, 1456, 1517], 154)) (by omega) (by omega) (by rw [e]; rfl) rfl (lc_23 h v hc' K)
      · exact BX.tblIn 1229 (by decide +kernel : decode tL_law.2.1 70 = .ok (.tableswitch 1542 0 34 #[154, 227, 252, 265, 302, 370, 407, 456, 493, 580, 593, 618, 643, 668, 693, 718, 767, 828, 877, 950, 999, 1024, 1061, 1110, 1159, 1184, 1221, 1246, 1283, 1308, 1333, 1382, 1419, 1456, 1517], 154)) (by omega) (by omega) (by rw [e]; rfl) rfl (lc_24 h v hc' K)
      · exact BX.tblIn 1254 (by decide +kernel : decode tL_law.2.1 70 = .ok (.tableswitch 1542 0 34 #[154, 227, 252, 265, 302, 370, 407, 456, 493, 580, 593, 618, 643, 668, 693, 718, 767, 828, 877, 950, 999, 1024, 1061, 1110, 1159, 1184, 1221, 1246, 1283, 1308, 1333, 1382, 1419, 1456, 1517], 154)) (by omega) (by omega) (by rw [e]; rfl) rfl (lc_25 h v hc' K)
      · exact BX.tblIn 1291 (by decide +kernel : decode tL_law.2.1 70 = .ok (.tableswitch 1542 0 34 #[154, 227, 252, 265, 302, 370, 407, 456, 493, 580, 593, 618, 643, 668, 693, 718, 767, 828, 877, 950, 999, 1024, 1061, 1110, 1159, 1184, 1221, 1246, 1283, 1308, 1333, 1382, 1419, 1456, 1517], 154)) (by omega) (by omega) (by rw [e]; rfl) rfl (lc_26 h v hc' K)
      · exact BX.tblIn 1316 (by decide +kernel : decode tL_law.2.1 70 = .ok (.tableswitch 1542 0 34 #[154, 227, 252, 265, 302, 370, 407, 456, 493, 580, 593, 618, 643, 668, 693, 718, 767, 828, 877, 950, 999, 1024, 1061, 1110, 1159, 1184, 1221, 1246, 1283, 1308, 1333, 1382, 1419, 1456, 1517], 154)) (by omega) (by omega) (by rw [e]; rfl) rfl (lc_27 h v hc' K)
      · exact BX.tblIn 1353 (by decide +kernel : decode tL_law.2.1 70 = .ok (.tableswitch 1542 0 34 #[154, 227, 252, 265, 302, 370, 407, 456, 493, 580, 593, 618, 643, 668, 693, 718, 767, 828, 877, 950, 999, 1024, 1061, 1110, 1159, 1184, 1221, 1246, 1283, 1308, 1333, 1382, 1419, 1456, 1517], 154)) (by omega) (by omega) (by rw [e]; rfl) rfl (lc_28 h v hc' K)
      · exact BX.tblIn 1378 (by decide +kernel : decode tL_law.2.1 70 = .ok (.tableswitch 1542 0 34 #[154, 227, 252, 265, 302, 370, 407, 456, 493, 580, 593, 618, 643, 668, 693, 718, 767, 828, 877, 950, 999, 1024, 1061, 1110, 1159, 1184, 1221, 1246, 1283, 1308, 1333, 1382, 1419, 1456, 1517], 154)) (by omega) (by omega) (by rw [e]; rfl) rfl (lc_29 h v hc' K)
      · exact BX.tblIn 1403 (by decide +kernel : decode tL_law.2.1 70 = .ok (.tableswitch 1542 0 34 #[154, 227, 252, 265, 302, 370, 407, 456, 493, 580, 593, 618, 643, 668, 693, 718, 767, 828, 877, 950, 999, 1024, 1061, 1110, 1159, 1184, 1221, 1246, 1283, 1308, 1333, 1382, 1419, 1456, 1517], 154)) (by omega) (by omega) (by rw [e]; rfl) rfl (lc_30 h v hc' K)
      · exact BX.tblIn 1452 (by decide +kernel : decode tL_law.2.1 70 = .ok (.tableswitch 1542 0 34 #[154, 227, 252, 265, 302, 370, 407, 456, 493, 580, 593, 618, 643, 668, 693, 718, 767, 828, 877, 950, 999, 1024, 1061, 1110, 1159, 1184, 1221, 1246, 1283, 1308, 1333, 1382, 1419, 1456, 1517], 154)) (by omega) (by omega) (by rw [e]; rfl) rfl (lc_31 h v hc' K)
      · exact BX.tblIn 1489 (by decide +kernel : decode tL_law.2.1 70 = .ok (.tableswitch 1542 0 34 #[154, 227, 252, 265, 302, 370, 407, 456, 493, 580, 593, 618, 643, 668, 693, 718, 767, 828, 877, 950, 999, 1024, 1061, 1110, 1159, 1184, 1221, 1246, 1283, 1308, 1333, 1382, 1419, 1456, 1517], 154)) (by omega) (by omega) (by rw [e]; rfl) rfl (lc_32 h v hc' K)
      · exact BX.tblIn 1526 (by decide +kernel : decode tL_law.2.1 70 = .ok (.tableswitch 1542 0 34 #[154, 227, 252, 265, 302, 370, 407, 456, 493, 580, 593, 618, 643, 668, 693, 718, 767, 828, 877, 950, 999, 1024, 1061, 1110, 1159, 1184, 1221, 1246, 1283, 1308, 1333, 1382, 1419, 1456, 1517], 154)) (by omega) (by omega) (by rw [e]; rfl) rfl (lc_33 h v hc' K)
      · exact BX.tblIn 1587 (by decide +kernel : decode tL_law.2.1 70 = .ok (.tableswitch 1542 0 34 #[154, 227, 252, 265, 302, 370, 407, 456, 493, 580, 593, 618, 643, 668, 693, 718, 767, 828, 877, 950, 999, 1024, 1061, 1110, 1159, 1184, 1221, 1246, 1283, 1308, 1333, 1382, 1419, 1456, 1517], 154)) (by omega) (by omega) (by rw [e]; rfl) rfl (lc_34 h v hc' K)
end X96
