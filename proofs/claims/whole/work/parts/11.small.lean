def mX0_mayFollow (n : Nat) (s0 : Sg) (a0 : Nat) (a1 : Nat) (x2 : Int32) (x3 : Int32) : Option (Int32 × Sg) :=
  (isO 0 s0 a0).bind fun _ =>
  if x2 = x3 then (
    some ((0 : Int32), s0)
  ) else (
    (toR (gV 0 s0 a0 1)).bind fun b1 =>
    (toI (aV 11 s0 b1 x2)).bind fun v2 =>
    (toR (gV 0 s0 a0 1)).bind fun b3 =>
    (toI (aV 11 s0 b3 x3)).bind fun v4 =>
    if v2 = v4 then (
      (mX9_pointOf n s0 x3).bind fun (v6, s5) =>
      (mX9_pointOf n s5 x2).bind fun (v9, s8) =>
      (toR (gV 0 s8 a0 2)).bind fun b11 =>
      (toI (aV 11 s8 b11 x2)).bind fun v12 =>
      (mX4_fits n s8 a1 v6 v9 (v12 + (1 : Int32))).bind fun (v14, s13) =>
      if v14 = 0 then (
        some ((0 : Int32), s13)
      ) else (
        some ((1 : Int32), s13)
      )
    ) else (
      some ((0 : Int32), s0)
    )
  )
theorem bX0_mayFollow {G : Cx} {E : Ev} {n : Nat} (hRm : 2 ≤ E.1.frames ∧ 44 ≤ E.1.locals) {P : Int32 × Sg → Prop} (hQ : ∀ r s, P (r, s) → E.2.2.2.2 (some (.int r)) s) {s0 : Sg} {a0 : Nat} {a1 : Nat} {x2 : Int32} {x3 : Int32} (h : Ok (mX0_mayFollow n s0 a0 a1 x2 x3) P) : BW G tX0_mayFollow E 0 0 0 [(0, .ref a0), (1, .ref a1), (2, .int x2), (3, .int x3)] [] s0 := by
  unfold mX0_mayFollow at h
  obtain ⟨_, _, h⟩ := Ok.bind h
  refine BW.run [.iload_n 2, .iload_n 3] (pc' := 2) (lv' := [(0, .ref a0), (1, .ref a1), (2, .int x2), (3, .int x3)]) (st' := [.int x3, .int x2]) (by decide +kernel) rfl rfl ?_
  refine BW.icmp_eq 47 (by decide +kernel : decode tX0_mayFollow.2.1 2 = .ok (.if_icmp .eq 45, 3)) (by decide) (fun hc => ?_) (fun hc => ?_)
  · have h := (Ok.ite h).1 hc
    refine BW.run [.iconst 0] (pc' := 48) (lv' := [(0, .ref a0), (1, .ref a1), (2, .int x2), (3, .int x3)]) (st' := [.int (0 : Int32)]) (by decide +kernel) rfl rfl ?_
    exact BW.zret (by decide +kernel : decode tX0_mayFollow.2.1 48 = .ok (.ireturn, 1)) rfl (Or.inl rfl) (Nat.zero_le _) (Nat.zero_le _) (hQ _ _ (Ok.some h))
  · have h := (Ok.ite h).2 hc
    refine BW.run [.aload_n 0] (pc' := 6) (lv' := [(0, .ref a0), (1, .ref a1), (2, .int x2), (3, .int x3)]) (st' := [.ref a0]) (by decide +kernel) rfl rfl ?_
    obtain ⟨b1, eb1, h⟩ := Ok.bind h
    refine BW.get (by decide +kernel : decode tX0_mayFollow.2.1 6 = .ok (.getfield 17, 3)) ciX0 (k := 1) (by decide) lkF_X0_17 (toR_V eb1) ?_
    refine BW.run [.iload_n 2] (pc' := 10) (lv' := [(0, .ref a0), (1, .ref a1), (2, .int x2), (3, .int x3)]) (st' := [.int x2, .ref b1]) (by decide +kernel) rfl rfl ?_
    obtain ⟨v2, ev2, h⟩ := Ok.bind h
    refine BW.iald (by decide +kernel : decode tX0_mayFollow.2.1 10 = .ok (.iaload, 1)) (toI_V ev2) ?_
    refine BW.run [.aload_n 0] (pc' := 12) (lv' := [(0, .ref a0), (1, .ref a1), (2, .int x2), (3, .int x3)]) (st' := [.ref a0, .int v2]) (by decide +kernel) rfl rfl ?_
    obtain ⟨b3, eb3, h⟩ := Ok.bind h
    refine BW.get (by decide +kernel : decode tX0_mayFollow.2.1 12 = .ok (.getfield 17, 3)) ciX0 (k := 1) (by decide) lkF_X0_17 (toR_V eb3) ?_
    refine BW.run [.iload_n 3] (pc' := 16) (lv' := [(0, .ref a0), (1, .ref a1), (2, .int x2), (3, .int x3)]) (st' := [.int x3, .ref b3, .int v2]) (by decide +kernel) rfl rfl ?_
    obtain ⟨v4, ev4, h⟩ := Ok.bind h
    refine BW.iald (by decide +kernel : decode tX0_mayFollow.2.1 16 = .ok (.iaload, 1)) (toI_V ev4) ?_
    refine BW.icmp_ne 47 (by decide +kernel : decode tX0_mayFollow.2.1 17 = .ok (.if_icmp .ne 30, 3)) (by decide) (fun hc => ?_) (fun hc => ?_)
    · have h := (Ok.ite h).2 hc
      refine BW.run [.iconst 0] (pc' := 48) (lv' := [(0, .ref a0), (1, .ref a1), (2, .int x2), (3, .int x3)]) (st' := [.int (0 : Int32)]) (by decide +kernel) rfl rfl ?_
      exact BW.zret (by decide +kernel : decode tX0_mayFollow.2.1 48 = .ok (.ireturn, 1)) rfl (Or.inl rfl) (Nat.zero_le _) (Nat.zero_le _) (hQ _ _ (Ok.some h))
    · have h := (Ok.ite h).1 hc
      refine BW.run [.aload_n 1, .iload_n 3] (pc' := 22) (lv' := [(0, .ref a0), (1, .ref a1), (2, .int x2), (3, .int x3)]) (st' := [.int x3, .ref a1]) (by decide +kernel) rfl rfl ?_
      refine BW.callSN (As := [.int x3]) (st := [.ref a1]) (by decide +kernel : decode tX0_mayFollow.2.1 22 = .ok (.invokestatic 66, 3)) (DX9_pointOf (Ok.bindK h)) mfX9_pointOf lkM_X0_66 smX9_pointOf rfl rfl (Nat.le_of_ble_eq_true rfl) ⟨Nat.le_trans (by decide) hRm.1, Nat.le_trans (by decide) hRm.2⟩ ⟨Nat.zero_le _, Nat.zero_le _⟩ ?_
      rintro _ s5 ⟨v6, rfl, h⟩
      show BW G tX0_mayFollow E 0 0 25 [(0, .ref a0), (1, .ref a1), (2, .int x2), (3, .int x3)] [.int v6, .ref a1] s5
      refine BW.run [.iload_n 2] (pc' := 26) (lv' := [(0, .ref a0), (1, .ref a1), (2, .int x2), (3, .int x3)]) (st' := [.int x2, .int v6, .ref a1]) (by decide +kernel) rfl rfl ?_
      refine BW.callSN (As := [.int x2]) (st := [.int v6, .ref a1]) (by decide +kernel : decode tX0_mayFollow.2.1 26 = .ok (.invokestatic 66, 3)) (DX9_pointOf (Ok.bindK h)) mfX9_pointOf lkM_X0_66 smX9_pointOf rfl rfl (Nat.le_of_ble_eq_true rfl) ⟨Nat.le_trans (by decide) hRm.1, Nat.le_trans (by decide) hRm.2⟩ ⟨Nat.zero_le _, Nat.zero_le _⟩ ?_
      rintro _ s8 ⟨v9, rfl, h⟩
      show BW G tX0_mayFollow E 0 0 29 [(0, .ref a0), (1, .ref a1), (2, .int x2), (3, .int x3)] [.int v9, .int v6, .ref a1] s8
      refine BW.run [.aload_n 0] (pc' := 30) (lv' := [(0, .ref a0), (1, .ref a1), (2, .int x2), (3, .int x3)]) (st' := [.ref a0, .int v9, .int v6, .ref a1]) (by decide +kernel) rfl rfl ?_
      obtain ⟨b11, eb11, h⟩ := Ok.bind h
      refine BW.get (by decide +kernel : decode tX0_mayFollow.2.1 30 = .ok (.getfield 21, 3)) ciX0 (k := 2) (by decide) lkF_X0_21 (toR_V eb11) ?_
      refine BW.run [.iload_n 2] (pc' := 34) (lv' := [(0, .ref a0), (1, .ref a1), (2, .int x2), (3, .int x3)]) (st' := [.int x2, .ref b11, .int v9, .int v6, .ref a1]) (by decide +kernel) rfl rfl ?_
      obtain ⟨v12, ev12, h⟩ := Ok.bind h
      refine BW.iald (by decide +kernel : decode tX0_mayFollow.2.1 34 = .ok (.iaload, 1)) (toI_V ev12) ?_
      refine BW.run [.iconst 1, .iadd] (pc' := 37) (lv' := [(0, .ref a0), (1, .ref a1), (2, .int x2), (3, .int x3)]) (st' := [.int (v12 + (1 : Int32)), .int v9, .int v6, .ref a1]) (by decide +kernel) rfl rfl ?_
      refine BW.callV (As := [.int v6, .int v9, .int (v12 + (1 : Int32))]) (st := []) (by decide +kernel : decode tX0_mayFollow.2.1 37 = .ok (.invokevirtual 74, 3)) (DX4_fits (Ok.bindK h)) mfX4_fits lkM_X0_74 imX4_fits selX4_fits ciX4 (oX4_fits (Ok.bindK h)).choose_spec rfl rfl (Nat.le_of_ble_eq_true rfl) ⟨Nat.le_trans (by decide) hRm.1, Nat.le_trans (by decide) hRm.2⟩ ⟨Nat.zero_le _, Nat.zero_le _⟩ ?_
      rintro _ s13 ⟨v14, rfl, h⟩
      show BW G tX0_mayFollow E 0 0 40 [(0, .ref a0), (1, .ref a1), (2, .int x2), (3, .int x3)] [.int v14] s13
      refine BW.if_eq 47 (by decide +kernel : decode tX0_mayFollow.2.1 40 = .ok (.ifCond .eq 7, 3)) (by decide) (fun hc => ?_) (fun hc => ?_)
      · have h := (Ok.ite h).1 hc
        refine BW.run [.iconst 0] (pc' := 48) (lv' := [(0, .ref a0), (1, .ref a1), (2, .int x2), (3, .int x3)]) (st' := [.int (0 : Int32)]) (by decide +kernel) rfl rfl ?_
        exact BW.zret (by decide +kernel : decode tX0_mayFollow.2.1 48 = .ok (.ireturn, 1)) rfl (Or.inl rfl) (Nat.zero_le _) (Nat.zero_le _) (hQ _ _ (Ok.some h))
      · have h := (Ok.ite h).2 hc
        refine BW.run [.iconst 1] (pc' := 44) (lv' := [(0, .ref a0), (1, .ref a1), (2, .int x2), (3, .int x3)]) (st' := [.int (1 : Int32)]) (by decide +kernel) rfl rfl ?_
        refine BW.goto 48 (by decide +kernel : decode tX0_mayFollow.2.1 44 = .ok (.goto 4, 3)) (by decide) ?_
        exact BW.zret (by decide +kernel : decode tX0_mayFollow.2.1 48 = .ok (.ireturn, 1)) rfl (Or.inr rfl) (Nat.zero_le _) (Nat.zero_le _) (hQ _ _ (Ok.some h))
theorem oX0_mayFollow {n : Nat} {P : Int32 × Sg → Prop} {s0 : Sg} {a0 : Nat} {a1 : Nat} {x2 : Int32} {x3 : Int32} (h : Ok (mX0_mayFollow n s0 a0 a1 x2 x3) P) : ∃ n0, s0.2.1 a0 = some (0, n0) := by
  unfold mX0_mayFollow at h
  exact Ok.isO h
theorem DX0_mayFollow {G : Cx} {n : Nat} {P : Int32 × Sg → Prop} {s0 : Sg} {a0 : Nat} {a1 : Nat} {x2 : Int32} {x3 : Int32} (h : Ok (mX0_mayFollow n s0 a0 a1 x2 x3) P) : BM G tX0_mayFollow 2 44 0 0 [.ref a0, .ref a1, .int x2, .int x3] s0 (fun v s => ∃ r, v = some (.int r) ∧ P (r, s)) := by
  refine BM.of (by decide +kernel) (Nat.le_of_ble_eq_true rfl) ?_
  exact bX0_mayFollow (E := (({ frames := 2, cells := 0, slots := 0, locals := 44 }), Aof s0, 0, 0, (fun v s => ∃ r, v = some (.int r) ∧ P (r, s)))) ⟨Nat.le_refl _, Nat.le_refl _⟩ (fun r s hp => ⟨r, rfl, hp⟩) h
def mX8_ticksToEnd (n : Nat) (s0 : Sg) (a0 : Nat) : Option (Int32 × Sg) :=
  (isO 8 s0 a0).bind fun _ =>
  (toI (gV 8 s0 a0 0)).bind fun v1 =>
  (toI (gV 8 s0 a0 6)).bind fun v2 =>
  some ((v1 * v2), s0)
theorem bX8_ticksToEnd {G : Cx} {E : Ev} {n : Nat} (hRm : 0 ≤ E.1.frames ∧ 0 ≤ E.1.locals) {P : Int32 × Sg → Prop} (hQ : ∀ r s, P (r, s) → E.2.2.2.2 (some (.int r)) s) {s0 : Sg} {a0 : Nat} (h : Ok (mX8_ticksToEnd n s0 a0) P) : BW G tX8_ticksToEnd E 0 0 0 [(0, .ref a0)] [] s0 := by
  unfold mX8_ticksToEnd at h
  obtain ⟨_, _, h⟩ := Ok.bind h
  refine BW.run [.aload_n 0] (pc' := 1) (lv' := [(0, .ref a0)]) (st' := [.ref a0]) (by decide +kernel) rfl rfl ?_
  obtain ⟨v1, ev1, h⟩ := Ok.bind h
  refine BW.get (by decide +kernel : decode tX8_ticksToEnd.2.1 1 = .ok (.getfield 34, 3)) ciX8 (k := 0) (by decide) lkF_X8_34 (toI_V ev1) ?_
  refine BW.run [.aload_n 0] (pc' := 5) (lv' := [(0, .ref a0)]) (st' := [.ref a0, .int v1]) (by decide +kernel) rfl rfl ?_
  obtain ⟨v2, ev2, h⟩ := Ok.bind h
  refine BW.get (by decide +kernel : decode tX8_ticksToEnd.2.1 5 = .ok (.getfield 25, 3)) ciX8 (k := 6) (by decide) lkF_X8_25 (toI_V ev2) ?_
  refine BW.run [.imul] (pc' := 9) (lv' := [(0, .ref a0)]) (st' := [.int (v1 * v2)]) (by decide +kernel) rfl rfl ?_
  exact BW.iret (by decide +kernel : decode tX8_ticksToEnd.2.1 9 = .ok (.ireturn, 1)) rfl (Nat.zero_le _) (Nat.zero_le _) (hQ _ _ (Ok.some h))
theorem oX8_ticksToEnd {n : Nat} {P : Int32 × Sg → Prop} {s0 : Sg} {a0 : Nat} (h : Ok (mX8_ticksToEnd n s0 a0) P) : ∃ n0, s0.2.1 a0 = some (8, n0) := by
  unfold mX8_ticksToEnd at h
  exact Ok.isO h
theorem DX8_ticksToEnd {G : Cx} {n : Nat} {P : Int32 × Sg → Prop} {s0 : Sg} {a0 : Nat} (h : Ok (mX8_ticksToEnd n s0 a0) P) : BM G tX8_ticksToEnd 0 0 0 0 [.ref a0] s0 (fun v s => ∃ r, v = some (.int r) ∧ P (r, s)) := by
  refine BM.of (by decide +kernel) (Nat.le_of_ble_eq_true rfl) ?_
  exact bX8_ticksToEnd (E := (({ frames := 0, cells := 0, slots := 0, locals := 0 }), Aof s0, 0, 0, (fun v s => ∃ r, v = some (.int r) ∧ P (r, s)))) ⟨Nat.le_refl _, Nat.le_refl _⟩ (fun r s hp => ⟨r, rfl, hp⟩) h
def mX1_goOver_L56 (n : Nat) (a0 : Nat) (a1 : Nat) (x2 : Int32) (x5 : Int32) (x6 : Int32) : (Sg × Int32) → Option ((Sg × Int32) ⊕ (Sg))
  | (s0, x7) =>
    (toI (gV 4 s0 a1 1)).bind fun v11 =>
    if v11 ≤ x7 then (
      some (.inr s0)
    ) else (
      nm ((x5 * (9 : Int32)) + x7) fun v12 =>
      (toR (gV 1 s0 a0 1)).bind fun b13 =>
      (toR (gV 1 s0 a0 1)).bind fun b14 =>
      (toI (aV 11 s0 b14 v12)).bind fun v15 =>
      (mX4_least n s0 a1 x2 x7).bind fun (v17, s16) =>
      (sV 11 s16 b13 v12 (.int (jmax v15 (x6 + v17)))).bind fun s19 =>
      some (.inl (s19, (x7 + (1 : Int32))))
    )
theorem bX1_goOver_L56 {G : Cx} {E : Ev} {n : Nat} (hRm : 2 ≤ E.1.frames ∧ 43 ≤ E.1.locals) {a0 : Nat} {a1 : Nat} {x2 : Int32} {x3 : Int32} {x4 : Int32} {x5 : Int32} {x6 : Int32} {P : (Sg × Int32) ⊕ (Sg) → Prop} (hC : ∀ (s : Sg) (c7 : Int32), P (.inl (s, c7)) → BW G tX1_goOver E 0 0 56 [(0, .ref a0), (1, .ref a1), (2, .int x2), (3, .int x3), (4, .int x4), (5, .int x5), (6, .int x6), (7, .int c7)] [] s) (hE : ∀ (s : Sg), P (.inr s) → BW G tX1_goOver E 0 0 108 [(0, .ref a0), (1, .ref a1), (2, .int x2), (3, .int x3), (4, .int x4), (5, .int x5)] [] s) {s0 : Sg} {x7 : Int32} (h : Ok (mX1_goOver_L56 n a0 a1 x2 x5 x6 (s0, x7)) P) : BW G tX1_goOver E 0 0 56 [(0, .ref a0), (1, .ref a1), (2, .int x2), (3, .int x3), (4, .int x4), (5, .int x5), (6, .int x6), (7, .int x7)] [] s0 := by
  unfold mX1_goOver_L56 at h
  refine BW.run [.iload 7, .aload_n 1] (pc' := 59) (lv' := [(0, .ref a0), (1, .ref a1), (2, .int x2), (3, .int x3), (4, .int x4), (5, .int x5), (6, .int x6), (7, .int x7)]) (st' := [.ref a1, .int x7]) (by decide +kernel) rfl rfl ?_
  obtain ⟨v11, ev11, h⟩ := Ok.bind h
  refine BW.getN (by decide +kernel : decode tX1_goOver.2.1 59 = .ok (.getfield 52, 3)) ciX4 (k := 1) (by decide) lkF_X1_52 (toI_V ev11) ?_
  refine BW.icmp_ge 108 (by decide +kernel : decode tX1_goOver.2.1 62 = .ok (.if_icmp .ge 46, 3)) (by decide) (fun hc => ?_) (fun hc => ?_)
  · have h := (Ok.ite h).1 hc
    refine BW.sub [0, 1, 2, 3, 4, 5] rfl ?_
    exact hE _ (Ok.some h)
  · have h := (Ok.ite h).2 hc
    refine BW.run [.iload 5, .bipush 9, .imul, .iload 7, .iadd] (pc' := 73) (lv' := [(0, .ref a0), (1, .ref a1), (2, .int x2), (3, .int x3), (4, .int x4), (5, .int x5), (6, .int x6), (7, .int x7)]) (st' := [.int ((x5 * (9 : Int32)) + x7)]) (by decide +kernel) rfl rfl ?_
    obtain ⟨v12, wv12, h⟩ := Ok.nm h
    refine BW.nm wv12 ?_
    refine BW.run [.istore 8, .aload_n 0] (pc' := 76) (lv' := [(0, .ref a0), (1, .ref a1), (2, .int x2), (3, .int x3), (4, .int x4), (5, .int x5), (6, .int x6), (7, .int x7), (8, .int v12)]) (st' := [.ref a0]) (by decide +kernel) rfl rfl ?_
    obtain ⟨b13, eb13, h⟩ := Ok.bind h
    refine BW.get (by decide +kernel : decode tX1_goOver.2.1 76 = .ok (.getfield 15, 3)) ciX1 (k := 1) (by decide) lkF_X1_15 (toR_V eb13) ?_
    refine BW.run [.iload 8, .aload_n 0] (pc' := 82) (lv' := [(0, .ref a0), (1, .ref a1), (2, .int x2), (3, .int x3), (4, .int x4), (5, .int x5), (6, .int x6), (7, .int x7), (8, .int v12)]) (st' := [.ref a0, .int v12, .ref b13]) (by decide +kernel) rfl rfl ?_
    obtain ⟨b14, eb14, h⟩ := Ok.bind h
    refine BW.get (by decide +kernel : decode tX1_goOver.2.1 82 = .ok (.getfield 15, 3)) ciX1 (k := 1) (by decide) lkF_X1_15 (toR_V eb14) ?_
    refine BW.run [.iload 8] (pc' := 87) (lv' := [(0, .ref a0), (1, .ref a1), (2, .int x2), (3, .int x3), (4, .int x4), (5, .int x5), (6, .int x6), (7, .int x7), (8, .int v12)]) (st' := [.int v12, .ref b14, .int v12, .ref b13]) (by decide +kernel) rfl rfl ?_
    obtain ⟨v15, ev15, h⟩ := Ok.bind h
    refine BW.iald (by decide +kernel : decode tX1_goOver.2.1 87 = .ok (.iaload, 1)) (toI_V ev15) ?_
    refine BW.run [.iload 6, .aload_n 1, .iload_n 2, .iload 7] (pc' := 94) (lv' := [(0, .ref a0), (1, .ref a1), (2, .int x2), (3, .int x3), (4, .int x4), (5, .int x5), (6, .int x6), (7, .int x7), (8, .int v12)]) (st' := [.int x7, .int x2, .ref a1, .int x6, .int v15, .int v12, .ref b13]) (by decide +kernel) rfl rfl ?_
    refine BW.callV (As := [.int x2, .int x7]) (st := [.int x6, .int v15, .int v12, .ref b13]) (by decide +kernel : decode tX1_goOver.2.1 94 = .ok (.invokevirtual 63, 3)) (DX4_least (Ok.bindK h)) mfX4_least lkM_X1_63 imX4_least selX4_least ciX4 (oX4_least (Ok.bindK h)).choose_spec rfl rfl (Nat.le_of_ble_eq_true rfl) ⟨Nat.le_trans (by decide) hRm.1, Nat.le_trans (by decide) hRm.2⟩ ⟨Nat.zero_le _, Nat.zero_le _⟩ ?_
    rintro _ s16 ⟨v17, rfl, h⟩
    show BW G tX1_goOver E 0 0 97 [(0, .ref a0), (1, .ref a1), (2, .int x2), (3, .int x3), (4, .int x4), (5, .int x5), (6, .int x6), (7, .int x7), (8, .int v12)] [.int v17, .int x6, .int v15, .int v12, .ref b13] s16
    refine BW.run [.iadd] (pc' := 98) (lv' := [(0, .ref a0), (1, .ref a1), (2, .int x2), (3, .int x3), (4, .int x4), (5, .int x5), (6, .int x6), (7, .int x7), (8, .int v12)]) (st' := [.int (x6 + v17), .int v15, .int v12, .ref b13]) (by decide +kernel) rfl rfl ?_
    refine BW.mmax (by decide +kernel : decode tX1_goOver.2.1 98 = .ok (.invokestatic 66, 3)) lkM_X1_66 (Nat.le_of_ble_eq_true rfl) ⟨Nat.le_trans (by decide) hRm.1, Nat.le_trans (by decide) hRm.2⟩ ⟨Nat.zero_le _, Nat.zero_le _⟩ ?_
    obtain ⟨s19, es19, h⟩ := Ok.bind h
    refine BW.iast (by decide +kernel : decode tX1_goOver.2.1 101 = .ok (.iastore, 1)) es19 ?_
    refine BW.run [.iinc 7 1] (pc' := 105) (lv' := [(0, .ref a0), (1, .ref a1), (2, .int x2), (3, .int x3), (4, .int x4), (5, .int x5), (6, .int x6), (7, .int (x7 + (1 : Int32))), (8, .int v12)]) (st' := []) (by decide +kernel) rfl rfl ?_
    refine BW.goto 56 (by decide +kernel : decode tX1_goOver.2.1 105 = .ok (.goto (-49), 3)) (by decide) ?_
    refine BW.sub [0, 1, 2, 3, 4, 5, 6, 7] rfl ?_
    exact hC _ _ (Ok.some h)
theorem bX1_goOver_W56 {G : Cx} {E : Ev} {n : Nat} (hRm : 2 ≤ E.1.frames ∧ 43 ≤ E.1.locals) {a0 : Nat} {a1 : Nat} {x2 : Int32} {x3 : Int32} {x4 : Int32} {x5 : Int32} {x6 : Int32} {K : (Sg) → Prop} (hE : ∀ (s : Sg), K s → BW G tX1_goOver E 0 0 108 [(0, .ref a0), (1, .ref a1), (2, .int x2), (3, .int x3), (4, .int x4), (5, .int x5)] [] s) : ∀ (f : Nat) (c : Sg × Int32), Ok (loopM (mX1_goOver_L56 n a0 a1 x2 x5 x6) f c) K → match c with | (s0, x7) => BW G tX1_goOver E 0 0 56 [(0, .ref a0), (1, .ref a1), (2, .int x2), (3, .int x3), (4, .int x4), (5, .int x5), (6, .int x6), (7, .int x7)] [] s0 := by
  intro f
  induction f with
  | zero => intro c h; exact (Ok.no h).elim
  | succ f ih =>
    intro c h
    obtain ⟨s0, x7⟩ := c
    exact bX1_goOver_L56 (P := loopP (mX1_goOver_L56 n a0 a1 x2 x5 x6) f K) hRm (fun s c7 h => ih (s, c7) h) hE (loopM_ok h)
def mX1_goOver_L27 (n : Nat) (a0 : Nat) (a1 : Nat) (x2 : Int32) (x3 : Int32) (x4 : Int32) : (Sg × Int32) → Option ((Sg × Int32) ⊕ (Sg))
  | (s0, x5) =>
    (toI (gV 4 s0 a1 1)).bind fun v7 =>
    if v7 ≤ x5 then (
      some (.inr s0)
    ) else (
      (toR (gV 1 s0 a0 0)).bind fun b8 =>
      (toI (aV 11 s0 b8 ((x5 * (9 : Int32)) + x3))).bind fun v9 =>
      nm (v9 + x4) fun v10 =>
      (loopM (mX1_goOver_L56 n a0 a1 x2 x5 v10) n (s0, (0 : Int32))).bind fun s20 =>
      some (.inl (s20, (x5 + (1 : Int32))))
    )
theorem bX1_goOver_L27 {G : Cx} {E : Ev} {n : Nat} (hRm : 2 ≤ E.1.frames ∧ 43 ≤ E.1.locals) {a0 : Nat} {a1 : Nat} {x2 : Int32} {x3 : Int32} {x4 : Int32} {P : (Sg × Int32) ⊕ (Sg) → Prop} (hC : ∀ (s : Sg) (c5 : Int32), P (.inl (s, c5)) → BW G tX1_goOver E 0 0 27 [(0, .ref a0), (1, .ref a1), (2, .int x2), (3, .int x3), (4, .int x4), (5, .int c5)] [] s) (hE : ∀ (s : Sg), P (.inr s) → BW G tX1_goOver E 0 0 114 [] [] s) {s0 : Sg} {x5 : Int32} (h : Ok (mX1_goOver_L27 n a0 a1 x2 x3 x4 (s0, x5)) P) : BW G tX1_goOver E 0 0 27 [(0, .ref a0), (1, .ref a1), (2, .int x2), (3, .int x3), (4, .int x4), (5, .int x5)] [] s0 := by
  unfold mX1_goOver_L27 at h
  refine BW.run [.iload 5, .aload_n 1] (pc' := 30) (lv' := [(0, .ref a0), (1, .ref a1), (2, .int x2), (3, .int x3), (4, .int x4), (5, .int x5)]) (st' := [.ref a1, .int x5]) (by decide +kernel) rfl rfl ?_
  obtain ⟨v7, ev7, h⟩ := Ok.bind h
  refine BW.getN (by decide +kernel : decode tX1_goOver.2.1 30 = .ok (.getfield 52, 3)) ciX4 (k := 1) (by decide) lkF_X1_52 (toI_V ev7) ?_
  refine BW.icmp_ge 114 (by decide +kernel : decode tX1_goOver.2.1 33 = .ok (.if_icmp .ge 81, 3)) (by decide) (fun hc => ?_) (fun hc => ?_)
  · have h := (Ok.ite h).1 hc
    refine BW.sub [] rfl ?_
    exact hE _ (Ok.some h)
  · have h := (Ok.ite h).2 hc
    refine BW.run [.aload_n 0] (pc' := 37) (lv' := [(0, .ref a0), (1, .ref a1), (2, .int x2), (3, .int x3), (4, .int x4), (5, .int x5)]) (st' := [.ref a0]) (by decide +kernel) rfl rfl ?_
    obtain ⟨b8, eb8, h⟩ := Ok.bind h
    refine BW.get (by decide +kernel : decode tX1_goOver.2.1 37 = .ok (.getfield 9, 3)) ciX1 (k := 0) (by decide) lkF_X1_9 (toR_V eb8) ?_
    refine BW.run [.iload 5, .bipush 9, .imul, .iload_n 3, .iadd] (pc' := 47) (lv' := [(0, .ref a0), (1, .ref a1), (2, .int x2), (3, .int x3), (4, .int x4), (5, .int x5)]) (st' := [.int ((x5 * (9 : Int32)) + x3), .ref b8]) (by decide +kernel) rfl rfl ?_
    obtain ⟨v9, ev9, h⟩ := Ok.bind h
    refine BW.iald (by decide +kernel : decode tX1_goOver.2.1 47 = .ok (.iaload, 1)) (toI_V ev9) ?_
    refine BW.run [.iload 4, .iadd] (pc' := 51) (lv' := [(0, .ref a0), (1, .ref a1), (2, .int x2), (3, .int x3), (4, .int x4), (5, .int x5)]) (st' := [.int (v9 + x4)]) (by decide +kernel) rfl rfl ?_
    obtain ⟨v10, wv10, h⟩ := Ok.nm h
    refine BW.nm wv10 ?_
    refine BW.run [.istore 6, .iconst 0, .istore 7] (pc' := 56) (lv' := [(0, .ref a0), (1, .ref a1), (2, .int x2), (3, .int x3), (4, .int x4), (5, .int x5), (6, .int v10), (7, .int (0 : Int32))]) (st' := []) (by decide +kernel) rfl rfl ?_
    refine bX1_goOver_W56 hRm (a0 := a0) (a1 := a1) (x2 := x2) (x3 := x3) (x4 := x4) (x5 := x5) (x6 := v10) (fun s20 h => ?_) n (s0, (0 : Int32)) (Ok.bindK h)
    refine BW.run [.iinc 5 1] (pc' := 111) (lv' := [(0, .ref a0), (1, .ref a1), (2, .int x2), (3, .int x3), (4, .int x4), (5, .int (x5 + (1 : Int32)))]) (st' := []) (by decide +kernel) rfl rfl ?_
    refine BW.goto 27 (by decide +kernel : decode tX1_goOver.2.1 111 = .ok (.goto (-84), 3)) (by decide) ?_
    exact hC _ _ (Ok.some h)
theorem bX1_goOver_W27 {G : Cx} {E : Ev} {n : Nat} (hRm : 2 ≤ E.1.frames ∧ 43 ≤ E.1.locals) {a0 : Nat} {a1 : Nat} {x2 : Int32} {x3 : Int32} {x4 : Int32} {K : (Sg) → Prop} (hE : ∀ (s : Sg), K s → BW G tX1_goOver E 0 0 114 [] [] s) : ∀ (f : Nat) (c : Sg × Int32), Ok (loopM (mX1_goOver_L27 n a0 a1 x2 x3 x4) f c) K → match c with | (s0, x5) => BW G tX1_goOver E 0 0 27 [(0, .ref a0), (1, .ref a1), (2, .int x2), (3, .int x3), (4, .int x4), (5, .int x5)] [] s0 := by
  intro f
  induction f with
  | zero => intro c h; exact (Ok.no h).elim
  | succ f ih =>
    intro c h
    obtain ⟨s0, x5⟩ := c
    exact bX1_goOver_L27 (P := loopP (mX1_goOver_L27 n a0 a1 x2 x3 x4) f K) hRm (fun s c5 h => ih (s, c5) h) hE (loopM_ok h)
def mX1_goOver (n : Nat) (s0 : Sg) (a0 : Nat) (a1 : Nat) (x2 : Int32) (x3 : Int32) (x4 : Int32) : Option (Sg) :=
  (isO 1 s0 a0).bind fun _ =>
  if x4 ≤ (-1000000 : Int32) then (
    some s0
  ) else (
    (mX4_isPoint n s0 a1 x2).bind fun (v2, s1) =>
    if v2 = 0 then (
      some s1
    ) else (
      (mX4_isPoint n s1 a1 x3).bind fun (v5, s4) =>
      if v5 = 0 then (
        some s4
      ) else (
        (loopM (mX1_goOver_L27 n a0 a1 x2 x3 x4) n (s4, (0 : Int32))).bind fun s22 =>
        some s22
      )
    )
  )
theorem bX1_goOver {G : Cx} {E : Ev} {n : Nat} (hRm : 2 ≤ E.1.frames ∧ 43 ≤ E.1.locals) {P : Sg → Prop} (hQ : ∀ s, P s → E.2.2.2.2 none s) {s0 : Sg} {a0 : Nat} {a1 : Nat} {x2 : Int32} {x3 : Int32} {x4 : Int32} (h : Ok (mX1_goOver n s0 a0 a1 x2 x3 x4) P) : BW G tX1_goOver E 0 0 0 [(0, .ref a0), (1, .ref a1), (2, .int x2), (3, .int x3), (4, .int x4)] [] s0 := by
  unfold mX1_goOver at h
  obtain ⟨_, _, h⟩ := Ok.bind h
  refine BW.run [.iload 4] (pc' := 2) (lv' := [(0, .ref a0), (1, .ref a1), (2, .int x2), (3, .int x3), (4, .int x4)]) (st' := [.int x4]) (by decide +kernel) rfl rfl ?_
  refine BW.ldc (by decide +kernel : decode tX1_goOver.2.1 2 = .ok (.ldc 59, 2)) (x := (-1000000 : Int32)) lkK_X1_59 ?_
  refine BW.icmp_le 23 (by decide +kernel : decode tX1_goOver.2.1 4 = .ok (.if_icmp .le 19, 3)) (by decide) (fun hc => ?_) (fun hc => ?_)
  · have h := (Ok.ite h).1 hc
    exact BW.vret (by decide +kernel : decode tX1_goOver.2.1 23 = .ok (.return_, 1)) rfl (Nat.zero_le _) (Nat.zero_le _) (hQ _ (Ok.some h))
  · have h := (Ok.ite h).2 hc
    refine BW.run [.aload_n 1, .iload_n 2] (pc' := 9) (lv' := [(0, .ref a0), (1, .ref a1), (2, .int x2), (3, .int x3), (4, .int x4)]) (st' := [.int x2, .ref a1]) (by decide +kernel) rfl rfl ?_
    refine BW.callV (As := [.int x2]) (st := []) (by decide +kernel : decode tX1_goOver.2.1 9 = .ok (.invokevirtual 60, 3)) (DX4_isPoint (Ok.bindK h)) mfX4_isPoint lkM_X1_60 imX4_isPoint selX4_isPoint ciX4 (oX4_isPoint (Ok.bindK h)).choose_spec rfl rfl (Nat.le_of_ble_eq_true rfl) ⟨Nat.le_trans (by decide) hRm.1, Nat.le_trans (by decide) hRm.2⟩ ⟨Nat.zero_le _, Nat.zero_le _⟩ ?_
    rintro _ s1 ⟨v2, rfl, h⟩
    show BW G tX1_goOver E 0 0 12 [(0, .ref a0), (1, .ref a1), (2, .int x2), (3, .int x3), (4, .int x4)] [.int v2] s1
    refine BW.if_eq 23 (by decide +kernel : decode tX1_goOver.2.1 12 = .ok (.ifCond .eq 11, 3)) (by decide) (fun hc => ?_) (fun hc => ?_)
    · have h := (Ok.ite h).1 hc
      exact BW.vret (by decide +kernel : decode tX1_goOver.2.1 23 = .ok (.return_, 1)) rfl (Nat.zero_le _) (Nat.zero_le _) (hQ _ (Ok.some h))
    · have h := (Ok.ite h).2 hc
      refine BW.run [.aload_n 1, .iload_n 3] (pc' := 17) (lv' := [(0, .ref a0), (1, .ref a1), (2, .int x2), (3, .int x3), (4, .int x4)]) (st' := [.int x3, .ref a1]) (by decide +kernel) rfl rfl ?_
      refine BW.callV (As := [.int x3]) (st := []) (by decide +kernel : decode tX1_goOver.2.1 17 = .ok (.invokevirtual 60, 3)) (DX4_isPoint (Ok.bindK h)) mfX4_isPoint lkM_X1_60 imX4_isPoint selX4_isPoint ciX4 (oX4_isPoint (Ok.bindK h)).choose_spec rfl rfl (Nat.le_of_ble_eq_true rfl) ⟨Nat.le_trans (by decide) hRm.1, Nat.le_trans (by decide) hRm.2⟩ ⟨Nat.zero_le _, Nat.zero_le _⟩ ?_
      rintro _ s4 ⟨v5, rfl, h⟩
      show BW G tX1_goOver E 0 0 20 [(0, .ref a0), (1, .ref a1), (2, .int x2), (3, .int x3), (4, .int x4)] [.int v5] s4
      refine BW.if_ne 24 (by decide +kernel : decode tX1_goOver.2.1 20 = .ok (.ifCond .ne 4, 3)) (by decide) (fun hc => ?_) (fun hc => ?_)
      · have h := (Ok.ite h).2 hc
        refine BW.run [.iconst 0, .istore 5] (pc' := 27) (lv' := [(0, .ref a0), (1, .ref a1), (2, .int x2), (3, .int x3), (4, .int x4), (5, .int (0 : Int32))]) (st' := []) (by decide +kernel) rfl rfl ?_
        refine bX1_goOver_W27 hRm (a0 := a0) (a1 := a1) (x2 := x2) (x3 := x3) (x4 := x4) (fun s22 h => ?_) n (s4, (0 : Int32)) (Ok.bindK h)
        exact BW.vret (by decide +kernel : decode tX1_goOver.2.1 114 = .ok (.return_, 1)) rfl (Nat.zero_le _) (Nat.zero_le _) (hQ _ (Ok.some h))
      · have h := (Ok.ite h).1 hc
        exact BW.vret (by decide +kernel : decode tX1_goOver.2.1 23 = .ok (.return_, 1)) rfl (Nat.zero_le _) (Nat.zero_le _) (hQ _ (Ok.some h))
theorem oX1_goOver {n : Nat} {P : Sg → Prop} {s0 : Sg} {a0 : Nat} {a1 : Nat} {x2 : Int32} {x3 : Int32} {x4 : Int32} (h : Ok (mX1_goOver n s0 a0 a1 x2 x3 x4) P) : ∃ n0, s0.2.1 a0 = some (1, n0) := by
  unfold mX1_goOver at h
  exact Ok.isO h
theorem DX1_goOver {G : Cx} {n : Nat} {P : Sg → Prop} {s0 : Sg} {a0 : Nat} {a1 : Nat} {x2 : Int32} {x3 : Int32} {x4 : Int32} (h : Ok (mX1_goOver n s0 a0 a1 x2 x3 x4) P) : BM G tX1_goOver 2 43 0 0 [.ref a0, .ref a1, .int x2, .int x3, .int x4] s0 (fun v s => v = none ∧ P s) := by
  refine BM.of (by decide +kernel) (Nat.le_of_ble_eq_true rfl) ?_
  exact bX1_goOver (E := (({ frames := 2, cells := 0, slots := 0, locals := 43 }), Aof s0, 0, 0, (fun v s => v = none ∧ P s))) ⟨Nat.le_refl _, Nat.le_refl _⟩ (fun s hp => ⟨rfl, hp⟩) h
def mX1_isRoundTripAbove_L2 (n : Nat) (a0 : Nat) (x1 : Int32) : (Sg × Int32) → Option ((Sg × Int32) ⊕ ((Sg) ⊕ (Int32 × Sg)))
  | (s0, x2) =>
    if x1 ≤ x2 then (
      some (.inr (.inl s0))
    ) else (
      (toR (gV 1 s0 a0 1)).bind fun b1 =>
      (toI (aV 11 s0 b1 ((x2 * (9 : Int32)) + x2))).bind fun v2 =>
      if v2 ≤ 0 then (
        some (.inl (s0, (x2 + (1 : Int32))))
      ) else (
        some (.inr (.inr ((1 : Int32), s0)))
      )
    )
theorem bX1_isRoundTripAbove_L2 {G : Cx} {E : Ev} {n : Nat} (hRm : 0 ≤ E.1.frames ∧ 0 ≤ E.1.locals) {a0 : Nat} {x1 : Int32} {P : (Sg × Int32) ⊕ ((Sg) ⊕ (Int32 × Sg)) → Prop} (hC : ∀ (s : Sg) (c2 : Int32), P (.inl (s, c2)) → BW G tX1_isRoundTripAbove E 0 0 2 [(0, .ref a0), (1, .int x1), (2, .int c2)] [] s) (hE : ∀ (s : Sg), P (.inr (.inl s)) → BW G tX1_isRoundTripAbove E 0 0 29 [] [] s) (hQ : ∀ r s, P (.inr (.inr (r, s))) → E.2.2.2.2 (some (.int r)) s) {s0 : Sg} {x2 : Int32} (h : Ok (mX1_isRoundTripAbove_L2 n a0 x1 (s0, x2)) P) : BW G tX1_isRoundTripAbove E 0 0 2 [(0, .ref a0), (1, .int x1), (2, .int x2)] [] s0 := by
  unfold mX1_isRoundTripAbove_L2 at h
  refine BW.run [.iload_n 2, .iload_n 1] (pc' := 4) (lv' := [(0, .ref a0), (1, .int x1), (2, .int x2)]) (st' := [.int x1, .int x2]) (by decide +kernel) rfl rfl ?_
  refine BW.icmp_ge 29 (by decide +kernel : decode tX1_isRoundTripAbove.2.1 4 = .ok (.if_icmp .ge 25, 3)) (by decide) (fun hc => ?_) (fun hc => ?_)
  · have h := (Ok.ite h).1 hc
    refine BW.sub [] rfl ?_
    exact hE _ (Ok.some h)
  · have h := (Ok.ite h).2 hc
    refine BW.run [.aload_n 0] (pc' := 8) (lv' := [(0, .ref a0), (1, .int x1), (2, .int x2)]) (st' := [.ref a0]) (by decide +kernel) rfl rfl ?_
    obtain ⟨b1, eb1, h⟩ := Ok.bind h
    refine BW.get (by decide +kernel : decode tX1_isRoundTripAbove.2.1 8 = .ok (.getfield 15, 3)) ciX1 (k := 1) (by decide) lkF_X1_15 (toR_V eb1) ?_
    refine BW.run [.iload_n 2, .bipush 9, .imul, .iload_n 2, .iadd] (pc' := 17) (lv' := [(0, .ref a0), (1, .int x1), (2, .int x2)]) (st' := [.int ((x2 * (9 : Int32)) + x2), .ref b1]) (by decide +kernel) rfl rfl ?_
    obtain ⟨v2, ev2, h⟩ := Ok.bind h
    refine BW.iald (by decide +kernel : decode tX1_isRoundTripAbove.2.1 17 = .ok (.iaload, 1)) (toI_V ev2) ?_
    refine BW.if_le 23 (by decide +kernel : decode tX1_isRoundTripAbove.2.1 18 = .ok (.ifCond .le 5, 3)) (by decide) (fun hc => ?_) (fun hc => ?_)
    · have h := (Ok.ite h).1 hc
      refine BW.run [.iinc 2 1] (pc' := 26) (lv' := [(0, .ref a0), (1, .int x1), (2, .int (x2 + (1 : Int32)))]) (st' := []) (by decide +kernel) rfl rfl ?_
      refine BW.goto 2 (by decide +kernel : decode tX1_isRoundTripAbove.2.1 26 = .ok (.goto (-24), 3)) (by decide) ?_
      exact hC _ _ (Ok.some h)
    · have h := (Ok.ite h).2 hc
      refine BW.run [.iconst 1] (pc' := 22) (lv' := [(0, .ref a0), (1, .int x1), (2, .int x2)]) (st' := [.int (1 : Int32)]) (by decide +kernel) rfl rfl ?_
      exact BW.zret (by decide +kernel : decode tX1_isRoundTripAbove.2.1 22 = .ok (.ireturn, 1)) rfl (Or.inr rfl) (Nat.zero_le _) (Nat.zero_le _) (hQ _ _ (Ok.some h))
theorem bX1_isRoundTripAbove_W2 {G : Cx} {E : Ev} {n : Nat} (hRm : 0 ≤ E.1.frames ∧ 0 ≤ E.1.locals) {a0 : Nat} {x1 : Int32} {K : ((Sg) ⊕ (Int32 × Sg)) → Prop} (hE : ∀ (s : Sg), K (.inl s) → BW G tX1_isRoundTripAbove E 0 0 29 [] [] s) (hQ : ∀ r s, K (.inr (r, s)) → E.2.2.2.2 (some (.int r)) s) : ∀ (f : Nat) (c : Sg × Int32), Ok (loopM (mX1_isRoundTripAbove_L2 n a0 x1) f c) K → match c with | (s0, x2) => BW G tX1_isRoundTripAbove E 0 0 2 [(0, .ref a0), (1, .int x1), (2, .int x2)] [] s0 := by
  intro f
  induction f with
  | zero => intro c h; exact (Ok.no h).elim
  | succ f ih =>
    intro c h
    obtain ⟨s0, x2⟩ := c
    exact bX1_isRoundTripAbove_L2 (P := loopP (mX1_isRoundTripAbove_L2 n a0 x1) f K) hRm (fun s c2 h => ih (s, c2) h) hE hQ (loopM_ok h)
def mX1_isRoundTripAbove (n : Nat) (s0 : Sg) (a0 : Nat) (x1 : Int32) : Option (Int32 × Sg) :=
  (isO 1 s0 a0).bind fun _ =>
  (loopM (mX1_isRoundTripAbove_L2 n a0 x1) n (s0, (0 : Int32))).bind fun q4 => match q4 with
  | .inl s3 => (
    some ((0 : Int32), s3)
  )
  | .inr (r, s) => some (r, s)
theorem bX1_isRoundTripAbove {G : Cx} {E : Ev} {n : Nat} (hRm : 0 ≤ E.1.frames ∧ 0 ≤ E.1.locals) {P : Int32 × Sg → Prop} (hQ : ∀ r s, P (r, s) → E.2.2.2.2 (some (.int r)) s) {s0 : Sg} {a0 : Nat} {x1 : Int32} (h : Ok (mX1_isRoundTripAbove n s0 a0 x1) P) : BW G tX1_isRoundTripAbove E 0 0 0 [(0, .ref a0), (1, .int x1)] [] s0 := by
  unfold mX1_isRoundTripAbove at h
  obtain ⟨_, _, h⟩ := Ok.bind h
  refine BW.run [.iconst 0, .istore_n 2] (pc' := 2) (lv' := [(0, .ref a0), (1, .int x1), (2, .int (0 : Int32))]) (st' := []) (by decide +kernel) rfl rfl ?_
  refine bX1_isRoundTripAbove_W2 hRm (a0 := a0) (x1 := x1) (fun s3 h => ?_) (fun r s h => ?_) n (s0, (0 : Int32)) (Ok.bindK h)
  · refine BW.run [.iconst 0] (pc' := 30) (lv' := []) (st' := [.int (0 : Int32)]) (by decide +kernel) rfl rfl ?_
    exact BW.zret (by decide +kernel : decode tX1_isRoundTripAbove.2.1 30 = .ok (.ireturn, 1)) rfl (Or.inl rfl) (Nat.zero_le _) (Nat.zero_le _) (hQ _ _ (Ok.some h))
  · exact hQ r s (Ok.some h)
theorem oX1_isRoundTripAbove {n : Nat} {P : Int32 × Sg → Prop} {s0 : Sg} {a0 : Nat} {x1 : Int32} (h : Ok (mX1_isRoundTripAbove n s0 a0 x1) P) : ∃ n0, s0.2.1 a0 = some (1, n0) := by
  unfold mX1_isRoundTripAbove at h
  exact Ok.isO h
theorem DX1_isRoundTripAbove {G : Cx} {n : Nat} {P : Int32 × Sg → Prop} {s0 : Sg} {a0 : Nat} {x1 : Int32} (h : Ok (mX1_isRoundTripAbove n s0 a0 x1) P) : BM G tX1_isRoundTripAbove 0 0 0 0 [.ref a0, .int x1] s0 (fun v s => ∃ r, v = some (.int r) ∧ P (r, s)) := by
  refine BM.of (by decide +kernel) (Nat.le_of_ble_eq_true rfl) ?_
  exact bX1_isRoundTripAbove (E := (({ frames := 0, cells := 0, slots := 0, locals := 0 }), Aof s0, 0, 0, (fun v s => ∃ r, v = some (.int r) ∧ P (r, s)))) ⟨Nat.le_refl _, Nat.le_refl _⟩ (fun r s hp => ⟨r, rfl, hp⟩) h
def mX1_fewest_112 (n : Nat) (s0 : Sg) (a0 : Nat) (a1 : Nat) (a2 : Nat) (x3 : Int32) (x4 : Int32) (x6 : Int32) : Option ((Sg × Int32) ⊕ (Sg)) :=
  some (.inl (s0, (x6 + (1 : Int32))))
theorem bX1_fewest_112 {G : Cx} {E : Ev} {n : Nat} (hRm : 3 ≤ E.1.frames ∧ 71 ≤ E.1.locals) {x5 : Int32} {s0 : Sg} {a0 : Nat} {a1 : Nat} {a2 : Nat} {x3 : Int32} {x4 : Int32} {x6 : Int32} {P : (Sg × Int32) ⊕ (Sg) → Prop} (hC : ∀ (s : Sg) (c6 : Int32), P (.inl (s, c6)) → BW G tX1_fewest E 0 0 49 [(0, .ref a0), (1, .ref a1), (2, .ref a2), (3, .int x3), (4, .int x4), (5, .int x5), (6, .int c6)] [] s) (hE : ∀ (s : Sg), P (.inr s) → BW G tX1_fewest E 0 0 118 [(0, .ref a0), (1, .ref a1), (2, .ref a2), (3, .int x3), (4, .int x4), (5, .int x5)] [] s)  (h : Ok (mX1_fewest_112 n s0 a0 a1 a2 x3 x4 x6) P) : BW G tX1_fewest E 0 0 112 [(0, .ref a0), (1, .ref a1), (2, .ref a2), (3, .int x3), (4, .int x4), (5, .int x5), (6, .int x6)] [] s0 := by
  unfold mX1_fewest_112 at h
  refine BW.run [.iinc 6 1] (pc' := 115) (lv' := [(0, .ref a0), (1, .ref a1), (2, .ref a2), (3, .int x3), (4, .int x4), (5, .int x5), (6, .int (x6 + (1 : Int32)))]) (st' := []) (by decide +kernel) rfl rfl ?_
  refine BW.goto 49 (by decide +kernel : decode tX1_fewest.2.1 115 = .ok (.goto (-66), 3)) (by decide) ?_
  exact hC _ _ (Ok.some h)
def mX1_fewest_L49 (n : Nat) (a0 : Nat) (a1 : Nat) (a2 : Nat) (x3 : Int32) (x4 : Int32) : (Sg × Int32) → Option ((Sg × Int32) ⊕ (Sg))
  | (s0, x6) =>
    if x3 ≤ x6 then (
      some (.inr s0)
    ) else (
      (mX9_isIn n s0 x4 x6).bind fun (v12, s11) =>
      if v12 = 0 then (
        mX1_fewest_112 n s11 a0 a1 a2 x3 x4 x6
      ) else (
        (toQ (aV 14 s11 a2 x6)).bind fun q14 => match q14 with
        | none => (
          none
        )
        | some b15 => (
          (toI (gV 2 s11 b15 1)).bind fun v16 =>
          (toI (gV 2 s11 b15 2)).bind fun v17 =>
          (toI (gV 2 s11 b15 3)).bind fun v18 =>
          (mX1_goOver n s11 a0 a1 v16 v17 v18).bind fun s19 =>
          (toI (gV 2 s19 b15 2)).bind fun v20 =>
          (toI (gV 2 s19 b15 1)).bind fun v21 =>
          (toI (gV 2 s19 b15 4)).bind fun v22 =>
          (mX1_goOver n s19 a0 a1 v20 v21 (-v22)).bind fun s23 =>
          mX1_fewest_112 n s23 a0 a1 a2 x3 x4 x6
        )
      )
    )
theorem bX1_fewest_L49 {G : Cx} {E : Ev} {n : Nat} (hRm : 3 ≤ E.1.frames ∧ 71 ≤ E.1.locals) {a0 : Nat} {a1 : Nat} {a2 : Nat} {x3 : Int32} {x4 : Int32} {x5 : Int32} {P : (Sg × Int32) ⊕ (Sg) → Prop} (hC : ∀ (s : Sg) (c6 : Int32), P (.inl (s, c6)) → BW G tX1_fewest E 0 0 49 [(0, .ref a0), (1, .ref a1), (2, .ref a2), (3, .int x3), (4, .int x4), (5, .int x5), (6, .int c6)] [] s) (hE : ∀ (s : Sg), P (.inr s) → BW G tX1_fewest E 0 0 118 [(0, .ref a0), (1, .ref a1), (2, .ref a2), (3, .int x3), (4, .int x4), (5, .int x5)] [] s) {s0 : Sg} {x6 : Int32} (h : Ok (mX1_fewest_L49 n a0 a1 a2 x3 x4 (s0, x6)) P) : BW G tX1_fewest E 0 0 49 [(0, .ref a0), (1, .ref a1), (2, .ref a2), (3, .int x3), (4, .int x4), (5, .int x5), (6, .int x6)] [] s0 := by
  unfold mX1_fewest_L49 at h
  refine BW.run [.iload 6, .iload_n 3] (pc' := 52) (lv' := [(0, .ref a0), (1, .ref a1), (2, .ref a2), (3, .int x3), (4, .int x4), (5, .int x5), (6, .int x6)]) (st' := [.int x3, .int x6]) (by decide +kernel) rfl rfl ?_
  refine BW.icmp_ge 118 (by decide +kernel : decode tX1_fewest.2.1 52 = .ok (.if_icmp .ge 66, 3)) (by decide) (fun hc => ?_) (fun hc => ?_)
  · have h := (Ok.ite h).1 hc
    refine BW.sub [0, 1, 2, 3, 4, 5] rfl ?_
    exact hE _ (Ok.some h)
  · have h := (Ok.ite h).2 hc
    refine BW.run [.iload 4, .iload 6] (pc' := 59) (lv' := [(0, .ref a0), (1, .ref a1), (2, .ref a2), (3, .int x3), (4, .int x4), (5, .int x5), (6, .int x6)]) (st' := [.int x6, .int x4]) (by decide +kernel) rfl rfl ?_
    refine BW.callSN (As := [.int x4, .int x6]) (st := []) (by decide +kernel : decode tX1_fewest.2.1 59 = .ok (.invokestatic 29, 3)) (DX9_isIn (Ok.bindK h)) mfX9_isIn lkM_X1_29 smX9_isIn rfl rfl (Nat.le_of_ble_eq_true rfl) ⟨Nat.le_trans (by decide) hRm.1, Nat.le_trans (by decide) hRm.2⟩ ⟨Nat.zero_le _, Nat.zero_le _⟩ ?_
    rintro _ s11 ⟨v12, rfl, h⟩
    show BW G tX1_fewest E 0 0 62 [(0, .ref a0), (1, .ref a1), (2, .ref a2), (3, .int x3), (4, .int x4), (5, .int x5), (6, .int x6)] [.int v12] s11
    refine BW.if_eq 112 (by decide +kernel : decode tX1_fewest.2.1 62 = .ok (.ifCond .eq 50, 3)) (by decide) (fun hc => ?_) (fun hc => ?_)
    · have h := (Ok.ite h).1 hc
      exact bX1_fewest_112 hRm hC hE h
    · have h := (Ok.ite h).2 hc
      refine BW.run [.aload_n 2, .iload 6] (pc' := 68) (lv' := [(0, .ref a0), (1, .ref a1), (2, .ref a2), (3, .int x3), (4, .int x4), (5, .int x5), (6, .int x6)]) (st' := [.int x6, .ref a2]) (by decide +kernel) rfl rfl ?_
      obtain ⟨q14, eq14, h⟩ := Ok.bind h
      refine BW.aald (by decide +kernel : decode tX1_fewest.2.1 68 = .ok (.aaload, 1)) (by decide) (toQ_V eq14) ?_
      cases q14 with
      | none =>
        show BW G tX1_fewest E 0 0 69 [(0, .ref a0), (1, .ref a1), (2, .ref a2), (3, .int x3), (4, .int x4), (5, .int x5), (6, .int x6)] (.null :: []) s11
        exact (Ok.no h).elim
      | some b15 =>
        show BW G tX1_fewest E 0 0 69 [(0, .ref a0), (1, .ref a1), (2, .ref a2), (3, .int x3), (4, .int x4), (5, .int x5), (6, .int x6)] (.ref b15 :: []) s11
        refine BW.run [.astore 7, .aload_n 0, .aload_n 1, .aload 7] (pc' := 75) (lv' := [(0, .ref a0), (1, .ref a1), (2, .ref a2), (3, .int x3), (4, .int x4), (5, .int x5), (6, .int x6), (7, .ref b15)]) (st' := [.ref b15, .ref a1, .ref a0]) (by decide +kernel) rfl rfl ?_
        obtain ⟨v16, ev16, h⟩ := Ok.bind h
        refine BW.getN (by decide +kernel : decode tX1_fewest.2.1 75 = .ok (.getfield 33, 3)) ciX2 (k := 1) (by decide) lkF_X1_33 (toI_V ev16) ?_
        refine BW.run [.aload 7] (pc' := 80) (lv' := [(0, .ref a0), (1, .ref a1), (2, .ref a2), (3, .int x3), (4, .int x4), (5, .int x5), (6, .int x6), (7, .ref b15)]) (st' := [.ref b15, .int v16, .ref a1, .ref a0]) (by decide +kernel) rfl rfl ?_
        obtain ⟨v17, ev17, h⟩ := Ok.bind h
        refine BW.getN (by decide +kernel : decode tX1_fewest.2.1 80 = .ok (.getfield 39, 3)) ciX2 (k := 2) (by decide) lkF_X1_39 (toI_V ev17) ?_
        refine BW.run [.aload 7] (pc' := 85) (lv' := [(0, .ref a0), (1, .ref a1), (2, .ref a2), (3, .int x3), (4, .int x4), (5, .int x5), (6, .int x6), (7, .ref b15)]) (st' := [.ref b15, .int v17, .int v16, .ref a1, .ref a0]) (by decide +kernel) rfl rfl ?_
        obtain ⟨v18, ev18, h⟩ := Ok.bind h
        refine BW.getN (by decide +kernel : decode tX1_fewest.2.1 85 = .ok (.getfield 42, 3)) ciX2 (k := 3) (by decide) lkF_X1_42 (toI_V ev18) ?_
        refine BW.callV (As := [.ref a1, .int v16, .int v17, .int v18]) (st := []) (by decide +kernel : decode tX1_fewest.2.1 88 = .ok (.invokevirtual 45, 3)) (DX1_goOver (Ok.bindK h)) mfX1_goOver lkM_X1_45 imX1_goOver selX1_goOver ciX1 (oX1_goOver (Ok.bindK h)).choose_spec rfl rfl (Nat.le_of_ble_eq_true rfl) ⟨Nat.le_trans (by decide) hRm.1, Nat.le_trans (by decide) hRm.2⟩ ⟨Nat.zero_le _, Nat.zero_le _⟩ ?_
        rintro _ s19 ⟨rfl, h⟩
        show BW G tX1_fewest E 0 0 91 [(0, .ref a0), (1, .ref a1), (2, .ref a2), (3, .int x3), (4, .int x4), (5, .int x5), (6, .int x6), (7, .ref b15)] [] s19
        refine BW.run [.aload_n 0, .aload_n 1, .aload 7] (pc' := 95) (lv' := [(0, .ref a0), (1, .ref a1), (2, .ref a2), (3, .int x3), (4, .int x4), (5, .int x5), (6, .int x6), (7, .ref b15)]) (st' := [.ref b15, .ref a1, .ref a0]) (by decide +kernel) rfl rfl ?_
        obtain ⟨v20, ev20, h⟩ := Ok.bind h
        refine BW.getN (by decide +kernel : decode tX1_fewest.2.1 95 = .ok (.getfield 39, 3)) ciX2 (k := 2) (by decide) lkF_X1_39 (toI_V ev20) ?_
        refine BW.run [.aload 7] (pc' := 100) (lv' := [(0, .ref a0), (1, .ref a1), (2, .ref a2), (3, .int x3), (4, .int x4), (5, .int x5), (6, .int x6), (7, .ref b15)]) (st' := [.ref b15, .int v20, .ref a1, .ref a0]) (by decide +kernel) rfl rfl ?_
        obtain ⟨v21, ev21, h⟩ := Ok.bind h
        refine BW.getN (by decide +kernel : decode tX1_fewest.2.1 100 = .ok (.getfield 33, 3)) ciX2 (k := 1) (by decide) lkF_X1_33 (toI_V ev21) ?_
        refine BW.run [.aload 7] (pc' := 105) (lv' := [(0, .ref a0), (1, .ref a1), (2, .ref a2), (3, .int x3), (4, .int x4), (5, .int x5), (6, .int x6), (7, .ref b15)]) (st' := [.ref b15, .int v21, .int v20, .ref a1, .ref a0]) (by decide +kernel) rfl rfl ?_
        obtain ⟨v22, ev22, h⟩ := Ok.bind h
        refine BW.getN (by decide +kernel : decode tX1_fewest.2.1 105 = .ok (.getfield 49, 3)) ciX2 (k := 4) (by decide) lkF_X1_49 (toI_V ev22) ?_
        refine BW.run [.ineg] (pc' := 109) (lv' := [(0, .ref a0), (1, .ref a1), (2, .ref a2), (3, .int x3), (4, .int x4), (5, .int x5), (6, .int x6), (7, .ref b15)]) (st' := [.int (-v22), .int v21, .int v20, .ref a1, .ref a0]) (by decide +kernel) rfl rfl ?_
        refine BW.callV (As := [.ref a1, .int v20, .int v21, .int (-v22)]) (st := []) (by decide +kernel : decode tX1_fewest.2.1 109 = .ok (.invokevirtual 45, 3)) (DX1_goOver (Ok.bindK h)) mfX1_goOver lkM_X1_45 imX1_goOver selX1_goOver ciX1 (oX1_goOver (Ok.bindK h)).choose_spec rfl rfl (Nat.le_of_ble_eq_true rfl) ⟨Nat.le_trans (by decide) hRm.1, Nat.le_trans (by decide) hRm.2⟩ ⟨Nat.zero_le _, Nat.zero_le _⟩ ?_
        rintro _ s23 ⟨rfl, h⟩
        show BW G tX1_fewest E 0 0 112 [(0, .ref a0), (1, .ref a1), (2, .ref a2), (3, .int x3), (4, .int x4), (5, .int x5), (6, .int x6), (7, .ref b15)] [] s23
        refine BW.sub [0, 1, 2, 3, 4, 5, 6] rfl ?_
        exact bX1_fewest_112 hRm hC hE h
theorem bX1_fewest_W49 {G : Cx} {E : Ev} {n : Nat} (hRm : 3 ≤ E.1.frames ∧ 71 ≤ E.1.locals) {a0 : Nat} {a1 : Nat} {a2 : Nat} {x3 : Int32} {x4 : Int32} {x5 : Int32} {K : (Sg) → Prop} (hE : ∀ (s : Sg), K s → BW G tX1_fewest E 0 0 118 [(0, .ref a0), (1, .ref a1), (2, .ref a2), (3, .int x3), (4, .int x4), (5, .int x5)] [] s) : ∀ (f : Nat) (c : Sg × Int32), Ok (loopM (mX1_fewest_L49 n a0 a1 a2 x3 x4) f c) K → match c with | (s0, x6) => BW G tX1_fewest E 0 0 49 [(0, .ref a0), (1, .ref a1), (2, .ref a2), (3, .int x3), (4, .int x4), (5, .int x5), (6, .int x6)] [] s0 := by
  intro f
  induction f with
  | zero => intro c h; exact (Ok.no h).elim
  | succ f ih =>
    intro c h
    obtain ⟨s0, x6⟩ := c
    exact bX1_fewest_L49 (P := loopP (mX1_fewest_L49 n a0 a1 a2 x3 x4) f K) hRm (fun s c6 h => ih (s, c6) h) hE (loopM_ok h)
def mX1_fewest_L21 (n : Nat) (a0 : Nat) (a1 : Nat) (a2 : Nat) (x3 : Int32) (x4 : Int32) : (Sg × Int32) → Option ((Sg × Int32) ⊕ ((Sg) ⊕ (Int32 × Sg)))
  | (s0, x5) =>
    if (12 : Int32) < x5 then (
      some (.inr (.inl s0))
    ) else (
      (toR (gV 1 s0 a0 1)).bind fun b6 =>
      (toR (gV 1 s0 a0 0)).bind fun b7 =>
      (toR (gV 1 s0 a0 0)).bind fun b8 =>
      (lenA 11 s0 b8).bind fun v9 =>
      (cpA s0 b6 (0 : Int32) b7 (0 : Int32) v9).bind fun s10 =>
      (loopM (mX1_fewest_L49 n a0 a1 a2 x3 x4) n (s10, (0 : Int32))).bind fun s24 =>
      (toI (gV 4 s24 a1 1)).bind fun v26 =>
      (mX1_isRoundTripAbove n s24 a0 v26).bind fun (v28, s27) =>
      if v28 = 0 then (
        some (.inl (s27, (x5 + (1 : Int32))))
      ) else (
        some (.inr (.inr (x5, s27)))
      )
    )
theorem bX1_fewest_L21 {G : Cx} {E : Ev} {n : Nat} (hRm : 3 ≤ E.1.frames ∧ 71 ≤ E.1.locals) {a0 : Nat} {a1 : Nat} {a2 : Nat} {x3 : Int32} {x4 : Int32} {P : (Sg × Int32) ⊕ ((Sg) ⊕ (Int32 × Sg)) → Prop} (hC : ∀ (s : Sg) (c5 : Int32), P (.inl (s, c5)) → BW G tX1_fewest E 0 0 21 [(0, .ref a0), (1, .ref a1), (2, .ref a2), (3, .int x3), (4, .int x4), (5, .int c5)] [] s) (hE : ∀ (s : Sg), P (.inr (.inl s)) → BW G tX1_fewest E 0 0 138 [] [] s) (hQ : ∀ r s, P (.inr (.inr (r, s))) → E.2.2.2.2 (some (.int r)) s) {s0 : Sg} {x5 : Int32} (h : Ok (mX1_fewest_L21 n a0 a1 a2 x3 x4 (s0, x5)) P) : BW G tX1_fewest E 0 0 21 [(0, .ref a0), (1, .ref a1), (2, .ref a2), (3, .int x3), (4, .int x4), (5, .int x5)] [] s0 := by
  unfold mX1_fewest_L21 at h
  refine BW.run [.iload 5, .bipush 12] (pc' := 25) (lv' := [(0, .ref a0), (1, .ref a1), (2, .ref a2), (3, .int x3), (4, .int x4), (5, .int x5)]) (st' := [.int (12 : Int32), .int x5]) (by decide +kernel) rfl rfl ?_
  refine BW.icmp_gt 138 (by decide +kernel : decode tX1_fewest.2.1 25 = .ok (.if_icmp .gt 113, 3)) (by decide) (fun hc => ?_) (fun hc => ?_)
  · have h := (Ok.ite h).1 hc
    refine BW.sub [] rfl ?_
    exact hE _ (Ok.some h)
  · have h := (Ok.ite h).2 hc
    refine BW.run [.aload_n 0] (pc' := 29) (lv' := [(0, .ref a0), (1, .ref a1), (2, .ref a2), (3, .int x3), (4, .int x4), (5, .int x5)]) (st' := [.ref a0]) (by decide +kernel) rfl rfl ?_
    obtain ⟨b6, eb6, h⟩ := Ok.bind h
    refine BW.get (by decide +kernel : decode tX1_fewest.2.1 29 = .ok (.getfield 15, 3)) ciX1 (k := 1) (by decide) lkF_X1_15 (toR_V eb6) ?_
    refine BW.run [.iconst 0, .aload_n 0] (pc' := 34) (lv' := [(0, .ref a0), (1, .ref a1), (2, .ref a2), (3, .int x3), (4, .int x4), (5, .int x5)]) (st' := [.ref a0, .int (0 : Int32), .ref b6]) (by decide +kernel) rfl rfl ?_
    obtain ⟨b7, eb7, h⟩ := Ok.bind h
    refine BW.get (by decide +kernel : decode tX1_fewest.2.1 34 = .ok (.getfield 9, 3)) ciX1 (k := 0) (by decide) lkF_X1_9 (toR_V eb7) ?_
    refine BW.run [.iconst 0, .aload_n 0] (pc' := 39) (lv' := [(0, .ref a0), (1, .ref a1), (2, .ref a2), (3, .int x3), (4, .int x4), (5, .int x5)]) (st' := [.ref a0, .int (0 : Int32), .ref b7, .int (0 : Int32), .ref b6]) (by decide +kernel) rfl rfl ?_
    obtain ⟨b8, eb8, h⟩ := Ok.bind h
    refine BW.get (by decide +kernel : decode tX1_fewest.2.1 39 = .ok (.getfield 9, 3)) ciX1 (k := 0) (by decide) lkF_X1_9 (toR_V eb8) ?_
    obtain ⟨v9, ev9, h⟩ := Ok.bind h
    refine BW.alen (by decide +kernel : decode tX1_fewest.2.1 42 = .ok (.arraylength, 1)) (t := 11) (by decide) ev9 ?_
    obtain ⟨s10, es10, h⟩ := Ok.bind h
    refine BW.copy (by decide +kernel : decode tX1_fewest.2.1 43 = .ok (.invokestatic 23, 3)) lkM_X1_23 na_copy st_copy in_system (Nat.le_of_ble_eq_true rfl) ⟨Nat.le_trans (by decide) hRm.1, Nat.le_trans (by decide) hRm.2⟩ es10 ?_
    refine BW.run [.iconst 0, .istore 6] (pc' := 49) (lv' := [(0, .ref a0), (1, .ref a1), (2, .ref a2), (3, .int x3), (4, .int x4), (5, .int x5), (6, .int (0 : Int32))]) (st' := []) (by decide +kernel) rfl rfl ?_
    refine bX1_fewest_W49 hRm (a0 := a0) (a1 := a1) (a2 := a2) (x3 := x3) (x4 := x4) (x5 := x5) (fun s24 h => ?_) n (s10, (0 : Int32)) (Ok.bindK h)
    refine BW.run [.aload_n 0, .aload_n 1] (pc' := 120) (lv' := [(0, .ref a0), (1, .ref a1), (2, .ref a2), (3, .int x3), (4, .int x4), (5, .int x5)]) (st' := [.ref a1, .ref a0]) (by decide +kernel) rfl rfl ?_
    obtain ⟨v26, ev26, h⟩ := Ok.bind h
    refine BW.getN (by decide +kernel : decode tX1_fewest.2.1 120 = .ok (.getfield 52, 3)) ciX4 (k := 1) (by decide) lkF_X1_52 (toI_V ev26) ?_
    refine BW.callV (As := [.int v26]) (st := []) (by decide +kernel : decode tX1_fewest.2.1 123 = .ok (.invokevirtual 55, 3)) (DX1_isRoundTripAbove (Ok.bindK h)) mfX1_isRoundTripAbove lkM_X1_55 imX1_isRoundTripAbove selX1_isRoundTripAbove ciX1 (oX1_isRoundTripAbove (Ok.bindK h)).choose_spec rfl rfl (Nat.le_of_ble_eq_true rfl) ⟨Nat.le_trans (by decide) hRm.1, Nat.le_trans (by decide) hRm.2⟩ ⟨Nat.zero_le _, Nat.zero_le _⟩ ?_
    rintro _ s27 ⟨v28, rfl, h⟩
    show BW G tX1_fewest E 0 0 126 [(0, .ref a0), (1, .ref a1), (2, .ref a2), (3, .int x3), (4, .int x4), (5, .int x5)] [.int v28] s27
    refine BW.if_eq 132 (by decide +kernel : decode tX1_fewest.2.1 126 = .ok (.ifCond .eq 6, 3)) (by decide) (fun hc => ?_) (fun hc => ?_)
    · have h := (Ok.ite h).1 hc
      refine BW.run [.iinc 5 1] (pc' := 135) (lv' := [(0, .ref a0), (1, .ref a1), (2, .ref a2), (3, .int x3), (4, .int x4), (5, .int (x5 + (1 : Int32)))]) (st' := []) (by decide +kernel) rfl rfl ?_
      refine BW.goto 21 (by decide +kernel : decode tX1_fewest.2.1 135 = .ok (.goto (-114), 3)) (by decide) ?_
      exact hC _ _ (Ok.some h)
    · have h := (Ok.ite h).2 hc
      refine BW.run [.iload 5] (pc' := 131) (lv' := [(0, .ref a0), (1, .ref a1), (2, .ref a2), (3, .int x3), (4, .int x4), (5, .int x5)]) (st' := [.int x5]) (by decide +kernel) rfl rfl ?_
      exact BW.iret (by decide +kernel : decode tX1_fewest.2.1 131 = .ok (.ireturn, 1)) rfl (Nat.zero_le _) (Nat.zero_le _) (hQ _ _ (Ok.some h))
theorem bX1_fewest_W21 {G : Cx} {E : Ev} {n : Nat} (hRm : 3 ≤ E.1.frames ∧ 71 ≤ E.1.locals) {a0 : Nat} {a1 : Nat} {a2 : Nat} {x3 : Int32} {x4 : Int32} {K : ((Sg) ⊕ (Int32 × Sg)) → Prop} (hE : ∀ (s : Sg), K (.inl s) → BW G tX1_fewest E 0 0 138 [] [] s) (hQ : ∀ r s, K (.inr (r, s)) → E.2.2.2.2 (some (.int r)) s) : ∀ (f : Nat) (c : Sg × Int32), Ok (loopM (mX1_fewest_L21 n a0 a1 a2 x3 x4) f c) K → match c with | (s0, x5) => BW G tX1_fewest E 0 0 21 [(0, .ref a0), (1, .ref a1), (2, .ref a2), (3, .int x3), (4, .int x4), (5, .int x5)] [] s0 := by
  intro f
  induction f with
  | zero => intro c h; exact (Ok.no h).elim
  | succ f ih =>
    intro c h
    obtain ⟨s0, x5⟩ := c
    exact bX1_fewest_L21 (P := loopP (mX1_fewest_L21 n a0 a1 a2 x3 x4) f K) hRm (fun s c5 h => ih (s, c5) h) hE hQ (loopM_ok h)
def mX1_fewest (n : Nat) (s0 : Sg) (a0 : Nat) (a1 : Nat) (a2 : Nat) (x3 : Int32) (x4 : Int32) : Option (Int32 × Sg) :=
  (isO 1 s0 a0).bind fun _ =>
  (toR (gV 4 s0 a1 0)).bind fun b1 =>
  (toR (gV 1 s0 a0 1)).bind fun b2 =>
  (toR (gV 1 s0 a0 1)).bind fun b3 =>
  (lenA 11 s0 b3).bind fun v4 =>
  (cpA s0 b1 (0 : Int32) b2 (0 : Int32) v4).bind fun s5 =>
  (loopM (mX1_fewest_L21 n a0 a1 a2 x3 x4) n (s5, (1 : Int32))).bind fun q31 => match q31 with
  | .inl s30 => (
    some ((-1 : Int32), s30)
  )
  | .inr (r, s) => some (r, s)
theorem bX1_fewest {G : Cx} {E : Ev} {n : Nat} (hRm : 3 ≤ E.1.frames ∧ 71 ≤ E.1.locals) {P : Int32 × Sg → Prop} (hQ : ∀ r s, P (r, s) → E.2.2.2.2 (some (.int r)) s) {s0 : Sg} {a0 : Nat} {a1 : Nat} {a2 : Nat} {x3 : Int32} {x4 : Int32} (h : Ok (mX1_fewest n s0 a0 a1 a2 x3 x4) P) : BW G tX1_fewest E 0 0 0 [(0, .ref a0), (1, .ref a1), (2, .ref a2), (3, .int x3), (4, .int x4)] [] s0 := by
  unfold mX1_fewest at h
  obtain ⟨_, _, h⟩ := Ok.bind h
  refine BW.run [.aload_n 1] (pc' := 1) (lv' := [(0, .ref a0), (1, .ref a1), (2, .ref a2), (3, .int x3), (4, .int x4)]) (st' := [.ref a1]) (by decide +kernel) rfl rfl ?_
  obtain ⟨b1, eb1, h⟩ := Ok.bind h
  refine BW.getN (by decide +kernel : decode tX1_fewest.2.1 1 = .ok (.getfield 18, 3)) ciX4 (k := 0) (by decide) lkF_X1_18 (toR_V eb1) ?_
  refine BW.run [.iconst 0, .aload_n 0] (pc' := 6) (lv' := [(0, .ref a0), (1, .ref a1), (2, .ref a2), (3, .int x3), (4, .int x4)]) (st' := [.ref a0, .int (0 : Int32), .ref b1]) (by decide +kernel) rfl rfl ?_
  obtain ⟨b2, eb2, h⟩ := Ok.bind h
  refine BW.get (by decide +kernel : decode tX1_fewest.2.1 6 = .ok (.getfield 15, 3)) ciX1 (k := 1) (by decide) lkF_X1_15 (toR_V eb2) ?_
  refine BW.run [.iconst 0, .aload_n 0] (pc' := 11) (lv' := [(0, .ref a0), (1, .ref a1), (2, .ref a2), (3, .int x3), (4, .int x4)]) (st' := [.ref a0, .int (0 : Int32), .ref b2, .int (0 : Int32), .ref b1]) (by decide +kernel) rfl rfl ?_
  obtain ⟨b3, eb3, h⟩ := Ok.bind h
  refine BW.get (by decide +kernel : decode tX1_fewest.2.1 11 = .ok (.getfield 15, 3)) ciX1 (k := 1) (by decide) lkF_X1_15 (toR_V eb3) ?_
  obtain ⟨v4, ev4, h⟩ := Ok.bind h
  refine BW.alen (by decide +kernel : decode tX1_fewest.2.1 14 = .ok (.arraylength, 1)) (t := 11) (by decide) ev4 ?_
  obtain ⟨s5, es5, h⟩ := Ok.bind h
  refine BW.copy (by decide +kernel : decode tX1_fewest.2.1 15 = .ok (.invokestatic 23, 3)) lkM_X1_23 na_copy st_copy in_system (Nat.le_of_ble_eq_true rfl) ⟨Nat.le_trans (by decide) hRm.1, Nat.le_trans (by decide) hRm.2⟩ es5 ?_
  refine BW.run [.iconst 1, .istore 5] (pc' := 21) (lv' := [(0, .ref a0), (1, .ref a1), (2, .ref a2), (3, .int x3), (4, .int x4), (5, .int (1 : Int32))]) (st' := []) (by decide +kernel) rfl rfl ?_
  refine bX1_fewest_W21 hRm (a0 := a0) (a1 := a1) (a2 := a2) (x3 := x3) (x4 := x4) (fun s30 h => ?_) (fun r s h => ?_) n (s5, (1 : Int32)) (Ok.bindK h)
  · refine BW.run [.iconst (-1)] (pc' := 139) (lv' := []) (st' := [.int (-1 : Int32)]) (by decide +kernel) rfl rfl ?_
    exact BW.iret (by decide +kernel : decode tX1_fewest.2.1 139 = .ok (.ireturn, 1)) rfl (Nat.zero_le _) (Nat.zero_le _) (hQ _ _ (Ok.some h))
  · exact hQ r s (Ok.some h)
theorem oX1_fewest {n : Nat} {P : Int32 × Sg → Prop} {s0 : Sg} {a0 : Nat} {a1 : Nat} {a2 : Nat} {x3 : Int32} {x4 : Int32} (h : Ok (mX1_fewest n s0 a0 a1 a2 x3 x4) P) : ∃ n0, s0.2.1 a0 = some (1, n0) := by
  unfold mX1_fewest at h
  exact Ok.isO h
theorem DX1_fewest {G : Cx} {n : Nat} {P : Int32 × Sg → Prop} {s0 : Sg} {a0 : Nat} {a1 : Nat} {a2 : Nat} {x3 : Int32} {x4 : Int32} (h : Ok (mX1_fewest n s0 a0 a1 a2 x3 x4) P) : BM G tX1_fewest 3 71 0 0 [.ref a0, .ref a1, .ref a2, .int x3, .int x4] s0 (fun v s => ∃ r, v = some (.int r) ∧ P (r, s)) := by
  refine BM.of (by decide +kernel) (Nat.le_of_ble_eq_true rfl) ?_
  exact bX1_fewest (E := (({ frames := 3, cells := 0, slots := 0, locals := 71 }), Aof s0, 0, 0, (fun v s => ∃ r, v = some (.int r) ∧ P (r, s)))) ⟨Nat.le_refl _, Nat.le_refl _⟩ (fun r s hp => ⟨r, rfl, hp⟩) h
def mX3_clear (n : Nat) (s0 : Sg) (a0 : Nat) : Option (Sg) :=
  (isO 3 s0 a0).bind fun _ =>
  (pV 3 s0 a0 0 (.int (-1 : Int32))).bind fun s1 =>
  (pV 3 s1 a0 1 (.int (-1 : Int32))).bind fun s2 =>
  (pV 3 s2 a0 2 (.int (-1 : Int32))).bind fun s3 =>
  (pV 3 s3 a0 3 (.int (-1 : Int32))).bind fun s4 =>
  some s4
theorem bX3_clear {G : Cx} {E : Ev} {n : Nat} (hRm : 0 ≤ E.1.frames ∧ 0 ≤ E.1.locals) {P : Sg → Prop} (hQ : ∀ s, P s → E.2.2.2.2 none s) {s0 : Sg} {a0 : Nat} (h : Ok (mX3_clear n s0 a0) P) : BW G tX3_clear E 0 0 0 [(0, .ref a0)] [] s0 := by
  unfold mX3_clear at h
  obtain ⟨_, _, h⟩ := Ok.bind h
  refine BW.run [.aload_n 0, .iconst (-1)] (pc' := 2) (lv' := [(0, .ref a0)]) (st' := [.int (-1 : Int32), .ref a0]) (by decide +kernel) rfl rfl ?_
  obtain ⟨s1, es1, h⟩ := Ok.bind h
  refine BW.put (by decide +kernel : decode tX3_clear.2.1 2 = .ok (.putfield 9, 3)) ciX3 (k := 0) (by decide) lkF_X3_9 rfl rfl rfl es1 ?_
  refine BW.run [.aload_n 0, .iconst (-1)] (pc' := 7) (lv' := [(0, .ref a0)]) (st' := [.int (-1 : Int32), .ref a0]) (by decide +kernel) rfl rfl ?_
  obtain ⟨s2, es2, h⟩ := Ok.bind h
  refine BW.put (by decide +kernel : decode tX3_clear.2.1 7 = .ok (.putfield 15, 3)) ciX3 (k := 1) (by decide) lkF_X3_15 rfl rfl rfl es2 ?_
  refine BW.run [.aload_n 0, .iconst (-1)] (pc' := 12) (lv' := [(0, .ref a0)]) (st' := [.int (-1 : Int32), .ref a0]) (by decide +kernel) rfl rfl ?_
  obtain ⟨s3, es3, h⟩ := Ok.bind h
  refine BW.put (by decide +kernel : decode tX3_clear.2.1 12 = .ok (.putfield 18, 3)) ciX3 (k := 2) (by decide) lkF_X3_18 rfl rfl rfl es3 ?_
  refine BW.run [.aload_n 0, .iconst (-1)] (pc' := 17) (lv' := [(0, .ref a0)]) (st' := [.int (-1 : Int32), .ref a0]) (by decide +kernel) rfl rfl ?_
  obtain ⟨s4, es4, h⟩ := Ok.bind h
  refine BW.put (by decide +kernel : decode tX3_clear.2.1 17 = .ok (.putfield 21, 3)) ciX3 (k := 3) (by decide) lkF_X3_21 rfl rfl rfl es4 ?_
  exact BW.vret (by decide +kernel : decode tX3_clear.2.1 20 = .ok (.return_, 1)) rfl (Nat.zero_le _) (Nat.zero_le _) (hQ _ (Ok.some h))
theorem oX3_clear {n : Nat} {P : Sg → Prop} {s0 : Sg} {a0 : Nat} (h : Ok (mX3_clear n s0 a0) P) : ∃ n0, s0.2.1 a0 = some (3, n0) := by
  unfold mX3_clear at h
  exact Ok.isO h
theorem DX3_clear {G : Cx} {n : Nat} {P : Sg → Prop} {s0 : Sg} {a0 : Nat} (h : Ok (mX3_clear n s0 a0) P) : BM G tX3_clear 0 0 0 0 [.ref a0] s0 (fun v s => v = none ∧ P s) := by
  refine BM.of (by decide +kernel) (Nat.le_of_ble_eq_true rfl) ?_
  exact bX3_clear (E := (({ frames := 0, cells := 0, slots := 0, locals := 0 }), Aof s0, 0, 0, (fun v s => v = none ∧ P s))) ⟨Nat.le_refl _, Nat.le_refl _⟩ (fun s hp => ⟨rfl, hp⟩) h
def mX3_isBetter_16 (n : Nat) (s0 : Sg)  : Option (Int32 × Sg) :=
  some ((1 : Int32), s0)
theorem bX3_isBetter_16 {G : Cx} {E : Ev} {n : Nat} (hRm : 0 ≤ E.1.frames ∧ 0 ≤ E.1.locals) {s0 : Sg}  {P : Int32 × Sg → Prop} (hQ : ∀ r s, P (r, s) → E.2.2.2.2 (some (.int r)) s) (h : Ok (mX3_isBetter_16 n s0 ) P) : BW G tX3_isBetter E 0 0 16 [] [] s0 := by
  unfold mX3_isBetter_16 at h
  refine BW.run [.iconst 1] (pc' := 17) (lv' := []) (st' := [.int (1 : Int32)]) (by decide +kernel) rfl rfl ?_
  refine BW.goto 21 (by decide +kernel : decode tX3_isBetter.2.1 17 = .ok (.goto 4, 3)) (by decide) ?_
  exact BW.zret (by decide +kernel : decode tX3_isBetter.2.1 21 = .ok (.ireturn, 1)) rfl (Or.inr rfl) (Nat.zero_le _) (Nat.zero_le _) (hQ _ _ (Ok.some h))
def mX3_isBetter (n : Nat) (s0 : Sg) (a0 : Nat) (x1 : Int32) : Option (Int32 × Sg) :=
  (isO 3 s0 a0).bind fun _ =>
  (toI (gV 3 s0 a0 3)).bind fun v1 =>
  if v1 = (-1 : Int32) then (
    mX3_isBetter_16 n s0 
  ) else (
    (toI (gV 3 s0 a0 3)).bind fun v2 =>
    if v2 ≤ x1 then (
      some ((0 : Int32), s0)
    ) else (
      mX3_isBetter_16 n s0 
    )
  )
theorem bX3_isBetter {G : Cx} {E : Ev} {n : Nat} (hRm : 0 ≤ E.1.frames ∧ 0 ≤ E.1.locals) {P : Int32 × Sg → Prop} (hQ : ∀ r s, P (r, s) → E.2.2.2.2 (some (.int r)) s) {s0 : Sg} {a0 : Nat} {x1 : Int32} (h : Ok (mX3_isBetter n s0 a0 x1) P) : BW G tX3_isBetter E 0 0 0 [(0, .ref a0), (1, .int x1)] [] s0 := by
  unfold mX3_isBetter at h
  obtain ⟨_, _, h⟩ := Ok.bind h
  refine BW.run [.aload_n 0] (pc' := 1) (lv' := [(0, .ref a0), (1, .int x1)]) (st' := [.ref a0]) (by decide +kernel) rfl rfl ?_
  obtain ⟨v1, ev1, h⟩ := Ok.bind h
  refine BW.get (by decide +kernel : decode tX3_isBetter.2.1 1 = .ok (.getfield 21, 3)) ciX3 (k := 3) (by decide) lkF_X3_21 (toI_V ev1) ?_
  refine BW.run [.iconst (-1)] (pc' := 5) (lv' := [(0, .ref a0), (1, .int x1)]) (st' := [.int (-1 : Int32), .int v1]) (by decide +kernel) rfl rfl ?_
  refine BW.icmp_eq 16 (by decide +kernel : decode tX3_isBetter.2.1 5 = .ok (.if_icmp .eq 11, 3)) (by decide) (fun hc => ?_) (fun hc => ?_)
  · have h := (Ok.ite h).1 hc
    refine BW.sub [] rfl ?_
    exact bX3_isBetter_16 hRm hQ h
  · have h := (Ok.ite h).2 hc
    refine BW.run [.iload_n 1, .aload_n 0] (pc' := 10) (lv' := [(0, .ref a0), (1, .int x1)]) (st' := [.ref a0, .int x1]) (by decide +kernel) rfl rfl ?_
    obtain ⟨v2, ev2, h⟩ := Ok.bind h
    refine BW.get (by decide +kernel : decode tX3_isBetter.2.1 10 = .ok (.getfield 21, 3)) ciX3 (k := 3) (by decide) lkF_X3_21 (toI_V ev2) ?_
    refine BW.icmp_ge 20 (by decide +kernel : decode tX3_isBetter.2.1 13 = .ok (.if_icmp .ge 7, 3)) (by decide) (fun hc => ?_) (fun hc => ?_)
    · have h := (Ok.ite h).1 hc
      refine BW.run [.iconst 0] (pc' := 21) (lv' := [(0, .ref a0), (1, .int x1)]) (st' := [.int (0 : Int32)]) (by decide +kernel) rfl rfl ?_
      exact BW.zret (by decide +kernel : decode tX3_isBetter.2.1 21 = .ok (.ireturn, 1)) rfl (Or.inl rfl) (Nat.zero_le _) (Nat.zero_le _) (hQ _ _ (Ok.some h))
    · have h := (Ok.ite h).2 hc
      refine BW.sub [] rfl ?_
      exact bX3_isBetter_16 hRm hQ h
theorem oX3_isBetter {n : Nat} {P : Int32 × Sg → Prop} {s0 : Sg} {a0 : Nat} {x1 : Int32} (h : Ok (mX3_isBetter n s0 a0 x1) P) : ∃ n0, s0.2.1 a0 = some (3, n0) := by
  unfold mX3_isBetter at h
  exact Ok.isO h
theorem DX3_isBetter {G : Cx} {n : Nat} {P : Int32 × Sg → Prop} {s0 : Sg} {a0 : Nat} {x1 : Int32} (h : Ok (mX3_isBetter n s0 a0 x1) P) : BM G tX3_isBetter 0 0 0 0 [.ref a0, .int x1] s0 (fun v s => ∃ r, v = some (.int r) ∧ P (r, s)) := by
  refine BM.of (by decide +kernel) (Nat.le_of_ble_eq_true rfl) ?_
  exact bX3_isBetter (E := (({ frames := 0, cells := 0, slots := 0, locals := 0 }), Aof s0, 0, 0, (fun v s => ∃ r, v = some (.int r) ∧ P (r, s)))) ⟨Nat.le_refl _, Nat.le_refl _⟩ (fun r s hp => ⟨r, rfl, hp⟩) h
def mX3_offer (n : Nat) (s0 : Sg) (a0 : Nat) (x1 : Int32) (x2 : Int32) (x3 : Int32) (x4 : Int32) : Option (Sg) :=
  (isO 3 s0 a0).bind fun _ =>
  (mX3_isBetter n s0 a0 x4).bind fun (v2, s1) =>
  if v2 = 0 then (
    some s1
  ) else (
    (pV 3 s1 a0 0 (.int x1)).bind fun s4 =>
    (pV 3 s4 a0 1 (.int x2)).bind fun s5 =>
    (pV 3 s5 a0 2 (.int x3)).bind fun s6 =>
    (pV 3 s6 a0 3 (.int x4)).bind fun s7 =>
    some s7
  )
theorem bX3_offer {G : Cx} {E : Ev} {n : Nat} (hRm : 1 ≤ E.1.frames ∧ 21 ≤ E.1.locals) {P : Sg → Prop} (hQ : ∀ s, P s → E.2.2.2.2 none s) {s0 : Sg} {a0 : Nat} {x1 : Int32} {x2 : Int32} {x3 : Int32} {x4 : Int32} (h : Ok (mX3_offer n s0 a0 x1 x2 x3 x4) P) : BW G tX3_offer E 0 0 0 [(0, .ref a0), (1, .int x1), (2, .int x2), (3, .int x3), (4, .int x4)] [] s0 := by
  unfold mX3_offer at h
  obtain ⟨_, _, h⟩ := Ok.bind h
  refine BW.run [.aload_n 0, .iload 4] (pc' := 3) (lv' := [(0, .ref a0), (1, .int x1), (2, .int x2), (3, .int x3), (4, .int x4)]) (st' := [.int x4, .ref a0]) (by decide +kernel) rfl rfl ?_
  refine BW.callV (As := [.int x4]) (st := []) (by decide +kernel : decode tX3_offer.2.1 3 = .ok (.invokevirtual 24, 3)) (DX3_isBetter (Ok.bindK h)) mfX3_isBetter lkM_X3_24 imX3_isBetter selX3_isBetter ciX3 (oX3_isBetter (Ok.bindK h)).choose_spec rfl rfl (Nat.le_of_ble_eq_true rfl) ⟨Nat.le_trans (by decide) hRm.1, Nat.le_trans (by decide) hRm.2⟩ ⟨Nat.zero_le _, Nat.zero_le _⟩ ?_
  rintro _ s1 ⟨v2, rfl, h⟩
  show BW G tX3_offer E 0 0 6 [(0, .ref a0), (1, .int x1), (2, .int x2), (3, .int x3), (4, .int x4)] [.int v2] s1
  refine BW.if_eq 30 (by decide +kernel : decode tX3_offer.2.1 6 = .ok (.ifCond .eq 24, 3)) (by decide) (fun hc => ?_) (fun hc => ?_)
  · have h := (Ok.ite h).1 hc
    exact BW.vret (by decide +kernel : decode tX3_offer.2.1 30 = .ok (.return_, 1)) rfl (Nat.zero_le _) (Nat.zero_le _) (hQ _ (Ok.some h))
  · have h := (Ok.ite h).2 hc
    refine BW.run [.aload_n 0, .iload_n 1] (pc' := 11) (lv' := [(0, .ref a0), (1, .int x1), (2, .int x2), (3, .int x3), (4, .int x4)]) (st' := [.int x1, .ref a0]) (by decide +kernel) rfl rfl ?_
    obtain ⟨s4, es4, h⟩ := Ok.bind h
    refine BW.put (by decide +kernel : decode tX3_offer.2.1 11 = .ok (.putfield 9, 3)) ciX3 (k := 0) (by decide) lkF_X3_9 rfl rfl rfl es4 ?_
    refine BW.run [.aload_n 0, .iload_n 2] (pc' := 16) (lv' := [(0, .ref a0), (1, .int x1), (2, .int x2), (3, .int x3), (4, .int x4)]) (st' := [.int x2, .ref a0]) (by decide +kernel) rfl rfl ?_
    obtain ⟨s5, es5, h⟩ := Ok.bind h
    refine BW.put (by decide +kernel : decode tX3_offer.2.1 16 = .ok (.putfield 15, 3)) ciX3 (k := 1) (by decide) lkF_X3_15 rfl rfl rfl es5 ?_
    refine BW.run [.aload_n 0, .iload_n 3] (pc' := 21) (lv' := [(0, .ref a0), (1, .int x1), (2, .int x2), (3, .int x3), (4, .int x4)]) (st' := [.int x3, .ref a0]) (by decide +kernel) rfl rfl ?_
    obtain ⟨s6, es6, h⟩ := Ok.bind h
    refine BW.put (by decide +kernel : decode tX3_offer.2.1 21 = .ok (.putfield 18, 3)) ciX3 (k := 2) (by decide) lkF_X3_18 rfl rfl rfl es6 ?_
    refine BW.run [.aload_n 0, .iload 4] (pc' := 27) (lv' := [(0, .ref a0), (1, .int x1), (2, .int x2), (3, .int x3), (4, .int x4)]) (st' := [.int x4, .ref a0]) (by decide +kernel) rfl rfl ?_
    obtain ⟨s7, es7, h⟩ := Ok.bind h
    refine BW.put (by decide +kernel : decode tX3_offer.2.1 27 = .ok (.putfield 21, 3)) ciX3 (k := 3) (by decide) lkF_X3_21 rfl rfl rfl es7 ?_
    exact BW.vret (by decide +kernel : decode tX3_offer.2.1 30 = .ok (.return_, 1)) rfl (Nat.zero_le _) (Nat.zero_le _) (hQ _ (Ok.some h))
theorem oX3_offer {n : Nat} {P : Sg → Prop} {s0 : Sg} {a0 : Nat} {x1 : Int32} {x2 : Int32} {x3 : Int32} {x4 : Int32} (h : Ok (mX3_offer n s0 a0 x1 x2 x3 x4) P) : ∃ n0, s0.2.1 a0 = some (3, n0) := by
  unfold mX3_offer at h
  exact Ok.isO h
theorem DX3_offer {G : Cx} {n : Nat} {P : Sg → Prop} {s0 : Sg} {a0 : Nat} {x1 : Int32} {x2 : Int32} {x3 : Int32} {x4 : Int32} (h : Ok (mX3_offer n s0 a0 x1 x2 x3 x4) P) : BM G tX3_offer 1 21 0 0 [.ref a0, .int x1, .int x2, .int x3, .int x4] s0 (fun v s => v = none ∧ P s) := by
  refine BM.of (by decide +kernel) (Nat.le_of_ble_eq_true rfl) ?_
  exact bX3_offer (E := (({ frames := 1, cells := 0, slots := 0, locals := 21 }), Aof s0, 0, 0, (fun v s => v = none ∧ P s))) ⟨Nat.le_refl _, Nat.le_refl _⟩ (fun s hp => ⟨rfl, hp⟩) h
def mX5_nextCell_62 (n : Nat) (s0 : Sg) (a0 : Nat) (x1 : Int32) (x2 : Int32) (x3 : Int32) : Option (Int32 × Sg) :=
  if x2 = (101 : Int32) then (
    (toI (gV 5 s0 a0 0)).bind fun v3 =>
    if (v3 - (1 : Int32)) ≤ x3 then (
      some (x1, s0)
    ) else (
      some ((x1 + (1 : Int32)), s0)
    )
  ) else (
    some (x1, s0)
  )
theorem bX5_nextCell_62 {G : Cx} {E : Ev} {n : Nat} (hRm : 0 ≤ E.1.frames ∧ 0 ≤ E.1.locals) {s0 : Sg} {a0 : Nat} {x1 : Int32} {x2 : Int32} {x3 : Int32} {P : Int32 × Sg → Prop} (hQ : ∀ r s, P (r, s) → E.2.2.2.2 (some (.int r)) s) (h : Ok (mX5_nextCell_62 n s0 a0 x1 x2 x3) P) : BW G tX5_nextCell E 0 0 62 [(0, .ref a0), (1, .int x1), (2, .int x2), (3, .int x3)] [] s0 := by
  unfold mX5_nextCell_62 at h
  refine BW.run [.iload_n 2, .bipush 101] (pc' := 65) (lv' := [(0, .ref a0), (1, .int x1), (2, .int x2), (3, .int x3)]) (st' := [.int (101 : Int32), .int x2]) (by decide +kernel) rfl rfl ?_
  refine BW.icmp_ne 82 (by decide +kernel : decode tX5_nextCell.2.1 65 = .ok (.if_icmp .ne 17, 3)) (by decide) (fun hc => ?_) (fun hc => ?_)
  · have h := (Ok.ite h).2 hc
    refine BW.run [.iload_n 1] (pc' := 83) (lv' := [(0, .ref a0), (1, .int x1), (2, .int x2), (3, .int x3)]) (st' := [.int x1]) (by decide +kernel) rfl rfl ?_
    exact BW.iret (by decide +kernel : decode tX5_nextCell.2.1 83 = .ok (.ireturn, 1)) rfl (Nat.zero_le _) (Nat.zero_le _) (hQ _ _ (Ok.some h))
  · have h := (Ok.ite h).1 hc
    refine BW.run [.iload_n 3, .aload_n 0] (pc' := 70) (lv' := [(0, .ref a0), (1, .int x1), (2, .int x2), (3, .int x3)]) (st' := [.ref a0, .int x3]) (by decide +kernel) rfl rfl ?_
    obtain ⟨v3, ev3, h⟩ := Ok.bind h
    refine BW.get (by decide +kernel : decode tX5_nextCell.2.1 70 = .ok (.getfield 25, 3)) ciX5 (k := 0) (by decide) lkF_X5_25 (toI_V ev3) ?_
    refine BW.run [.iconst 1, .isub] (pc' := 75) (lv' := [(0, .ref a0), (1, .int x1), (2, .int x2), (3, .int x3)]) (st' := [.int (v3 - (1 : Int32)), .int x3]) (by decide +kernel) rfl rfl ?_
    refine BW.icmp_ge 82 (by decide +kernel : decode tX5_nextCell.2.1 75 = .ok (.if_icmp .ge 7, 3)) (by decide) (fun hc => ?_) (fun hc => ?_)
    · have h := (Ok.ite h).1 hc
      refine BW.run [.iload_n 1] (pc' := 83) (lv' := [(0, .ref a0), (1, .int x1), (2, .int x2), (3, .int x3)]) (st' := [.int x1]) (by decide +kernel) rfl rfl ?_
      exact BW.iret (by decide +kernel : decode tX5_nextCell.2.1 83 = .ok (.ireturn, 1)) rfl (Nat.zero_le _) (Nat.zero_le _) (hQ _ _ (Ok.some h))
    · have h := (Ok.ite h).2 hc
      refine BW.run [.iload_n 1, .iconst 1, .iadd] (pc' := 81) (lv' := [(0, .ref a0), (1, .int x1), (2, .int x2), (3, .int x3)]) (st' := [.int (x1 + (1 : Int32))]) (by decide +kernel) rfl rfl ?_
      exact BW.iret (by decide +kernel : decode tX5_nextCell.2.1 81 = .ok (.ireturn, 1)) rfl (Nat.zero_le _) (Nat.zero_le _) (hQ _ _ (Ok.some h))
def mX5_nextCell_48 (n : Nat) (s0 : Sg) (a0 : Nat) (x1 : Int32) (x2 : Int32) (x3 : Int32) : Option (Int32 × Sg) :=
  if x2 = (119 : Int32) then (
    if x3 ≤ 0 then (
      mX5_nextCell_62 n s0 a0 x1 x2 x3
    ) else (
      some ((x1 - (1 : Int32)), s0)
    )
  ) else (
    mX5_nextCell_62 n s0 a0 x1 x2 x3
  )
theorem bX5_nextCell_48 {G : Cx} {E : Ev} {n : Nat} (hRm : 0 ≤ E.1.frames ∧ 0 ≤ E.1.locals) {s0 : Sg} {a0 : Nat} {x1 : Int32} {x2 : Int32} {x3 : Int32} {P : Int32 × Sg → Prop} (hQ : ∀ r s, P (r, s) → E.2.2.2.2 (some (.int r)) s) (h : Ok (mX5_nextCell_48 n s0 a0 x1 x2 x3) P) : BW G tX5_nextCell E 0 0 48 [(0, .ref a0), (1, .int x1), (2, .int x2), (3, .int x3)] [] s0 := by
  unfold mX5_nextCell_48 at h
  refine BW.run [.iload_n 2, .bipush 119] (pc' := 51) (lv' := [(0, .ref a0), (1, .int x1), (2, .int x2), (3, .int x3)]) (st' := [.int (119 : Int32), .int x2]) (by decide +kernel) rfl rfl ?_
  refine BW.icmp_ne 62 (by decide +kernel : decode tX5_nextCell.2.1 51 = .ok (.if_icmp .ne 11, 3)) (by decide) (fun hc => ?_) (fun hc => ?_)
  · have h := (Ok.ite h).2 hc
    exact bX5_nextCell_62 hRm hQ h
  · have h := (Ok.ite h).1 hc
    refine BW.run [.iload_n 3] (pc' := 55) (lv' := [(0, .ref a0), (1, .int x1), (2, .int x2), (3, .int x3)]) (st' := [.int x3]) (by decide +kernel) rfl rfl ?_
    refine BW.if_le 62 (by decide +kernel : decode tX5_nextCell.2.1 55 = .ok (.ifCond .le 7, 3)) (by decide) (fun hc => ?_) (fun hc => ?_)
    · have h := (Ok.ite h).1 hc
      exact bX5_nextCell_62 hRm hQ h
    · have h := (Ok.ite h).2 hc
      refine BW.run [.iload_n 1, .iconst 1, .isub] (pc' := 61) (lv' := [(0, .ref a0), (1, .int x1), (2, .int x2), (3, .int x3)]) (st' := [.int (x1 - (1 : Int32))]) (by decide +kernel) rfl rfl ?_
      exact BW.iret (by decide +kernel : decode tX5_nextCell.2.1 61 = .ok (.ireturn, 1)) rfl (Nat.zero_le _) (Nat.zero_le _) (hQ _ _ (Ok.some h))
def mX5_nextCell_26 (n : Nat) (s0 : Sg) (a0 : Nat) (x1 : Int32) (x2 : Int32) (x3 : Int32) (x4 : Int32) : Option (Int32 × Sg) :=
  if x2 = (115 : Int32) then (
    (toI (gV 5 s0 a0 1)).bind fun v4 =>
    if (v4 - (1 : Int32)) ≤ x4 then (
      mX5_nextCell_48 n s0 a0 x1 x2 x3
    ) else (
      some ((x1 + (16 : Int32)), s0)
    )
  ) else (
    mX5_nextCell_48 n s0 a0 x1 x2 x3
  )
theorem bX5_nextCell_26 {G : Cx} {E : Ev} {n : Nat} (hRm : 0 ≤ E.1.frames ∧ 0 ≤ E.1.locals) {s0 : Sg} {a0 : Nat} {x1 : Int32} {x2 : Int32} {x3 : Int32} {x4 : Int32} {P : Int32 × Sg → Prop} (hQ : ∀ r s, P (r, s) → E.2.2.2.2 (some (.int r)) s) (h : Ok (mX5_nextCell_26 n s0 a0 x1 x2 x3 x4) P) : BW G tX5_nextCell E 0 0 26 [(0, .ref a0), (1, .int x1), (2, .int x2), (3, .int x3), (4, .int x4)] [] s0 := by
  unfold mX5_nextCell_26 at h
  refine BW.run [.iload_n 2, .bipush 115] (pc' := 29) (lv' := [(0, .ref a0), (1, .int x1), (2, .int x2), (3, .int x3), (4, .int x4)]) (st' := [.int (115 : Int32), .int x2]) (by decide +kernel) rfl rfl ?_
  refine BW.icmp_ne 48 (by decide +kernel : decode tX5_nextCell.2.1 29 = .ok (.if_icmp .ne 19, 3)) (by decide) (fun hc => ?_) (fun hc => ?_)
  · have h := (Ok.ite h).2 hc
    refine BW.sub [0, 1, 2, 3] rfl ?_
    exact bX5_nextCell_48 hRm hQ h
  · have h := (Ok.ite h).1 hc
    refine BW.run [.iload 4, .aload_n 0] (pc' := 35) (lv' := [(0, .ref a0), (1, .int x1), (2, .int x2), (3, .int x3), (4, .int x4)]) (st' := [.ref a0, .int x4]) (by decide +kernel) rfl rfl ?_
    obtain ⟨v4, ev4, h⟩ := Ok.bind h
    refine BW.get (by decide +kernel : decode tX5_nextCell.2.1 35 = .ok (.getfield 28, 3)) ciX5 (k := 1) (by decide) lkF_X5_28 (toI_V ev4) ?_
    refine BW.run [.iconst 1, .isub] (pc' := 40) (lv' := [(0, .ref a0), (1, .int x1), (2, .int x2), (3, .int x3), (4, .int x4)]) (st' := [.int (v4 - (1 : Int32)), .int x4]) (by decide +kernel) rfl rfl ?_
    refine BW.icmp_ge 48 (by decide +kernel : decode tX5_nextCell.2.1 40 = .ok (.if_icmp .ge 8, 3)) (by decide) (fun hc => ?_) (fun hc => ?_)
    · have h := (Ok.ite h).1 hc
      refine BW.sub [0, 1, 2, 3] rfl ?_
      exact bX5_nextCell_48 hRm hQ h
    · have h := (Ok.ite h).2 hc
      refine BW.run [.iload_n 1, .bipush 16, .iadd] (pc' := 47) (lv' := [(0, .ref a0), (1, .int x1), (2, .int x2), (3, .int x3), (4, .int x4)]) (st' := [.int (x1 + (16 : Int32))]) (by decide +kernel) rfl rfl ?_
      exact BW.iret (by decide +kernel : decode tX5_nextCell.2.1 47 = .ok (.ireturn, 1)) rfl (Nat.zero_le _) (Nat.zero_le _) (hQ _ _ (Ok.some h))
def mX5_nextCell (n : Nat) (s0 : Sg) (a0 : Nat) (x1 : Int32) (x2 : Int32) : Option (Int32 × Sg) :=
  (isO 5 s0 a0).bind fun _ =>
  nm (x1 &&& (15 : Int32)) fun v1 =>
  nm (x1 >>> ((4 : Int32) &&& 31)) fun v2 =>
  if x2 = (110 : Int32) then (
    if v2 ≤ 0 then (
      mX5_nextCell_26 n s0 a0 x1 x2 v1 v2
    ) else (
      some ((x1 - (16 : Int32)), s0)
    )
  ) else (
    mX5_nextCell_26 n s0 a0 x1 x2 v1 v2
  )
theorem bX5_nextCell {G : Cx} {E : Ev} {n : Nat} (hRm : 0 ≤ E.1.frames ∧ 0 ≤ E.1.locals) {P : Int32 × Sg → Prop} (hQ : ∀ r s, P (r, s) → E.2.2.2.2 (some (.int r)) s) {s0 : Sg} {a0 : Nat} {x1 : Int32} {x2 : Int32} (h : Ok (mX5_nextCell n s0 a0 x1 x2) P) : BW G tX5_nextCell E 0 0 0 [(0, .ref a0), (1, .int x1), (2, .int x2)] [] s0 := by
  unfold mX5_nextCell at h
  obtain ⟨_, _, h⟩ := Ok.bind h
  refine BW.run [.iload_n 1, .bipush 15, .iand] (pc' := 4) (lv' := [(0, .ref a0), (1, .int x1), (2, .int x2)]) (st' := [.int (x1 &&& (15 : Int32))]) (by decide +kernel) rfl rfl ?_
  obtain ⟨v1, wv1, h⟩ := Ok.nm h
  refine BW.nm wv1 ?_
  refine BW.run [.istore_n 3, .iload_n 1, .iconst 4, .ishr] (pc' := 8) (lv' := [(0, .ref a0), (1, .int x1), (2, .int x2), (3, .int v1)]) (st' := [.int (x1 >>> ((4 : Int32) &&& 31))]) (by decide +kernel) rfl rfl ?_
  obtain ⟨v2, wv2, h⟩ := Ok.nm h
  refine BW.nm wv2 ?_
  refine BW.run [.istore 4, .iload_n 2, .bipush 110] (pc' := 13) (lv' := [(0, .ref a0), (1, .int x1), (2, .int x2), (3, .int v1), (4, .int v2)]) (st' := [.int (110 : Int32), .int x2]) (by decide +kernel) rfl rfl ?_
  refine BW.icmp_ne 26 (by decide +kernel : decode tX5_nextCell.2.1 13 = .ok (.if_icmp .ne 13, 3)) (by decide) (fun hc => ?_) (fun hc => ?_)
  · have h := (Ok.ite h).2 hc
    exact bX5_nextCell_26 hRm hQ h
  · have h := (Ok.ite h).1 hc
    refine BW.run [.iload 4] (pc' := 18) (lv' := [(0, .ref a0), (1, .int x1), (2, .int x2), (3, .int v1), (4, .int v2)]) (st' := [.int v2]) (by decide +kernel) rfl rfl ?_
    refine BW.if_le 26 (by decide +kernel : decode tX5_nextCell.2.1 18 = .ok (.ifCond .le 8, 3)) (by decide) (fun hc => ?_) (fun hc => ?_)
    · have h := (Ok.ite h).1 hc
      exact bX5_nextCell_26 hRm hQ h
    · have h := (Ok.ite h).2 hc
      refine BW.run [.iload_n 1, .bipush 16, .isub] (pc' := 25) (lv' := [(0, .ref a0), (1, .int x1), (2, .int x2), (3, .int v1), (4, .int v2)]) (st' := [.int (x1 - (16 : Int32))]) (by decide +kernel) rfl rfl ?_
      exact BW.iret (by decide +kernel : decode tX5_nextCell.2.1 25 = .ok (.ireturn, 1)) rfl (Nat.zero_le _) (Nat.zero_le _) (hQ _ _ (Ok.some h))
theorem oX5_nextCell {n : Nat} {P : Int32 × Sg → Prop} {s0 : Sg} {a0 : Nat} {x1 : Int32} {x2 : Int32} (h : Ok (mX5_nextCell n s0 a0 x1 x2) P) : ∃ n0, s0.2.1 a0 = some (5, n0) := by
  unfold mX5_nextCell at h
  exact Ok.isO h
theorem DX5_nextCell {G : Cx} {n : Nat} {P : Int32 × Sg → Prop} {s0 : Sg} {a0 : Nat} {x1 : Int32} {x2 : Int32} (h : Ok (mX5_nextCell n s0 a0 x1 x2) P) : BM G tX5_nextCell 0 0 0 0 [.ref a0, .int x1, .int x2] s0 (fun v s => ∃ r, v = some (.int r) ∧ P (r, s)) := by
  refine BM.of (by decide +kernel) (Nat.le_of_ble_eq_true rfl) ?_
  exact bX5_nextCell (E := (({ frames := 0, cells := 0, slots := 0, locals := 0 }), Aof s0, 0, 0, (fun v s => ∃ r, v = some (.int r) ∧ P (r, s)))) ⟨Nat.le_refl _, Nat.le_refl _⟩ (fun r s hp => ⟨r, rfl, hp⟩) h
def mX8_cellOf (n : Nat) (s0 : Sg) (a0 : Nat) (x1 : Int32) : Option (Int32 × Sg) :=
  (isO 8 s0 a0).bind fun _ =>
  if x1 < 0 then (
    some ((-1 : Int32), s0)
  ) else (
    (toI (gV 8 s0 a0 6)).bind fun v1 =>
    if v1 < x1 then (
      some ((-1 : Int32), s0)
    ) else (
      (toR (gV 8 s0 a0 2)).bind fun b2 =>
      (toI (aV 11 s0 b2 x1)).bind fun v3 =>
      some (v3, s0)
    )
  )
theorem bX8_cellOf {G : Cx} {E : Ev} {n : Nat} (hRm : 0 ≤ E.1.frames ∧ 0 ≤ E.1.locals) {P : Int32 × Sg → Prop} (hQ : ∀ r s, P (r, s) → E.2.2.2.2 (some (.int r)) s) {s0 : Sg} {a0 : Nat} {x1 : Int32} (h : Ok (mX8_cellOf n s0 a0 x1) P) : BW G tX8_cellOf E 0 0 0 [(0, .ref a0), (1, .int x1)] [] s0 := by
  unfold mX8_cellOf at h
  obtain ⟨_, _, h⟩ := Ok.bind h
  refine BW.run [.iload_n 1] (pc' := 1) (lv' := [(0, .ref a0), (1, .int x1)]) (st' := [.int x1]) (by decide +kernel) rfl rfl ?_
  refine BW.if_lt 21 (by decide +kernel : decode tX8_cellOf.2.1 1 = .ok (.ifCond .lt 20, 3)) (by decide) (fun hc => ?_) (fun hc => ?_)
  · have h := (Ok.ite h).1 hc
    refine BW.run [.iconst (-1)] (pc' := 22) (lv' := [(0, .ref a0), (1, .int x1)]) (st' := [.int (-1 : Int32)]) (by decide +kernel) rfl rfl ?_
    exact BW.iret (by decide +kernel : decode tX8_cellOf.2.1 22 = .ok (.ireturn, 1)) rfl (Nat.zero_le _) (Nat.zero_le _) (hQ _ _ (Ok.some h))
  · have h := (Ok.ite h).2 hc
    refine BW.run [.iload_n 1, .aload_n 0] (pc' := 6) (lv' := [(0, .ref a0), (1, .int x1)]) (st' := [.ref a0, .int x1]) (by decide +kernel) rfl rfl ?_
    obtain ⟨v1, ev1, h⟩ := Ok.bind h
    refine BW.get (by decide +kernel : decode tX8_cellOf.2.1 6 = .ok (.getfield 25, 3)) ciX8 (k := 6) (by decide) lkF_X8_25 (toI_V ev1) ?_
    refine BW.icmp_gt 21 (by decide +kernel : decode tX8_cellOf.2.1 9 = .ok (.if_icmp .gt 12, 3)) (by decide) (fun hc => ?_) (fun hc => ?_)
    · have h := (Ok.ite h).1 hc
      refine BW.run [.iconst (-1)] (pc' := 22) (lv' := [(0, .ref a0), (1, .int x1)]) (st' := [.int (-1 : Int32)]) (by decide +kernel) rfl rfl ?_
      exact BW.iret (by decide +kernel : decode tX8_cellOf.2.1 22 = .ok (.ireturn, 1)) rfl (Nat.zero_le _) (Nat.zero_le _) (hQ _ _ (Ok.some h))
    · have h := (Ok.ite h).2 hc
      refine BW.run [.aload_n 0] (pc' := 13) (lv' := [(0, .ref a0), (1, .int x1)]) (st' := [.ref a0]) (by decide +kernel) rfl rfl ?_
      obtain ⟨b2, eb2, h⟩ := Ok.bind h
      refine BW.get (by decide +kernel : decode tX8_cellOf.2.1 13 = .ok (.getfield 9, 3)) ciX8 (k := 2) (by decide) lkF_X8_9 (toR_V eb2) ?_
      refine BW.run [.iload_n 1] (pc' := 17) (lv' := [(0, .ref a0), (1, .int x1)]) (st' := [.int x1, .ref b2]) (by decide +kernel) rfl rfl ?_
      obtain ⟨v3, ev3, h⟩ := Ok.bind h
      refine BW.iald (by decide +kernel : decode tX8_cellOf.2.1 17 = .ok (.iaload, 1)) (toI_V ev3) ?_
      refine BW.goto 22 (by decide +kernel : decode tX8_cellOf.2.1 18 = .ok (.goto 4, 3)) (by decide) ?_
      exact BW.iret (by decide +kernel : decode tX8_cellOf.2.1 22 = .ok (.ireturn, 1)) rfl (Nat.zero_le _) (Nat.zero_le _) (hQ _ _ (Ok.some h))
theorem oX8_cellOf {n : Nat} {P : Int32 × Sg → Prop} {s0 : Sg} {a0 : Nat} {x1 : Int32} (h : Ok (mX8_cellOf n s0 a0 x1) P) : ∃ n0, s0.2.1 a0 = some (8, n0) := by
  unfold mX8_cellOf at h
  exact Ok.isO h
theorem DX8_cellOf {G : Cx} {n : Nat} {P : Int32 × Sg → Prop} {s0 : Sg} {a0 : Nat} {x1 : Int32} (h : Ok (mX8_cellOf n s0 a0 x1) P) : BM G tX8_cellOf 0 0 0 0 [.ref a0, .int x1] s0 (fun v s => ∃ r, v = some (.int r) ∧ P (r, s)) := by
  refine BM.of (by decide +kernel) (Nat.le_of_ble_eq_true rfl) ?_
  exact bX8_cellOf (E := (({ frames := 0, cells := 0, slots := 0, locals := 0 }), Aof s0, 0, 0, (fun v s => ∃ r, v = some (.int r) ∧ P (r, s)))) ⟨Nat.le_refl _, Nat.le_refl _⟩ (fun r s hp => ⟨r, rfl, hp⟩) h
def mX8_leavePrint (n : Nat) (s0 : Sg) (a0 : Nat) : Option (Sg) :=
  (isO 8 s0 a0).bind fun _ =>
  (toR (gV 8 s0 a0 2)).bind fun b1 =>
  (toI (gV 8 s0 a0 6)).bind fun v2 =>
  (toI (aV 11 s0 b1 v2)).bind fun v3 =>
  if v3 < 0 then (
    some s0
  ) else (
    if (256 : Int32) ≤ v3 then (
      some s0
    ) else (
      (toR (gV 8 s0 a0 3)).bind fun b4 =>
      (toI (gV 8 s0 a0 6)).bind fun v5 =>
      (sV 11 s0 b4 v3 (.int v5)).bind fun s6 =>
      (toI (gV 8 s6 a0 7)).bind fun v7 =>
      (pV 8 s6 a0 7 (.int (v7 + (1 : Int32)))).bind fun s8 =>
      some s8
    )
  )
theorem bX8_leavePrint {G : Cx} {E : Ev} {n : Nat} (hRm : 0 ≤ E.1.frames ∧ 0 ≤ E.1.locals) {P : Sg → Prop} (hQ : ∀ s, P s → E.2.2.2.2 none s) {s0 : Sg} {a0 : Nat} (h : Ok (mX8_leavePrint n s0 a0) P) : BW G tX8_leavePrint E 0 0 0 [(0, .ref a0)] [] s0 := by
  unfold mX8_leavePrint at h
  obtain ⟨_, _, h⟩ := Ok.bind h
  refine BW.run [.aload_n 0] (pc' := 1) (lv' := [(0, .ref a0)]) (st' := [.ref a0]) (by decide +kernel) rfl rfl ?_
  obtain ⟨b1, eb1, h⟩ := Ok.bind h
  refine BW.get (by decide +kernel : decode tX8_leavePrint.2.1 1 = .ok (.getfield 9, 3)) ciX8 (k := 2) (by decide) lkF_X8_9 (toR_V eb1) ?_
  refine BW.run [.aload_n 0] (pc' := 5) (lv' := [(0, .ref a0)]) (st' := [.ref a0, .ref b1]) (by decide +kernel) rfl rfl ?_
  obtain ⟨v2, ev2, h⟩ := Ok.bind h
  refine BW.get (by decide +kernel : decode tX8_leavePrint.2.1 5 = .ok (.getfield 25, 3)) ciX8 (k := 6) (by decide) lkF_X8_25 (toI_V ev2) ?_
  obtain ⟨v3, ev3, h⟩ := Ok.bind h
  refine BW.iald (by decide +kernel : decode tX8_leavePrint.2.1 8 = .ok (.iaload, 1)) (toI_V ev3) ?_
  refine BW.run [.istore_n 1, .iload_n 1] (pc' := 11) (lv' := [(0, .ref a0), (1, .int v3)]) (st' := [.int v3]) (by decide +kernel) rfl rfl ?_
  refine BW.if_lt 41 (by decide +kernel : decode tX8_leavePrint.2.1 11 = .ok (.ifCond .lt 30, 3)) (by decide) (fun hc => ?_) (fun hc => ?_)
  · have h := (Ok.ite h).1 hc
    exact BW.vret (by decide +kernel : decode tX8_leavePrint.2.1 41 = .ok (.return_, 1)) rfl (Nat.zero_le _) (Nat.zero_le _) (hQ _ (Ok.some h))
  · have h := (Ok.ite h).2 hc
    refine BW.run [.iload_n 1, .sipush 256] (pc' := 18) (lv' := [(0, .ref a0), (1, .int v3)]) (st' := [.int (256 : Int32), .int v3]) (by decide +kernel) rfl rfl ?_
    refine BW.icmp_ge 41 (by decide +kernel : decode tX8_leavePrint.2.1 18 = .ok (.if_icmp .ge 23, 3)) (by decide) (fun hc => ?_) (fun hc => ?_)
    · have h := (Ok.ite h).1 hc
      exact BW.vret (by decide +kernel : decode tX8_leavePrint.2.1 41 = .ok (.return_, 1)) rfl (Nat.zero_le _) (Nat.zero_le _) (hQ _ (Ok.some h))
    · have h := (Ok.ite h).2 hc
      refine BW.run [.aload_n 0] (pc' := 22) (lv' := [(0, .ref a0), (1, .int v3)]) (st' := [.ref a0]) (by decide +kernel) rfl rfl ?_
      obtain ⟨b4, eb4, h⟩ := Ok.bind h
      refine BW.get (by decide +kernel : decode tX8_leavePrint.2.1 22 = .ok (.getfield 15, 3)) ciX8 (k := 3) (by decide) lkF_X8_15 (toR_V eb4) ?_
      refine BW.run [.iload_n 1, .aload_n 0] (pc' := 27) (lv' := [(0, .ref a0), (1, .int v3)]) (st' := [.ref a0, .int v3, .ref b4]) (by decide +kernel) rfl rfl ?_
      obtain ⟨v5, ev5, h⟩ := Ok.bind h
      refine BW.get (by decide +kernel : decode tX8_leavePrint.2.1 27 = .ok (.getfield 25, 3)) ciX8 (k := 6) (by decide) lkF_X8_25 (toI_V ev5) ?_
      obtain ⟨s6, es6, h⟩ := Ok.bind h
      refine BW.iast (by decide +kernel : decode tX8_leavePrint.2.1 30 = .ok (.iastore, 1)) es6 ?_
      refine BW.run [.aload_n 0, .dup] (pc' := 33) (lv' := [(0, .ref a0), (1, .int v3)]) (st' := [.ref a0, .ref a0]) (by decide +kernel) rfl rfl ?_
      obtain ⟨v7, ev7, h⟩ := Ok.bind h
      refine BW.get (by decide +kernel : decode tX8_leavePrint.2.1 33 = .ok (.getfield 28, 3)) ciX8 (k := 7) (by decide) lkF_X8_28 (toI_V ev7) ?_
      refine BW.run [.iconst 1, .iadd] (pc' := 38) (lv' := [(0, .ref a0), (1, .int v3)]) (st' := [.int (v7 + (1 : Int32)), .ref a0]) (by decide +kernel) rfl rfl ?_
      obtain ⟨s8, es8, h⟩ := Ok.bind h
      refine BW.put (by decide +kernel : decode tX8_leavePrint.2.1 38 = .ok (.putfield 28, 3)) ciX8 (k := 7) (by decide) lkF_X8_28 rfl rfl rfl es8 ?_
      exact BW.vret (by decide +kernel : decode tX8_leavePrint.2.1 41 = .ok (.return_, 1)) rfl (Nat.zero_le _) (Nat.zero_le _) (hQ _ (Ok.some h))
theorem oX8_leavePrint {n : Nat} {P : Sg → Prop} {s0 : Sg} {a0 : Nat} (h : Ok (mX8_leavePrint n s0 a0) P) : ∃ n0, s0.2.1 a0 = some (8, n0) := by
  unfold mX8_leavePrint at h
  exact Ok.isO h
theorem DX8_leavePrint {G : Cx} {n : Nat} {P : Sg → Prop} {s0 : Sg} {a0 : Nat} (h : Ok (mX8_leavePrint n s0 a0) P) : BM G tX8_leavePrint 0 0 0 0 [.ref a0] s0 (fun v s => v = none ∧ P s) := by
  refine BM.of (by decide +kernel) (Nat.le_of_ble_eq_true rfl) ?_
  exact bX8_leavePrint (E := (({ frames := 0, cells := 0, slots := 0, locals := 0 }), Aof s0, 0, 0, (fun v s => v = none ∧ P s))) ⟨Nat.le_refl _, Nat.le_refl _⟩ (fun s hp => ⟨rfl, hp⟩) h
def mX8_come (n : Nat) (s0 : Sg) (a0 : Nat) (x1 : Int32) : Option (Sg) :=
  (isO 8 s0 a0).bind fun _ =>
  (toI (gV 8 s0 a0 6)).bind fun v1 =>
  if (60 : Int32) ≤ v1 then (
    some s0
  ) else (
    (toI (gV 8 s0 a0 6)).bind fun v2 =>
    (pV 8 s0 a0 6 (.int (v2 + (1 : Int32)))).bind fun s3 =>
    (toR (gV 8 s3 a0 2)).bind fun b4 =>
    (toI (gV 8 s3 a0 6)).bind fun v5 =>
    (sV 11 s3 b4 v5 (.int x1)).bind fun s6 =>
    (toR (gV 8 s6 a0 2)).bind fun b7 =>
    (toI (gV 8 s6 a0 6)).bind fun v8 =>
    (toI (aV 11 s6 b7 (v8 - (1 : Int32)))).bind fun v9 =>
    if x1 = v9 then (
      some s6
    ) else (
      (mX8_leavePrint n s6 a0).bind fun s10 =>
      some s10
    )
  )
theorem bX8_come {G : Cx} {E : Ev} {n : Nat} (hRm : 1 ≤ E.1.frames ∧ 21 ≤ E.1.locals) {P : Sg → Prop} (hQ : ∀ s, P s → E.2.2.2.2 none s) {s0 : Sg} {a0 : Nat} {x1 : Int32} (h : Ok (mX8_come n s0 a0 x1) P) : BW G tX8_come E 0 0 0 [(0, .ref a0), (1, .int x1)] [] s0 := by
  unfold mX8_come at h
  obtain ⟨_, _, h⟩ := Ok.bind h
  refine BW.run [.aload_n 0] (pc' := 1) (lv' := [(0, .ref a0), (1, .int x1)]) (st' := [.ref a0]) (by decide +kernel) rfl rfl ?_
  obtain ⟨v1, ev1, h⟩ := Ok.bind h
  refine BW.get (by decide +kernel : decode tX8_come.2.1 1 = .ok (.getfield 25, 3)) ciX8 (k := 6) (by decide) lkF_X8_25 (toI_V ev1) ?_
  refine BW.run [.bipush 60] (pc' := 6) (lv' := [(0, .ref a0), (1, .int x1)]) (st' := [.int (60 : Int32), .int v1]) (by decide +kernel) rfl rfl ?_
  refine BW.icmp_ge 48 (by decide +kernel : decode tX8_come.2.1 6 = .ok (.if_icmp .ge 42, 3)) (by decide) (fun hc => ?_) (fun hc => ?_)
  · have h := (Ok.ite h).1 hc
    exact BW.vret (by decide +kernel : decode tX8_come.2.1 48 = .ok (.return_, 1)) rfl (Nat.zero_le _) (Nat.zero_le _) (hQ _ (Ok.some h))
  · have h := (Ok.ite h).2 hc
    refine BW.run [.aload_n 0, .dup] (pc' := 11) (lv' := [(0, .ref a0), (1, .int x1)]) (st' := [.ref a0, .ref a0]) (by decide +kernel) rfl rfl ?_
    obtain ⟨v2, ev2, h⟩ := Ok.bind h
    refine BW.get (by decide +kernel : decode tX8_come.2.1 11 = .ok (.getfield 25, 3)) ciX8 (k := 6) (by decide) lkF_X8_25 (toI_V ev2) ?_
    refine BW.run [.iconst 1, .iadd] (pc' := 16) (lv' := [(0, .ref a0), (1, .int x1)]) (st' := [.int (v2 + (1 : Int32)), .ref a0]) (by decide +kernel) rfl rfl ?_
    obtain ⟨s3, es3, h⟩ := Ok.bind h
    refine BW.put (by decide +kernel : decode tX8_come.2.1 16 = .ok (.putfield 25, 3)) ciX8 (k := 6) (by decide) lkF_X8_25 rfl rfl rfl es3 ?_
    refine BW.run [.aload_n 0] (pc' := 20) (lv' := [(0, .ref a0), (1, .int x1)]) (st' := [.ref a0]) (by decide +kernel) rfl rfl ?_
    obtain ⟨b4, eb4, h⟩ := Ok.bind h
    refine BW.get (by decide +kernel : decode tX8_come.2.1 20 = .ok (.getfield 9, 3)) ciX8 (k := 2) (by decide) lkF_X8_9 (toR_V eb4) ?_
    refine BW.run [.aload_n 0] (pc' := 24) (lv' := [(0, .ref a0), (1, .int x1)]) (st' := [.ref a0, .ref b4]) (by decide +kernel) rfl rfl ?_
    obtain ⟨v5, ev5, h⟩ := Ok.bind h
    refine BW.get (by decide +kernel : decode tX8_come.2.1 24 = .ok (.getfield 25, 3)) ciX8 (k := 6) (by decide) lkF_X8_25 (toI_V ev5) ?_
    refine BW.run [.iload_n 1] (pc' := 28) (lv' := [(0, .ref a0), (1, .int x1)]) (st' := [.int x1, .int v5, .ref b4]) (by decide +kernel) rfl rfl ?_
    obtain ⟨s6, es6, h⟩ := Ok.bind h
    refine BW.iast (by decide +kernel : decode tX8_come.2.1 28 = .ok (.iastore, 1)) es6 ?_
    refine BW.run [.iload_n 1, .aload_n 0] (pc' := 31) (lv' := [(0, .ref a0), (1, .int x1)]) (st' := [.ref a0, .int x1]) (by decide +kernel) rfl rfl ?_
    obtain ⟨b7, eb7, h⟩ := Ok.bind h
    refine BW.get (by decide +kernel : decode tX8_come.2.1 31 = .ok (.getfield 9, 3)) ciX8 (k := 2) (by decide) lkF_X8_9 (toR_V eb7) ?_
    refine BW.run [.aload_n 0] (pc' := 35) (lv' := [(0, .ref a0), (1, .int x1)]) (st' := [.ref a0, .ref b7, .int x1]) (by decide +kernel) rfl rfl ?_
    obtain ⟨v8, ev8, h⟩ := Ok.bind h
    refine BW.get (by decide +kernel : decode tX8_come.2.1 35 = .ok (.getfield 25, 3)) ciX8 (k := 6) (by decide) lkF_X8_25 (toI_V ev8) ?_
    refine BW.run [.iconst 1, .isub] (pc' := 40) (lv' := [(0, .ref a0), (1, .int x1)]) (st' := [.int (v8 - (1 : Int32)), .ref b7, .int x1]) (by decide +kernel) rfl rfl ?_
    obtain ⟨v9, ev9, h⟩ := Ok.bind h
    refine BW.iald (by decide +kernel : decode tX8_come.2.1 40 = .ok (.iaload, 1)) (toI_V ev9) ?_
    refine BW.icmp_eq 48 (by decide +kernel : decode tX8_come.2.1 41 = .ok (.if_icmp .eq 7, 3)) (by decide) (fun hc => ?_) (fun hc => ?_)
    · have h := (Ok.ite h).1 hc
      exact BW.vret (by decide +kernel : decode tX8_come.2.1 48 = .ok (.return_, 1)) rfl (Nat.zero_le _) (Nat.zero_le _) (hQ _ (Ok.some h))
    · have h := (Ok.ite h).2 hc
      refine BW.run [.aload_n 0] (pc' := 45) (lv' := [(0, .ref a0), (1, .int x1)]) (st' := [.ref a0]) (by decide +kernel) rfl rfl ?_
      refine BW.callV (As := []) (st := []) (by decide +kernel : decode tX8_come.2.1 45 = .ok (.invokevirtual 46, 3)) (DX8_leavePrint (Ok.bindK h)) mfX8_leavePrint lkM_X8_46 imX8_leavePrint selX8_leavePrint ciX8 (oX8_leavePrint (Ok.bindK h)).choose_spec rfl rfl (Nat.le_of_ble_eq_true rfl) ⟨Nat.le_trans (by decide) hRm.1, Nat.le_trans (by decide) hRm.2⟩ ⟨Nat.zero_le _, Nat.zero_le _⟩ ?_
      rintro _ s10 ⟨rfl, h⟩
      show BW G tX8_come E 0 0 48 [(0, .ref a0), (1, .int x1)] [] s10
      exact BW.vret (by decide +kernel : decode tX8_come.2.1 48 = .ok (.return_, 1)) rfl (Nat.zero_le _) (Nat.zero_le _) (hQ _ (Ok.some h))
theorem oX8_come {n : Nat} {P : Sg → Prop} {s0 : Sg} {a0 : Nat} {x1 : Int32} (h : Ok (mX8_come n s0 a0 x1) P) : ∃ n0, s0.2.1 a0 = some (8, n0) := by
  unfold mX8_come at h
  exact Ok.isO h
theorem DX8_come {G : Cx} {n : Nat} {P : Sg → Prop} {s0 : Sg} {a0 : Nat} {x1 : Int32} (h : Ok (mX8_come n s0 a0 x1) P) : BM G tX8_come 1 21 0 0 [.ref a0, .int x1] s0 (fun v s => v = none ∧ P s) := by
  refine BM.of (by decide +kernel) (Nat.le_of_ble_eq_true rfl) ?_
  exact bX8_come (E := (({ frames := 1, cells := 0, slots := 0, locals := 21 }), Aof s0, 0, 0, (fun v s => v = none ∧ P s))) ⟨Nat.le_refl _, Nat.le_refl _⟩ (fun s hp => ⟨rfl, hp⟩) h
def mX5_move_94 (n : Nat) (s0 : Sg) (a1 : Nat) (x4 : Int32) : Option (Sg) :=
  (mX8_come n s0 a1 x4).bind fun s8 =>
  some s8
theorem bX5_move_94 {G : Cx} {E : Ev} {n : Nat} (hRm : 2 ≤ E.1.frames ∧ 42 ≤ E.1.locals) {s0 : Sg} {a1 : Nat} {x4 : Int32} {P : Sg → Prop} (hQ : ∀ s, P s → E.2.2.2.2 none s) (h : Ok (mX5_move_94 n s0 a1 x4) P) : BW G tX5_move E 0 0 94 [(1, .ref a1), (4, .int x4)] [] s0 := by
  unfold mX5_move_94 at h
  refine BW.run [.aload_n 1, .iload 4] (pc' := 97) (lv' := [(1, .ref a1), (4, .int x4)]) (st' := [.int x4, .ref a1]) (by decide +kernel) rfl rfl ?_
  refine BW.callV (As := [.int x4]) (st := []) (by decide +kernel : decode tX5_move.2.1 97 = .ok (.invokevirtual 56, 3)) (DX8_come (Ok.bindK h)) mfX8_come lkM_X5_56 imX8_come selX8_come ciX8 (oX8_come (Ok.bindK h)).choose_spec rfl rfl (Nat.le_of_ble_eq_true rfl) ⟨Nat.le_trans (by decide) hRm.1, Nat.le_trans (by decide) hRm.2⟩ ⟨Nat.zero_le _, Nat.zero_le _⟩ ?_
  rintro _ s8 ⟨rfl, h⟩
  show BW G tX5_move E 0 0 100 [(1, .ref a1), (4, .int x4)] [] s8
  exact BW.vret (by decide +kernel : decode tX5_move.2.1 100 = .ok (.return_, 1)) rfl (Nat.zero_le _) (Nat.zero_le _) (hQ _ (Ok.some h))
def mX5_move_42 (n : Nat) (s0 : Sg) (a1 : Nat) (x3 : Int32) : Option (Sg) :=
  (mX8_come n s0 a1 x3).bind fun s18 =>
  some s18
theorem bX5_move_42 {G : Cx} {E : Ev} {n : Nat} (hRm : 2 ≤ E.1.frames ∧ 42 ≤ E.1.locals) {s0 : Sg} {a1 : Nat} {x3 : Int32} {P : Sg → Prop} (hQ : ∀ s, P s → E.2.2.2.2 none s) (h : Ok (mX5_move_42 n s0 a1 x3) P) : BW G tX5_move E 0 0 42 [(1, .ref a1), (3, .int x3)] [] s0 := by
  unfold mX5_move_42 at h
  refine BW.run [.aload_n 1, .iload_n 3] (pc' := 44) (lv' := [(1, .ref a1), (3, .int x3)]) (st' := [.int x3, .ref a1]) (by decide +kernel) rfl rfl ?_
  refine BW.callV (As := [.int x3]) (st := []) (by decide +kernel : decode tX5_move.2.1 44 = .ok (.invokevirtual 56, 3)) (DX8_come (Ok.bindK h)) mfX8_come lkM_X5_56 imX8_come selX8_come ciX8 (oX8_come (Ok.bindK h)).choose_spec rfl rfl (Nat.le_of_ble_eq_true rfl) ⟨Nat.le_trans (by decide) hRm.1, Nat.le_trans (by decide) hRm.2⟩ ⟨Nat.zero_le _, Nat.zero_le _⟩ ?_
  rintro _ s18 ⟨rfl, h⟩
  show BW G tX5_move E 0 0 47 [(1, .ref a1), (3, .int x3)] [] s18
  exact BW.vret (by decide +kernel : decode tX5_move.2.1 47 = .ok (.return_, 1)) rfl (Nat.zero_le _) (Nat.zero_le _) (hQ _ (Ok.some h))
def mX5_move (n : Nat) (s0 : Sg) (a0 : Nat) (a1 : Nat) (x2 : Int32) : Option (Sg) :=
  (isO 5 s0 a0).bind fun _ =>
  (toI (gV 8 s0 a1 6)).bind fun v1 =>
  (mX8_cellOf n s0 a1 v1).bind fun (v3, s2) =>
  if x2 = (98 : Int32) then (
    (toI (gV 5 s2 a0 3)).bind fun v17 =>
    if v17 ≤ 0 then (
      mX5_move_42 n s2 a1 v3
    ) else (
      (toI (gV 5 s2 a0 3)).bind fun v19 =>
      (pV 5 s2 a0 3 (.int (v19 - (1 : Int32)))).bind fun s20 =>
      (toR (gV 5 s20 a0 2)).bind fun b21 =>
      (toI (gV 5 s20 a0 3)).bind fun v22 =>
      (toI (aV 11 s20 b21 v22)).bind fun v23 =>
      mX5_move_42 n s20 a1 v23
    )
  ) else (
    (mX5_nextCell n s2 a0 v3 x2).bind fun (v6, s5) =>
    if v6 = v3 then (
      mX5_move_94 n s5 a1 v6
    ) else (
      (toI (gV 5 s5 a0 3)).bind fun v9 =>
      (toR (gV 5 s5 a0 2)).bind fun b10 =>
      (lenA 11 s5 b10).bind fun v11 =>
      if v11 ≤ v9 then (
        mX5_move_94 n s5 a1 v6
      ) else (
        (toR (gV 5 s5 a0 2)).bind fun b12 =>
        (toI (gV 5 s5 a0 3)).bind fun v13 =>
        (sV 11 s5 b12 v13 (.int v3)).bind fun s14 =>
        (toI (gV 5 s14 a0 3)).bind fun v15 =>
        (pV 5 s14 a0 3 (.int (v15 + (1 : Int32)))).bind fun s16 =>
        mX5_move_94 n s16 a1 v6
      )
    )
  )
theorem bX5_move {G : Cx} {E : Ev} {n : Nat} (hRm : 2 ≤ E.1.frames ∧ 42 ≤ E.1.locals) {P : Sg → Prop} (hQ : ∀ s, P s → E.2.2.2.2 none s) {s0 : Sg} {a0 : Nat} {a1 : Nat} {x2 : Int32} (h : Ok (mX5_move n s0 a0 a1 x2) P) : BW G tX5_move E 0 0 0 [(0, .ref a0), (1, .ref a1), (2, .int x2)] [] s0 := by
  unfold mX5_move at h
  obtain ⟨_, _, h⟩ := Ok.bind h
  refine BW.run [.aload_n 1, .aload_n 1] (pc' := 2) (lv' := [(0, .ref a0), (1, .ref a1), (2, .int x2)]) (st' := [.ref a1, .ref a1]) (by decide +kernel) rfl rfl ?_
  obtain ⟨v1, ev1, h⟩ := Ok.bind h
  refine BW.getN (by decide +kernel : decode tX5_move.2.1 2 = .ok (.getfield 40, 3)) ciX8 (k := 6) (by decide) lkF_X5_40 (toI_V ev1) ?_
  refine BW.callV (As := [.int v1]) (st := []) (by decide +kernel : decode tX5_move.2.1 5 = .ok (.invokevirtual 53, 3)) (DX8_cellOf (Ok.bindK h)) mfX8_cellOf lkM_X5_53 imX8_cellOf selX8_cellOf ciX8 (oX8_cellOf (Ok.bindK h)).choose_spec rfl rfl (Nat.le_of_ble_eq_true rfl) ⟨Nat.le_trans (by decide) hRm.1, Nat.le_trans (by decide) hRm.2⟩ ⟨Nat.zero_le _, Nat.zero_le _⟩ ?_
  rintro _ s2 ⟨v3, rfl, h⟩
  show BW G tX5_move E 0 0 8 [(0, .ref a0), (1, .ref a1), (2, .int x2)] [.int v3] s2
  refine BW.run [.istore_n 3, .iload_n 2, .bipush 98] (pc' := 12) (lv' := [(0, .ref a0), (1, .ref a1), (2, .int x2), (3, .int v3)]) (st' := [.int (98 : Int32), .int x2]) (by decide +kernel) rfl rfl ?_
  refine BW.icmp_ne 48 (by decide +kernel : decode tX5_move.2.1 12 = .ok (.if_icmp .ne 36, 3)) (by decide) (fun hc => ?_) (fun hc => ?_)
  · have h := (Ok.ite h).2 hc
    refine BW.run [.aload_n 0, .iload_n 3, .iload_n 2] (pc' := 51) (lv' := [(0, .ref a0), (1, .ref a1), (2, .int x2), (3, .int v3)]) (st' := [.int x2, .int v3, .ref a0]) (by decide +kernel) rfl rfl ?_
    refine BW.callV (As := [.int v3, .int x2]) (st := []) (by decide +kernel : decode tX5_move.2.1 51 = .ok (.invokevirtual 60, 3)) (DX5_nextCell (Ok.bindK h)) mfX5_nextCell lkM_X5_60 imX5_nextCell selX5_nextCell ciX5 (oX5_nextCell (Ok.bindK h)).choose_spec rfl rfl (Nat.le_of_ble_eq_true rfl) ⟨Nat.le_trans (by decide) hRm.1, Nat.le_trans (by decide) hRm.2⟩ ⟨Nat.zero_le _, Nat.zero_le _⟩ ?_
    rintro _ s5 ⟨v6, rfl, h⟩
    show BW G tX5_move E 0 0 54 [(0, .ref a0), (1, .ref a1), (2, .int x2), (3, .int v3)] [.int v6] s5
    refine BW.run [.istore 4, .iload 4, .iload_n 3] (pc' := 59) (lv' := [(0, .ref a0), (1, .ref a1), (2, .int x2), (3, .int v3), (4, .int v6)]) (st' := [.int v3, .int v6]) (by decide +kernel) rfl rfl ?_
    refine BW.icmp_eq 94 (by decide +kernel : decode tX5_move.2.1 59 = .ok (.if_icmp .eq 35, 3)) (by decide) (fun hc => ?_) (fun hc => ?_)
    · have h := (Ok.ite h).1 hc
      refine BW.sub [1, 4] rfl ?_
      exact bX5_move_94 hRm hQ h
    · have h := (Ok.ite h).2 hc
      refine BW.run [.aload_n 0] (pc' := 63) (lv' := [(0, .ref a0), (1, .ref a1), (2, .int x2), (3, .int v3), (4, .int v6)]) (st' := [.ref a0]) (by decide +kernel) rfl rfl ?_
      obtain ⟨v9, ev9, h⟩ := Ok.bind h
      refine BW.get (by decide +kernel : decode tX5_move.2.1 63 = .ok (.getfield 15, 3)) ciX5 (k := 3) (by decide) lkF_X5_15 (toI_V ev9) ?_
      refine BW.run [.aload_n 0] (pc' := 67) (lv' := [(0, .ref a0), (1, .ref a1), (2, .int x2), (3, .int v3), (4, .int v6)]) (st' := [.ref a0, .int v9]) (by decide +kernel) rfl rfl ?_
      obtain ⟨b10, eb10, h⟩ := Ok.bind h
      refine BW.get (by decide +kernel : decode tX5_move.2.1 67 = .ok (.getfield 9, 3)) ciX5 (k := 2) (by decide) lkF_X5_9 (toR_V eb10) ?_
      obtain ⟨v11, ev11, h⟩ := Ok.bind h
      refine BW.alen (by decide +kernel : decode tX5_move.2.1 70 = .ok (.arraylength, 1)) (t := 11) (by decide) ev11 ?_
      refine BW.icmp_ge 94 (by decide +kernel : decode tX5_move.2.1 71 = .ok (.if_icmp .ge 23, 3)) (by decide) (fun hc => ?_) (fun hc => ?_)
      · have h := (Ok.ite h).1 hc
        refine BW.sub [1, 4] rfl ?_
        exact bX5_move_94 hRm hQ h
      · have h := (Ok.ite h).2 hc
        refine BW.run [.aload_n 0] (pc' := 75) (lv' := [(0, .ref a0), (1, .ref a1), (2, .int x2), (3, .int v3), (4, .int v6)]) (st' := [.ref a0]) (by decide +kernel) rfl rfl ?_
        obtain ⟨b12, eb12, h⟩ := Ok.bind h
        refine BW.get (by decide +kernel : decode tX5_move.2.1 75 = .ok (.getfield 9, 3)) ciX5 (k := 2) (by decide) lkF_X5_9 (toR_V eb12) ?_
        refine BW.run [.aload_n 0] (pc' := 79) (lv' := [(0, .ref a0), (1, .ref a1), (2, .int x2), (3, .int v3), (4, .int v6)]) (st' := [.ref a0, .ref b12]) (by decide +kernel) rfl rfl ?_
        obtain ⟨v13, ev13, h⟩ := Ok.bind h
        refine BW.get (by decide +kernel : decode tX5_move.2.1 79 = .ok (.getfield 15, 3)) ciX5 (k := 3) (by decide) lkF_X5_15 (toI_V ev13) ?_
        refine BW.run [.iload_n 3] (pc' := 83) (lv' := [(0, .ref a0), (1, .ref a1), (2, .int x2), (3, .int v3), (4, .int v6)]) (st' := [.int v3, .int v13, .ref b12]) (by decide +kernel) rfl rfl ?_
        obtain ⟨s14, es14, h⟩ := Ok.bind h
        refine BW.iast (by decide +kernel : decode tX5_move.2.1 83 = .ok (.iastore, 1)) es14 ?_
        refine BW.run [.aload_n 0, .dup] (pc' := 86) (lv' := [(0, .ref a0), (1, .ref a1), (2, .int x2), (3, .int v3), (4, .int v6)]) (st' := [.ref a0, .ref a0]) (by decide +kernel) rfl rfl ?_
        obtain ⟨v15, ev15, h⟩ := Ok.bind h
        refine BW.get (by decide +kernel : decode tX5_move.2.1 86 = .ok (.getfield 15, 3)) ciX5 (k := 3) (by decide) lkF_X5_15 (toI_V ev15) ?_
        refine BW.run [.iconst 1, .iadd] (pc' := 91) (lv' := [(0, .ref a0), (1, .ref a1), (2, .int x2), (3, .int v3), (4, .int v6)]) (st' := [.int (v15 + (1 : Int32)), .ref a0]) (by decide +kernel) rfl rfl ?_
        obtain ⟨s16, es16, h⟩ := Ok.bind h
        refine BW.put (by decide +kernel : decode tX5_move.2.1 91 = .ok (.putfield 15, 3)) ciX5 (k := 3) (by decide) lkF_X5_15 rfl rfl rfl es16 ?_
        refine BW.sub [1, 4] rfl ?_
        exact bX5_move_94 hRm hQ h
  · have h := (Ok.ite h).1 hc
    refine BW.run [.aload_n 0] (pc' := 16) (lv' := [(0, .ref a0), (1, .ref a1), (2, .int x2), (3, .int v3)]) (st' := [.ref a0]) (by decide +kernel) rfl rfl ?_
    obtain ⟨v17, ev17, h⟩ := Ok.bind h
    refine BW.get (by decide +kernel : decode tX5_move.2.1 16 = .ok (.getfield 15, 3)) ciX5 (k := 3) (by decide) lkF_X5_15 (toI_V ev17) ?_
    refine BW.if_le 42 (by decide +kernel : decode tX5_move.2.1 19 = .ok (.ifCond .le 23, 3)) (by decide) (fun hc => ?_) (fun hc => ?_)
    · have h := (Ok.ite h).1 hc
      refine BW.sub [1, 3] rfl ?_
      exact bX5_move_42 hRm hQ h
    · have h := (Ok.ite h).2 hc
      refine BW.run [.aload_n 0, .dup] (pc' := 24) (lv' := [(0, .ref a0), (1, .ref a1), (2, .int x2), (3, .int v3)]) (st' := [.ref a0, .ref a0]) (by decide +kernel) rfl rfl ?_
      obtain ⟨v19, ev19, h⟩ := Ok.bind h
      refine BW.get (by decide +kernel : decode tX5_move.2.1 24 = .ok (.getfield 15, 3)) ciX5 (k := 3) (by decide) lkF_X5_15 (toI_V ev19) ?_
      refine BW.run [.iconst 1, .isub] (pc' := 29) (lv' := [(0, .ref a0), (1, .ref a1), (2, .int x2), (3, .int v3)]) (st' := [.int (v19 - (1 : Int32)), .ref a0]) (by decide +kernel) rfl rfl ?_
      obtain ⟨s20, es20, h⟩ := Ok.bind h
      refine BW.put (by decide +kernel : decode tX5_move.2.1 29 = .ok (.putfield 15, 3)) ciX5 (k := 3) (by decide) lkF_X5_15 rfl rfl rfl es20 ?_
      refine BW.run [.aload_n 0] (pc' := 33) (lv' := [(0, .ref a0), (1, .ref a1), (2, .int x2), (3, .int v3)]) (st' := [.ref a0]) (by decide +kernel) rfl rfl ?_
      obtain ⟨b21, eb21, h⟩ := Ok.bind h
      refine BW.get (by decide +kernel : decode tX5_move.2.1 33 = .ok (.getfield 9, 3)) ciX5 (k := 2) (by decide) lkF_X5_9 (toR_V eb21) ?_
      refine BW.run [.aload_n 0] (pc' := 37) (lv' := [(0, .ref a0), (1, .ref a1), (2, .int x2), (3, .int v3)]) (st' := [.ref a0, .ref b21]) (by decide +kernel) rfl rfl ?_
      obtain ⟨v22, ev22, h⟩ := Ok.bind h
      refine BW.get (by decide +kernel : decode tX5_move.2.1 37 = .ok (.getfield 15, 3)) ciX5 (k := 3) (by decide) lkF_X5_15 (toI_V ev22) ?_
      obtain ⟨v23, ev23, h⟩ := Ok.bind h
      refine BW.iald (by decide +kernel : decode tX5_move.2.1 40 = .ok (.iaload, 1)) (toI_V ev23) ?_
      refine BW.run [.istore_n 3] (pc' := 42) (lv' := [(0, .ref a0), (1, .ref a1), (2, .int x2), (3, .int v23)]) (st' := []) (by decide +kernel) rfl rfl ?_
      refine BW.sub [1, 3] rfl ?_
      exact bX5_move_42 hRm hQ h
theorem oX5_move {n : Nat} {P : Sg → Prop} {s0 : Sg} {a0 : Nat} {a1 : Nat} {x2 : Int32} (h : Ok (mX5_move n s0 a0 a1 x2) P) : ∃ n0, s0.2.1 a0 = some (5, n0) := by
  unfold mX5_move at h
  exact Ok.isO h
theorem DX5_move {G : Cx} {n : Nat} {P : Sg → Prop} {s0 : Sg} {a0 : Nat} {a1 : Nat} {x2 : Int32} (h : Ok (mX5_move n s0 a0 a1 x2) P) : BM G tX5_move 2 42 0 0 [.ref a0, .ref a1, .int x2] s0 (fun v s => v = none ∧ P s) := by
  refine BM.of (by decide +kernel) (Nat.le_of_ble_eq_true rfl) ?_
  exact bX5_move (E := (({ frames := 2, cells := 0, slots := 0, locals := 42 }), Aof s0, 0, 0, (fun v s => v = none ∧ P s))) ⟨Nat.le_refl _, Nat.le_refl _⟩ (fun s hp => ⟨rfl, hp⟩) h
def mX7_byteAt (n : Nat) (s0 : Sg) (a0 : Nat) (x1 : Int32) : Option (Int32 × Sg) :=
  (isO 7 s0 a0).bind fun _ =>
  if x1 < 0 then (
    some ((0 : Int32), s0)
  ) else (
    (toI (gV 7 s0 a0 1)).bind fun v1 =>
    if v1 ≤ x1 then (
      some ((0 : Int32), s0)
    ) else (
      (toR (gV 7 s0 a0 0)).bind fun b2 =>
      (toI (aV 11 s0 b2 x1)).bind fun v3 =>
      some (v3, s0)
    )
  )
theorem bX7_byteAt {G : Cx} {E : Ev} {n : Nat} (hRm : 0 ≤ E.1.frames ∧ 0 ≤ E.1.locals) {P : Int32 × Sg → Prop} (hQ : ∀ r s, P (r, s) → E.2.2.2.2 (some (.int r)) s) {s0 : Sg} {a0 : Nat} {x1 : Int32} (h : Ok (mX7_byteAt n s0 a0 x1) P) : BW G tX7_byteAt E 0 0 0 [(0, .ref a0), (1, .int x1)] [] s0 := by
  unfold mX7_byteAt at h
  obtain ⟨_, _, h⟩ := Ok.bind h
  refine BW.run [.iload_n 1] (pc' := 1) (lv' := [(0, .ref a0), (1, .int x1)]) (st' := [.int x1]) (by decide +kernel) rfl rfl ?_
  refine BW.if_lt 21 (by decide +kernel : decode tX7_byteAt.2.1 1 = .ok (.ifCond .lt 20, 3)) (by decide) (fun hc => ?_) (fun hc => ?_)
  · have h := (Ok.ite h).1 hc
    refine BW.run [.iconst 0] (pc' := 22) (lv' := [(0, .ref a0), (1, .int x1)]) (st' := [.int (0 : Int32)]) (by decide +kernel) rfl rfl ?_
    exact BW.iret (by decide +kernel : decode tX7_byteAt.2.1 22 = .ok (.ireturn, 1)) rfl (Nat.zero_le _) (Nat.zero_le _) (hQ _ _ (Ok.some h))
  · have h := (Ok.ite h).2 hc
    refine BW.run [.iload_n 1, .aload_n 0] (pc' := 6) (lv' := [(0, .ref a0), (1, .int x1)]) (st' := [.ref a0, .int x1]) (by decide +kernel) rfl rfl ?_
    obtain ⟨v1, ev1, h⟩ := Ok.bind h
    refine BW.get (by decide +kernel : decode tX7_byteAt.2.1 6 = .ok (.getfield 15, 3)) ciX7 (k := 1) (by decide) lkF_X7_15 (toI_V ev1) ?_
    refine BW.icmp_ge 21 (by decide +kernel : decode tX7_byteAt.2.1 9 = .ok (.if_icmp .ge 12, 3)) (by decide) (fun hc => ?_) (fun hc => ?_)
    · have h := (Ok.ite h).1 hc
      refine BW.run [.iconst 0] (pc' := 22) (lv' := [(0, .ref a0), (1, .int x1)]) (st' := [.int (0 : Int32)]) (by decide +kernel) rfl rfl ?_
      exact BW.iret (by decide +kernel : decode tX7_byteAt.2.1 22 = .ok (.ireturn, 1)) rfl (Nat.zero_le _) (Nat.zero_le _) (hQ _ _ (Ok.some h))
    · have h := (Ok.ite h).2 hc
      refine BW.run [.aload_n 0] (pc' := 13) (lv' := [(0, .ref a0), (1, .int x1)]) (st' := [.ref a0]) (by decide +kernel) rfl rfl ?_
      obtain ⟨b2, eb2, h⟩ := Ok.bind h
      refine BW.get (by decide +kernel : decode tX7_byteAt.2.1 13 = .ok (.getfield 9, 3)) ciX7 (k := 0) (by decide) lkF_X7_9 (toR_V eb2) ?_
      refine BW.run [.iload_n 1] (pc' := 17) (lv' := [(0, .ref a0), (1, .int x1)]) (st' := [.int x1, .ref b2]) (by decide +kernel) rfl rfl ?_
      obtain ⟨v3, ev3, h⟩ := Ok.bind h
      refine BW.iald (by decide +kernel : decode tX7_byteAt.2.1 17 = .ok (.iaload, 1)) (toI_V ev3) ?_
      refine BW.goto 22 (by decide +kernel : decode tX7_byteAt.2.1 18 = .ok (.goto 4, 3)) (by decide) ?_
      exact BW.iret (by decide +kernel : decode tX7_byteAt.2.1 22 = .ok (.ireturn, 1)) rfl (Nat.zero_le _) (Nat.zero_le _) (hQ _ _ (Ok.some h))
theorem oX7_byteAt {n : Nat} {P : Int32 × Sg → Prop} {s0 : Sg} {a0 : Nat} {x1 : Int32} (h : Ok (mX7_byteAt n s0 a0 x1) P) : ∃ n0, s0.2.1 a0 = some (7, n0) := by
  unfold mX7_byteAt at h
  exact Ok.isO h
theorem DX7_byteAt {G : Cx} {n : Nat} {P : Int32 × Sg → Prop} {s0 : Sg} {a0 : Nat} {x1 : Int32} (h : Ok (mX7_byteAt n s0 a0 x1) P) : BM G tX7_byteAt 0 0 0 0 [.ref a0, .int x1] s0 (fun v s => ∃ r, v = some (.int r) ∧ P (r, s)) := by
  refine BM.of (by decide +kernel) (Nat.le_of_ble_eq_true rfl) ?_
  exact bX7_byteAt (E := (({ frames := 0, cells := 0, slots := 0, locals := 0 }), Aof s0, 0, 0, (fun v s => ∃ r, v = some (.int r) ∧ P (r, s)))) ⟨Nat.le_refl _, Nat.le_refl _⟩ (fun r s hp => ⟨r, rfl, hp⟩) h
def mX5_play_212 (n : Nat) (s0 : Sg) (a0 : Nat) (a1 : Nat) (a2 : Nat) (x3 : Int32) (x4 : Int32) (x5 : Int32) (x6 : Int32) : Option ((Sg × Int32 × Int32 × Int32 × Int32) ⊕ (Sg)) :=
  some (.inl (s0, x3, x4, x5, (x6 + (1 : Int32))))
theorem bX5_play_212 {G : Cx} {E : Ev} {n : Nat} (hRm : 3 ≤ E.1.frames ∧ 66 ≤ E.1.locals) {s0 : Sg} {a0 : Nat} {a1 : Nat} {a2 : Nat} {x3 : Int32} {x4 : Int32} {x5 : Int32} {x6 : Int32} {P : (Sg × Int32 × Int32 × Int32 × Int32) ⊕ (Sg) → Prop} (hC : ∀ (s : Sg) (c3 : Int32) (c4 : Int32) (c5 : Int32) (c6 : Int32), P (.inl (s, c3, c4, c5, c6)) → BW G tX5_play E 0 0 19 [(0, .ref a0), (1, .ref a1), (2, .ref a2), (3, .int c3), (4, .int c4), (5, .int c5), (6, .int c6)] [] s) (hE : ∀ (s : Sg), P (.inr s) → BW G tX5_play E 0 0 218 [] [] s)  (h : Ok (mX5_play_212 n s0 a0 a1 a2 x3 x4 x5 x6) P) : BW G tX5_play E 0 0 212 [(0, .ref a0), (1, .ref a1), (2, .ref a2), (3, .int x3), (4, .int x4), (5, .int x5), (6, .int x6)] [] s0 := by
  unfold mX5_play_212 at h
  refine BW.run [.iinc 6 1] (pc' := 215) (lv' := [(0, .ref a0), (1, .ref a1), (2, .ref a2), (3, .int x3), (4, .int x4), (5, .int x5), (6, .int (x6 + (1 : Int32)))]) (st' := []) (by decide +kernel) rfl rfl ?_
  refine BW.goto 19 (by decide +kernel : decode tX5_play.2.1 215 = .ok (.goto (-196), 3)) (by decide) ?_
  exact hC _ _ _ _ _ (Ok.some h)
def mX5_play_L189 (n : Nat) (a0 : Nat) (a2 : Nat) (x5 : Int32) (x7 : Int32) : (Sg × Int32) → Option ((Sg × Int32) ⊕ (Sg))
  | (s0, x8) =>
    if x5 ≤ x8 then (
      some (.inr s0)
    ) else (
      (mX5_move n s0 a0 a2 x7).bind fun s8 =>
      some (.inl (s8, (x8 + (1 : Int32))))
    )
theorem bX5_play_L189 {G : Cx} {E : Ev} {n : Nat} (hRm : 3 ≤ E.1.frames ∧ 66 ≤ E.1.locals) {a0 : Nat} {a1 : Nat} {a2 : Nat} {x3 : Int32} {x4 : Int32} {x5 : Int32} {x6 : Int32} {x7 : Int32} {P : (Sg × Int32) ⊕ (Sg) → Prop} (hC : ∀ (s : Sg) (c8 : Int32), P (.inl (s, c8)) → BW G tX5_play E 0 0 189 [(0, .ref a0), (1, .ref a1), (2, .ref a2), (3, .int x3), (4, .int x4), (5, .int x5), (6, .int x6), (7, .int x7), (8, .int c8)] [] s) (hE : ∀ (s : Sg), P (.inr s) → BW G tX5_play E 0 0 209 [(0, .ref a0), (1, .ref a1), (2, .ref a2), (3, .int x3), (4, .int x4), (6, .int x6)] [] s) {s0 : Sg} {x8 : Int32} (h : Ok (mX5_play_L189 n a0 a2 x5 x7 (s0, x8)) P) : BW G tX5_play E 0 0 189 [(0, .ref a0), (1, .ref a1), (2, .ref a2), (3, .int x3), (4, .int x4), (5, .int x5), (6, .int x6), (7, .int x7), (8, .int x8)] [] s0 := by
  unfold mX5_play_L189 at h
  refine BW.run [.iload 8, .iload 5] (pc' := 193) (lv' := [(0, .ref a0), (1, .ref a1), (2, .ref a2), (3, .int x3), (4, .int x4), (5, .int x5), (6, .int x6), (7, .int x7), (8, .int x8)]) (st' := [.int x5, .int x8]) (by decide +kernel) rfl rfl ?_
  refine BW.icmp_ge 209 (by decide +kernel : decode tX5_play.2.1 193 = .ok (.if_icmp .ge 16, 3)) (by decide) (fun hc => ?_) (fun hc => ?_)
  · have h := (Ok.ite h).1 hc
    refine BW.sub [0, 1, 2, 3, 4, 6] rfl ?_
    exact hE _ (Ok.some h)
  · have h := (Ok.ite h).2 hc
    refine BW.run [.aload_n 0, .aload_n 2, .iload 7] (pc' := 200) (lv' := [(0, .ref a0), (1, .ref a1), (2, .ref a2), (3, .int x3), (4, .int x4), (5, .int x5), (6, .int x6), (7, .int x7), (8, .int x8)]) (st' := [.int x7, .ref a2, .ref a0]) (by decide +kernel) rfl rfl ?_
    refine BW.callV (As := [.ref a2, .int x7]) (st := []) (by decide +kernel : decode tX5_play.2.1 200 = .ok (.invokevirtual 49, 3)) (DX5_move (Ok.bindK h)) mfX5_move lkM_X5_49 imX5_move selX5_move ciX5 (oX5_move (Ok.bindK h)).choose_spec rfl rfl (Nat.le_of_ble_eq_true rfl) ⟨Nat.le_trans (by decide) hRm.1, Nat.le_trans (by decide) hRm.2⟩ ⟨Nat.zero_le _, Nat.zero_le _⟩ ?_
    rintro _ s8 ⟨rfl, h⟩
    show BW G tX5_play E 0 0 203 [(0, .ref a0), (1, .ref a1), (2, .ref a2), (3, .int x3), (4, .int x4), (5, .int x5), (6, .int x6), (7, .int x7), (8, .int x8)] [] s8
    refine BW.run [.iinc 8 1] (pc' := 206) (lv' := [(0, .ref a0), (1, .ref a1), (2, .ref a2), (3, .int x3), (4, .int x4), (5, .int x5), (6, .int x6), (7, .int x7), (8, .int (x8 + (1 : Int32)))]) (st' := []) (by decide +kernel) rfl rfl ?_
    refine BW.goto 189 (by decide +kernel : decode tX5_play.2.1 206 = .ok (.goto (-17), 3)) (by decide) ?_
    exact hC _ _ (Ok.some h)
theorem bX5_play_W189 {G : Cx} {E : Ev} {n : Nat} (hRm : 3 ≤ E.1.frames ∧ 66 ≤ E.1.locals) {a0 : Nat} {a1 : Nat} {a2 : Nat} {x3 : Int32} {x4 : Int32} {x5 : Int32} {x6 : Int32} {x7 : Int32} {K : (Sg) → Prop} (hE : ∀ (s : Sg), K s → BW G tX5_play E 0 0 209 [(0, .ref a0), (1, .ref a1), (2, .ref a2), (3, .int x3), (4, .int x4), (6, .int x6)] [] s) : ∀ (f : Nat) (c : Sg × Int32), Ok (loopM (mX5_play_L189 n a0 a2 x5 x7) f c) K → match c with | (s0, x8) => BW G tX5_play E 0 0 189 [(0, .ref a0), (1, .ref a1), (2, .ref a2), (3, .int x3), (4, .int x4), (5, .int x5), (6, .int x6), (7, .int x7), (8, .int x8)] [] s0 := by
  intro f
  induction f with
  | zero => intro c h; exact (Ok.no h).elim
  | succ f ih =>
    intro c h
    obtain ⟨s0, x8⟩ := c
    exact bX5_play_L189 (P := loopP (mX5_play_L189 n a0 a2 x5 x7) f K) hRm (fun s c8 h => ih (s, c8) h) hE (loopM_ok h)
def mX5_play_168 (n : Nat) (s0 : Sg) (a0 : Nat) (a1 : Nat) (a2 : Nat) (x3 : Int32) (x4 : Int32) (x5 : Int32) (x6 : Int32) : Option ((Sg × Int32 × Int32 × Int32 × Int32) ⊕ (Sg)) :=
  if x4 ≤ 0 then (
    mX5_play_212 n s0 a0 a1 a2 x3 x4 x5 x6
  ) else (
    mX5_play_212 n s0 a0 a1 a2 x3 (x4 + (-1 : Int32)) x5 x6
  )
theorem bX5_play_168 {G : Cx} {E : Ev} {n : Nat} (hRm : 3 ≤ E.1.frames ∧ 66 ≤ E.1.locals) {s0 : Sg} {a0 : Nat} {a1 : Nat} {a2 : Nat} {x3 : Int32} {x4 : Int32} {x5 : Int32} {x6 : Int32} {P : (Sg × Int32 × Int32 × Int32 × Int32) ⊕ (Sg) → Prop} (hC : ∀ (s : Sg) (c3 : Int32) (c4 : Int32) (c5 : Int32) (c6 : Int32), P (.inl (s, c3, c4, c5, c6)) → BW G tX5_play E 0 0 19 [(0, .ref a0), (1, .ref a1), (2, .ref a2), (3, .int c3), (4, .int c4), (5, .int c5), (6, .int c6)] [] s) (hE : ∀ (s : Sg), P (.inr s) → BW G tX5_play E 0 0 218 [] [] s)  (h : Ok (mX5_play_168 n s0 a0 a1 a2 x3 x4 x5 x6) P) : BW G tX5_play E 0 0 168 [(0, .ref a0), (1, .ref a1), (2, .ref a2), (3, .int x3), (4, .int x4), (5, .int x5), (6, .int x6)] [] s0 := by
  unfold mX5_play_168 at h
  refine BW.run [.iload 4] (pc' := 170) (lv' := [(0, .ref a0), (1, .ref a1), (2, .ref a2), (3, .int x3), (4, .int x4), (5, .int x5), (6, .int x6)]) (st' := [.int x4]) (by decide +kernel) rfl rfl ?_
  refine BW.if_le 212 (by decide +kernel : decode tX5_play.2.1 170 = .ok (.ifCond .le 42, 3)) (by decide) (fun hc => ?_) (fun hc => ?_)
  · have h := (Ok.ite h).1 hc
    exact bX5_play_212 hRm hC hE h
  · have h := (Ok.ite h).2 hc
    refine BW.run [.iinc 4 (-1)] (pc' := 176) (lv' := [(0, .ref a0), (1, .ref a1), (2, .ref a2), (3, .int x3), (4, .int (x4 + (-1 : Int32))), (5, .int x5), (6, .int x6)]) (st' := []) (by decide +kernel) rfl rfl ?_
    refine BW.goto 212 (by decide +kernel : decode tX5_play.2.1 176 = .ok (.goto 36, 3)) (by decide) ?_
    exact bX5_play_212 hRm hC hE h
def mX5_play_112 (n : Nat) (s0 : Sg) (a0 : Nat) (a1 : Nat) (a2 : Nat) (x3 : Int32) (x4 : Int32) (x6 : Int32) : Option ((Sg × Int32 × Int32 × Int32 × Int32) ⊕ (Sg)) :=
  mX5_play_212 n s0 a0 a1 a2 x3 x4 (1 : Int32) x6
theorem bX5_play_112 {G : Cx} {E : Ev} {n : Nat} (hRm : 3 ≤ E.1.frames ∧ 66 ≤ E.1.locals) {s0 : Sg} {a0 : Nat} {a1 : Nat} {a2 : Nat} {x3 : Int32} {x4 : Int32} {x6 : Int32} {P : (Sg × Int32 × Int32 × Int32 × Int32) ⊕ (Sg) → Prop} (hC : ∀ (s : Sg) (c3 : Int32) (c4 : Int32) (c5 : Int32) (c6 : Int32), P (.inl (s, c3, c4, c5, c6)) → BW G tX5_play E 0 0 19 [(0, .ref a0), (1, .ref a1), (2, .ref a2), (3, .int c3), (4, .int c4), (5, .int c5), (6, .int c6)] [] s) (hE : ∀ (s : Sg), P (.inr s) → BW G tX5_play E 0 0 218 [] [] s)  (h : Ok (mX5_play_112 n s0 a0 a1 a2 x3 x4 x6) P) : BW G tX5_play E 0 0 112 [(0, .ref a0), (1, .ref a1), (2, .ref a2), (3, .int x3), (4, .int x4), (6, .int x6)] [] s0 := by
  unfold mX5_play_112 at h
  refine BW.run [.iconst 1, .istore 5] (pc' := 115) (lv' := [(0, .ref a0), (1, .ref a1), (2, .ref a2), (3, .int x3), (4, .int x4), (5, .int (1 : Int32)), (6, .int x6)]) (st' := []) (by decide +kernel) rfl rfl ?_
  refine BW.goto 212 (by decide +kernel : decode tX5_play.2.1 115 = .ok (.goto 97, 3)) (by decide) ?_
  exact bX5_play_212 hRm hC hE h
def mX5_play_77 (n : Nat) (s0 : Sg) (a0 : Nat) (a1 : Nat) (a2 : Nat) (x3 : Int32) (x4 : Int32) (x5 : Int32) (x6 : Int32) (x7 : Int32) : Option ((Sg × Int32 × Int32 × Int32 × Int32) ⊕ (Sg)) :=
  if x7 = (40 : Int32) then (
    if (3 : Int32) ≤ x4 then (
      mX5_play_112 n s0 a0 a1 a2 x3 x4 x6
    ) else (
      (toR (gV 5 s0 a0 4)).bind fun b18 =>
      (sV 11 s0 b18 x4 (.int x3)).bind fun s19 =>
      (toR (gV 5 s19 a0 5)).bind fun b20 =>
      (sV 11 s19 b20 x4 (.int (x5 - (1 : Int32)))).bind fun s21 =>
      mX5_play_112 n s21 a0 a1 a2 x3 (x4 + (1 : Int32)) x6
    )
  ) else (
    if x7 = (41 : Int32) then (
      if x4 ≤ 0 then (
        mX5_play_168 n s0 a0 a1 a2 x3 x4 x5 x6
      ) else (
        (toR (gV 5 s0 a0 5)).bind fun b11 =>
        (toI (aV 11 s0 b11 (x4 - (1 : Int32)))).bind fun v12 =>
        if v12 ≤ 0 then (
          mX5_play_168 n s0 a0 a1 a2 x3 x4 x5 x6
        ) else (
          (toR (gV 5 s0 a0 5)).bind fun b13 =>
          (toI (aV 11 s0 b13 (x4 - (1 : Int32)))).bind fun v14 =>
          (sV 11 s0 b13 (x4 - (1 : Int32)) (.int (v14 - (1 : Int32)))).bind fun s15 =>
          (toR (gV 5 s15 a0 4)).bind fun b16 =>
          (toI (aV 11 s15 b16 (x4 - (1 : Int32)))).bind fun v17 =>
          mX5_play_212 n s15 a0 a1 a2 v17 x4 x5 x6
        )
      )
    ) else (
      if x7 = (32 : Int32) then (
        mX5_play_212 n s0 a0 a1 a2 x3 x4 x5 x6
      ) else (
        (loopM (mX5_play_L189 n a0 a2 x5 x7) n (s0, (0 : Int32))).bind fun s9 =>
        mX5_play_212 n s9 a0 a1 a2 x3 x4 (1 : Int32) x6
      )
    )
  )
theorem bX5_play_77 {G : Cx} {E : Ev} {n : Nat} (hRm : 3 ≤ E.1.frames ∧ 66 ≤ E.1.locals) {s0 : Sg} {a0 : Nat} {a1 : Nat} {a2 : Nat} {x3 : Int32} {x4 : Int32} {x5 : Int32} {x6 : Int32} {x7 : Int32} {P : (Sg × Int32 × Int32 × Int32 × Int32) ⊕ (Sg) → Prop} (hC : ∀ (s : Sg) (c3 : Int32) (c4 : Int32) (c5 : Int32) (c6 : Int32), P (.inl (s, c3, c4, c5, c6)) → BW G tX5_play E 0 0 19 [(0, .ref a0), (1, .ref a1), (2, .ref a2), (3, .int c3), (4, .int c4), (5, .int c5), (6, .int c6)] [] s) (hE : ∀ (s : Sg), P (.inr s) → BW G tX5_play E 0 0 218 [] [] s)  (h : Ok (mX5_play_77 n s0 a0 a1 a2 x3 x4 x5 x6 x7) P) : BW G tX5_play E 0 0 77 [(0, .ref a0), (1, .ref a1), (2, .ref a2), (3, .int x3), (4, .int x4), (5, .int x5), (6, .int x6), (7, .int x7)] [] s0 := by
  unfold mX5_play_77 at h
  refine BW.run [.iload 7, .bipush 40] (pc' := 81) (lv' := [(0, .ref a0), (1, .ref a1), (2, .ref a2), (3, .int x3), (4, .int x4), (5, .int x5), (6, .int x6), (7, .int x7)]) (st' := [.int (40 : Int32), .int x7]) (by decide +kernel) rfl rfl ?_
  refine BW.icmp_ne 118 (by decide +kernel : decode tX5_play.2.1 81 = .ok (.if_icmp .ne 37, 3)) (by decide) (fun hc => ?_) (fun hc => ?_)
  · have h := (Ok.ite h).2 hc
    refine BW.run [.iload 7, .bipush 41] (pc' := 122) (lv' := [(0, .ref a0), (1, .ref a1), (2, .ref a2), (3, .int x3), (4, .int x4), (5, .int x5), (6, .int x6), (7, .int x7)]) (st' := [.int (41 : Int32), .int x7]) (by decide +kernel) rfl rfl ?_
    refine BW.icmp_ne 179 (by decide +kernel : decode tX5_play.2.1 122 = .ok (.if_icmp .ne 57, 3)) (by decide) (fun hc => ?_) (fun hc => ?_)
    · have h := (Ok.ite h).2 hc
      refine BW.run [.iload 7, .bipush 32] (pc' := 183) (lv' := [(0, .ref a0), (1, .ref a1), (2, .ref a2), (3, .int x3), (4, .int x4), (5, .int x5), (6, .int x6), (7, .int x7)]) (st' := [.int (32 : Int32), .int x7]) (by decide +kernel) rfl rfl ?_
      refine BW.icmp_eq 212 (by decide +kernel : decode tX5_play.2.1 183 = .ok (.if_icmp .eq 29, 3)) (by decide) (fun hc => ?_) (fun hc => ?_)
      · have h := (Ok.ite h).1 hc
        refine BW.sub [0, 1, 2, 3, 4, 5, 6] rfl ?_
        exact bX5_play_212 hRm hC hE h
      · have h := (Ok.ite h).2 hc
        refine BW.run [.iconst 0, .istore 8] (pc' := 189) (lv' := [(0, .ref a0), (1, .ref a1), (2, .ref a2), (3, .int x3), (4, .int x4), (5, .int x5), (6, .int x6), (7, .int x7), (8, .int (0 : Int32))]) (st' := []) (by decide +kernel) rfl rfl ?_
        refine bX5_play_W189 hRm (a0 := a0) (a1 := a1) (a2 := a2) (x3 := x3) (x4 := x4) (x5 := x5) (x6 := x6) (x7 := x7) (fun s9 h => ?_) n (s0, (0 : Int32)) (Ok.bindK h)
        refine BW.run [.iconst 1, .istore 5] (pc' := 212) (lv' := [(0, .ref a0), (1, .ref a1), (2, .ref a2), (3, .int x3), (4, .int x4), (5, .int (1 : Int32)), (6, .int x6)]) (st' := []) (by decide +kernel) rfl rfl ?_
        exact bX5_play_212 hRm hC hE h
    · have h := (Ok.ite h).1 hc
      refine BW.run [.iload 4] (pc' := 127) (lv' := [(0, .ref a0), (1, .ref a1), (2, .ref a2), (3, .int x3), (4, .int x4), (5, .int x5), (6, .int x6), (7, .int x7)]) (st' := [.int x4]) (by decide +kernel) rfl rfl ?_
      refine BW.if_le 168 (by decide +kernel : decode tX5_play.2.1 127 = .ok (.ifCond .le 41, 3)) (by decide) (fun hc => ?_) (fun hc => ?_)
      · have h := (Ok.ite h).1 hc
        refine BW.sub [0, 1, 2, 3, 4, 5, 6] rfl ?_
        exact bX5_play_168 hRm hC hE h
      · have h := (Ok.ite h).2 hc
        refine BW.run [.aload_n 0] (pc' := 131) (lv' := [(0, .ref a0), (1, .ref a1), (2, .ref a2), (3, .int x3), (4, .int x4), (5, .int x5), (6, .int x6), (7, .int x7)]) (st' := [.ref a0]) (by decide +kernel) rfl rfl ?_
        obtain ⟨b11, eb11, h⟩ := Ok.bind h
        refine BW.get (by decide +kernel : decode tX5_play.2.1 131 = .ok (.getfield 22, 3)) ciX5 (k := 5) (by decide) lkF_X5_22 (toR_V eb11) ?_
        refine BW.run [.iload 4, .iconst 1, .isub] (pc' := 138) (lv' := [(0, .ref a0), (1, .ref a1), (2, .ref a2), (3, .int x3), (4, .int x4), (5, .int x5), (6, .int x6), (7, .int x7)]) (st' := [.int (x4 - (1 : Int32)), .ref b11]) (by decide +kernel) rfl rfl ?_
        obtain ⟨v12, ev12, h⟩ := Ok.bind h
        refine BW.iald (by decide +kernel : decode tX5_play.2.1 138 = .ok (.iaload, 1)) (toI_V ev12) ?_
        refine BW.if_le 168 (by decide +kernel : decode tX5_play.2.1 139 = .ok (.ifCond .le 29, 3)) (by decide) (fun hc => ?_) (fun hc => ?_)
        · have h := (Ok.ite h).1 hc
          refine BW.sub [0, 1, 2, 3, 4, 5, 6] rfl ?_
          exact bX5_play_168 hRm hC hE h
        · have h := (Ok.ite h).2 hc
          refine BW.run [.aload_n 0] (pc' := 143) (lv' := [(0, .ref a0), (1, .ref a1), (2, .ref a2), (3, .int x3), (4, .int x4), (5, .int x5), (6, .int x6), (7, .int x7)]) (st' := [.ref a0]) (by decide +kernel) rfl rfl ?_
          obtain ⟨b13, eb13, h⟩ := Ok.bind h
          refine BW.get (by decide +kernel : decode tX5_play.2.1 143 = .ok (.getfield 22, 3)) ciX5 (k := 5) (by decide) lkF_X5_22 (toR_V eb13) ?_
          refine BW.run [.iload 4, .iconst 1, .isub, .dup2] (pc' := 151) (lv' := [(0, .ref a0), (1, .ref a1), (2, .ref a2), (3, .int x3), (4, .int x4), (5, .int x5), (6, .int x6), (7, .int x7)]) (st' := [.int (x4 - (1 : Int32)), .ref b13, .int (x4 - (1 : Int32)), .ref b13]) (by decide +kernel) rfl rfl ?_
          obtain ⟨v14, ev14, h⟩ := Ok.bind h
          refine BW.iald (by decide +kernel : decode tX5_play.2.1 151 = .ok (.iaload, 1)) (toI_V ev14) ?_
          refine BW.run [.iconst 1, .isub] (pc' := 154) (lv' := [(0, .ref a0), (1, .ref a1), (2, .ref a2), (3, .int x3), (4, .int x4), (5, .int x5), (6, .int x6), (7, .int x7)]) (st' := [.int (v14 - (1 : Int32)), .int (x4 - (1 : Int32)), .ref b13]) (by decide +kernel) rfl rfl ?_
          obtain ⟨s15, es15, h⟩ := Ok.bind h
          refine BW.iast (by decide +kernel : decode tX5_play.2.1 154 = .ok (.iastore, 1)) es15 ?_
          refine BW.run [.aload_n 0] (pc' := 156) (lv' := [(0, .ref a0), (1, .ref a1), (2, .ref a2), (3, .int x3), (4, .int x4), (5, .int x5), (6, .int x6), (7, .int x7)]) (st' := [.ref a0]) (by decide +kernel) rfl rfl ?_
          obtain ⟨b16, eb16, h⟩ := Ok.bind h
          refine BW.get (by decide +kernel : decode tX5_play.2.1 156 = .ok (.getfield 19, 3)) ciX5 (k := 4) (by decide) lkF_X5_19 (toR_V eb16) ?_
          refine BW.run [.iload 4, .iconst 1, .isub] (pc' := 163) (lv' := [(0, .ref a0), (1, .ref a1), (2, .ref a2), (3, .int x3), (4, .int x4), (5, .int x5), (6, .int x6), (7, .int x7)]) (st' := [.int (x4 - (1 : Int32)), .ref b16]) (by decide +kernel) rfl rfl ?_
          obtain ⟨v17, ev17, h⟩ := Ok.bind h
          refine BW.iald (by decide +kernel : decode tX5_play.2.1 163 = .ok (.iaload, 1)) (toI_V ev17) ?_
          refine BW.run [.istore_n 3] (pc' := 165) (lv' := [(0, .ref a0), (1, .ref a1), (2, .ref a2), (3, .int v17), (4, .int x4), (5, .int x5), (6, .int x6), (7, .int x7)]) (st' := []) (by decide +kernel) rfl rfl ?_
          refine BW.goto 212 (by decide +kernel : decode tX5_play.2.1 165 = .ok (.goto 47, 3)) (by decide) ?_
          refine BW.sub [0, 1, 2, 3, 4, 5, 6] rfl ?_
          exact bX5_play_212 hRm hC hE h
  · have h := (Ok.ite h).1 hc
    refine BW.run [.iload 4, .iconst 3] (pc' := 87) (lv' := [(0, .ref a0), (1, .ref a1), (2, .ref a2), (3, .int x3), (4, .int x4), (5, .int x5), (6, .int x6), (7, .int x7)]) (st' := [.int (3 : Int32), .int x4]) (by decide +kernel) rfl rfl ?_
    refine BW.icmp_ge 112 (by decide +kernel : decode tX5_play.2.1 87 = .ok (.if_icmp .ge 25, 3)) (by decide) (fun hc => ?_) (fun hc => ?_)
    · have h := (Ok.ite h).1 hc
      refine BW.sub [0, 1, 2, 3, 4, 6] rfl ?_
      exact bX5_play_112 hRm hC hE h
    · have h := (Ok.ite h).2 hc
      refine BW.run [.aload_n 0] (pc' := 91) (lv' := [(0, .ref a0), (1, .ref a1), (2, .ref a2), (3, .int x3), (4, .int x4), (5, .int x5), (6, .int x6), (7, .int x7)]) (st' := [.ref a0]) (by decide +kernel) rfl rfl ?_
      obtain ⟨b18, eb18, h⟩ := Ok.bind h
      refine BW.get (by decide +kernel : decode tX5_play.2.1 91 = .ok (.getfield 19, 3)) ciX5 (k := 4) (by decide) lkF_X5_19 (toR_V eb18) ?_
      refine BW.run [.iload 4, .iload_n 3] (pc' := 97) (lv' := [(0, .ref a0), (1, .ref a1), (2, .ref a2), (3, .int x3), (4, .int x4), (5, .int x5), (6, .int x6), (7, .int x7)]) (st' := [.int x3, .int x4, .ref b18]) (by decide +kernel) rfl rfl ?_
      obtain ⟨s19, es19, h⟩ := Ok.bind h
      refine BW.iast (by decide +kernel : decode tX5_play.2.1 97 = .ok (.iastore, 1)) es19 ?_
      refine BW.run [.aload_n 0] (pc' := 99) (lv' := [(0, .ref a0), (1, .ref a1), (2, .ref a2), (3, .int x3), (4, .int x4), (5, .int x5), (6, .int x6), (7, .int x7)]) (st' := [.ref a0]) (by decide +kernel) rfl rfl ?_
      obtain ⟨b20, eb20, h⟩ := Ok.bind h
      refine BW.get (by decide +kernel : decode tX5_play.2.1 99 = .ok (.getfield 22, 3)) ciX5 (k := 5) (by decide) lkF_X5_22 (toR_V eb20) ?_
      refine BW.run [.iload 4, .iload 5, .iconst 1, .isub] (pc' := 108) (lv' := [(0, .ref a0), (1, .ref a1), (2, .ref a2), (3, .int x3), (4, .int x4), (5, .int x5), (6, .int x6), (7, .int x7)]) (st' := [.int (x5 - (1 : Int32)), .int x4, .ref b20]) (by decide +kernel) rfl rfl ?_
      obtain ⟨s21, es21, h⟩ := Ok.bind h
      refine BW.iast (by decide +kernel : decode tX5_play.2.1 108 = .ok (.iastore, 1)) es21 ?_
      refine BW.run [.iinc 4 1] (pc' := 112) (lv' := [(0, .ref a0), (1, .ref a1), (2, .ref a2), (3, .int x3), (4, .int (x4 + (1 : Int32))), (5, .int x5), (6, .int x6), (7, .int x7)]) (st' := []) (by decide +kernel) rfl rfl ?_
      refine BW.sub [0, 1, 2, 3, 4, 6] rfl ?_
      exact bX5_play_112 hRm hC hE h
def mX5_play_L19 (n : Nat) (a0 : Nat) (a1 : Nat) (a2 : Nat) : (Sg × Int32 × Int32 × Int32 × Int32) → Option ((Sg × Int32 × Int32 × Int32 × Int32) ⊕ (Sg))
  | (s0, x3, x4, x5, x6) =>
    if (1000000 : Int32) ≤ x6 then (
      some (.inr s0)
    ) else (
      (toI (gV 7 s0 a1 1)).bind fun v3 =>
      if v3 ≤ x3 then (
        some (.inr s0)
      ) else (
        (toI (gV 8 s0 a2 6)).bind fun v4 =>
        if (60 : Int32) ≤ v4 then (
          some (.inr s0)
        ) else (
          (mX7_byteAt n s0 a1 x3).bind fun (v6, s5) =>
          if v6 < (50 : Int32) then (
            mX5_play_77 n s5 a0 a1 a2 (x3 + (1 : Int32)) x4 x5 x6 v6
          ) else (
            if (57 : Int32) < v6 then (
              mX5_play_77 n s5 a0 a1 a2 (x3 + (1 : Int32)) x4 x5 x6 v6
            ) else (
              nm (v6 - (48 : Int32)) fun v22 =>
              mX5_play_212 n s5 a0 a1 a2 (x3 + (1 : Int32)) x4 v22 x6
            )
          )
        )
      )
    )
theorem bX5_play_L19 {G : Cx} {E : Ev} {n : Nat} (hRm : 3 ≤ E.1.frames ∧ 66 ≤ E.1.locals) {a0 : Nat} {a1 : Nat} {a2 : Nat} {P : (Sg × Int32 × Int32 × Int32 × Int32) ⊕ (Sg) → Prop} (hC : ∀ (s : Sg) (c3 : Int32) (c4 : Int32) (c5 : Int32) (c6 : Int32), P (.inl (s, c3, c4, c5, c6)) → BW G tX5_play E 0 0 19 [(0, .ref a0), (1, .ref a1), (2, .ref a2), (3, .int c3), (4, .int c4), (5, .int c5), (6, .int c6)] [] s) (hE : ∀ (s : Sg), P (.inr s) → BW G tX5_play E 0 0 218 [] [] s) {s0 : Sg} {x3 : Int32} {x4 : Int32} {x5 : Int32} {x6 : Int32} (h : Ok (mX5_play_L19 n a0 a1 a2 (s0, x3, x4, x5, x6)) P) : BW G tX5_play E 0 0 19 [(0, .ref a0), (1, .ref a1), (2, .ref a2), (3, .int x3), (4, .int x4), (5, .int x5), (6, .int x6)] [] s0 := by
  unfold mX5_play_L19 at h
  refine BW.run [.iload 6] (pc' := 21) (lv' := [(0, .ref a0), (1, .ref a1), (2, .ref a2), (3, .int x3), (4, .int x4), (5, .int x5), (6, .int x6)]) (st' := [.int x6]) (by decide +kernel) rfl rfl ?_
  refine BW.ldc (by decide +kernel : decode tX5_play.2.1 21 = .ok (.ldc 36, 2)) (x := (1000000 : Int32)) lkK_X5_36 ?_
  refine BW.icmp_ge 218 (by decide +kernel : decode tX5_play.2.1 23 = .ok (.if_icmp .ge 195, 3)) (by decide) (fun hc => ?_) (fun hc => ?_)
  · have h := (Ok.ite h).1 hc
    refine BW.sub [] rfl ?_
    exact hE _ (Ok.some h)
  · have h := (Ok.ite h).2 hc
    refine BW.run [.iload_n 3, .aload_n 1] (pc' := 28) (lv' := [(0, .ref a0), (1, .ref a1), (2, .ref a2), (3, .int x3), (4, .int x4), (5, .int x5), (6, .int x6)]) (st' := [.ref a1, .int x3]) (by decide +kernel) rfl rfl ?_
    obtain ⟨v3, ev3, h⟩ := Ok.bind h
    refine BW.getN (by decide +kernel : decode tX5_play.2.1 28 = .ok (.getfield 37, 3)) ciX7 (k := 1) (by decide) lkF_X5_37 (toI_V ev3) ?_
    refine BW.icmp_ge 218 (by decide +kernel : decode tX5_play.2.1 31 = .ok (.if_icmp .ge 187, 3)) (by decide) (fun hc => ?_) (fun hc => ?_)
    · have h := (Ok.ite h).1 hc
      refine BW.sub [] rfl ?_
      exact hE _ (Ok.some h)
    · have h := (Ok.ite h).2 hc
      refine BW.run [.aload_n 2] (pc' := 35) (lv' := [(0, .ref a0), (1, .ref a1), (2, .ref a2), (3, .int x3), (4, .int x4), (5, .int x5), (6, .int x6)]) (st' := [.ref a2]) (by decide +kernel) rfl rfl ?_
      obtain ⟨v4, ev4, h⟩ := Ok.bind h
      refine BW.getN (by decide +kernel : decode tX5_play.2.1 35 = .ok (.getfield 40, 3)) ciX8 (k := 6) (by decide) lkF_X5_40 (toI_V ev4) ?_
      refine BW.run [.bipush 60] (pc' := 40) (lv' := [(0, .ref a0), (1, .ref a1), (2, .ref a2), (3, .int x3), (4, .int x4), (5, .int x5), (6, .int x6)]) (st' := [.int (60 : Int32), .int v4]) (by decide +kernel) rfl rfl ?_
      refine BW.icmp_ge 218 (by decide +kernel : decode tX5_play.2.1 40 = .ok (.if_icmp .ge 178, 3)) (by decide) (fun hc => ?_) (fun hc => ?_)
      · have h := (Ok.ite h).1 hc
        refine BW.sub [] rfl ?_
        exact hE _ (Ok.some h)
      · have h := (Ok.ite h).2 hc
        refine BW.run [.aload_n 1, .iload_n 3] (pc' := 45) (lv' := [(0, .ref a0), (1, .ref a1), (2, .ref a2), (3, .int x3), (4, .int x4), (5, .int x5), (6, .int x6)]) (st' := [.int x3, .ref a1]) (by decide +kernel) rfl rfl ?_
        refine BW.callV (As := [.int x3]) (st := []) (by decide +kernel : decode tX5_play.2.1 45 = .ok (.invokevirtual 45, 3)) (DX7_byteAt (Ok.bindK h)) mfX7_byteAt lkM_X5_45 imX7_byteAt selX7_byteAt ciX7 (oX7_byteAt (Ok.bindK h)).choose_spec rfl rfl (Nat.le_of_ble_eq_true rfl) ⟨Nat.le_trans (by decide) hRm.1, Nat.le_trans (by decide) hRm.2⟩ ⟨Nat.zero_le _, Nat.zero_le _⟩ ?_
        rintro _ s5 ⟨v6, rfl, h⟩
        show BW G tX5_play E 0 0 48 [(0, .ref a0), (1, .ref a1), (2, .ref a2), (3, .int x3), (4, .int x4), (5, .int x5), (6, .int x6)] [.int v6] s5
        refine BW.run [.istore 7, .iinc 3 1, .iload 7, .bipush 50] (pc' := 57) (lv' := [(0, .ref a0), (1, .ref a1), (2, .ref a2), (3, .int (x3 + (1 : Int32))), (4, .int x4), (5, .int x5), (6, .int x6), (7, .int v6)]) (st' := [.int (50 : Int32), .int v6]) (by decide +kernel) rfl rfl ?_
        refine BW.icmp_lt 77 (by decide +kernel : decode tX5_play.2.1 57 = .ok (.if_icmp .lt 20, 3)) (by decide) (fun hc => ?_) (fun hc => ?_)
        · have h := (Ok.ite h).1 hc
          exact bX5_play_77 hRm hC hE h
        · have h := (Ok.ite h).2 hc
          refine BW.run [.iload 7, .bipush 57] (pc' := 64) (lv' := [(0, .ref a0), (1, .ref a1), (2, .ref a2), (3, .int (x3 + (1 : Int32))), (4, .int x4), (5, .int x5), (6, .int x6), (7, .int v6)]) (st' := [.int (57 : Int32), .int v6]) (by decide +kernel) rfl rfl ?_
          refine BW.icmp_gt 77 (by decide +kernel : decode tX5_play.2.1 64 = .ok (.if_icmp .gt 13, 3)) (by decide) (fun hc => ?_) (fun hc => ?_)
          · have h := (Ok.ite h).1 hc
            exact bX5_play_77 hRm hC hE h
          · have h := (Ok.ite h).2 hc
            refine BW.run [.iload 7, .bipush 48, .isub] (pc' := 72) (lv' := [(0, .ref a0), (1, .ref a1), (2, .ref a2), (3, .int (x3 + (1 : Int32))), (4, .int x4), (5, .int x5), (6, .int x6), (7, .int v6)]) (st' := [.int (v6 - (48 : Int32))]) (by decide +kernel) rfl rfl ?_
            obtain ⟨v22, wv22, h⟩ := Ok.nm h
            refine BW.nm wv22 ?_
            refine BW.run [.istore 5] (pc' := 74) (lv' := [(0, .ref a0), (1, .ref a1), (2, .ref a2), (3, .int (x3 + (1 : Int32))), (4, .int x4), (5, .int v22), (6, .int x6), (7, .int v6)]) (st' := []) (by decide +kernel) rfl rfl ?_
            refine BW.goto 212 (by decide +kernel : decode tX5_play.2.1 74 = .ok (.goto 138, 3)) (by decide) ?_
            refine BW.sub [0, 1, 2, 3, 4, 5, 6] rfl ?_
            exact bX5_play_212 hRm hC hE h
theorem bX5_play_W19 {G : Cx} {E : Ev} {n : Nat} (hRm : 3 ≤ E.1.frames ∧ 66 ≤ E.1.locals) {a0 : Nat} {a1 : Nat} {a2 : Nat} {K : (Sg) → Prop} (hE : ∀ (s : Sg), K s → BW G tX5_play E 0 0 218 [] [] s) : ∀ (f : Nat) (c : Sg × Int32 × Int32 × Int32 × Int32), Ok (loopM (mX5_play_L19 n a0 a1 a2) f c) K → match c with | (s0, x3, x4, x5, x6) => BW G tX5_play E 0 0 19 [(0, .ref a0), (1, .ref a1), (2, .ref a2), (3, .int x3), (4, .int x4), (5, .int x5), (6, .int x6)] [] s0 := by
  intro f
  induction f with
  | zero => intro c h; exact (Ok.no h).elim
  | succ f ih =>
    intro c h
    obtain ⟨s0, x3, x4, x5, x6⟩ := c
    exact bX5_play_L19 (P := loopP (mX5_play_L19 n a0 a1 a2) f K) hRm (fun s c3 c4 c5 c6 h => ih (s, c3, c4, c5, c6) h) hE (loopM_ok h)
def mX5_play (n : Nat) (s0 : Sg) (a0 : Nat) (a1 : Nat) (a2 : Nat) : Option (Sg) :=
  (isO 5 s0 a0).bind fun _ =>
  (pV 5 s0 a0 3 (.int (0 : Int32))).bind fun s1 =>
  (toI (gV 7 s1 a1 6)).bind fun v2 =>
  (loopM (mX5_play_L19 n a0 a1 a2) n (s1, v2, (0 : Int32), (1 : Int32), (0 : Int32))).bind fun s23 =>
  some s23
theorem bX5_play {G : Cx} {E : Ev} {n : Nat} (hRm : 3 ≤ E.1.frames ∧ 66 ≤ E.1.locals) {P : Sg → Prop} (hQ : ∀ s, P s → E.2.2.2.2 none s) {s0 : Sg} {a0 : Nat} {a1 : Nat} {a2 : Nat} (h : Ok (mX5_play n s0 a0 a1 a2) P) : BW G tX5_play E 0 0 0 [(0, .ref a0), (1, .ref a1), (2, .ref a2)] [] s0 := by
  unfold mX5_play at h
  obtain ⟨_, _, h⟩ := Ok.bind h
  refine BW.run [.aload_n 0, .iconst 0] (pc' := 2) (lv' := [(0, .ref a0), (1, .ref a1), (2, .ref a2)]) (st' := [.int (0 : Int32), .ref a0]) (by decide +kernel) rfl rfl ?_
  obtain ⟨s1, es1, h⟩ := Ok.bind h
  refine BW.put (by decide +kernel : decode tX5_play.2.1 2 = .ok (.putfield 15, 3)) ciX5 (k := 3) (by decide) lkF_X5_15 rfl rfl rfl es1 ?_
  refine BW.run [.aload_n 1] (pc' := 6) (lv' := [(0, .ref a0), (1, .ref a1), (2, .ref a2)]) (st' := [.ref a1]) (by decide +kernel) rfl rfl ?_
  obtain ⟨v2, ev2, h⟩ := Ok.bind h
  refine BW.getN (by decide +kernel : decode tX5_play.2.1 6 = .ok (.getfield 31, 3)) ciX7 (k := 6) (by decide) lkF_X5_31 (toI_V ev2) ?_
  refine BW.run [.istore_n 3, .iconst 0, .istore 4, .iconst 1, .istore 5, .iconst 0, .istore 6] (pc' := 19) (lv' := [(0, .ref a0), (1, .ref a1), (2, .ref a2), (3, .int v2), (4, .int (0 : Int32)), (5, .int (1 : Int32)), (6, .int (0 : Int32))]) (st' := []) (by decide +kernel) rfl rfl ?_
  refine bX5_play_W19 hRm (a0 := a0) (a1 := a1) (a2 := a2) (fun s23 h => ?_) n (s1, v2, (0 : Int32), (1 : Int32), (0 : Int32)) (Ok.bindK h)
  exact BW.vret (by decide +kernel : decode tX5_play.2.1 218 = .ok (.return_, 1)) rfl (Nat.zero_le _) (Nat.zero_le _) (hQ _ (Ok.some h))
theorem oX5_play {n : Nat} {P : Sg → Prop} {s0 : Sg} {a0 : Nat} {a1 : Nat} {a2 : Nat} (h : Ok (mX5_play n s0 a0 a1 a2) P) : ∃ n0, s0.2.1 a0 = some (5, n0) := by
  unfold mX5_play at h
  exact Ok.isO h
theorem DX5_play {G : Cx} {n : Nat} {P : Sg → Prop} {s0 : Sg} {a0 : Nat} {a1 : Nat} {a2 : Nat} (h : Ok (mX5_play n s0 a0 a1 a2) P) : BM G tX5_play 3 66 0 0 [.ref a0, .ref a1, .ref a2] s0 (fun v s => v = none ∧ P s) := by
  refine BM.of (by decide +kernel) (Nat.le_of_ble_eq_true rfl) ?_
  exact bX5_play (E := (({ frames := 3, cells := 0, slots := 0, locals := 66 }), Aof s0, 0, 0, (fun v s => v = none ∧ P s))) ⟨Nat.le_refl _, Nat.le_refl _⟩ (fun s hp => ⟨rfl, hp⟩) h
def mX6_rises_38 (n : Nat) (s0 : Sg) (a0 : Nat) (x1 : Int32) (x4 : Int32) (x5 : Int32) : Option (Int32 × Sg) :=
  (toI (gV 6 s0 a0 1)).bind fun v7 =>
  if v7 ≤ (x1 + (1 : Int32)) then (
    some ((1 : Int32), s0)
  ) else (
    (toR (gV 6 s0 a0 0)).bind fun b8 =>
    (toQ (aV 15 s0 b8 (x1 + (1 : Int32)))).bind fun q9 => match q9 with
    | none => (
      none
    )
    | some b10 => (
      (toR (gV 6 s0 a0 0)).bind fun b11 =>
      (toQ (aV 15 s0 b11 x1)).bind fun q12 => match q12 with
      | none => (
        none
      )
      | some b13 => (
        (mX4_copy n s0 b10 b13).bind fun s14 =>
        if x1 ≤ 0 then (
          some ((1 : Int32), s14)
        ) else (
          (mX4_takesGap n s14 b10 x4 x5 (1 : Int32)).bind fun (v16, s15) =>
          some ((1 : Int32), s15)
        )
      )
    )
  )
theorem bX6_rises_38 {G : Cx} {E : Ev} {n : Nat} (hRm : 3 ≤ E.1.frames ∧ 69 ≤ E.1.locals) {s0 : Sg} {a0 : Nat} {x1 : Int32} {x4 : Int32} {x5 : Int32} {P : Int32 × Sg → Prop} (hQ : ∀ r s, P (r, s) → E.2.2.2.2 (some (.int r)) s) (h : Ok (mX6_rises_38 n s0 a0 x1 x4 x5) P) : BW G tX6_rises E 0 0 38 [(0, .ref a0), (1, .int x1), (4, .int x4), (5, .int x5)] [] s0 := by
  unfold mX6_rises_38 at h
  refine BW.run [.iload_n 1, .iconst 1, .iadd, .aload_n 0] (pc' := 42) (lv' := [(0, .ref a0), (1, .int x1), (4, .int x4), (5, .int x5)]) (st' := [.ref a0, .int (x1 + (1 : Int32))]) (by decide +kernel) rfl rfl ?_
  obtain ⟨v7, ev7, h⟩ := Ok.bind h
  refine BW.get (by decide +kernel : decode tX6_rises.2.1 42 = .ok (.getfield 17, 3)) ciX6 (k := 1) (by decide) lkF_X6_17 (toI_V ev7) ?_
  refine BW.icmp_ge 84 (by decide +kernel : decode tX6_rises.2.1 45 = .ok (.if_icmp .ge 39, 3)) (by decide) (fun hc => ?_) (fun hc => ?_)
  · have h := (Ok.ite h).1 hc
    refine BW.run [.iconst 1] (pc' := 85) (lv' := [(0, .ref a0), (1, .int x1), (4, .int x4), (5, .int x5)]) (st' := [.int (1 : Int32)]) (by decide +kernel) rfl rfl ?_
    exact BW.zret (by decide +kernel : decode tX6_rises.2.1 85 = .ok (.ireturn, 1)) rfl (Or.inr rfl) (Nat.zero_le _) (Nat.zero_le _) (hQ _ _ (Ok.some h))
  · have h := (Ok.ite h).2 hc
    refine BW.run [.aload_n 0] (pc' := 49) (lv' := [(0, .ref a0), (1, .int x1), (4, .int x4), (5, .int x5)]) (st' := [.ref a0]) (by decide +kernel) rfl rfl ?_
    obtain ⟨b8, eb8, h⟩ := Ok.bind h
    refine BW.get (by decide +kernel : decode tX6_rises.2.1 49 = .ok (.getfield 11, 3)) ciX6 (k := 0) (by decide) lkF_X6_11 (toR_V eb8) ?_
    refine BW.run [.iload_n 1, .iconst 1, .iadd] (pc' := 55) (lv' := [(0, .ref a0), (1, .int x1), (4, .int x4), (5, .int x5)]) (st' := [.int (x1 + (1 : Int32)), .ref b8]) (by decide +kernel) rfl rfl ?_
    obtain ⟨q9, eq9, h⟩ := Ok.bind h
    refine BW.aald (by decide +kernel : decode tX6_rises.2.1 55 = .ok (.aaload, 1)) (by decide) (toQ_V eq9) ?_
    cases q9 with
    | none =>
      show BW G tX6_rises E 0 0 56 [(0, .ref a0), (1, .int x1), (4, .int x4), (5, .int x5)] (.null :: []) s0
      exact (Ok.no h).elim
    | some b10 =>
      show BW G tX6_rises E 0 0 56 [(0, .ref a0), (1, .int x1), (4, .int x4), (5, .int x5)] (.ref b10 :: []) s0
      refine BW.run [.astore 6, .aload 6, .aload_n 0] (pc' := 61) (lv' := [(0, .ref a0), (1, .int x1), (4, .int x4), (5, .int x5), (6, .ref b10)]) (st' := [.ref a0, .ref b10]) (by decide +kernel) rfl rfl ?_
      obtain ⟨b11, eb11, h⟩ := Ok.bind h
      refine BW.get (by decide +kernel : decode tX6_rises.2.1 61 = .ok (.getfield 11, 3)) ciX6 (k := 0) (by decide) lkF_X6_11 (toR_V eb11) ?_
      refine BW.run [.iload_n 1] (pc' := 65) (lv' := [(0, .ref a0), (1, .int x1), (4, .int x4), (5, .int x5), (6, .ref b10)]) (st' := [.int x1, .ref b11, .ref b10]) (by decide +kernel) rfl rfl ?_
      obtain ⟨q12, eq12, h⟩ := Ok.bind h
      refine BW.aald (by decide +kernel : decode tX6_rises.2.1 65 = .ok (.aaload, 1)) (by decide) (toQ_V eq12) ?_
      cases q12 with
      | none =>
        show BW G tX6_rises E 0 0 66 [(0, .ref a0), (1, .int x1), (4, .int x4), (5, .int x5), (6, .ref b10)] (.null :: [.ref b10]) s0
        exact (Ok.no h).elim
      | some b13 =>
        show BW G tX6_rises E 0 0 66 [(0, .ref a0), (1, .int x1), (4, .int x4), (5, .int x5), (6, .ref b10)] (.ref b13 :: [.ref b10]) s0
        refine BW.callV (As := [.ref b13]) (st := []) (by decide +kernel : decode tX6_rises.2.1 66 = .ok (.invokevirtual 37, 3)) (DX4_copy (Ok.bindK h)) mfX4_copy lkM_X6_37 imX4_copy selX4_copy ciX4 (oX4_copy (Ok.bindK h)).choose_spec rfl rfl (Nat.le_of_ble_eq_true rfl) ⟨Nat.le_trans (by decide) hRm.1, Nat.le_trans (by decide) hRm.2⟩ ⟨Nat.zero_le _, Nat.zero_le _⟩ ?_
        rintro _ s14 ⟨rfl, h⟩
        show BW G tX6_rises E 0 0 69 [(0, .ref a0), (1, .int x1), (4, .int x4), (5, .int x5), (6, .ref b10)] [] s14
        refine BW.run [.iload_n 1] (pc' := 70) (lv' := [(0, .ref a0), (1, .int x1), (4, .int x4), (5, .int x5), (6, .ref b10)]) (st' := [.int x1]) (by decide +kernel) rfl rfl ?_
        refine BW.if_le 84 (by decide +kernel : decode tX6_rises.2.1 70 = .ok (.ifCond .le 14, 3)) (by decide) (fun hc => ?_) (fun hc => ?_)
        · have h := (Ok.ite h).1 hc
          refine BW.run [.iconst 1] (pc' := 85) (lv' := [(0, .ref a0), (1, .int x1), (4, .int x4), (5, .int x5), (6, .ref b10)]) (st' := [.int (1 : Int32)]) (by decide +kernel) rfl rfl ?_
          exact BW.zret (by decide +kernel : decode tX6_rises.2.1 85 = .ok (.ireturn, 1)) rfl (Or.inr rfl) (Nat.zero_le _) (Nat.zero_le _) (hQ _ _ (Ok.some h))
        · have h := (Ok.ite h).2 hc
          refine BW.run [.aload 6, .iload 4, .iload 5, .iconst 1] (pc' := 80) (lv' := [(0, .ref a0), (1, .int x1), (4, .int x4), (5, .int x5), (6, .ref b10)]) (st' := [.int (1 : Int32), .int x5, .int x4, .ref b10]) (by decide +kernel) rfl rfl ?_
          refine BW.callV (As := [.int x4, .int x5, .int (1 : Int32)]) (st := []) (by decide +kernel : decode tX6_rises.2.1 80 = .ok (.invokevirtual 60, 3)) (DX4_takesGap (Ok.bindK h)) mfX4_takesGap lkM_X6_60 imX4_takesGap selX4_takesGap ciX4 (oX4_takesGap (Ok.bindK h)).choose_spec rfl rfl (Nat.le_of_ble_eq_true rfl) ⟨Nat.le_trans (by decide) hRm.1, Nat.le_trans (by decide) hRm.2⟩ ⟨Nat.zero_le _, Nat.zero_le _⟩ ?_
          rintro _ s15 ⟨v16, rfl, h⟩
          show BW G tX6_rises E 0 0 83 [(0, .ref a0), (1, .int x1), (4, .int x4), (5, .int x5), (6, .ref b10)] [.int v16] s15
          refine BW.run [.pop, .iconst 1] (pc' := 85) (lv' := [(0, .ref a0), (1, .int x1), (4, .int x4), (5, .int x5), (6, .ref b10)]) (st' := [.int (1 : Int32)]) (by decide +kernel) rfl rfl ?_
          exact BW.zret (by decide +kernel : decode tX6_rises.2.1 85 = .ok (.ireturn, 1)) rfl (Or.inr rfl) (Nat.zero_le _) (Nat.zero_le _) (hQ _ _ (Ok.some h))
def mX6_rises (n : Nat) (s0 : Sg) (a0 : Nat) (x1 : Int32) (x2 : Int32) (x3 : Int32) : Option (Int32 × Sg) :=
  (isO 6 s0 a0).bind fun _ =>
  (mX9_pointOf n s0 x3).bind fun (v2, s1) =>
  (mX9_pointOf n s1 (x2 &&& (7 : Int32))).bind fun (v5, s4) =>
  if x1 ≤ 0 then (
    mX6_rises_38 n s4 a0 x1 v2 v5
  ) else (
    (toR (gV 6 s4 a0 0)).bind fun b18 =>
    (toQ (aV 15 s4 b18 x1)).bind fun q19 => match q19 with
    | none => (
      none
    )
    | some b20 => (
      (mX4_fits n s4 b20 v2 v5 (1 : Int32)).bind fun (v22, s21) =>
      if v22 = 0 then (
        some ((0 : Int32), s21)
      ) else (
        mX6_rises_38 n s21 a0 x1 v2 v5
      )
    )
  )
theorem bX6_rises {G : Cx} {E : Ev} {n : Nat} (hRm : 3 ≤ E.1.frames ∧ 69 ≤ E.1.locals) {P : Int32 × Sg → Prop} (hQ : ∀ r s, P (r, s) → E.2.2.2.2 (some (.int r)) s) {s0 : Sg} {a0 : Nat} {x1 : Int32} {x2 : Int32} {x3 : Int32} (h : Ok (mX6_rises n s0 a0 x1 x2 x3) P) : BW G tX6_rises E 0 0 0 [(0, .ref a0), (1, .int x1), (2, .int x2), (3, .int x3)] [] s0 := by
  unfold mX6_rises at h
  obtain ⟨_, _, h⟩ := Ok.bind h
  refine BW.run [.iload_n 3] (pc' := 1) (lv' := [(0, .ref a0), (1, .int x1), (2, .int x2), (3, .int x3)]) (st' := [.int x3]) (by decide +kernel) rfl rfl ?_
  refine BW.callSN (As := [.int x3]) (st := []) (by decide +kernel : decode tX6_rises.2.1 1 = .ok (.invokestatic 53, 3)) (DX9_pointOf (Ok.bindK h)) mfX9_pointOf lkM_X6_53 smX9_pointOf rfl rfl (Nat.le_of_ble_eq_true rfl) ⟨Nat.le_trans (by decide) hRm.1, Nat.le_trans (by decide) hRm.2⟩ ⟨Nat.zero_le _, Nat.zero_le _⟩ ?_
  rintro _ s1 ⟨v2, rfl, h⟩
  show BW G tX6_rises E 0 0 4 [(0, .ref a0), (1, .int x1), (2, .int x2), (3, .int x3)] [.int v2] s1
  refine BW.run [.istore 4, .iload_n 2, .bipush 7, .iand] (pc' := 10) (lv' := [(0, .ref a0), (1, .int x1), (2, .int x2), (3, .int x3), (4, .int v2)]) (st' := [.int (x2 &&& (7 : Int32))]) (by decide +kernel) rfl rfl ?_
  refine BW.callSN (As := [.int (x2 &&& (7 : Int32))]) (st := []) (by decide +kernel : decode tX6_rises.2.1 10 = .ok (.invokestatic 53, 3)) (DX9_pointOf (Ok.bindK h)) mfX9_pointOf lkM_X6_53 smX9_pointOf rfl rfl (Nat.le_of_ble_eq_true rfl) ⟨Nat.le_trans (by decide) hRm.1, Nat.le_trans (by decide) hRm.2⟩ ⟨Nat.zero_le _, Nat.zero_le _⟩ ?_
  rintro _ s4 ⟨v5, rfl, h⟩
  show BW G tX6_rises E 0 0 13 [(0, .ref a0), (1, .int x1), (2, .int x2), (3, .int x3), (4, .int v2)] [.int v5] s4
  refine BW.run [.istore 5, .iload_n 1] (pc' := 16) (lv' := [(0, .ref a0), (1, .int x1), (2, .int x2), (3, .int x3), (4, .int v2), (5, .int v5)]) (st' := [.int x1]) (by decide +kernel) rfl rfl ?_
  refine BW.if_le 38 (by decide +kernel : decode tX6_rises.2.1 16 = .ok (.ifCond .le 22, 3)) (by decide) (fun hc => ?_) (fun hc => ?_)
  · have h := (Ok.ite h).1 hc
    refine BW.sub [0, 1, 4, 5] rfl ?_
    exact bX6_rises_38 hRm hQ h
  · have h := (Ok.ite h).2 hc
    refine BW.run [.aload_n 0] (pc' := 20) (lv' := [(0, .ref a0), (1, .int x1), (2, .int x2), (3, .int x3), (4, .int v2), (5, .int v5)]) (st' := [.ref a0]) (by decide +kernel) rfl rfl ?_
    obtain ⟨b18, eb18, h⟩ := Ok.bind h
    refine BW.get (by decide +kernel : decode tX6_rises.2.1 20 = .ok (.getfield 11, 3)) ciX6 (k := 0) (by decide) lkF_X6_11 (toR_V eb18) ?_
    refine BW.run [.iload_n 1] (pc' := 24) (lv' := [(0, .ref a0), (1, .int x1), (2, .int x2), (3, .int x3), (4, .int v2), (5, .int v5)]) (st' := [.int x1, .ref b18]) (by decide +kernel) rfl rfl ?_
    obtain ⟨q19, eq19, h⟩ := Ok.bind h
    refine BW.aald (by decide +kernel : decode tX6_rises.2.1 24 = .ok (.aaload, 1)) (by decide) (toQ_V eq19) ?_
    cases q19 with
    | none =>
      show BW G tX6_rises E 0 0 25 [(0, .ref a0), (1, .int x1), (2, .int x2), (3, .int x3), (4, .int v2), (5, .int v5)] (.null :: []) s4
      exact (Ok.no h).elim
    | some b20 =>
      show BW G tX6_rises E 0 0 25 [(0, .ref a0), (1, .int x1), (2, .int x2), (3, .int x3), (4, .int v2), (5, .int v5)] (.ref b20 :: []) s4
      refine BW.run [.iload 4, .iload 5, .iconst 1] (pc' := 30) (lv' := [(0, .ref a0), (1, .int x1), (2, .int x2), (3, .int x3), (4, .int v2), (5, .int v5)]) (st' := [.int (1 : Int32), .int v5, .int v2, .ref b20]) (by decide +kernel) rfl rfl ?_
      refine BW.callV (As := [.int v2, .int v5, .int (1 : Int32)]) (st := []) (by decide +kernel : decode tX6_rises.2.1 30 = .ok (.invokevirtual 57, 3)) (DX4_fits (Ok.bindK h)) mfX4_fits lkM_X6_57 imX4_fits selX4_fits ciX4 (oX4_fits (Ok.bindK h)).choose_spec rfl rfl (Nat.le_of_ble_eq_true rfl) ⟨Nat.le_trans (by decide) hRm.1, Nat.le_trans (by decide) hRm.2⟩ ⟨Nat.zero_le _, Nat.zero_le _⟩ ?_
      rintro _ s21 ⟨v22, rfl, h⟩
      show BW G tX6_rises E 0 0 33 [(0, .ref a0), (1, .int x1), (2, .int x2), (3, .int x3), (4, .int v2), (5, .int v5)] [.int v22] s21
      refine BW.if_ne 38 (by decide +kernel : decode tX6_rises.2.1 33 = .ok (.ifCond .ne 5, 3)) (by decide) (fun hc => ?_) (fun hc => ?_)
      · have h := (Ok.ite h).2 hc
        refine BW.sub [0, 1, 4, 5] rfl ?_
        exact bX6_rises_38 hRm hQ h
      · have h := (Ok.ite h).1 hc
        refine BW.run [.iconst 0] (pc' := 37) (lv' := [(0, .ref a0), (1, .int x1), (2, .int x2), (3, .int x3), (4, .int v2), (5, .int v5)]) (st' := [.int (0 : Int32)]) (by decide +kernel) rfl rfl ?_
        exact BW.zret (by decide +kernel : decode tX6_rises.2.1 37 = .ok (.ireturn, 1)) rfl (Or.inl rfl) (Nat.zero_le _) (Nat.zero_le _) (hQ _ _ (Ok.some h))
theorem oX6_rises {n : Nat} {P : Int32 × Sg → Prop} {s0 : Sg} {a0 : Nat} {x1 : Int32} {x2 : Int32} {x3 : Int32} (h : Ok (mX6_rises n s0 a0 x1 x2 x3) P) : ∃ n0, s0.2.1 a0 = some (6, n0) := by
  unfold mX6_rises at h
  exact Ok.isO h
theorem DX6_rises {G : Cx} {n : Nat} {P : Int32 × Sg → Prop} {s0 : Sg} {a0 : Nat} {x1 : Int32} {x2 : Int32} {x3 : Int32} (h : Ok (mX6_rises n s0 a0 x1 x2 x3) P) : BM G tX6_rises 3 69 0 0 [.ref a0, .int x1, .int x2, .int x3] s0 (fun v s => ∃ r, v = some (.int r) ∧ P (r, s)) := by
  refine BM.of (by decide +kernel) (Nat.le_of_ble_eq_true rfl) ?_
  exact bX6_rises (E := (({ frames := 3, cells := 0, slots := 0, locals := 69 }), Aof s0, 0, 0, (fun v s => ∃ r, v = some (.int r) ∧ P (r, s)))) ⟨Nat.le_refl _, Nat.le_refl _⟩ (fun r s hp => ⟨r, rfl, hp⟩) h
def mX7_append_53 (n : Nat) (s0 : Sg) (a0 : Nat) (x1 : Int32) (x2 : Int32) : Option ((Sg × Int32) ⊕ ((Sg) ⊕ (Int32 × Sg))) :=
  some (.inl (s0, (x2 + (-8 : Int32))))
theorem bX7_append_53 {G : Cx} {E : Ev} {n : Nat} (hRm : 0 ≤ E.1.frames ∧ 0 ≤ E.1.locals) {s0 : Sg} {a0 : Nat} {x1 : Int32} {x2 : Int32} {P : (Sg × Int32) ⊕ ((Sg) ⊕ (Int32 × Sg)) → Prop} (hC : ∀ (s : Sg) (c2 : Int32), P (.inl (s, c2)) → BW G tX7_append E 0 0 3 [(0, .ref a0), (1, .int x1), (2, .int c2)] [] s) (hE : ∀ (s : Sg), P (.inr (.inl s)) → BW G tX7_append E 0 0 59 [] [] s) (hQ : ∀ r s, P (.inr (.inr (r, s))) → E.2.2.2.2 (some (.int r)) s)  (h : Ok (mX7_append_53 n s0 a0 x1 x2) P) : BW G tX7_append E 0 0 53 [(0, .ref a0), (1, .int x1), (2, .int x2)] [] s0 := by
  unfold mX7_append_53 at h
  refine BW.run [.iinc 2 (-8)] (pc' := 56) (lv' := [(0, .ref a0), (1, .int x1), (2, .int (x2 + (-8 : Int32)))]) (st' := []) (by decide +kernel) rfl rfl ?_
  refine BW.goto 3 (by decide +kernel : decode tX7_append.2.1 56 = .ok (.goto (-53), 3)) (by decide) ?_
  exact hC _ _ (Ok.some h)
def mX7_append_L3 (n : Nat) (a0 : Nat) (x1 : Int32) : (Sg × Int32) → Option ((Sg × Int32) ⊕ ((Sg) ⊕ (Int32 × Sg)))
  | (s0, x2) =>
    if x2 < 0 then (
      some (.inr (.inl s0))
    ) else (
      nm ((x1.toUInt32 >>> (x2.toUInt32 &&& Int32.toUInt32 31)).toInt32 &&& (255 : Int32)) fun v1 =>
      if v1 = 0 then (
        mX7_append_53 n s0 a0 x1 x2
      ) else (
        (toI (gV 7 s0 a0 1)).bind fun v2 =>
        (toR (gV 7 s0 a0 0)).bind fun b3 =>
        (lenA 11 s0 b3).bind fun v4 =>
        if v2 < v4 then (
          (toR (gV 7 s0 a0 0)).bind fun b5 =>
          (toI (gV 7 s0 a0 1)).bind fun v6 =>
          (sV 11 s0 b5 v6 (.int v1)).bind fun s7 =>
          (toI (gV 7 s7 a0 1)).bind fun v8 =>
          (pV 7 s7 a0 1 (.int (v8 + (1 : Int32)))).bind fun s9 =>
          mX7_append_53 n s9 a0 x1 x2
        ) else (
          some (.inr (.inr ((0 : Int32), s0)))
        )
      )
    )
theorem bX7_append_L3 {G : Cx} {E : Ev} {n : Nat} (hRm : 0 ≤ E.1.frames ∧ 0 ≤ E.1.locals) {a0 : Nat} {x1 : Int32} {P : (Sg × Int32) ⊕ ((Sg) ⊕ (Int32 × Sg)) → Prop} (hC : ∀ (s : Sg) (c2 : Int32), P (.inl (s, c2)) → BW G tX7_append E 0 0 3 [(0, .ref a0), (1, .int x1), (2, .int c2)] [] s) (hE : ∀ (s : Sg), P (.inr (.inl s)) → BW G tX7_append E 0 0 59 [] [] s) (hQ : ∀ r s, P (.inr (.inr (r, s))) → E.2.2.2.2 (some (.int r)) s) {s0 : Sg} {x2 : Int32} (h : Ok (mX7_append_L3 n a0 x1 (s0, x2)) P) : BW G tX7_append E 0 0 3 [(0, .ref a0), (1, .int x1), (2, .int x2)] [] s0 := by
  unfold mX7_append_L3 at h
  refine BW.run [.iload_n 2] (pc' := 4) (lv' := [(0, .ref a0), (1, .int x1), (2, .int x2)]) (st' := [.int x2]) (by decide +kernel) rfl rfl ?_
  refine BW.if_lt 59 (by decide +kernel : decode tX7_append.2.1 4 = .ok (.ifCond .lt 55, 3)) (by decide) (fun hc => ?_) (fun hc => ?_)
  · have h := (Ok.ite h).1 hc
    refine BW.sub [] rfl ?_
    exact hE _ (Ok.some h)
  · have h := (Ok.ite h).2 hc
    refine BW.run [.iload_n 1, .iload_n 2, .iushr, .sipush 255, .iand] (pc' := 14) (lv' := [(0, .ref a0), (1, .int x1), (2, .int x2)]) (st' := [.int ((x1.toUInt32 >>> (x2.toUInt32 &&& Int32.toUInt32 31)).toInt32 &&& (255 : Int32))]) (by decide +kernel) rfl rfl ?_
    obtain ⟨v1, wv1, h⟩ := Ok.nm h
    refine BW.nm wv1 ?_
    refine BW.run [.istore_n 3, .iload_n 3] (pc' := 16) (lv' := [(0, .ref a0), (1, .int x1), (2, .int x2), (3, .int v1)]) (st' := [.int v1]) (by decide +kernel) rfl rfl ?_
    refine BW.if_eq 53 (by decide +kernel : decode tX7_append.2.1 16 = .ok (.ifCond .eq 37, 3)) (by decide) (fun hc => ?_) (fun hc => ?_)
    · have h := (Ok.ite h).1 hc
      refine BW.sub [0, 1, 2] rfl ?_
      exact bX7_append_53 hRm hC hE hQ h
    · have h := (Ok.ite h).2 hc
      refine BW.run [.aload_n 0] (pc' := 20) (lv' := [(0, .ref a0), (1, .int x1), (2, .int x2), (3, .int v1)]) (st' := [.ref a0]) (by decide +kernel) rfl rfl ?_
      obtain ⟨v2, ev2, h⟩ := Ok.bind h
      refine BW.get (by decide +kernel : decode tX7_append.2.1 20 = .ok (.getfield 15, 3)) ciX7 (k := 1) (by decide) lkF_X7_15 (toI_V ev2) ?_
      refine BW.run [.aload_n 0] (pc' := 24) (lv' := [(0, .ref a0), (1, .int x1), (2, .int x2), (3, .int v1)]) (st' := [.ref a0, .int v2]) (by decide +kernel) rfl rfl ?_
      obtain ⟨b3, eb3, h⟩ := Ok.bind h
      refine BW.get (by decide +kernel : decode tX7_append.2.1 24 = .ok (.getfield 9, 3)) ciX7 (k := 0) (by decide) lkF_X7_9 (toR_V eb3) ?_
      obtain ⟨v4, ev4, h⟩ := Ok.bind h
      refine BW.alen (by decide +kernel : decode tX7_append.2.1 27 = .ok (.arraylength, 1)) (t := 11) (by decide) ev4 ?_
      refine BW.icmp_lt 33 (by decide +kernel : decode tX7_append.2.1 28 = .ok (.if_icmp .lt 5, 3)) (by decide) (fun hc => ?_) (fun hc => ?_)
      · have h := (Ok.ite h).1 hc
        refine BW.run [.aload_n 0] (pc' := 34) (lv' := [(0, .ref a0), (1, .int x1), (2, .int x2), (3, .int v1)]) (st' := [.ref a0]) (by decide +kernel) rfl rfl ?_
        obtain ⟨b5, eb5, h⟩ := Ok.bind h
        refine BW.get (by decide +kernel : decode tX7_append.2.1 34 = .ok (.getfield 9, 3)) ciX7 (k := 0) (by decide) lkF_X7_9 (toR_V eb5) ?_
        refine BW.run [.aload_n 0] (pc' := 38) (lv' := [(0, .ref a0), (1, .int x1), (2, .int x2), (3, .int v1)]) (st' := [.ref a0, .ref b5]) (by decide +kernel) rfl rfl ?_
        obtain ⟨v6, ev6, h⟩ := Ok.bind h
        refine BW.get (by decide +kernel : decode tX7_append.2.1 38 = .ok (.getfield 15, 3)) ciX7 (k := 1) (by decide) lkF_X7_15 (toI_V ev6) ?_
        refine BW.run [.iload_n 3] (pc' := 42) (lv' := [(0, .ref a0), (1, .int x1), (2, .int x2), (3, .int v1)]) (st' := [.int v1, .int v6, .ref b5]) (by decide +kernel) rfl rfl ?_
        obtain ⟨s7, es7, h⟩ := Ok.bind h
        refine BW.iast (by decide +kernel : decode tX7_append.2.1 42 = .ok (.iastore, 1)) es7 ?_
        refine BW.run [.aload_n 0, .dup] (pc' := 45) (lv' := [(0, .ref a0), (1, .int x1), (2, .int x2), (3, .int v1)]) (st' := [.ref a0, .ref a0]) (by decide +kernel) rfl rfl ?_
        obtain ⟨v8, ev8, h⟩ := Ok.bind h
        refine BW.get (by decide +kernel : decode tX7_append.2.1 45 = .ok (.getfield 15, 3)) ciX7 (k := 1) (by decide) lkF_X7_15 (toI_V ev8) ?_
        refine BW.run [.iconst 1, .iadd] (pc' := 50) (lv' := [(0, .ref a0), (1, .int x1), (2, .int x2), (3, .int v1)]) (st' := [.int (v8 + (1 : Int32)), .ref a0]) (by decide +kernel) rfl rfl ?_
        obtain ⟨s9, es9, h⟩ := Ok.bind h
        refine BW.put (by decide +kernel : decode tX7_append.2.1 50 = .ok (.putfield 15, 3)) ciX7 (k := 1) (by decide) lkF_X7_15 rfl rfl rfl es9 ?_
        refine BW.sub [0, 1, 2] rfl ?_
        exact bX7_append_53 hRm hC hE hQ h
      · have h := (Ok.ite h).2 hc
        refine BW.run [.iconst 0] (pc' := 32) (lv' := [(0, .ref a0), (1, .int x1), (2, .int x2), (3, .int v1)]) (st' := [.int (0 : Int32)]) (by decide +kernel) rfl rfl ?_
        exact BW.zret (by decide +kernel : decode tX7_append.2.1 32 = .ok (.ireturn, 1)) rfl (Or.inl rfl) (Nat.zero_le _) (Nat.zero_le _) (hQ _ _ (Ok.some h))
theorem bX7_append_W3 {G : Cx} {E : Ev} {n : Nat} (hRm : 0 ≤ E.1.frames ∧ 0 ≤ E.1.locals) {a0 : Nat} {x1 : Int32} {K : ((Sg) ⊕ (Int32 × Sg)) → Prop} (hE : ∀ (s : Sg), K (.inl s) → BW G tX7_append E 0 0 59 [] [] s) (hQ : ∀ r s, K (.inr (r, s)) → E.2.2.2.2 (some (.int r)) s) : ∀ (f : Nat) (c : Sg × Int32), Ok (loopM (mX7_append_L3 n a0 x1) f c) K → match c with | (s0, x2) => BW G tX7_append E 0 0 3 [(0, .ref a0), (1, .int x1), (2, .int x2)] [] s0 := by
  intro f
  induction f with
  | zero => intro c h; exact (Ok.no h).elim
  | succ f ih =>
    intro c h
    obtain ⟨s0, x2⟩ := c
    exact bX7_append_L3 (P := loopP (mX7_append_L3 n a0 x1) f K) hRm (fun s c2 h => ih (s, c2) h) hE hQ (loopM_ok h)
def mX7_append (n : Nat) (s0 : Sg) (a0 : Nat) (x1 : Int32) : Option (Int32 × Sg) :=
  (isO 7 s0 a0).bind fun _ =>
  (loopM (mX7_append_L3 n a0 x1) n (s0, (24 : Int32))).bind fun q11 => match q11 with
  | .inl s10 => (
    some ((1 : Int32), s10)
  )
  | .inr (r, s) => some (r, s)
theorem bX7_append {G : Cx} {E : Ev} {n : Nat} (hRm : 0 ≤ E.1.frames ∧ 0 ≤ E.1.locals) {P : Int32 × Sg → Prop} (hQ : ∀ r s, P (r, s) → E.2.2.2.2 (some (.int r)) s) {s0 : Sg} {a0 : Nat} {x1 : Int32} (h : Ok (mX7_append n s0 a0 x1) P) : BW G tX7_append E 0 0 0 [(0, .ref a0), (1, .int x1)] [] s0 := by
  unfold mX7_append at h
  obtain ⟨_, _, h⟩ := Ok.bind h
  refine BW.run [.bipush 24, .istore_n 2] (pc' := 3) (lv' := [(0, .ref a0), (1, .int x1), (2, .int (24 : Int32))]) (st' := []) (by decide +kernel) rfl rfl ?_
  refine bX7_append_W3 hRm (a0 := a0) (x1 := x1) (fun s10 h => ?_) (fun r s h => ?_) n (s0, (24 : Int32)) (Ok.bindK h)
  · refine BW.run [.iconst 1] (pc' := 60) (lv' := []) (st' := [.int (1 : Int32)]) (by decide +kernel) rfl rfl ?_
    exact BW.zret (by decide +kernel : decode tX7_append.2.1 60 = .ok (.ireturn, 1)) rfl (Or.inr rfl) (Nat.zero_le _) (Nat.zero_le _) (hQ _ _ (Ok.some h))
  · exact hQ r s (Ok.some h)
theorem oX7_append {n : Nat} {P : Int32 × Sg → Prop} {s0 : Sg} {a0 : Nat} {x1 : Int32} (h : Ok (mX7_append n s0 a0 x1) P) : ∃ n0, s0.2.1 a0 = some (7, n0) := by
  unfold mX7_append at h
  exact Ok.isO h
theorem DX7_append {G : Cx} {n : Nat} {P : Int32 × Sg → Prop} {s0 : Sg} {a0 : Nat} {x1 : Int32} (h : Ok (mX7_append n s0 a0 x1) P) : BM G tX7_append 0 0 0 0 [.ref a0, .int x1] s0 (fun v s => ∃ r, v = some (.int r) ∧ P (r, s)) := by
  refine BM.of (by decide +kernel) (Nat.le_of_ble_eq_true rfl) ?_
  exact bX7_append (E := (({ frames := 0, cells := 0, slots := 0, locals := 0 }), Aof s0, 0, 0, (fun v s => ∃ r, v = some (.int r) ∧ P (r, s)))) ⟨Nat.le_refl _, Nat.le_refl _⟩ (fun r s hp => ⟨r, rfl, hp⟩) h
def mX7_cut (n : Nat) (s0 : Sg) (a0 : Nat) (x1 : Int32) : Option (Int32 × Sg) :=
  (isO 7 s0 a0).bind fun _ =>
  if x1 < 0 then (
    some ((0 : Int32), s0)
  ) else (
    (toI (gV 7 s0 a0 1)).bind fun v1 =>
    if x1 ≤ v1 then (
      (pV 7 s0 a0 1 (.int x1)).bind fun s2 =>
      some ((1 : Int32), s2)
    ) else (
      some ((0 : Int32), s0)
    )
  )
theorem bX7_cut {G : Cx} {E : Ev} {n : Nat} (hRm : 0 ≤ E.1.frames ∧ 0 ≤ E.1.locals) {P : Int32 × Sg → Prop} (hQ : ∀ r s, P (r, s) → E.2.2.2.2 (some (.int r)) s) {s0 : Sg} {a0 : Nat} {x1 : Int32} (h : Ok (mX7_cut n s0 a0 x1) P) : BW G tX7_cut E 0 0 0 [(0, .ref a0), (1, .int x1)] [] s0 := by
  unfold mX7_cut at h
  obtain ⟨_, _, h⟩ := Ok.bind h
  refine BW.run [.iload_n 1] (pc' := 1) (lv' := [(0, .ref a0), (1, .int x1)]) (st' := [.int x1]) (by decide +kernel) rfl rfl ?_
  refine BW.if_lt 12 (by decide +kernel : decode tX7_cut.2.1 1 = .ok (.ifCond .lt 11, 3)) (by decide) (fun hc => ?_) (fun hc => ?_)
  · have h := (Ok.ite h).1 hc
    refine BW.run [.iconst 0] (pc' := 13) (lv' := [(0, .ref a0), (1, .int x1)]) (st' := [.int (0 : Int32)]) (by decide +kernel) rfl rfl ?_
    exact BW.zret (by decide +kernel : decode tX7_cut.2.1 13 = .ok (.ireturn, 1)) rfl (Or.inl rfl) (Nat.zero_le _) (Nat.zero_le _) (hQ _ _ (Ok.some h))
  · have h := (Ok.ite h).2 hc
    refine BW.run [.iload_n 1, .aload_n 0] (pc' := 6) (lv' := [(0, .ref a0), (1, .int x1)]) (st' := [.ref a0, .int x1]) (by decide +kernel) rfl rfl ?_
    obtain ⟨v1, ev1, h⟩ := Ok.bind h
    refine BW.get (by decide +kernel : decode tX7_cut.2.1 6 = .ok (.getfield 15, 3)) ciX7 (k := 1) (by decide) lkF_X7_15 (toI_V ev1) ?_
    refine BW.icmp_le 14 (by decide +kernel : decode tX7_cut.2.1 9 = .ok (.if_icmp .le 5, 3)) (by decide) (fun hc => ?_) (fun hc => ?_)
    · have h := (Ok.ite h).1 hc
      refine BW.run [.aload_n 0, .iload_n 1] (pc' := 16) (lv' := [(0, .ref a0), (1, .int x1)]) (st' := [.int x1, .ref a0]) (by decide +kernel) rfl rfl ?_
      obtain ⟨s2, es2, h⟩ := Ok.bind h
      refine BW.put (by decide +kernel : decode tX7_cut.2.1 16 = .ok (.putfield 15, 3)) ciX7 (k := 1) (by decide) lkF_X7_15 rfl rfl rfl es2 ?_
      refine BW.run [.iconst 1] (pc' := 20) (lv' := [(0, .ref a0), (1, .int x1)]) (st' := [.int (1 : Int32)]) (by decide +kernel) rfl rfl ?_
      exact BW.zret (by decide +kernel : decode tX7_cut.2.1 20 = .ok (.ireturn, 1)) rfl (Or.inr rfl) (Nat.zero_le _) (Nat.zero_le _) (hQ _ _ (Ok.some h))
    · have h := (Ok.ite h).2 hc
      refine BW.run [.iconst 0] (pc' := 13) (lv' := [(0, .ref a0), (1, .int x1)]) (st' := [.int (0 : Int32)]) (by decide +kernel) rfl rfl ?_
      exact BW.zret (by decide +kernel : decode tX7_cut.2.1 13 = .ok (.ireturn, 1)) rfl (Or.inl rfl) (Nat.zero_le _) (Nat.zero_le _) (hQ _ _ (Ok.some h))
theorem oX7_cut {n : Nat} {P : Int32 × Sg → Prop} {s0 : Sg} {a0 : Nat} {x1 : Int32} (h : Ok (mX7_cut n s0 a0 x1) P) : ∃ n0, s0.2.1 a0 = some (7, n0) := by
  unfold mX7_cut at h
  exact Ok.isO h
theorem DX7_cut {G : Cx} {n : Nat} {P : Int32 × Sg → Prop} {s0 : Sg} {a0 : Nat} {x1 : Int32} (h : Ok (mX7_cut n s0 a0 x1) P) : BM G tX7_cut 0 0 0 0 [.ref a0, .int x1] s0 (fun v s => ∃ r, v = some (.int r) ∧ P (r, s)) := by
  refine BM.of (by decide +kernel) (Nat.le_of_ble_eq_true rfl) ?_
  exact bX7_cut (E := (({ frames := 0, cells := 0, slots := 0, locals := 0 }), Aof s0, 0, 0, (fun v s => ∃ r, v = some (.int r) ∧ P (r, s)))) ⟨Nat.le_refl _, Nat.le_refl _⟩ (fun r s hp => ⟨r, rfl, hp⟩) h
def mX7_isDigit (n : Nat) (s0 : Sg) (x0 : Int32) : Option (Int32 × Sg) :=
  if x0 < (48 : Int32) then (
    some ((0 : Int32), s0)
  ) else (
    if (57 : Int32) < x0 then (
      some ((0 : Int32), s0)
    ) else (
      some ((1 : Int32), s0)
    )
  )
theorem bX7_isDigit {G : Cx} {E : Ev} {n : Nat} (hRm : 0 ≤ E.1.frames ∧ 0 ≤ E.1.locals) {P : Int32 × Sg → Prop} (hQ : ∀ r s, P (r, s) → E.2.2.2.2 (some (.int r)) s) {s0 : Sg} {x0 : Int32} (h : Ok (mX7_isDigit n s0 x0) P) : BW G tX7_isDigit E 0 0 0 [(0, .int x0)] [] s0 := by
  unfold mX7_isDigit at h
  refine BW.run [.iload_n 0, .bipush 48] (pc' := 3) (lv' := [(0, .int x0)]) (st' := [.int (48 : Int32), .int x0]) (by decide +kernel) rfl rfl ?_
  refine BW.icmp_lt 16 (by decide +kernel : decode tX7_isDigit.2.1 3 = .ok (.if_icmp .lt 13, 3)) (by decide) (fun hc => ?_) (fun hc => ?_)
  · have h := (Ok.ite h).1 hc
    refine BW.run [.iconst 0] (pc' := 17) (lv' := [(0, .int x0)]) (st' := [.int (0 : Int32)]) (by decide +kernel) rfl rfl ?_
    exact BW.zret (by decide +kernel : decode tX7_isDigit.2.1 17 = .ok (.ireturn, 1)) rfl (Or.inl rfl) (Nat.zero_le _) (Nat.zero_le _) (hQ _ _ (Ok.some h))
  · have h := (Ok.ite h).2 hc
    refine BW.run [.iload_n 0, .bipush 57] (pc' := 9) (lv' := [(0, .int x0)]) (st' := [.int (57 : Int32), .int x0]) (by decide +kernel) rfl rfl ?_
    refine BW.icmp_gt 16 (by decide +kernel : decode tX7_isDigit.2.1 9 = .ok (.if_icmp .gt 7, 3)) (by decide) (fun hc => ?_) (fun hc => ?_)
    · have h := (Ok.ite h).1 hc
      refine BW.run [.iconst 0] (pc' := 17) (lv' := [(0, .int x0)]) (st' := [.int (0 : Int32)]) (by decide +kernel) rfl rfl ?_
      exact BW.zret (by decide +kernel : decode tX7_isDigit.2.1 17 = .ok (.ireturn, 1)) rfl (Or.inl rfl) (Nat.zero_le _) (Nat.zero_le _) (hQ _ _ (Ok.some h))
    · have h := (Ok.ite h).2 hc
      refine BW.run [.iconst 1] (pc' := 13) (lv' := [(0, .int x0)]) (st' := [.int (1 : Int32)]) (by decide +kernel) rfl rfl ?_
      refine BW.goto 17 (by decide +kernel : decode tX7_isDigit.2.1 13 = .ok (.goto 4, 3)) (by decide) ?_
      exact BW.zret (by decide +kernel : decode tX7_isDigit.2.1 17 = .ok (.ireturn, 1)) rfl (Or.inr rfl) (Nat.zero_le _) (Nat.zero_le _) (hQ _ _ (Ok.some h))
theorem DX7_isDigit {G : Cx} {n : Nat} {P : Int32 × Sg → Prop} {s0 : Sg} {x0 : Int32} (h : Ok (mX7_isDigit n s0 x0) P) : BM G tX7_isDigit 0 0 0 0 [.int x0] s0 (fun v s => ∃ r, v = some (.int r) ∧ P (r, s)) := by
  refine BM.of (by decide +kernel) (Nat.le_of_ble_eq_true rfl) ?_
  exact bX7_isDigit (E := (({ frames := 0, cells := 0, slots := 0, locals := 0 }), Aof s0, 0, 0, (fun v s => ∃ r, v = some (.int r) ∧ P (r, s)))) ⟨Nat.le_refl _, Nat.le_refl _⟩ (fun r s hp => ⟨r, rfl, hp⟩) h
def mX7_isMove_36 (n : Nat) (s0 : Sg)  : Option (Int32 × Sg) :=
  some ((1 : Int32), s0)
theorem bX7_isMove_36 {G : Cx} {E : Ev} {n : Nat} (hRm : 0 ≤ E.1.frames ∧ 0 ≤ E.1.locals) {s0 : Sg}  {P : Int32 × Sg → Prop} (hQ : ∀ r s, P (r, s) → E.2.2.2.2 (some (.int r)) s) (h : Ok (mX7_isMove_36 n s0 ) P) : BW G tX7_isMove E 0 0 36 [] [] s0 := by
  unfold mX7_isMove_36 at h
  refine BW.run [.iconst 1] (pc' := 37) (lv' := []) (st' := [.int (1 : Int32)]) (by decide +kernel) rfl rfl ?_
  refine BW.goto 41 (by decide +kernel : decode tX7_isMove.2.1 37 = .ok (.goto 4, 3)) (by decide) ?_
  exact BW.zret (by decide +kernel : decode tX7_isMove.2.1 41 = .ok (.ireturn, 1)) rfl (Or.inr rfl) (Nat.zero_le _) (Nat.zero_le _) (hQ _ _ (Ok.some h))
def mX7_isMove (n : Nat) (s0 : Sg) (x0 : Int32) : Option (Int32 × Sg) :=
  if x0 = (110 : Int32) then (
    mX7_isMove_36 n s0 
  ) else (
    if x0 = (101 : Int32) then (
      mX7_isMove_36 n s0 
    ) else (
      if x0 = (115 : Int32) then (
        mX7_isMove_36 n s0 
      ) else (
        if x0 = (119 : Int32) then (
          mX7_isMove_36 n s0 
        ) else (
          if x0 = (122 : Int32) then (
            mX7_isMove_36 n s0 
          ) else (
            if x0 = (98 : Int32) then (
              mX7_isMove_36 n s0 
            ) else (
              some ((0 : Int32), s0)
            )
          )
        )
      )
    )
  )
theorem bX7_isMove {G : Cx} {E : Ev} {n : Nat} (hRm : 0 ≤ E.1.frames ∧ 0 ≤ E.1.locals) {P : Int32 × Sg → Prop} (hQ : ∀ r s, P (r, s) → E.2.2.2.2 (some (.int r)) s) {s0 : Sg} {x0 : Int32} (h : Ok (mX7_isMove n s0 x0) P) : BW G tX7_isMove E 0 0 0 [(0, .int x0)] [] s0 := by
  unfold mX7_isMove at h
  refine BW.run [.iload_n 0, .bipush 110] (pc' := 3) (lv' := [(0, .int x0)]) (st' := [.int (110 : Int32), .int x0]) (by decide +kernel) rfl rfl ?_
  refine BW.icmp_eq 36 (by decide +kernel : decode tX7_isMove.2.1 3 = .ok (.if_icmp .eq 33, 3)) (by decide) (fun hc => ?_) (fun hc => ?_)
  · have h := (Ok.ite h).1 hc
    refine BW.sub [] rfl ?_
    exact bX7_isMove_36 hRm hQ h
  · have h := (Ok.ite h).2 hc
    refine BW.run [.iload_n 0, .bipush 101] (pc' := 9) (lv' := [(0, .int x0)]) (st' := [.int (101 : Int32), .int x0]) (by decide +kernel) rfl rfl ?_
    refine BW.icmp_eq 36 (by decide +kernel : decode tX7_isMove.2.1 9 = .ok (.if_icmp .eq 27, 3)) (by decide) (fun hc => ?_) (fun hc => ?_)
    · have h := (Ok.ite h).1 hc
      refine BW.sub [] rfl ?_
      exact bX7_isMove_36 hRm hQ h
    · have h := (Ok.ite h).2 hc
      refine BW.run [.iload_n 0, .bipush 115] (pc' := 15) (lv' := [(0, .int x0)]) (st' := [.int (115 : Int32), .int x0]) (by decide +kernel) rfl rfl ?_
      refine BW.icmp_eq 36 (by decide +kernel : decode tX7_isMove.2.1 15 = .ok (.if_icmp .eq 21, 3)) (by decide) (fun hc => ?_) (fun hc => ?_)
      · have h := (Ok.ite h).1 hc
        refine BW.sub [] rfl ?_
        exact bX7_isMove_36 hRm hQ h
      · have h := (Ok.ite h).2 hc
        refine BW.run [.iload_n 0, .bipush 119] (pc' := 21) (lv' := [(0, .int x0)]) (st' := [.int (119 : Int32), .int x0]) (by decide +kernel) rfl rfl ?_
        refine BW.icmp_eq 36 (by decide +kernel : decode tX7_isMove.2.1 21 = .ok (.if_icmp .eq 15, 3)) (by decide) (fun hc => ?_) (fun hc => ?_)
        · have h := (Ok.ite h).1 hc
          refine BW.sub [] rfl ?_
          exact bX7_isMove_36 hRm hQ h
        · have h := (Ok.ite h).2 hc
          refine BW.run [.iload_n 0, .bipush 122] (pc' := 27) (lv' := [(0, .int x0)]) (st' := [.int (122 : Int32), .int x0]) (by decide +kernel) rfl rfl ?_
          refine BW.icmp_eq 36 (by decide +kernel : decode tX7_isMove.2.1 27 = .ok (.if_icmp .eq 9, 3)) (by decide) (fun hc => ?_) (fun hc => ?_)
          · have h := (Ok.ite h).1 hc
            refine BW.sub [] rfl ?_
            exact bX7_isMove_36 hRm hQ h
          · have h := (Ok.ite h).2 hc
            refine BW.run [.iload_n 0, .bipush 98] (pc' := 33) (lv' := [(0, .int x0)]) (st' := [.int (98 : Int32), .int x0]) (by decide +kernel) rfl rfl ?_
            refine BW.icmp_ne 40 (by decide +kernel : decode tX7_isMove.2.1 33 = .ok (.if_icmp .ne 7, 3)) (by decide) (fun hc => ?_) (fun hc => ?_)
            · have h := (Ok.ite h).2 hc
              refine BW.run [.iconst 0] (pc' := 41) (lv' := [(0, .int x0)]) (st' := [.int (0 : Int32)]) (by decide +kernel) rfl rfl ?_
              exact BW.zret (by decide +kernel : decode tX7_isMove.2.1 41 = .ok (.ireturn, 1)) rfl (Or.inl rfl) (Nat.zero_le _) (Nat.zero_le _) (hQ _ _ (Ok.some h))
            · have h := (Ok.ite h).1 hc
              refine BW.sub [] rfl ?_
              exact bX7_isMove_36 hRm hQ h
theorem DX7_isMove {G : Cx} {n : Nat} {P : Int32 × Sg → Prop} {s0 : Sg} {x0 : Int32} (h : Ok (mX7_isMove n s0 x0) P) : BM G tX7_isMove 0 0 0 0 [.int x0] s0 (fun v s => ∃ r, v = some (.int r) ∧ P (r, s)) := by
  refine BM.of (by decide +kernel) (Nat.le_of_ble_eq_true rfl) ?_
  exact bX7_isMove (E := (({ frames := 0, cells := 0, slots := 0, locals := 0 }), Aof s0, 0, 0, (fun v s => ∃ r, v = some (.int r) ∧ P (r, s)))) ⟨Nat.le_refl _, Nat.le_refl _⟩ (fun r s hp => ⟨r, rfl, hp⟩) h
def mX7_skipBlanks_L0 (n : Nat) (a0 : Nat) : (Sg) → Option ((Sg) ⊕ (Sg))
  | s0 =>
    (toI (gV 7 s0 a0 2)).bind fun v1 =>
    (toI (gV 7 s0 a0 1)).bind fun v2 =>
    if v2 ≤ v1 then (
      some (.inr s0)
    ) else (
      (toI (gV 7 s0 a0 2)).bind fun v3 =>
      (mX7_byteAt n s0 a0 v3).bind fun (v5, s4) =>
      if v5 = (32 : Int32) then (
        (toI (gV 7 s4 a0 2)).bind fun v7 =>
        (pV 7 s4 a0 2 (.int (v7 + (1 : Int32)))).bind fun s8 =>
        some (.inl s8)
      ) else (
        some (.inr s4)
      )
    )
theorem bX7_skipBlanks_L0 {G : Cx} {E : Ev} {n : Nat} (hRm : 1 ≤ E.1.frames ∧ 21 ≤ E.1.locals) {a0 : Nat} {P : (Sg) ⊕ (Sg) → Prop} (hC : ∀ (s : Sg), P (.inl s) → BW G tX7_skipBlanks E 0 0 0 [(0, .ref a0)] [] s) (hE : ∀ (s : Sg), P (.inr s) → BW G tX7_skipBlanks E 0 0 37 [] [] s) {s0 : Sg}  (h : Ok (mX7_skipBlanks_L0 n a0 s0) P) : BW G tX7_skipBlanks E 0 0 0 [(0, .ref a0)] [] s0 := by
  unfold mX7_skipBlanks_L0 at h
  refine BW.run [.aload_n 0] (pc' := 1) (lv' := [(0, .ref a0)]) (st' := [.ref a0]) (by decide +kernel) rfl rfl ?_
  obtain ⟨v1, ev1, h⟩ := Ok.bind h
  refine BW.get (by decide +kernel : decode tX7_skipBlanks.2.1 1 = .ok (.getfield 19, 3)) ciX7 (k := 2) (by decide) lkF_X7_19 (toI_V ev1) ?_
  refine BW.run [.aload_n 0] (pc' := 5) (lv' := [(0, .ref a0)]) (st' := [.ref a0, .int v1]) (by decide +kernel) rfl rfl ?_
  obtain ⟨v2, ev2, h⟩ := Ok.bind h
  refine BW.get (by decide +kernel : decode tX7_skipBlanks.2.1 5 = .ok (.getfield 15, 3)) ciX7 (k := 1) (by decide) lkF_X7_15 (toI_V ev2) ?_
  refine BW.icmp_ge 37 (by decide +kernel : decode tX7_skipBlanks.2.1 8 = .ok (.if_icmp .ge 29, 3)) (by decide) (fun hc => ?_) (fun hc => ?_)
  · have h := (Ok.ite h).1 hc
    refine BW.sub [] rfl ?_
    exact hE _ (Ok.some h)
  · have h := (Ok.ite h).2 hc
    refine BW.run [.aload_n 0, .aload_n 0] (pc' := 13) (lv' := [(0, .ref a0)]) (st' := [.ref a0, .ref a0]) (by decide +kernel) rfl rfl ?_
    obtain ⟨v3, ev3, h⟩ := Ok.bind h
    refine BW.get (by decide +kernel : decode tX7_skipBlanks.2.1 13 = .ok (.getfield 19, 3)) ciX7 (k := 2) (by decide) lkF_X7_19 (toI_V ev3) ?_
    refine BW.callV (As := [.int v3]) (st := []) (by decide +kernel : decode tX7_skipBlanks.2.1 16 = .ok (.invokevirtual 46, 3)) (DX7_byteAt (Ok.bindK h)) mfX7_byteAt lkM_X7_46 imX7_byteAt selX7_byteAt ciX7 (oX7_byteAt (Ok.bindK h)).choose_spec rfl rfl (Nat.le_of_ble_eq_true rfl) ⟨Nat.le_trans (by decide) hRm.1, Nat.le_trans (by decide) hRm.2⟩ ⟨Nat.zero_le _, Nat.zero_le _⟩ ?_
    rintro _ s4 ⟨v5, rfl, h⟩
    show BW G tX7_skipBlanks E 0 0 19 [(0, .ref a0)] [.int v5] s4
    refine BW.run [.bipush 32] (pc' := 21) (lv' := [(0, .ref a0)]) (st' := [.int (32 : Int32), .int v5]) (by decide +kernel) rfl rfl ?_
    refine BW.icmp_ne 37 (by decide +kernel : decode tX7_skipBlanks.2.1 21 = .ok (.if_icmp .ne 16, 3)) (by decide) (fun hc => ?_) (fun hc => ?_)
    · have h := (Ok.ite h).2 hc
      refine BW.sub [] rfl ?_
      exact hE _ (Ok.some h)
    · have h := (Ok.ite h).1 hc
      refine BW.run [.aload_n 0, .dup] (pc' := 26) (lv' := [(0, .ref a0)]) (st' := [.ref a0, .ref a0]) (by decide +kernel) rfl rfl ?_
      obtain ⟨v7, ev7, h⟩ := Ok.bind h
      refine BW.get (by decide +kernel : decode tX7_skipBlanks.2.1 26 = .ok (.getfield 19, 3)) ciX7 (k := 2) (by decide) lkF_X7_19 (toI_V ev7) ?_
      refine BW.run [.iconst 1, .iadd] (pc' := 31) (lv' := [(0, .ref a0)]) (st' := [.int (v7 + (1 : Int32)), .ref a0]) (by decide +kernel) rfl rfl ?_
      obtain ⟨s8, es8, h⟩ := Ok.bind h
      refine BW.put (by decide +kernel : decode tX7_skipBlanks.2.1 31 = .ok (.putfield 19, 3)) ciX7 (k := 2) (by decide) lkF_X7_19 rfl rfl rfl es8 ?_
      refine BW.goto 0 (by decide +kernel : decode tX7_skipBlanks.2.1 34 = .ok (.goto (-34), 3)) (by decide) ?_
      exact hC _ (Ok.some h)
theorem bX7_skipBlanks_W0 {G : Cx} {E : Ev} {n : Nat} (hRm : 1 ≤ E.1.frames ∧ 21 ≤ E.1.locals) {a0 : Nat} {K : (Sg) → Prop} (hE : ∀ (s : Sg), K s → BW G tX7_skipBlanks E 0 0 37 [] [] s) : ∀ (f : Nat) (c : Sg), Ok (loopM (mX7_skipBlanks_L0 n a0) f c) K → match c with | s0 => BW G tX7_skipBlanks E 0 0 0 [(0, .ref a0)] [] s0 := by
  intro f
  induction f with
  | zero => intro c h; exact (Ok.no h).elim
  | succ f ih =>
    intro c h
    obtain s0 := c
    exact bX7_skipBlanks_L0 (P := loopP (mX7_skipBlanks_L0 n a0) f K) hRm (fun s  h => ih s h) hE (loopM_ok h)
def mX7_skipBlanks (n : Nat) (s0 : Sg) (a0 : Nat) : Option (Sg) :=
  (isO 7 s0 a0).bind fun _ =>
  (loopM (mX7_skipBlanks_L0 n a0) n s0).bind fun s9 =>
  some s9
theorem bX7_skipBlanks {G : Cx} {E : Ev} {n : Nat} (hRm : 1 ≤ E.1.frames ∧ 21 ≤ E.1.locals) {P : Sg → Prop} (hQ : ∀ s, P s → E.2.2.2.2 none s) {s0 : Sg} {a0 : Nat} (h : Ok (mX7_skipBlanks n s0 a0) P) : BW G tX7_skipBlanks E 0 0 0 [(0, .ref a0)] [] s0 := by
  unfold mX7_skipBlanks at h
  obtain ⟨_, _, h⟩ := Ok.bind h
  refine bX7_skipBlanks_W0 hRm (a0 := a0) (fun s9 h => ?_) n s0 (Ok.bindK h)
  exact BW.vret (by decide +kernel : decode tX7_skipBlanks.2.1 37 = .ok (.return_, 1)) rfl (Nat.zero_le _) (Nat.zero_le _) (hQ _ (Ok.some h))
theorem oX7_skipBlanks {n : Nat} {P : Sg → Prop} {s0 : Sg} {a0 : Nat} (h : Ok (mX7_skipBlanks n s0 a0) P) : ∃ n0, s0.2.1 a0 = some (7, n0) := by
  unfold mX7_skipBlanks at h
  exact Ok.isO h
theorem DX7_skipBlanks {G : Cx} {n : Nat} {P : Sg → Prop} {s0 : Sg} {a0 : Nat} (h : Ok (mX7_skipBlanks n s0 a0) P) : BM G tX7_skipBlanks 1 21 0 0 [.ref a0] s0 (fun v s => v = none ∧ P s) := by
  refine BM.of (by decide +kernel) (Nat.le_of_ble_eq_true rfl) ?_
  exact bX7_skipBlanks (E := (({ frames := 1, cells := 0, slots := 0, locals := 21 }), Aof s0, 0, 0, (fun v s => v = none ∧ P s))) ⟨Nat.le_refl _, Nat.le_refl _⟩ (fun s hp => ⟨rfl, hp⟩) h
def mX7_reads (n : Nat) (s0 : Sg) (a0 : Nat) (x1 : Int32) : Option (Int32 × Sg) :=
  (isO 7 s0 a0).bind fun _ =>
  (mX7_skipBlanks n s0 a0).bind fun s1 =>
  (toI (gV 7 s1 a0 2)).bind fun v2 =>
  (mX7_byteAt n s1 a0 v2).bind fun (v4, s3) =>
  if v4 = x1 then (
    (toI (gV 7 s3 a0 2)).bind fun v6 =>
    (pV 7 s3 a0 2 (.int (v6 + (1 : Int32)))).bind fun s7 =>
    some ((1 : Int32), s7)
  ) else (
    some ((0 : Int32), s3)
  )
theorem bX7_reads {G : Cx} {E : Ev} {n : Nat} (hRm : 2 ≤ E.1.frames ∧ 41 ≤ E.1.locals) {P : Int32 × Sg → Prop} (hQ : ∀ r s, P (r, s) → E.2.2.2.2 (some (.int r)) s) {s0 : Sg} {a0 : Nat} {x1 : Int32} (h : Ok (mX7_reads n s0 a0 x1) P) : BW G tX7_reads E 0 0 0 [(0, .ref a0), (1, .int x1)] [] s0 := by
  unfold mX7_reads at h
  obtain ⟨_, _, h⟩ := Ok.bind h
  refine BW.run [.aload_n 0] (pc' := 1) (lv' := [(0, .ref a0), (1, .int x1)]) (st' := [.ref a0]) (by decide +kernel) rfl rfl ?_
  refine BW.callV (As := []) (st := []) (by decide +kernel : decode tX7_reads.2.1 1 = .ok (.invokevirtual 50, 3)) (DX7_skipBlanks (Ok.bindK h)) mfX7_skipBlanks lkM_X7_50 imX7_skipBlanks selX7_skipBlanks ciX7 (oX7_skipBlanks (Ok.bindK h)).choose_spec rfl rfl (Nat.le_of_ble_eq_true rfl) ⟨Nat.le_trans (by decide) hRm.1, Nat.le_trans (by decide) hRm.2⟩ ⟨Nat.zero_le _, Nat.zero_le _⟩ ?_
  rintro _ s1 ⟨rfl, h⟩
  show BW G tX7_reads E 0 0 4 [(0, .ref a0), (1, .int x1)] [] s1
  refine BW.run [.aload_n 0, .aload_n 0] (pc' := 6) (lv' := [(0, .ref a0), (1, .int x1)]) (st' := [.ref a0, .ref a0]) (by decide +kernel) rfl rfl ?_
  obtain ⟨v2, ev2, h⟩ := Ok.bind h
  refine BW.get (by decide +kernel : decode tX7_reads.2.1 6 = .ok (.getfield 19, 3)) ciX7 (k := 2) (by decide) lkF_X7_19 (toI_V ev2) ?_
  refine BW.callV (As := [.int v2]) (st := []) (by decide +kernel : decode tX7_reads.2.1 9 = .ok (.invokevirtual 46, 3)) (DX7_byteAt (Ok.bindK h)) mfX7_byteAt lkM_X7_46 imX7_byteAt selX7_byteAt ciX7 (oX7_byteAt (Ok.bindK h)).choose_spec rfl rfl (Nat.le_of_ble_eq_true rfl) ⟨Nat.le_trans (by decide) hRm.1, Nat.le_trans (by decide) hRm.2⟩ ⟨Nat.zero_le _, Nat.zero_le _⟩ ?_
  rintro _ s3 ⟨v4, rfl, h⟩
  show BW G tX7_reads E 0 0 12 [(0, .ref a0), (1, .int x1)] [.int v4] s3
  refine BW.run [.iload_n 1] (pc' := 13) (lv' := [(0, .ref a0), (1, .int x1)]) (st' := [.int x1, .int v4]) (by decide +kernel) rfl rfl ?_
  refine BW.icmp_eq 18 (by decide +kernel : decode tX7_reads.2.1 13 = .ok (.if_icmp .eq 5, 3)) (by decide) (fun hc => ?_) (fun hc => ?_)
  · have h := (Ok.ite h).1 hc
    refine BW.run [.aload_n 0, .dup] (pc' := 20) (lv' := [(0, .ref a0), (1, .int x1)]) (st' := [.ref a0, .ref a0]) (by decide +kernel) rfl rfl ?_
    obtain ⟨v6, ev6, h⟩ := Ok.bind h
    refine BW.get (by decide +kernel : decode tX7_reads.2.1 20 = .ok (.getfield 19, 3)) ciX7 (k := 2) (by decide) lkF_X7_19 (toI_V ev6) ?_
    refine BW.run [.iconst 1, .iadd] (pc' := 25) (lv' := [(0, .ref a0), (1, .int x1)]) (st' := [.int (v6 + (1 : Int32)), .ref a0]) (by decide +kernel) rfl rfl ?_
    obtain ⟨s7, es7, h⟩ := Ok.bind h
    refine BW.put (by decide +kernel : decode tX7_reads.2.1 25 = .ok (.putfield 19, 3)) ciX7 (k := 2) (by decide) lkF_X7_19 rfl rfl rfl es7 ?_
    refine BW.run [.iconst 1] (pc' := 29) (lv' := [(0, .ref a0), (1, .int x1)]) (st' := [.int (1 : Int32)]) (by decide +kernel) rfl rfl ?_
    exact BW.zret (by decide +kernel : decode tX7_reads.2.1 29 = .ok (.ireturn, 1)) rfl (Or.inr rfl) (Nat.zero_le _) (Nat.zero_le _) (hQ _ _ (Ok.some h))
  · have h := (Ok.ite h).2 hc
    refine BW.run [.iconst 0] (pc' := 17) (lv' := [(0, .ref a0), (1, .int x1)]) (st' := [.int (0 : Int32)]) (by decide +kernel) rfl rfl ?_
    exact BW.zret (by decide +kernel : decode tX7_reads.2.1 17 = .ok (.ireturn, 1)) rfl (Or.inl rfl) (Nat.zero_le _) (Nat.zero_le _) (hQ _ _ (Ok.some h))
theorem oX7_reads {n : Nat} {P : Int32 × Sg → Prop} {s0 : Sg} {a0 : Nat} {x1 : Int32} (h : Ok (mX7_reads n s0 a0 x1) P) : ∃ n0, s0.2.1 a0 = some (7, n0) := by
  unfold mX7_reads at h
  exact Ok.isO h
theorem DX7_reads {G : Cx} {n : Nat} {P : Int32 × Sg → Prop} {s0 : Sg} {a0 : Nat} {x1 : Int32} (h : Ok (mX7_reads n s0 a0 x1) P) : BM G tX7_reads 2 41 0 0 [.ref a0, .int x1] s0 (fun v s => ∃ r, v = some (.int r) ∧ P (r, s)) := by
  refine BM.of (by decide +kernel) (Nat.le_of_ble_eq_true rfl) ?_
  exact bX7_reads (E := (({ frames := 2, cells := 0, slots := 0, locals := 41 }), Aof s0, 0, 0, (fun v s => ∃ r, v = some (.int r) ∧ P (r, s)))) ⟨Nat.le_refl _, Nat.le_refl _⟩ (fun r s hp => ⟨r, rfl, hp⟩) h
def mX7_readsMoves_121 (n : Nat) (s0 : Sg) (a0 : Nat) (x1 : Int32) (x2 : Int32) (x3 : Int32) : Option ((Sg × Int32 × Int32 × Int32) ⊕ ((Sg × Int32 × Int32 × Int32) ⊕ (Int32 × Sg))) :=
  (toI (gV 7 s0 a0 2)).bind fun v10 =>
  (pV 7 s0 a0 2 (.int (v10 + (1 : Int32)))).bind fun s11 =>
  some (.inl (s11, x1, x2, x3))
theorem bX7_readsMoves_121 {G : Cx} {E : Ev} {n : Nat} (hRm : 1 ≤ E.1.frames ∧ 21 ≤ E.1.locals) {s0 : Sg} {a0 : Nat} {x1 : Int32} {x2 : Int32} {x3 : Int32} {P : (Sg × Int32 × Int32 × Int32) ⊕ ((Sg × Int32 × Int32 × Int32) ⊕ (Int32 × Sg)) → Prop} (hC : ∀ (s : Sg) (c1 : Int32) (c2 : Int32) (c3 : Int32), P (.inl (s, c1, c2, c3)) → BW G tX7_readsMoves E 0 0 6 [(0, .ref a0), (1, .int c1), (2, .int c2), (3, .int c3)] [] s) (hE : ∀ (s : Sg) (c1 : Int32) (c2 : Int32) (c3 : Int32), P (.inr (.inl (s, c1, c2, c3))) → BW G tX7_readsMoves E 0 0 134 [(1, .int c1), (2, .int c2), (3, .int c3)] [] s) (hQ : ∀ r s, P (.inr (.inr (r, s))) → E.2.2.2.2 (some (.int r)) s)  (h : Ok (mX7_readsMoves_121 n s0 a0 x1 x2 x3) P) : BW G tX7_readsMoves E 0 0 121 [(0, .ref a0), (1, .int x1), (2, .int x2), (3, .int x3)] [] s0 := by
  unfold mX7_readsMoves_121 at h
  refine BW.run [.aload_n 0, .dup] (pc' := 123) (lv' := [(0, .ref a0), (1, .int x1), (2, .int x2), (3, .int x3)]) (st' := [.ref a0, .ref a0]) (by decide +kernel) rfl rfl ?_
  obtain ⟨v10, ev10, h⟩ := Ok.bind h
  refine BW.get (by decide +kernel : decode tX7_readsMoves.2.1 123 = .ok (.getfield 19, 3)) ciX7 (k := 2) (by decide) lkF_X7_19 (toI_V ev10) ?_
  refine BW.run [.iconst 1, .iadd] (pc' := 128) (lv' := [(0, .ref a0), (1, .int x1), (2, .int x2), (3, .int x3)]) (st' := [.int (v10 + (1 : Int32)), .ref a0]) (by decide +kernel) rfl rfl ?_
  obtain ⟨s11, es11, h⟩ := Ok.bind h
  refine BW.put (by decide +kernel : decode tX7_readsMoves.2.1 128 = .ok (.putfield 19, 3)) ciX7 (k := 2) (by decide) lkF_X7_19 rfl rfl rfl es11 ?_
  refine BW.goto 6 (by decide +kernel : decode tX7_readsMoves.2.1 131 = .ok (.goto (-125), 3)) (by decide) ?_
  exact hC _ _ _ _ (Ok.some h)
def mX7_readsMoves_112 (n : Nat) (s0 : Sg) (a0 : Nat) (x1 : Int32) (x2 : Int32) (x3 : Int32) (x4 : Int32) : Option ((Sg × Int32 × Int32 × Int32) ⊕ ((Sg × Int32 × Int32 × Int32) ⊕ (Int32 × Sg))) :=
  if x4 = (32 : Int32) then (
    mX7_readsMoves_121 n s0 a0 x1 x2 x3
  ) else (
    some (.inr (.inr ((0 : Int32), s0)))
  )
theorem bX7_readsMoves_112 {G : Cx} {E : Ev} {n : Nat} (hRm : 1 ≤ E.1.frames ∧ 21 ≤ E.1.locals) {s0 : Sg} {a0 : Nat} {x1 : Int32} {x2 : Int32} {x3 : Int32} {x4 : Int32} {P : (Sg × Int32 × Int32 × Int32) ⊕ ((Sg × Int32 × Int32 × Int32) ⊕ (Int32 × Sg)) → Prop} (hC : ∀ (s : Sg) (c1 : Int32) (c2 : Int32) (c3 : Int32), P (.inl (s, c1, c2, c3)) → BW G tX7_readsMoves E 0 0 6 [(0, .ref a0), (1, .int c1), (2, .int c2), (3, .int c3)] [] s) (hE : ∀ (s : Sg) (c1 : Int32) (c2 : Int32) (c3 : Int32), P (.inr (.inl (s, c1, c2, c3))) → BW G tX7_readsMoves E 0 0 134 [(1, .int c1), (2, .int c2), (3, .int c3)] [] s) (hQ : ∀ r s, P (.inr (.inr (r, s))) → E.2.2.2.2 (some (.int r)) s)  (h : Ok (mX7_readsMoves_112 n s0 a0 x1 x2 x3 x4) P) : BW G tX7_readsMoves E 0 0 112 [(0, .ref a0), (1, .int x1), (2, .int x2), (3, .int x3), (4, .int x4)] [] s0 := by
  unfold mX7_readsMoves_112 at h
  refine BW.run [.iload 4, .bipush 32] (pc' := 116) (lv' := [(0, .ref a0), (1, .int x1), (2, .int x2), (3, .int x3), (4, .int x4)]) (st' := [.int (32 : Int32), .int x4]) (by decide +kernel) rfl rfl ?_
  refine BW.icmp_eq 121 (by decide +kernel : decode tX7_readsMoves.2.1 116 = .ok (.if_icmp .eq 5, 3)) (by decide) (fun hc => ?_) (fun hc => ?_)
  · have h := (Ok.ite h).1 hc
    refine BW.sub [0, 1, 2, 3] rfl ?_
    exact bX7_readsMoves_121 hRm hC hE hQ h
  · have h := (Ok.ite h).2 hc
    refine BW.run [.iconst 0] (pc' := 120) (lv' := [(0, .ref a0), (1, .int x1), (2, .int x2), (3, .int x3), (4, .int x4)]) (st' := [.int (0 : Int32)]) (by decide +kernel) rfl rfl ?_
    exact BW.zret (by decide +kernel : decode tX7_readsMoves.2.1 120 = .ok (.ireturn, 1)) rfl (Or.inl rfl) (Nat.zero_le _) (Nat.zero_le _) (hQ _ _ (Ok.some h))
def mX7_readsMoves_87 (n : Nat) (s0 : Sg) (a0 : Nat) (x1 : Int32) (x2 : Int32) (x3 : Int32) (x4 : Int32) : Option ((Sg × Int32 × Int32 × Int32) ⊕ ((Sg × Int32 × Int32 × Int32) ⊕ (Int32 × Sg))) :=
  if x4 = (41 : Int32) then (
    if x1 ≤ 0 then (
      mX7_readsMoves_112 n s0 a0 x1 x2 x3 x4
    ) else (
      if x2 = 0 then (
        mX7_readsMoves_112 n s0 a0 x1 x2 x3 x4
      ) else (
        if x3 = 0 then (
          mX7_readsMoves_121 n s0 a0 (x1 + (-1 : Int32)) x2 x3
        ) else (
          mX7_readsMoves_112 n s0 a0 x1 x2 x3 x4
        )
      )
    )
  ) else (
    mX7_readsMoves_112 n s0 a0 x1 x2 x3 x4
  )
theorem bX7_readsMoves_87 {G : Cx} {E : Ev} {n : Nat} (hRm : 1 ≤ E.1.frames ∧ 21 ≤ E.1.locals) {s0 : Sg} {a0 : Nat} {x1 : Int32} {x2 : Int32} {x3 : Int32} {x4 : Int32} {P : (Sg × Int32 × Int32 × Int32) ⊕ ((Sg × Int32 × Int32 × Int32) ⊕ (Int32 × Sg)) → Prop} (hC : ∀ (s : Sg) (c1 : Int32) (c2 : Int32) (c3 : Int32), P (.inl (s, c1, c2, c3)) → BW G tX7_readsMoves E 0 0 6 [(0, .ref a0), (1, .int c1), (2, .int c2), (3, .int c3)] [] s) (hE : ∀ (s : Sg) (c1 : Int32) (c2 : Int32) (c3 : Int32), P (.inr (.inl (s, c1, c2, c3))) → BW G tX7_readsMoves E 0 0 134 [(1, .int c1), (2, .int c2), (3, .int c3)] [] s) (hQ : ∀ r s, P (.inr (.inr (r, s))) → E.2.2.2.2 (some (.int r)) s)  (h : Ok (mX7_readsMoves_87 n s0 a0 x1 x2 x3 x4) P) : BW G tX7_readsMoves E 0 0 87 [(0, .ref a0), (1, .int x1), (2, .int x2), (3, .int x3), (4, .int x4)] [] s0 := by
  unfold mX7_readsMoves_87 at h
  refine BW.run [.iload 4, .bipush 41] (pc' := 91) (lv' := [(0, .ref a0), (1, .int x1), (2, .int x2), (3, .int x3), (4, .int x4)]) (st' := [.int (41 : Int32), .int x4]) (by decide +kernel) rfl rfl ?_
  refine BW.icmp_ne 112 (by decide +kernel : decode tX7_readsMoves.2.1 91 = .ok (.if_icmp .ne 21, 3)) (by decide) (fun hc => ?_) (fun hc => ?_)
  · have h := (Ok.ite h).2 hc
    exact bX7_readsMoves_112 hRm hC hE hQ h
  · have h := (Ok.ite h).1 hc
    refine BW.run [.iload_n 1] (pc' := 95) (lv' := [(0, .ref a0), (1, .int x1), (2, .int x2), (3, .int x3), (4, .int x4)]) (st' := [.int x1]) (by decide +kernel) rfl rfl ?_
    refine BW.if_le 112 (by decide +kernel : decode tX7_readsMoves.2.1 95 = .ok (.ifCond .le 17, 3)) (by decide) (fun hc => ?_) (fun hc => ?_)
    · have h := (Ok.ite h).1 hc
      exact bX7_readsMoves_112 hRm hC hE hQ h
    · have h := (Ok.ite h).2 hc
      refine BW.run [.iload_n 2] (pc' := 99) (lv' := [(0, .ref a0), (1, .int x1), (2, .int x2), (3, .int x3), (4, .int x4)]) (st' := [.int x2]) (by decide +kernel) rfl rfl ?_
      refine BW.if_eq 112 (by decide +kernel : decode tX7_readsMoves.2.1 99 = .ok (.ifCond .eq 13, 3)) (by decide) (fun hc => ?_) (fun hc => ?_)
      · have h := (Ok.ite h).1 hc
        exact bX7_readsMoves_112 hRm hC hE hQ h
      · have h := (Ok.ite h).2 hc
        refine BW.run [.iload_n 3] (pc' := 103) (lv' := [(0, .ref a0), (1, .int x1), (2, .int x2), (3, .int x3), (4, .int x4)]) (st' := [.int x3]) (by decide +kernel) rfl rfl ?_
        refine BW.if_ne 112 (by decide +kernel : decode tX7_readsMoves.2.1 103 = .ok (.ifCond .ne 9, 3)) (by decide) (fun hc => ?_) (fun hc => ?_)
        · have h := (Ok.ite h).2 hc
          exact bX7_readsMoves_112 hRm hC hE hQ h
        · have h := (Ok.ite h).1 hc
          refine BW.run [.iinc 1 (-1)] (pc' := 109) (lv' := [(0, .ref a0), (1, .int (x1 + (-1 : Int32))), (2, .int x2), (3, .int x3), (4, .int x4)]) (st' := []) (by decide +kernel) rfl rfl ?_
          refine BW.goto 121 (by decide +kernel : decode tX7_readsMoves.2.1 109 = .ok (.goto 12, 3)) (by decide) ?_
          refine BW.sub [0, 1, 2, 3] rfl ?_
          exact bX7_readsMoves_121 hRm hC hE hQ h
def mX7_readsMoves_65 (n : Nat) (s0 : Sg) (a0 : Nat) (x1 : Int32) (x2 : Int32) (x3 : Int32) (x4 : Int32) : Option ((Sg × Int32 × Int32 × Int32) ⊕ ((Sg × Int32 × Int32 × Int32) ⊕ (Int32 × Sg))) :=
  if x4 = (40 : Int32) then (
    if (3 : Int32) ≤ x1 then (
      mX7_readsMoves_87 n s0 a0 x1 x2 x3 x4
    ) else (
      mX7_readsMoves_121 n s0 a0 (x1 + (1 : Int32)) (0 : Int32) (0 : Int32)
    )
  ) else (
    mX7_readsMoves_87 n s0 a0 x1 x2 x3 x4
  )
theorem bX7_readsMoves_65 {G : Cx} {E : Ev} {n : Nat} (hRm : 1 ≤ E.1.frames ∧ 21 ≤ E.1.locals) {s0 : Sg} {a0 : Nat} {x1 : Int32} {x2 : Int32} {x3 : Int32} {x4 : Int32} {P : (Sg × Int32 × Int32 × Int32) ⊕ ((Sg × Int32 × Int32 × Int32) ⊕ (Int32 × Sg)) → Prop} (hC : ∀ (s : Sg) (c1 : Int32) (c2 : Int32) (c3 : Int32), P (.inl (s, c1, c2, c3)) → BW G tX7_readsMoves E 0 0 6 [(0, .ref a0), (1, .int c1), (2, .int c2), (3, .int c3)] [] s) (hE : ∀ (s : Sg) (c1 : Int32) (c2 : Int32) (c3 : Int32), P (.inr (.inl (s, c1, c2, c3))) → BW G tX7_readsMoves E 0 0 134 [(1, .int c1), (2, .int c2), (3, .int c3)] [] s) (hQ : ∀ r s, P (.inr (.inr (r, s))) → E.2.2.2.2 (some (.int r)) s)  (h : Ok (mX7_readsMoves_65 n s0 a0 x1 x2 x3 x4) P) : BW G tX7_readsMoves E 0 0 65 [(0, .ref a0), (1, .int x1), (2, .int x2), (3, .int x3), (4, .int x4)] [] s0 := by
  unfold mX7_readsMoves_65 at h
  refine BW.run [.iload 4, .bipush 40] (pc' := 69) (lv' := [(0, .ref a0), (1, .int x1), (2, .int x2), (3, .int x3), (4, .int x4)]) (st' := [.int (40 : Int32), .int x4]) (by decide +kernel) rfl rfl ?_
  refine BW.icmp_ne 87 (by decide +kernel : decode tX7_readsMoves.2.1 69 = .ok (.if_icmp .ne 18, 3)) (by decide) (fun hc => ?_) (fun hc => ?_)
  · have h := (Ok.ite h).2 hc
    exact bX7_readsMoves_87 hRm hC hE hQ h
  · have h := (Ok.ite h).1 hc
    refine BW.run [.iload_n 1, .iconst 3] (pc' := 74) (lv' := [(0, .ref a0), (1, .int x1), (2, .int x2), (3, .int x3), (4, .int x4)]) (st' := [.int (3 : Int32), .int x1]) (by decide +kernel) rfl rfl ?_
    refine BW.icmp_ge 87 (by decide +kernel : decode tX7_readsMoves.2.1 74 = .ok (.if_icmp .ge 13, 3)) (by decide) (fun hc => ?_) (fun hc => ?_)
    · have h := (Ok.ite h).1 hc
      exact bX7_readsMoves_87 hRm hC hE hQ h
    · have h := (Ok.ite h).2 hc
      refine BW.run [.iinc 1 1, .iconst 0, .istore_n 2, .iconst 0, .istore_n 3] (pc' := 84) (lv' := [(0, .ref a0), (1, .int (x1 + (1 : Int32))), (2, .int (0 : Int32)), (3, .int (0 : Int32)), (4, .int x4)]) (st' := []) (by decide +kernel) rfl rfl ?_
      refine BW.goto 121 (by decide +kernel : decode tX7_readsMoves.2.1 84 = .ok (.goto 37, 3)) (by decide) ?_
      refine BW.sub [0, 1, 2, 3] rfl ?_
      exact bX7_readsMoves_121 hRm hC hE hQ h
def mX7_readsMoves_L6 (n : Nat) (a0 : Nat) : (Sg × Int32 × Int32 × Int32) → Option ((Sg × Int32 × Int32 × Int32) ⊕ ((Sg × Int32 × Int32 × Int32) ⊕ (Int32 × Sg)))
  | (s0, x1, x2, x3) =>
    (toI (gV 7 s0 a0 2)).bind fun v1 =>
    (toI (gV 7 s0 a0 1)).bind fun v2 =>
    if v2 ≤ v1 then (
      some (.inr (.inl (s0, x1, x2, x3)))
    ) else (
      (toI (gV 7 s0 a0 2)).bind fun v3 =>
      (mX7_byteAt n s0 a0 v3).bind fun (v5, s4) =>
      (mX7_isMove n s4 v5).bind fun (v8, s7) =>
      if v8 = 0 then (
        if v5 < (50 : Int32) then (
          mX7_readsMoves_65 n s7 a0 x1 x2 x3 v5
        ) else (
          if (57 : Int32) < v5 then (
            mX7_readsMoves_65 n s7 a0 x1 x2 x3 v5
          ) else (
            if x3 = 0 then (
              mX7_readsMoves_121 n s7 a0 x1 x2 (1 : Int32)
            ) else (
              mX7_readsMoves_65 n s7 a0 x1 x2 x3 v5
            )
          )
        )
      ) else (
        mX7_readsMoves_121 n s7 a0 x1 (1 : Int32) (0 : Int32)
      )
    )
theorem bX7_readsMoves_L6 {G : Cx} {E : Ev} {n : Nat} (hRm : 1 ≤ E.1.frames ∧ 21 ≤ E.1.locals) {a0 : Nat} {P : (Sg × Int32 × Int32 × Int32) ⊕ ((Sg × Int32 × Int32 × Int32) ⊕ (Int32 × Sg)) → Prop} (hC : ∀ (s : Sg) (c1 : Int32) (c2 : Int32) (c3 : Int32), P (.inl (s, c1, c2, c3)) → BW G tX7_readsMoves E 0 0 6 [(0, .ref a0), (1, .int c1), (2, .int c2), (3, .int c3)] [] s) (hE : ∀ (s : Sg) (c1 : Int32) (c2 : Int32) (c3 : Int32), P (.inr (.inl (s, c1, c2, c3))) → BW G tX7_readsMoves E 0 0 134 [(1, .int c1), (2, .int c2), (3, .int c3)] [] s) (hQ : ∀ r s, P (.inr (.inr (r, s))) → E.2.2.2.2 (some (.int r)) s) {s0 : Sg} {x1 : Int32} {x2 : Int32} {x3 : Int32} (h : Ok (mX7_readsMoves_L6 n a0 (s0, x1, x2, x3)) P) : BW G tX7_readsMoves E 0 0 6 [(0, .ref a0), (1, .int x1), (2, .int x2), (3, .int x3)] [] s0 := by
  unfold mX7_readsMoves_L6 at h
  refine BW.run [.aload_n 0] (pc' := 7) (lv' := [(0, .ref a0), (1, .int x1), (2, .int x2), (3, .int x3)]) (st' := [.ref a0]) (by decide +kernel) rfl rfl ?_
  obtain ⟨v1, ev1, h⟩ := Ok.bind h
  refine BW.get (by decide +kernel : decode tX7_readsMoves.2.1 7 = .ok (.getfield 19, 3)) ciX7 (k := 2) (by decide) lkF_X7_19 (toI_V ev1) ?_
  refine BW.run [.aload_n 0] (pc' := 11) (lv' := [(0, .ref a0), (1, .int x1), (2, .int x2), (3, .int x3)]) (st' := [.ref a0, .int v1]) (by decide +kernel) rfl rfl ?_
  obtain ⟨v2, ev2, h⟩ := Ok.bind h
  refine BW.get (by decide +kernel : decode tX7_readsMoves.2.1 11 = .ok (.getfield 15, 3)) ciX7 (k := 1) (by decide) lkF_X7_15 (toI_V ev2) ?_
  refine BW.icmp_ge 134 (by decide +kernel : decode tX7_readsMoves.2.1 14 = .ok (.if_icmp .ge 120, 3)) (by decide) (fun hc => ?_) (fun hc => ?_)
  · have h := (Ok.ite h).1 hc
    refine BW.sub [1, 2, 3] rfl ?_
    exact hE _ _ _ _ (Ok.some h)
  · have h := (Ok.ite h).2 hc
    refine BW.run [.aload_n 0, .aload_n 0] (pc' := 19) (lv' := [(0, .ref a0), (1, .int x1), (2, .int x2), (3, .int x3)]) (st' := [.ref a0, .ref a0]) (by decide +kernel) rfl rfl ?_
    obtain ⟨v3, ev3, h⟩ := Ok.bind h
    refine BW.get (by decide +kernel : decode tX7_readsMoves.2.1 19 = .ok (.getfield 19, 3)) ciX7 (k := 2) (by decide) lkF_X7_19 (toI_V ev3) ?_
    refine BW.callV (As := [.int v3]) (st := []) (by decide +kernel : decode tX7_readsMoves.2.1 22 = .ok (.invokevirtual 46, 3)) (DX7_byteAt (Ok.bindK h)) mfX7_byteAt lkM_X7_46 imX7_byteAt selX7_byteAt ciX7 (oX7_byteAt (Ok.bindK h)).choose_spec rfl rfl (Nat.le_of_ble_eq_true rfl) ⟨Nat.le_trans (by decide) hRm.1, Nat.le_trans (by decide) hRm.2⟩ ⟨Nat.zero_le _, Nat.zero_le _⟩ ?_
    rintro _ s4 ⟨v5, rfl, h⟩
    show BW G tX7_readsMoves E 0 0 25 [(0, .ref a0), (1, .int x1), (2, .int x2), (3, .int x3)] [.int v5] s4
    refine BW.run [.istore 4, .iload 4] (pc' := 29) (lv' := [(0, .ref a0), (1, .int x1), (2, .int x2), (3, .int x3), (4, .int v5)]) (st' := [.int v5]) (by decide +kernel) rfl rfl ?_
    refine BW.callS (As := [.int v5]) (st := []) (by decide +kernel : decode tX7_readsMoves.2.1 29 = .ok (.invokestatic 56, 3)) (DX7_isMove (Ok.bindK h)) mfX7_isMove lkM_X7_56 smX7_isMove rfl rfl (Nat.le_of_ble_eq_true rfl) ⟨Nat.le_trans (by decide) hRm.1, Nat.le_trans (by decide) hRm.2⟩ ⟨Nat.zero_le _, Nat.zero_le _⟩ ?_
    rintro _ s7 ⟨v8, rfl, h⟩
    show BW G tX7_readsMoves E 0 0 32 [(0, .ref a0), (1, .int x1), (2, .int x2), (3, .int x3), (4, .int v5)] [.int v8] s7
    refine BW.if_eq 42 (by decide +kernel : decode tX7_readsMoves.2.1 32 = .ok (.ifCond .eq 10, 3)) (by decide) (fun hc => ?_) (fun hc => ?_)
    · have h := (Ok.ite h).1 hc
      refine BW.run [.iload 4, .bipush 50] (pc' := 46) (lv' := [(0, .ref a0), (1, .int x1), (2, .int x2), (3, .int x3), (4, .int v5)]) (st' := [.int (50 : Int32), .int v5]) (by decide +kernel) rfl rfl ?_
      refine BW.icmp_lt 65 (by decide +kernel : decode tX7_readsMoves.2.1 46 = .ok (.if_icmp .lt 19, 3)) (by decide) (fun hc => ?_) (fun hc => ?_)
      · have h := (Ok.ite h).1 hc
        exact bX7_readsMoves_65 hRm hC hE hQ h
      · have h := (Ok.ite h).2 hc
        refine BW.run [.iload 4, .bipush 57] (pc' := 53) (lv' := [(0, .ref a0), (1, .int x1), (2, .int x2), (3, .int x3), (4, .int v5)]) (st' := [.int (57 : Int32), .int v5]) (by decide +kernel) rfl rfl ?_
        refine BW.icmp_gt 65 (by decide +kernel : decode tX7_readsMoves.2.1 53 = .ok (.if_icmp .gt 12, 3)) (by decide) (fun hc => ?_) (fun hc => ?_)
        · have h := (Ok.ite h).1 hc
          exact bX7_readsMoves_65 hRm hC hE hQ h
        · have h := (Ok.ite h).2 hc
          refine BW.run [.iload_n 3] (pc' := 57) (lv' := [(0, .ref a0), (1, .int x1), (2, .int x2), (3, .int x3), (4, .int v5)]) (st' := [.int x3]) (by decide +kernel) rfl rfl ?_
          refine BW.if_ne 65 (by decide +kernel : decode tX7_readsMoves.2.1 57 = .ok (.ifCond .ne 8, 3)) (by decide) (fun hc => ?_) (fun hc => ?_)
          · have h := (Ok.ite h).2 hc
            exact bX7_readsMoves_65 hRm hC hE hQ h
          · have h := (Ok.ite h).1 hc
            refine BW.run [.iconst 1, .istore_n 3] (pc' := 62) (lv' := [(0, .ref a0), (1, .int x1), (2, .int x2), (3, .int (1 : Int32)), (4, .int v5)]) (st' := []) (by decide +kernel) rfl rfl ?_
            refine BW.goto 121 (by decide +kernel : decode tX7_readsMoves.2.1 62 = .ok (.goto 59, 3)) (by decide) ?_
            refine BW.sub [0, 1, 2, 3] rfl ?_
            exact bX7_readsMoves_121 hRm hC hE hQ h
    · have h := (Ok.ite h).2 hc
      refine BW.run [.iconst 1, .istore_n 2, .iconst 0, .istore_n 3] (pc' := 39) (lv' := [(0, .ref a0), (1, .int x1), (2, .int (1 : Int32)), (3, .int (0 : Int32)), (4, .int v5)]) (st' := []) (by decide +kernel) rfl rfl ?_
      refine BW.goto 121 (by decide +kernel : decode tX7_readsMoves.2.1 39 = .ok (.goto 82, 3)) (by decide) ?_
      refine BW.sub [0, 1, 2, 3] rfl ?_
      exact bX7_readsMoves_121 hRm hC hE hQ h
theorem bX7_readsMoves_W6 {G : Cx} {E : Ev} {n : Nat} (hRm : 1 ≤ E.1.frames ∧ 21 ≤ E.1.locals) {a0 : Nat} {K : ((Sg × Int32 × Int32 × Int32) ⊕ (Int32 × Sg)) → Prop} (hE : ∀ (s : Sg) (c1 : Int32) (c2 : Int32) (c3 : Int32), K (.inl (s, c1, c2, c3)) → BW G tX7_readsMoves E 0 0 134 [(1, .int c1), (2, .int c2), (3, .int c3)] [] s) (hQ : ∀ r s, K (.inr (r, s)) → E.2.2.2.2 (some (.int r)) s) : ∀ (f : Nat) (c : Sg × Int32 × Int32 × Int32), Ok (loopM (mX7_readsMoves_L6 n a0) f c) K → match c with | (s0, x1, x2, x3) => BW G tX7_readsMoves E 0 0 6 [(0, .ref a0), (1, .int x1), (2, .int x2), (3, .int x3)] [] s0 := by
  intro f
  induction f with
  | zero => intro c h; exact (Ok.no h).elim
  | succ f ih =>
    intro c h
    obtain ⟨s0, x1, x2, x3⟩ := c
    exact bX7_readsMoves_L6 (P := loopP (mX7_readsMoves_L6 n a0) f K) hRm (fun s c1 c2 c3 h => ih (s, c1, c2, c3) h) hE hQ (loopM_ok h)
def mX7_readsMoves (n : Nat) (s0 : Sg) (a0 : Nat) : Option (Int32 × Sg) :=
  (isO 7 s0 a0).bind fun _ =>
  (loopM (mX7_readsMoves_L6 n a0) n (s0, (0 : Int32), (0 : Int32), (0 : Int32))).bind fun q16 => match q16 with
  | .inl (s12, v13, v14, v15) => (
    if v13 = 0 then (
      if v14 = 0 then (
        some ((0 : Int32), s12)
      ) else (
        if v15 = 0 then (
          some ((1 : Int32), s12)
        ) else (
          some ((0 : Int32), s12)
        )
      )
    ) else (
      some ((0 : Int32), s12)
    )
  )
  | .inr (r, s) => some (r, s)
theorem bX7_readsMoves {G : Cx} {E : Ev} {n : Nat} (hRm : 1 ≤ E.1.frames ∧ 21 ≤ E.1.locals) {P : Int32 × Sg → Prop} (hQ : ∀ r s, P (r, s) → E.2.2.2.2 (some (.int r)) s) {s0 : Sg} {a0 : Nat} (h : Ok (mX7_readsMoves n s0 a0) P) : BW G tX7_readsMoves E 0 0 0 [(0, .ref a0)] [] s0 := by
  unfold mX7_readsMoves at h
  obtain ⟨_, _, h⟩ := Ok.bind h
  refine BW.run [.iconst 0, .istore_n 1, .iconst 0, .istore_n 2, .iconst 0, .istore_n 3] (pc' := 6) (lv' := [(0, .ref a0), (1, .int (0 : Int32)), (2, .int (0 : Int32)), (3, .int (0 : Int32))]) (st' := []) (by decide +kernel) rfl rfl ?_
  refine bX7_readsMoves_W6 hRm (a0 := a0) (fun s12 v13 v14 v15 h => ?_) (fun r s h => ?_) n (s0, (0 : Int32), (0 : Int32), (0 : Int32)) (Ok.bindK h)
  · refine BW.run [.iload_n 1] (pc' := 135) (lv' := [(1, .int v13), (2, .int v14), (3, .int v15)]) (st' := [.int v13]) (by decide +kernel) rfl rfl ?_
    refine BW.if_ne 150 (by decide +kernel : decode tX7_readsMoves.2.1 135 = .ok (.ifCond .ne 15, 3)) (by decide) (fun hc => ?_) (fun hc => ?_)
    · have h := (Ok.ite h).2 hc
      refine BW.run [.iconst 0] (pc' := 151) (lv' := [(1, .int v13), (2, .int v14), (3, .int v15)]) (st' := [.int (0 : Int32)]) (by decide +kernel) rfl rfl ?_
      exact BW.zret (by decide +kernel : decode tX7_readsMoves.2.1 151 = .ok (.ireturn, 1)) rfl (Or.inl rfl) (Nat.zero_le _) (Nat.zero_le _) (hQ _ _ (Ok.some h))
    · have h := (Ok.ite h).1 hc
      refine BW.run [.iload_n 2] (pc' := 139) (lv' := [(1, .int v13), (2, .int v14), (3, .int v15)]) (st' := [.int v14]) (by decide +kernel) rfl rfl ?_
      refine BW.if_eq 150 (by decide +kernel : decode tX7_readsMoves.2.1 139 = .ok (.ifCond .eq 11, 3)) (by decide) (fun hc => ?_) (fun hc => ?_)
      · have h := (Ok.ite h).1 hc
        refine BW.run [.iconst 0] (pc' := 151) (lv' := [(1, .int v13), (2, .int v14), (3, .int v15)]) (st' := [.int (0 : Int32)]) (by decide +kernel) rfl rfl ?_
        exact BW.zret (by decide +kernel : decode tX7_readsMoves.2.1 151 = .ok (.ireturn, 1)) rfl (Or.inl rfl) (Nat.zero_le _) (Nat.zero_le _) (hQ _ _ (Ok.some h))
      · have h := (Ok.ite h).2 hc
        refine BW.run [.iload_n 3] (pc' := 143) (lv' := [(1, .int v13), (2, .int v14), (3, .int v15)]) (st' := [.int v15]) (by decide +kernel) rfl rfl ?_
        refine BW.if_ne 150 (by decide +kernel : decode tX7_readsMoves.2.1 143 = .ok (.ifCond .ne 7, 3)) (by decide) (fun hc => ?_) (fun hc => ?_)
        · have h := (Ok.ite h).2 hc
          refine BW.run [.iconst 0] (pc' := 151) (lv' := [(1, .int v13), (2, .int v14), (3, .int v15)]) (st' := [.int (0 : Int32)]) (by decide +kernel) rfl rfl ?_
          exact BW.zret (by decide +kernel : decode tX7_readsMoves.2.1 151 = .ok (.ireturn, 1)) rfl (Or.inl rfl) (Nat.zero_le _) (Nat.zero_le _) (hQ _ _ (Ok.some h))
        · have h := (Ok.ite h).1 hc
          refine BW.run [.iconst 1] (pc' := 147) (lv' := [(1, .int v13), (2, .int v14), (3, .int v15)]) (st' := [.int (1 : Int32)]) (by decide +kernel) rfl rfl ?_
          refine BW.goto 151 (by decide +kernel : decode tX7_readsMoves.2.1 147 = .ok (.goto 4, 3)) (by decide) ?_
          exact BW.zret (by decide +kernel : decode tX7_readsMoves.2.1 151 = .ok (.ireturn, 1)) rfl (Or.inr rfl) (Nat.zero_le _) (Nat.zero_le _) (hQ _ _ (Ok.some h))
  · exact hQ r s (Ok.some h)
theorem oX7_readsMoves {n : Nat} {P : Int32 × Sg → Prop} {s0 : Sg} {a0 : Nat} (h : Ok (mX7_readsMoves n s0 a0) P) : ∃ n0, s0.2.1 a0 = some (7, n0) := by
  unfold mX7_readsMoves at h
  exact Ok.isO h
theorem DX7_readsMoves {G : Cx} {n : Nat} {P : Int32 × Sg → Prop} {s0 : Sg} {a0 : Nat} (h : Ok (mX7_readsMoves n s0 a0) P) : BM G tX7_readsMoves 1 21 0 0 [.ref a0] s0 (fun v s => ∃ r, v = some (.int r) ∧ P (r, s)) := by
  refine BM.of (by decide +kernel) (Nat.le_of_ble_eq_true rfl) ?_
  exact bX7_readsMoves (E := (({ frames := 1, cells := 0, slots := 0, locals := 21 }), Aof s0, 0, 0, (fun v s => ∃ r, v = some (.int r) ∧ P (r, s)))) ⟨Nat.le_refl _, Nat.le_refl _⟩ (fun r s hp => ⟨r, rfl, hp⟩) h
def mX7_readsNumber_84 (n : Nat) (s0 : Sg) (a0 : Nat) (x1 : Int32) : Option (Int32 × Sg) :=
  (toI (gV 7 s0 a0 3)).bind fun v21 =>
  if v21 < x1 then (
    (toI (gV 7 s0 a0 2)).bind fun v22 =>
    (pV 7 s0 a0 2 (.int (v22 + (1 : Int32)))).bind fun s23 =>
    (toI (gV 7 s23 a0 2)).bind fun v24 =>
    (mX7_byteAt n s23 a0 v24).bind fun (v26, s25) =>
    (mX7_isDigit n s25 v26).bind fun (v29, s28) =>
    if v29 = 0 then (
      some ((1 : Int32), s28)
    ) else (
      some ((0 : Int32), s28)
    )
  ) else (
    some ((0 : Int32), s0)
  )
theorem bX7_readsNumber_84 {G : Cx} {E : Ev} {n : Nat} (hRm : 2 ≤ E.1.frames ∧ 41 ≤ E.1.locals) {s0 : Sg} {a0 : Nat} {x1 : Int32} {P : Int32 × Sg → Prop} (hQ : ∀ r s, P (r, s) → E.2.2.2.2 (some (.int r)) s) (h : Ok (mX7_readsNumber_84 n s0 a0 x1) P) : BW G tX7_readsNumber E 0 0 84 [(0, .ref a0), (1, .int x1)] [] s0 := by
  unfold mX7_readsNumber_84 at h
  refine BW.run [.aload_n 0] (pc' := 85) (lv' := [(0, .ref a0), (1, .int x1)]) (st' := [.ref a0]) (by decide +kernel) rfl rfl ?_
  obtain ⟨v21, ev21, h⟩ := Ok.bind h
  refine BW.get (by decide +kernel : decode tX7_readsNumber.2.1 85 = .ok (.getfield 22, 3)) ciX7 (k := 3) (by decide) lkF_X7_22 (toI_V ev21) ?_
  refine BW.run [.iload_n 1] (pc' := 89) (lv' := [(0, .ref a0), (1, .int x1)]) (st' := [.int x1, .int v21]) (by decide +kernel) rfl rfl ?_
  refine BW.icmp_lt 94 (by decide +kernel : decode tX7_readsNumber.2.1 89 = .ok (.if_icmp .lt 5, 3)) (by decide) (fun hc => ?_) (fun hc => ?_)
  · have h := (Ok.ite h).1 hc
    refine BW.run [.aload_n 0, .dup] (pc' := 96) (lv' := [(0, .ref a0), (1, .int x1)]) (st' := [.ref a0, .ref a0]) (by decide +kernel) rfl rfl ?_
    obtain ⟨v22, ev22, h⟩ := Ok.bind h
    refine BW.get (by decide +kernel : decode tX7_readsNumber.2.1 96 = .ok (.getfield 19, 3)) ciX7 (k := 2) (by decide) lkF_X7_19 (toI_V ev22) ?_
    refine BW.run [.iconst 1, .iadd] (pc' := 101) (lv' := [(0, .ref a0), (1, .int x1)]) (st' := [.int (v22 + (1 : Int32)), .ref a0]) (by decide +kernel) rfl rfl ?_
    obtain ⟨s23, es23, h⟩ := Ok.bind h
    refine BW.put (by decide +kernel : decode tX7_readsNumber.2.1 101 = .ok (.putfield 19, 3)) ciX7 (k := 2) (by decide) lkF_X7_19 rfl rfl rfl es23 ?_
    refine BW.run [.aload_n 0, .aload_n 0] (pc' := 106) (lv' := [(0, .ref a0), (1, .int x1)]) (st' := [.ref a0, .ref a0]) (by decide +kernel) rfl rfl ?_
    obtain ⟨v24, ev24, h⟩ := Ok.bind h
    refine BW.get (by decide +kernel : decode tX7_readsNumber.2.1 106 = .ok (.getfield 19, 3)) ciX7 (k := 2) (by decide) lkF_X7_19 (toI_V ev24) ?_
    refine BW.callV (As := [.int v24]) (st := []) (by decide +kernel : decode tX7_readsNumber.2.1 109 = .ok (.invokevirtual 46, 3)) (DX7_byteAt (Ok.bindK h)) mfX7_byteAt lkM_X7_46 imX7_byteAt selX7_byteAt ciX7 (oX7_byteAt (Ok.bindK h)).choose_spec rfl rfl (Nat.le_of_ble_eq_true rfl) ⟨Nat.le_trans (by decide) hRm.1, Nat.le_trans (by decide) hRm.2⟩ ⟨Nat.zero_le _, Nat.zero_le _⟩ ?_
    rintro _ s25 ⟨v26, rfl, h⟩
    show BW G tX7_readsNumber E 0 0 112 [(0, .ref a0), (1, .int x1)] [.int v26] s25
    refine BW.callS (As := [.int v26]) (st := []) (by decide +kernel : decode tX7_readsNumber.2.1 112 = .ok (.invokestatic 53, 3)) (DX7_isDigit (Ok.bindK h)) mfX7_isDigit lkM_X7_53 smX7_isDigit rfl rfl (Nat.le_of_ble_eq_true rfl) ⟨Nat.le_trans (by decide) hRm.1, Nat.le_trans (by decide) hRm.2⟩ ⟨Nat.zero_le _, Nat.zero_le _⟩ ?_
    rintro _ s28 ⟨v29, rfl, h⟩
    show BW G tX7_readsNumber E 0 0 115 [(0, .ref a0), (1, .int x1)] [.int v29] s28
    refine BW.if_ne 122 (by decide +kernel : decode tX7_readsNumber.2.1 115 = .ok (.ifCond .ne 7, 3)) (by decide) (fun hc => ?_) (fun hc => ?_)
    · have h := (Ok.ite h).2 hc
      refine BW.run [.iconst 0] (pc' := 123) (lv' := [(0, .ref a0), (1, .int x1)]) (st' := [.int (0 : Int32)]) (by decide +kernel) rfl rfl ?_
      exact BW.zret (by decide +kernel : decode tX7_readsNumber.2.1 123 = .ok (.ireturn, 1)) rfl (Or.inl rfl) (Nat.zero_le _) (Nat.zero_le _) (hQ _ _ (Ok.some h))
    · have h := (Ok.ite h).1 hc
      refine BW.run [.iconst 1] (pc' := 119) (lv' := [(0, .ref a0), (1, .int x1)]) (st' := [.int (1 : Int32)]) (by decide +kernel) rfl rfl ?_
      refine BW.goto 123 (by decide +kernel : decode tX7_readsNumber.2.1 119 = .ok (.goto 4, 3)) (by decide) ?_
      exact BW.zret (by decide +kernel : decode tX7_readsNumber.2.1 123 = .ok (.ireturn, 1)) rfl (Or.inr rfl) (Nat.zero_le _) (Nat.zero_le _) (hQ _ _ (Ok.some h))
  · have h := (Ok.ite h).2 hc
    refine BW.run [.iconst 0] (pc' := 93) (lv' := [(0, .ref a0), (1, .int x1)]) (st' := [.int (0 : Int32)]) (by decide +kernel) rfl rfl ?_
    exact BW.zret (by decide +kernel : decode tX7_readsNumber.2.1 93 = .ok (.ireturn, 1)) rfl (Or.inl rfl) (Nat.zero_le _) (Nat.zero_le _) (hQ _ _ (Ok.some h))
def mX7_readsNumber (n : Nat) (s0 : Sg) (a0 : Nat) (x1 : Int32) : Option (Int32 × Sg) :=
  (isO 7 s0 a0).bind fun _ =>
  (mX7_skipBlanks n s0 a0).bind fun s1 =>
  (toI (gV 7 s1 a0 2)).bind fun v2 =>
  (mX7_byteAt n s1 a0 v2).bind fun (v4, s3) =>
  (mX7_isDigit n s3 v4).bind fun (v7, s6) =>
  if v7 = 0 then (
    some ((0 : Int32), s6)
  ) else (
    (toI (gV 7 s6 a0 2)).bind fun v9 =>
    (mX7_byteAt n s6 a0 v9).bind fun (v11, s10) =>
    (pV 7 s10 a0 3 (.int (v11 - (48 : Int32)))).bind fun s13 =>
    (toI (gV 7 s13 a0 2)).bind fun v14 =>
    (mX7_byteAt n s13 a0 (v14 + (1 : Int32))).bind fun (v16, s15) =>
    (mX7_isDigit n s15 v16).bind fun (v19, s18) =>
    if v19 = 0 then (
      mX7_readsNumber_84 n s18 a0 x1
    ) else (
      (toI (gV 7 s18 a0 2)).bind fun v31 =>
      (pV 7 s18 a0 2 (.int (v31 + (1 : Int32)))).bind fun s32 =>
      (toI (gV 7 s32 a0 3)).bind fun v33 =>
      (toI (gV 7 s32 a0 2)).bind fun v34 =>
      (mX7_byteAt n s32 a0 v34).bind fun (v36, s35) =>
      (pV 7 s35 a0 3 (.int ((((10 : Int32) * v33) + v36) - (48 : Int32)))).bind fun s38 =>
      mX7_readsNumber_84 n s38 a0 x1
    )
  )
theorem bX7_readsNumber {G : Cx} {E : Ev} {n : Nat} (hRm : 2 ≤ E.1.frames ∧ 41 ≤ E.1.locals) {P : Int32 × Sg → Prop} (hQ : ∀ r s, P (r, s) → E.2.2.2.2 (some (.int r)) s) {s0 : Sg} {a0 : Nat} {x1 : Int32} (h : Ok (mX7_readsNumber n s0 a0 x1) P) : BW G tX7_readsNumber E 0 0 0 [(0, .ref a0), (1, .int x1)] [] s0 := by
  unfold mX7_readsNumber at h
  obtain ⟨_, _, h⟩ := Ok.bind h
  refine BW.run [.aload_n 0] (pc' := 1) (lv' := [(0, .ref a0), (1, .int x1)]) (st' := [.ref a0]) (by decide +kernel) rfl rfl ?_
  refine BW.callV (As := []) (st := []) (by decide +kernel : decode tX7_readsNumber.2.1 1 = .ok (.invokevirtual 50, 3)) (DX7_skipBlanks (Ok.bindK h)) mfX7_skipBlanks lkM_X7_50 imX7_skipBlanks selX7_skipBlanks ciX7 (oX7_skipBlanks (Ok.bindK h)).choose_spec rfl rfl (Nat.le_of_ble_eq_true rfl) ⟨Nat.le_trans (by decide) hRm.1, Nat.le_trans (by decide) hRm.2⟩ ⟨Nat.zero_le _, Nat.zero_le _⟩ ?_
  rintro _ s1 ⟨rfl, h⟩
  show BW G tX7_readsNumber E 0 0 4 [(0, .ref a0), (1, .int x1)] [] s1
  refine BW.run [.aload_n 0, .aload_n 0] (pc' := 6) (lv' := [(0, .ref a0), (1, .int x1)]) (st' := [.ref a0, .ref a0]) (by decide +kernel) rfl rfl ?_
  obtain ⟨v2, ev2, h⟩ := Ok.bind h
  refine BW.get (by decide +kernel : decode tX7_readsNumber.2.1 6 = .ok (.getfield 19, 3)) ciX7 (k := 2) (by decide) lkF_X7_19 (toI_V ev2) ?_
  refine BW.callV (As := [.int v2]) (st := []) (by decide +kernel : decode tX7_readsNumber.2.1 9 = .ok (.invokevirtual 46, 3)) (DX7_byteAt (Ok.bindK h)) mfX7_byteAt lkM_X7_46 imX7_byteAt selX7_byteAt ciX7 (oX7_byteAt (Ok.bindK h)).choose_spec rfl rfl (Nat.le_of_ble_eq_true rfl) ⟨Nat.le_trans (by decide) hRm.1, Nat.le_trans (by decide) hRm.2⟩ ⟨Nat.zero_le _, Nat.zero_le _⟩ ?_
  rintro _ s3 ⟨v4, rfl, h⟩
  show BW G tX7_readsNumber E 0 0 12 [(0, .ref a0), (1, .int x1)] [.int v4] s3
  refine BW.callS (As := [.int v4]) (st := []) (by decide +kernel : decode tX7_readsNumber.2.1 12 = .ok (.invokestatic 53, 3)) (DX7_isDigit (Ok.bindK h)) mfX7_isDigit lkM_X7_53 smX7_isDigit rfl rfl (Nat.le_of_ble_eq_true rfl) ⟨Nat.le_trans (by decide) hRm.1, Nat.le_trans (by decide) hRm.2⟩ ⟨Nat.zero_le _, Nat.zero_le _⟩ ?_
  rintro _ s6 ⟨v7, rfl, h⟩
  show BW G tX7_readsNumber E 0 0 15 [(0, .ref a0), (1, .int x1)] [.int v7] s6
  refine BW.if_ne 20 (by decide +kernel : decode tX7_readsNumber.2.1 15 = .ok (.ifCond .ne 5, 3)) (by decide) (fun hc => ?_) (fun hc => ?_)
  · have h := (Ok.ite h).2 hc
    refine BW.run [.aload_n 0, .aload_n 0, .aload_n 0] (pc' := 23) (lv' := [(0, .ref a0), (1, .int x1)]) (st' := [.ref a0, .ref a0, .ref a0]) (by decide +kernel) rfl rfl ?_
    obtain ⟨v9, ev9, h⟩ := Ok.bind h
    refine BW.get (by decide +kernel : decode tX7_readsNumber.2.1 23 = .ok (.getfield 19, 3)) ciX7 (k := 2) (by decide) lkF_X7_19 (toI_V ev9) ?_
    refine BW.callV (As := [.int v9]) (st := [.ref a0]) (by decide +kernel : decode tX7_readsNumber.2.1 26 = .ok (.invokevirtual 46, 3)) (DX7_byteAt (Ok.bindK h)) mfX7_byteAt lkM_X7_46 imX7_byteAt selX7_byteAt ciX7 (oX7_byteAt (Ok.bindK h)).choose_spec rfl rfl (Nat.le_of_ble_eq_true rfl) ⟨Nat.le_trans (by decide) hRm.1, Nat.le_trans (by decide) hRm.2⟩ ⟨Nat.zero_le _, Nat.zero_le _⟩ ?_
    rintro _ s10 ⟨v11, rfl, h⟩
    show BW G tX7_readsNumber E 0 0 29 [(0, .ref a0), (1, .int x1)] [.int v11, .ref a0] s10
    refine BW.run [.bipush 48, .isub] (pc' := 32) (lv' := [(0, .ref a0), (1, .int x1)]) (st' := [.int (v11 - (48 : Int32)), .ref a0]) (by decide +kernel) rfl rfl ?_
    obtain ⟨s13, es13, h⟩ := Ok.bind h
    refine BW.put (by decide +kernel : decode tX7_readsNumber.2.1 32 = .ok (.putfield 22, 3)) ciX7 (k := 3) (by decide) lkF_X7_22 rfl rfl rfl es13 ?_
    refine BW.run [.aload_n 0, .aload_n 0] (pc' := 37) (lv' := [(0, .ref a0), (1, .int x1)]) (st' := [.ref a0, .ref a0]) (by decide +kernel) rfl rfl ?_
    obtain ⟨v14, ev14, h⟩ := Ok.bind h
    refine BW.get (by decide +kernel : decode tX7_readsNumber.2.1 37 = .ok (.getfield 19, 3)) ciX7 (k := 2) (by decide) lkF_X7_19 (toI_V ev14) ?_
    refine BW.run [.iconst 1, .iadd] (pc' := 42) (lv' := [(0, .ref a0), (1, .int x1)]) (st' := [.int (v14 + (1 : Int32)), .ref a0]) (by decide +kernel) rfl rfl ?_
    refine BW.callV (As := [.int (v14 + (1 : Int32))]) (st := []) (by decide +kernel : decode tX7_readsNumber.2.1 42 = .ok (.invokevirtual 46, 3)) (DX7_byteAt (Ok.bindK h)) mfX7_byteAt lkM_X7_46 imX7_byteAt selX7_byteAt ciX7 (oX7_byteAt (Ok.bindK h)).choose_spec rfl rfl (Nat.le_of_ble_eq_true rfl) ⟨Nat.le_trans (by decide) hRm.1, Nat.le_trans (by decide) hRm.2⟩ ⟨Nat.zero_le _, Nat.zero_le _⟩ ?_
    rintro _ s15 ⟨v16, rfl, h⟩
    show BW G tX7_readsNumber E 0 0 45 [(0, .ref a0), (1, .int x1)] [.int v16] s15
    refine BW.callS (As := [.int v16]) (st := []) (by decide +kernel : decode tX7_readsNumber.2.1 45 = .ok (.invokestatic 53, 3)) (DX7_isDigit (Ok.bindK h)) mfX7_isDigit lkM_X7_53 smX7_isDigit rfl rfl (Nat.le_of_ble_eq_true rfl) ⟨Nat.le_trans (by decide) hRm.1, Nat.le_trans (by decide) hRm.2⟩ ⟨Nat.zero_le _, Nat.zero_le _⟩ ?_
    rintro _ s18 ⟨v19, rfl, h⟩
    show BW G tX7_readsNumber E 0 0 48 [(0, .ref a0), (1, .int x1)] [.int v19] s18
    refine BW.if_eq 84 (by decide +kernel : decode tX7_readsNumber.2.1 48 = .ok (.ifCond .eq 36, 3)) (by decide) (fun hc => ?_) (fun hc => ?_)
    · have h := (Ok.ite h).1 hc
      exact bX7_readsNumber_84 hRm hQ h
    · have h := (Ok.ite h).2 hc
      refine BW.run [.aload_n 0, .dup] (pc' := 53) (lv' := [(0, .ref a0), (1, .int x1)]) (st' := [.ref a0, .ref a0]) (by decide +kernel) rfl rfl ?_
      obtain ⟨v31, ev31, h⟩ := Ok.bind h
      refine BW.get (by decide +kernel : decode tX7_readsNumber.2.1 53 = .ok (.getfield 19, 3)) ciX7 (k := 2) (by decide) lkF_X7_19 (toI_V ev31) ?_
      refine BW.run [.iconst 1, .iadd] (pc' := 58) (lv' := [(0, .ref a0), (1, .int x1)]) (st' := [.int (v31 + (1 : Int32)), .ref a0]) (by decide +kernel) rfl rfl ?_
      obtain ⟨s32, es32, h⟩ := Ok.bind h
      refine BW.put (by decide +kernel : decode tX7_readsNumber.2.1 58 = .ok (.putfield 19, 3)) ciX7 (k := 2) (by decide) lkF_X7_19 rfl rfl rfl es32 ?_
      refine BW.run [.aload_n 0, .bipush 10, .aload_n 0] (pc' := 65) (lv' := [(0, .ref a0), (1, .int x1)]) (st' := [.ref a0, .int (10 : Int32), .ref a0]) (by decide +kernel) rfl rfl ?_
      obtain ⟨v33, ev33, h⟩ := Ok.bind h
      refine BW.get (by decide +kernel : decode tX7_readsNumber.2.1 65 = .ok (.getfield 22, 3)) ciX7 (k := 3) (by decide) lkF_X7_22 (toI_V ev33) ?_
      refine BW.run [.imul, .aload_n 0, .aload_n 0] (pc' := 71) (lv' := [(0, .ref a0), (1, .int x1)]) (st' := [.ref a0, .ref a0, .int ((10 : Int32) * v33), .ref a0]) (by decide +kernel) rfl rfl ?_
      obtain ⟨v34, ev34, h⟩ := Ok.bind h
      refine BW.get (by decide +kernel : decode tX7_readsNumber.2.1 71 = .ok (.getfield 19, 3)) ciX7 (k := 2) (by decide) lkF_X7_19 (toI_V ev34) ?_
      refine BW.callV (As := [.int v34]) (st := [.int ((10 : Int32) * v33), .ref a0]) (by decide +kernel : decode tX7_readsNumber.2.1 74 = .ok (.invokevirtual 46, 3)) (DX7_byteAt (Ok.bindK h)) mfX7_byteAt lkM_X7_46 imX7_byteAt selX7_byteAt ciX7 (oX7_byteAt (Ok.bindK h)).choose_spec rfl rfl (Nat.le_of_ble_eq_true rfl) ⟨Nat.le_trans (by decide) hRm.1, Nat.le_trans (by decide) hRm.2⟩ ⟨Nat.zero_le _, Nat.zero_le _⟩ ?_
      rintro _ s35 ⟨v36, rfl, h⟩
      show BW G tX7_readsNumber E 0 0 77 [(0, .ref a0), (1, .int x1)] [.int v36, .int ((10 : Int32) * v33), .ref a0] s35
      refine BW.run [.iadd, .bipush 48, .isub] (pc' := 81) (lv' := [(0, .ref a0), (1, .int x1)]) (st' := [.int ((((10 : Int32) * v33) + v36) - (48 : Int32)), .ref a0]) (by decide +kernel) rfl rfl ?_
      obtain ⟨s38, es38, h⟩ := Ok.bind h
      refine BW.put (by decide +kernel : decode tX7_readsNumber.2.1 81 = .ok (.putfield 22, 3)) ciX7 (k := 3) (by decide) lkF_X7_22 rfl rfl rfl es38 ?_
      exact bX7_readsNumber_84 hRm hQ h
  · have h := (Ok.ite h).1 hc
    refine BW.run [.iconst 0] (pc' := 19) (lv' := [(0, .ref a0), (1, .int x1)]) (st' := [.int (0 : Int32)]) (by decide +kernel) rfl rfl ?_
    exact BW.zret (by decide +kernel : decode tX7_readsNumber.2.1 19 = .ok (.ireturn, 1)) rfl (Or.inl rfl) (Nat.zero_le _) (Nat.zero_le _) (hQ _ _ (Ok.some h))
theorem oX7_readsNumber {n : Nat} {P : Int32 × Sg → Prop} {s0 : Sg} {a0 : Nat} {x1 : Int32} (h : Ok (mX7_readsNumber n s0 a0 x1) P) : ∃ n0, s0.2.1 a0 = some (7, n0) := by
  unfold mX7_readsNumber at h
  exact Ok.isO h
theorem DX7_readsNumber {G : Cx} {n : Nat} {P : Int32 × Sg → Prop} {s0 : Sg} {a0 : Nat} {x1 : Int32} (h : Ok (mX7_readsNumber n s0 a0 x1) P) : BM G tX7_readsNumber 2 41 0 0 [.ref a0, .int x1] s0 (fun v s => ∃ r, v = some (.int r) ∧ P (r, s)) := by
  refine BM.of (by decide +kernel) (Nat.le_of_ble_eq_true rfl) ?_
  exact bX7_readsNumber (E := (({ frames := 2, cells := 0, slots := 0, locals := 41 }), Aof s0, 0, 0, (fun v s => ∃ r, v = some (.int r) ∧ P (r, s)))) ⟨Nat.le_refl _, Nat.le_refl _⟩ (fun r s hp => ⟨r, rfl, hp⟩) h
def mX7_wrongAt_22 (n : Nat) (s0 : Sg) (a0 : Nat) : Option (Int32 × Sg) :=
  (toI (gV 7 s0 a0 2)).bind fun v5 =>
  some (v5, s0)
theorem bX7_wrongAt_22 {G : Cx} {E : Ev} {n : Nat} (hRm : 3 ≤ E.1.frames ∧ 62 ≤ E.1.locals) {s0 : Sg} {a0 : Nat} {P : Int32 × Sg → Prop} (hQ : ∀ r s, P (r, s) → E.2.2.2.2 (some (.int r)) s) (h : Ok (mX7_wrongAt_22 n s0 a0) P) : BW G tX7_wrongAt E 0 0 22 [(0, .ref a0)] [] s0 := by
  unfold mX7_wrongAt_22 at h
  refine BW.run [.aload_n 0] (pc' := 23) (lv' := [(0, .ref a0)]) (st' := [.ref a0]) (by decide +kernel) rfl rfl ?_
  obtain ⟨v5, ev5, h⟩ := Ok.bind h
  refine BW.get (by decide +kernel : decode tX7_wrongAt.2.1 23 = .ok (.getfield 19, 3)) ciX7 (k := 2) (by decide) lkF_X7_19 (toI_V ev5) ?_
  exact BW.iret (by decide +kernel : decode tX7_wrongAt.2.1 26 = .ok (.ireturn, 1)) rfl (Nat.zero_le _) (Nat.zero_le _) (hQ _ _ (Ok.some h))
def mX7_wrongAt_52 (n : Nat) (s0 : Sg) (a0 : Nat) : Option (Int32 × Sg) :=
  (toI (gV 7 s0 a0 2)).bind fun v14 =>
  some (v14, s0)
theorem bX7_wrongAt_52 {G : Cx} {E : Ev} {n : Nat} (hRm : 3 ≤ E.1.frames ∧ 62 ≤ E.1.locals) {s0 : Sg} {a0 : Nat} {P : Int32 × Sg → Prop} (hQ : ∀ r s, P (r, s) → E.2.2.2.2 (some (.int r)) s) (h : Ok (mX7_wrongAt_52 n s0 a0) P) : BW G tX7_wrongAt E 0 0 52 [(0, .ref a0)] [] s0 := by
  unfold mX7_wrongAt_52 at h
  refine BW.run [.aload_n 0] (pc' := 53) (lv' := [(0, .ref a0)]) (st' := [.ref a0]) (by decide +kernel) rfl rfl ?_
  obtain ⟨v14, ev14, h⟩ := Ok.bind h
  refine BW.get (by decide +kernel : decode tX7_wrongAt.2.1 53 = .ok (.getfield 19, 3)) ciX7 (k := 2) (by decide) lkF_X7_19 (toI_V ev14) ?_
  exact BW.iret (by decide +kernel : decode tX7_wrongAt.2.1 56 = .ok (.ireturn, 1)) rfl (Nat.zero_le _) (Nat.zero_le _) (hQ _ _ (Ok.some h))
def mX7_wrongAt (n : Nat) (s0 : Sg) (a0 : Nat) (x1 : Int32) (x2 : Int32) : Option (Int32 × Sg) :=
  (isO 7 s0 a0).bind fun _ =>
  (pV 7 s0 a0 2 (.int (0 : Int32))).bind fun s1 =>
  (mX7_reads n s1 a0 (64 : Int32)).bind fun (v3, s2) =>
  if v3 = 0 then (
    mX7_wrongAt_22 n s2 a0
  ) else (
    (mX7_readsNumber n s2 a0 x1).bind fun (v7, s6) =>
    if v7 = 0 then (
      mX7_wrongAt_22 n s6 a0
    ) else (
      (toI (gV 7 s6 a0 3)).bind fun v9 =>
      (pV 7 s6 a0 4 (.int v9)).bind fun s10 =>
      (mX7_reads n s10 a0 (44 : Int32)).bind fun (v12, s11) =>
      if v12 = 0 then (
        mX7_wrongAt_52 n s11 a0
      ) else (
        (mX7_readsNumber n s11 a0 x2).bind fun (v16, s15) =>
        if v16 = 0 then (
          mX7_wrongAt_52 n s15 a0
        ) else (
          (toI (gV 7 s15 a0 3)).bind fun v18 =>
          (pV 7 s15 a0 5 (.int v18)).bind fun s19 =>
          (toI (gV 7 s19 a0 2)).bind fun v20 =>
          (pV 7 s19 a0 6 (.int v20)).bind fun s21 =>
          (mX7_readsMoves n s21 a0).bind fun (v23, s22) =>
          if v23 = 0 then (
            (toI (gV 7 s22 a0 2)).bind fun v25 =>
            some (v25, s22)
          ) else (
            some ((-1 : Int32), s22)
          )
        )
      )
    )
  )
theorem bX7_wrongAt {G : Cx} {E : Ev} {n : Nat} (hRm : 3 ≤ E.1.frames ∧ 62 ≤ E.1.locals) {P : Int32 × Sg → Prop} (hQ : ∀ r s, P (r, s) → E.2.2.2.2 (some (.int r)) s) {s0 : Sg} {a0 : Nat} {x1 : Int32} {x2 : Int32} (h : Ok (mX7_wrongAt n s0 a0 x1 x2) P) : BW G tX7_wrongAt E 0 0 0 [(0, .ref a0), (1, .int x1), (2, .int x2)] [] s0 := by
  unfold mX7_wrongAt at h
  obtain ⟨_, _, h⟩ := Ok.bind h
  refine BW.run [.aload_n 0, .iconst 0] (pc' := 2) (lv' := [(0, .ref a0), (1, .int x1), (2, .int x2)]) (st' := [.int (0 : Int32), .ref a0]) (by decide +kernel) rfl rfl ?_
  obtain ⟨s1, es1, h⟩ := Ok.bind h
  refine BW.put (by decide +kernel : decode tX7_wrongAt.2.1 2 = .ok (.putfield 19, 3)) ciX7 (k := 2) (by decide) lkF_X7_19 rfl rfl rfl es1 ?_
  refine BW.run [.aload_n 0, .bipush 64] (pc' := 8) (lv' := [(0, .ref a0), (1, .int x1), (2, .int x2)]) (st' := [.int (64 : Int32), .ref a0]) (by decide +kernel) rfl rfl ?_
  refine BW.callV (As := [.int (64 : Int32)]) (st := []) (by decide +kernel : decode tX7_wrongAt.2.1 8 = .ok (.invokevirtual 34, 3)) (DX7_reads (Ok.bindK h)) mfX7_reads lkM_X7_34 imX7_reads selX7_reads ciX7 (oX7_reads (Ok.bindK h)).choose_spec rfl rfl (Nat.le_of_ble_eq_true rfl) ⟨Nat.le_trans (by decide) hRm.1, Nat.le_trans (by decide) hRm.2⟩ ⟨Nat.zero_le _, Nat.zero_le _⟩ ?_
  rintro _ s2 ⟨v3, rfl, h⟩
  show BW G tX7_wrongAt E 0 0 11 [(0, .ref a0), (1, .int x1), (2, .int x2)] [.int v3] s2
  refine BW.if_eq 22 (by decide +kernel : decode tX7_wrongAt.2.1 11 = .ok (.ifCond .eq 11, 3)) (by decide) (fun hc => ?_) (fun hc => ?_)
  · have h := (Ok.ite h).1 hc
    refine BW.sub [0] rfl ?_
    exact bX7_wrongAt_22 hRm hQ h
  · have h := (Ok.ite h).2 hc
    refine BW.run [.aload_n 0, .iload_n 1] (pc' := 16) (lv' := [(0, .ref a0), (1, .int x1), (2, .int x2)]) (st' := [.int x1, .ref a0]) (by decide +kernel) rfl rfl ?_
    refine BW.callV (As := [.int x1]) (st := []) (by decide +kernel : decode tX7_wrongAt.2.1 16 = .ok (.invokevirtual 38, 3)) (DX7_readsNumber (Ok.bindK h)) mfX7_readsNumber lkM_X7_38 imX7_readsNumber selX7_readsNumber ciX7 (oX7_readsNumber (Ok.bindK h)).choose_spec rfl rfl (Nat.le_of_ble_eq_true rfl) ⟨Nat.le_trans (by decide) hRm.1, Nat.le_trans (by decide) hRm.2⟩ ⟨Nat.zero_le _, Nat.zero_le _⟩ ?_
    rintro _ s6 ⟨v7, rfl, h⟩
    show BW G tX7_wrongAt E 0 0 19 [(0, .ref a0), (1, .int x1), (2, .int x2)] [.int v7] s6
    refine BW.if_ne 27 (by decide +kernel : decode tX7_wrongAt.2.1 19 = .ok (.ifCond .ne 8, 3)) (by decide) (fun hc => ?_) (fun hc => ?_)
    · have h := (Ok.ite h).2 hc
      refine BW.run [.aload_n 0, .aload_n 0] (pc' := 29) (lv' := [(0, .ref a0), (1, .int x1), (2, .int x2)]) (st' := [.ref a0, .ref a0]) (by decide +kernel) rfl rfl ?_
      obtain ⟨v9, ev9, h⟩ := Ok.bind h
      refine BW.get (by decide +kernel : decode tX7_wrongAt.2.1 29 = .ok (.getfield 22, 3)) ciX7 (k := 3) (by decide) lkF_X7_22 (toI_V ev9) ?_
      obtain ⟨s10, es10, h⟩ := Ok.bind h
      refine BW.put (by decide +kernel : decode tX7_wrongAt.2.1 32 = .ok (.putfield 25, 3)) ciX7 (k := 4) (by decide) lkF_X7_25 rfl rfl rfl es10 ?_
      refine BW.run [.aload_n 0, .bipush 44] (pc' := 38) (lv' := [(0, .ref a0), (1, .int x1), (2, .int x2)]) (st' := [.int (44 : Int32), .ref a0]) (by decide +kernel) rfl rfl ?_
      refine BW.callV (As := [.int (44 : Int32)]) (st := []) (by decide +kernel : decode tX7_wrongAt.2.1 38 = .ok (.invokevirtual 34, 3)) (DX7_reads (Ok.bindK h)) mfX7_reads lkM_X7_34 imX7_reads selX7_reads ciX7 (oX7_reads (Ok.bindK h)).choose_spec rfl rfl (Nat.le_of_ble_eq_true rfl) ⟨Nat.le_trans (by decide) hRm.1, Nat.le_trans (by decide) hRm.2⟩ ⟨Nat.zero_le _, Nat.zero_le _⟩ ?_
      rintro _ s11 ⟨v12, rfl, h⟩
      show BW G tX7_wrongAt E 0 0 41 [(0, .ref a0), (1, .int x1), (2, .int x2)] [.int v12] s11
      refine BW.if_eq 52 (by decide +kernel : decode tX7_wrongAt.2.1 41 = .ok (.ifCond .eq 11, 3)) (by decide) (fun hc => ?_) (fun hc => ?_)
      · have h := (Ok.ite h).1 hc
        refine BW.sub [0] rfl ?_
        exact bX7_wrongAt_52 hRm hQ h
      · have h := (Ok.ite h).2 hc
        refine BW.run [.aload_n 0, .iload_n 2] (pc' := 46) (lv' := [(0, .ref a0), (1, .int x1), (2, .int x2)]) (st' := [.int x2, .ref a0]) (by decide +kernel) rfl rfl ?_
        refine BW.callV (As := [.int x2]) (st := []) (by decide +kernel : decode tX7_wrongAt.2.1 46 = .ok (.invokevirtual 38, 3)) (DX7_readsNumber (Ok.bindK h)) mfX7_readsNumber lkM_X7_38 imX7_readsNumber selX7_readsNumber ciX7 (oX7_readsNumber (Ok.bindK h)).choose_spec rfl rfl (Nat.le_of_ble_eq_true rfl) ⟨Nat.le_trans (by decide) hRm.1, Nat.le_trans (by decide) hRm.2⟩ ⟨Nat.zero_le _, Nat.zero_le _⟩ ?_
        rintro _ s15 ⟨v16, rfl, h⟩
        show BW G tX7_wrongAt E 0 0 49 [(0, .ref a0), (1, .int x1), (2, .int x2)] [.int v16] s15
        refine BW.if_ne 57 (by decide +kernel : decode tX7_wrongAt.2.1 49 = .ok (.ifCond .ne 8, 3)) (by decide) (fun hc => ?_) (fun hc => ?_)
        · have h := (Ok.ite h).2 hc
          refine BW.run [.aload_n 0, .aload_n 0] (pc' := 59) (lv' := [(0, .ref a0), (1, .int x1), (2, .int x2)]) (st' := [.ref a0, .ref a0]) (by decide +kernel) rfl rfl ?_
          obtain ⟨v18, ev18, h⟩ := Ok.bind h
          refine BW.get (by decide +kernel : decode tX7_wrongAt.2.1 59 = .ok (.getfield 22, 3)) ciX7 (k := 3) (by decide) lkF_X7_22 (toI_V ev18) ?_
          obtain ⟨s19, es19, h⟩ := Ok.bind h
          refine BW.put (by decide +kernel : decode tX7_wrongAt.2.1 62 = .ok (.putfield 28, 3)) ciX7 (k := 5) (by decide) lkF_X7_28 rfl rfl rfl es19 ?_
          refine BW.run [.aload_n 0, .aload_n 0] (pc' := 67) (lv' := [(0, .ref a0), (1, .int x1), (2, .int x2)]) (st' := [.ref a0, .ref a0]) (by decide +kernel) rfl rfl ?_
          obtain ⟨v20, ev20, h⟩ := Ok.bind h
          refine BW.get (by decide +kernel : decode tX7_wrongAt.2.1 67 = .ok (.getfield 19, 3)) ciX7 (k := 2) (by decide) lkF_X7_19 (toI_V ev20) ?_
          obtain ⟨s21, es21, h⟩ := Ok.bind h
          refine BW.put (by decide +kernel : decode tX7_wrongAt.2.1 70 = .ok (.putfield 31, 3)) ciX7 (k := 6) (by decide) lkF_X7_31 rfl rfl rfl es21 ?_
          refine BW.run [.aload_n 0] (pc' := 74) (lv' := [(0, .ref a0), (1, .int x1), (2, .int x2)]) (st' := [.ref a0]) (by decide +kernel) rfl rfl ?_
          refine BW.callV (As := []) (st := []) (by decide +kernel : decode tX7_wrongAt.2.1 74 = .ok (.invokevirtual 42, 3)) (DX7_readsMoves (Ok.bindK h)) mfX7_readsMoves lkM_X7_42 imX7_readsMoves selX7_readsMoves ciX7 (oX7_readsMoves (Ok.bindK h)).choose_spec rfl rfl (Nat.le_of_ble_eq_true rfl) ⟨Nat.le_trans (by decide) hRm.1, Nat.le_trans (by decide) hRm.2⟩ ⟨Nat.zero_le _, Nat.zero_le _⟩ ?_
          rintro _ s22 ⟨v23, rfl, h⟩
          show BW G tX7_wrongAt E 0 0 77 [(0, .ref a0), (1, .int x1), (2, .int x2)] [.int v23] s22
          refine BW.if_eq 84 (by decide +kernel : decode tX7_wrongAt.2.1 77 = .ok (.ifCond .eq 7, 3)) (by decide) (fun hc => ?_) (fun hc => ?_)
          · have h := (Ok.ite h).1 hc
            refine BW.run [.aload_n 0] (pc' := 85) (lv' := [(0, .ref a0), (1, .int x1), (2, .int x2)]) (st' := [.ref a0]) (by decide +kernel) rfl rfl ?_
            obtain ⟨v25, ev25, h⟩ := Ok.bind h
            refine BW.get (by decide +kernel : decode tX7_wrongAt.2.1 85 = .ok (.getfield 19, 3)) ciX7 (k := 2) (by decide) lkF_X7_19 (toI_V ev25) ?_
            exact BW.iret (by decide +kernel : decode tX7_wrongAt.2.1 88 = .ok (.ireturn, 1)) rfl (Nat.zero_le _) (Nat.zero_le _) (hQ _ _ (Ok.some h))
          · have h := (Ok.ite h).2 hc
            refine BW.run [.iconst (-1)] (pc' := 81) (lv' := [(0, .ref a0), (1, .int x1), (2, .int x2)]) (st' := [.int (-1 : Int32)]) (by decide +kernel) rfl rfl ?_
            refine BW.goto 88 (by decide +kernel : decode tX7_wrongAt.2.1 81 = .ok (.goto 7, 3)) (by decide) ?_
            exact BW.iret (by decide +kernel : decode tX7_wrongAt.2.1 88 = .ok (.ireturn, 1)) rfl (Nat.zero_le _) (Nat.zero_le _) (hQ _ _ (Ok.some h))
        · have h := (Ok.ite h).1 hc
          refine BW.sub [0] rfl ?_
          exact bX7_wrongAt_52 hRm hQ h
    · have h := (Ok.ite h).1 hc
      refine BW.sub [0] rfl ?_
      exact bX7_wrongAt_22 hRm hQ h
theorem oX7_wrongAt {n : Nat} {P : Int32 × Sg → Prop} {s0 : Sg} {a0 : Nat} {x1 : Int32} {x2 : Int32} (h : Ok (mX7_wrongAt n s0 a0 x1 x2) P) : ∃ n0, s0.2.1 a0 = some (7, n0) := by
  unfold mX7_wrongAt at h
  exact Ok.isO h
theorem DX7_wrongAt {G : Cx} {n : Nat} {P : Int32 × Sg → Prop} {s0 : Sg} {a0 : Nat} {x1 : Int32} {x2 : Int32} (h : Ok (mX7_wrongAt n s0 a0 x1 x2) P) : BM G tX7_wrongAt 3 62 0 0 [.ref a0, .int x1, .int x2] s0 (fun v s => ∃ r, v = some (.int r) ∧ P (r, s)) := by
  refine BM.of (by decide +kernel) (Nat.le_of_ble_eq_true rfl) ?_
  exact bX7_wrongAt (E := (({ frames := 3, cells := 0, slots := 0, locals := 62 }), Aof s0, 0, 0, (fun v s => ∃ r, v = some (.int r) ∧ P (r, s)))) ⟨Nat.le_refl _, Nat.le_refl _⟩ (fun r s hp => ⟨r, rfl, hp⟩) h
def mX8_isPrint (n : Nat) (s0 : Sg) (a0 : Nat) (x1 : Int32) : Option (Int32 × Sg) :=
  (isO 8 s0 a0).bind fun _ =>
  (mX8_cellOf n s0 a0 x1).bind fun (v2, s1) =>
  (mX8_cellOf n s1 a0 (x1 - (1 : Int32))).bind fun (v5, s4) =>
  if v2 = v5 then (
    some ((0 : Int32), s4)
  ) else (
    some ((1 : Int32), s4)
  )
theorem bX8_isPrint {G : Cx} {E : Ev} {n : Nat} (hRm : 1 ≤ E.1.frames ∧ 21 ≤ E.1.locals) {P : Int32 × Sg → Prop} (hQ : ∀ r s, P (r, s) → E.2.2.2.2 (some (.int r)) s) {s0 : Sg} {a0 : Nat} {x1 : Int32} (h : Ok (mX8_isPrint n s0 a0 x1) P) : BW G tX8_isPrint E 0 0 0 [(0, .ref a0), (1, .int x1)] [] s0 := by
  unfold mX8_isPrint at h
  obtain ⟨_, _, h⟩ := Ok.bind h
  refine BW.run [.aload_n 0, .iload_n 1] (pc' := 2) (lv' := [(0, .ref a0), (1, .int x1)]) (st' := [.int x1, .ref a0]) (by decide +kernel) rfl rfl ?_
  refine BW.callV (As := [.int x1]) (st := []) (by decide +kernel : decode tX8_isPrint.2.1 2 = .ok (.invokevirtual 49, 3)) (DX8_cellOf (Ok.bindK h)) mfX8_cellOf lkM_X8_49 imX8_cellOf selX8_cellOf ciX8 (oX8_cellOf (Ok.bindK h)).choose_spec rfl rfl (Nat.le_of_ble_eq_true rfl) ⟨Nat.le_trans (by decide) hRm.1, Nat.le_trans (by decide) hRm.2⟩ ⟨Nat.zero_le _, Nat.zero_le _⟩ ?_
  rintro _ s1 ⟨v2, rfl, h⟩
  show BW G tX8_isPrint E 0 0 5 [(0, .ref a0), (1, .int x1)] [.int v2] s1
  refine BW.run [.aload_n 0, .iload_n 1, .iconst 1, .isub] (pc' := 9) (lv' := [(0, .ref a0), (1, .int x1)]) (st' := [.int (x1 - (1 : Int32)), .ref a0, .int v2]) (by decide +kernel) rfl rfl ?_
  refine BW.callV (As := [.int (x1 - (1 : Int32))]) (st := [.int v2]) (by decide +kernel : decode tX8_isPrint.2.1 9 = .ok (.invokevirtual 49, 3)) (DX8_cellOf (Ok.bindK h)) mfX8_cellOf lkM_X8_49 imX8_cellOf selX8_cellOf ciX8 (oX8_cellOf (Ok.bindK h)).choose_spec rfl rfl (Nat.le_of_ble_eq_true rfl) ⟨Nat.le_trans (by decide) hRm.1, Nat.le_trans (by decide) hRm.2⟩ ⟨Nat.zero_le _, Nat.zero_le _⟩ ?_
  rintro _ s4 ⟨v5, rfl, h⟩
  show BW G tX8_isPrint E 0 0 12 [(0, .ref a0), (1, .int x1)] [.int v5, .int v2] s4
  refine BW.icmp_eq 19 (by decide +kernel : decode tX8_isPrint.2.1 12 = .ok (.if_icmp .eq 7, 3)) (by decide) (fun hc => ?_) (fun hc => ?_)
  · have h := (Ok.ite h).1 hc
    refine BW.run [.iconst 0] (pc' := 20) (lv' := [(0, .ref a0), (1, .int x1)]) (st' := [.int (0 : Int32)]) (by decide +kernel) rfl rfl ?_
    exact BW.zret (by decide +kernel : decode tX8_isPrint.2.1 20 = .ok (.ireturn, 1)) rfl (Or.inl rfl) (Nat.zero_le _) (Nat.zero_le _) (hQ _ _ (Ok.some h))
  · have h := (Ok.ite h).2 hc
    refine BW.run [.iconst 1] (pc' := 16) (lv' := [(0, .ref a0), (1, .int x1)]) (st' := [.int (1 : Int32)]) (by decide +kernel) rfl rfl ?_
    refine BW.goto 20 (by decide +kernel : decode tX8_isPrint.2.1 16 = .ok (.goto 4, 3)) (by decide) ?_
    exact BW.zret (by decide +kernel : decode tX8_isPrint.2.1 20 = .ok (.ireturn, 1)) rfl (Or.inr rfl) (Nat.zero_le _) (Nat.zero_le _) (hQ _ _ (Ok.some h))
theorem oX8_isPrint {n : Nat} {P : Int32 × Sg → Prop} {s0 : Sg} {a0 : Nat} {x1 : Int32} (h : Ok (mX8_isPrint n s0 a0 x1) P) : ∃ n0, s0.2.1 a0 = some (8, n0) := by
  unfold mX8_isPrint at h
  exact Ok.isO h
theorem DX8_isPrint {G : Cx} {n : Nat} {P : Int32 × Sg → Prop} {s0 : Sg} {a0 : Nat} {x1 : Int32} (h : Ok (mX8_isPrint n s0 a0 x1) P) : BM G tX8_isPrint 1 21 0 0 [.ref a0, .int x1] s0 (fun v s => ∃ r, v = some (.int r) ∧ P (r, s)) := by
  refine BM.of (by decide +kernel) (Nat.le_of_ble_eq_true rfl) ?_
  exact bX8_isPrint (E := (({ frames := 1, cells := 0, slots := 0, locals := 21 }), Aof s0, 0, 0, (fun v s => ∃ r, v = some (.int r) ∧ P (r, s)))) ⟨Nat.le_refl _, Nat.le_refl _⟩ (fun r s hp => ⟨r, rfl, hp⟩) h
def mX8_latestIn (n : Nat) (s0 : Sg) (a0 : Nat) (x1 : Int32) : Option (Int32 × Sg) :=
  (isO 8 s0 a0).bind fun _ =>
  if x1 < 0 then (
    some ((-1 : Int32), s0)
  ) else (
    if (256 : Int32) ≤ x1 then (
      some ((-1 : Int32), s0)
    ) else (
      (toR (gV 8 s0 a0 3)).bind fun b1 =>
      (toI (aV 11 s0 b1 x1)).bind fun v2 =>
      some (v2, s0)
    )
  )
theorem bX8_latestIn {G : Cx} {E : Ev} {n : Nat} (hRm : 0 ≤ E.1.frames ∧ 0 ≤ E.1.locals) {P : Int32 × Sg → Prop} (hQ : ∀ r s, P (r, s) → E.2.2.2.2 (some (.int r)) s) {s0 : Sg} {a0 : Nat} {x1 : Int32} (h : Ok (mX8_latestIn n s0 a0 x1) P) : BW G tX8_latestIn E 0 0 0 [(0, .ref a0), (1, .int x1)] [] s0 := by
  unfold mX8_latestIn at h
  obtain ⟨_, _, h⟩ := Ok.bind h
  refine BW.run [.iload_n 1] (pc' := 1) (lv' := [(0, .ref a0), (1, .int x1)]) (st' := [.int x1]) (by decide +kernel) rfl rfl ?_
  refine BW.if_lt 20 (by decide +kernel : decode tX8_latestIn.2.1 1 = .ok (.ifCond .lt 19, 3)) (by decide) (fun hc => ?_) (fun hc => ?_)
  · have h := (Ok.ite h).1 hc
    refine BW.run [.iconst (-1)] (pc' := 21) (lv' := [(0, .ref a0), (1, .int x1)]) (st' := [.int (-1 : Int32)]) (by decide +kernel) rfl rfl ?_
    exact BW.iret (by decide +kernel : decode tX8_latestIn.2.1 21 = .ok (.ireturn, 1)) rfl (Nat.zero_le _) (Nat.zero_le _) (hQ _ _ (Ok.some h))
  · have h := (Ok.ite h).2 hc
    refine BW.run [.iload_n 1, .sipush 256] (pc' := 8) (lv' := [(0, .ref a0), (1, .int x1)]) (st' := [.int (256 : Int32), .int x1]) (by decide +kernel) rfl rfl ?_
    refine BW.icmp_ge 20 (by decide +kernel : decode tX8_latestIn.2.1 8 = .ok (.if_icmp .ge 12, 3)) (by decide) (fun hc => ?_) (fun hc => ?_)
    · have h := (Ok.ite h).1 hc
      refine BW.run [.iconst (-1)] (pc' := 21) (lv' := [(0, .ref a0), (1, .int x1)]) (st' := [.int (-1 : Int32)]) (by decide +kernel) rfl rfl ?_
      exact BW.iret (by decide +kernel : decode tX8_latestIn.2.1 21 = .ok (.ireturn, 1)) rfl (Nat.zero_le _) (Nat.zero_le _) (hQ _ _ (Ok.some h))
    · have h := (Ok.ite h).2 hc
      refine BW.run [.aload_n 0] (pc' := 12) (lv' := [(0, .ref a0), (1, .int x1)]) (st' := [.ref a0]) (by decide +kernel) rfl rfl ?_
      obtain ⟨b1, eb1, h⟩ := Ok.bind h
      refine BW.get (by decide +kernel : decode tX8_latestIn.2.1 12 = .ok (.getfield 15, 3)) ciX8 (k := 3) (by decide) lkF_X8_15 (toR_V eb1) ?_
      refine BW.run [.iload_n 1] (pc' := 16) (lv' := [(0, .ref a0), (1, .int x1)]) (st' := [.int x1, .ref b1]) (by decide +kernel) rfl rfl ?_
      obtain ⟨v2, ev2, h⟩ := Ok.bind h
      refine BW.iald (by decide +kernel : decode tX8_latestIn.2.1 16 = .ok (.iaload, 1)) (toI_V ev2) ?_
      refine BW.goto 21 (by decide +kernel : decode tX8_latestIn.2.1 17 = .ok (.goto 4, 3)) (by decide) ?_
      exact BW.iret (by decide +kernel : decode tX8_latestIn.2.1 21 = .ok (.ireturn, 1)) rfl (Nat.zero_le _) (Nat.zero_le _) (hQ _ _ (Ok.some h))
theorem oX8_latestIn {n : Nat} {P : Int32 × Sg → Prop} {s0 : Sg} {a0 : Nat} {x1 : Int32} (h : Ok (mX8_latestIn n s0 a0 x1) P) : ∃ n0, s0.2.1 a0 = some (8, n0) := by
  unfold mX8_latestIn at h
  exact Ok.isO h
theorem DX8_latestIn {G : Cx} {n : Nat} {P : Int32 × Sg → Prop} {s0 : Sg} {a0 : Nat} {x1 : Int32} (h : Ok (mX8_latestIn n s0 a0 x1) P) : BM G tX8_latestIn 0 0 0 0 [.ref a0, .int x1] s0 (fun v s => ∃ r, v = some (.int r) ∧ P (r, s)) := by
  refine BM.of (by decide +kernel) (Nat.le_of_ble_eq_true rfl) ?_
  exact bX8_latestIn (E := (({ frames := 0, cells := 0, slots := 0, locals := 0 }), Aof s0, 0, 0, (fun v s => ∃ r, v = some (.int r) ∧ P (r, s)))) ⟨Nat.le_refl _, Nat.le_refl _⟩ (fun r s hp => ⟨r, rfl, hp⟩) h
def mX8_listPlaces_56 (n : Nat) (s0 : Sg) (a0 : Nat) (x1 : Int32) : Option ((Sg × Int32) ⊕ (Sg)) :=
  some (.inl (s0, (x1 + (1 : Int32))))
theorem bX8_listPlaces_56 {G : Cx} {E : Ev} {n : Nat} (hRm : 0 ≤ E.1.frames ∧ 0 ≤ E.1.locals) {s0 : Sg} {a0 : Nat} {x1 : Int32} {P : (Sg × Int32) ⊕ (Sg) → Prop} (hC : ∀ (s : Sg) (c1 : Int32), P (.inl (s, c1)) → BW G tX8_listPlaces E 0 0 7 [(0, .ref a0), (1, .int c1)] [] s) (hE : ∀ (s : Sg), P (.inr s) → BW G tX8_listPlaces E 0 0 62 [] [] s)  (h : Ok (mX8_listPlaces_56 n s0 a0 x1) P) : BW G tX8_listPlaces E 0 0 56 [(0, .ref a0), (1, .int x1)] [] s0 := by
  unfold mX8_listPlaces_56 at h
  refine BW.run [.iinc 1 1] (pc' := 59) (lv' := [(0, .ref a0), (1, .int (x1 + (1 : Int32)))]) (st' := []) (by decide +kernel) rfl rfl ?_
  refine BW.goto 7 (by decide +kernel : decode tX8_listPlaces.2.1 59 = .ok (.goto (-52), 3)) (by decide) ?_
  exact hC _ _ (Ok.some h)
def mX8_listPlaces_L7 (n : Nat) (a0 : Nat) : (Sg × Int32) → Option ((Sg × Int32) ⊕ (Sg))
  | (s0, x1) =>
    if (256 : Int32) ≤ x1 then (
      some (.inr s0)
    ) else (
      (toI (gV 8 s0 a0 5)).bind fun v2 =>
      (toR (gV 8 s0 a0 4)).bind fun b3 =>
      (lenA 11 s0 b3).bind fun v4 =>
      if v4 ≤ v2 then (
        some (.inr s0)
      ) else (
        (toR (gV 8 s0 a0 3)).bind fun b5 =>
        (toI (aV 11 s0 b5 x1)).bind fun v6 =>
        if v6 = (-1 : Int32) then (
          mX8_listPlaces_56 n s0 a0 x1
        ) else (
          (toR (gV 8 s0 a0 4)).bind fun b7 =>
          (toI (gV 8 s0 a0 5)).bind fun v8 =>
          (sV 11 s0 b7 v8 (.int x1)).bind fun s9 =>
          (toI (gV 8 s9 a0 5)).bind fun v10 =>
          (pV 8 s9 a0 5 (.int (v10 + (1 : Int32)))).bind fun s11 =>
          mX8_listPlaces_56 n s11 a0 x1
        )
      )
    )
theorem bX8_listPlaces_L7 {G : Cx} {E : Ev} {n : Nat} (hRm : 0 ≤ E.1.frames ∧ 0 ≤ E.1.locals) {a0 : Nat} {P : (Sg × Int32) ⊕ (Sg) → Prop} (hC : ∀ (s : Sg) (c1 : Int32), P (.inl (s, c1)) → BW G tX8_listPlaces E 0 0 7 [(0, .ref a0), (1, .int c1)] [] s) (hE : ∀ (s : Sg), P (.inr s) → BW G tX8_listPlaces E 0 0 62 [] [] s) {s0 : Sg} {x1 : Int32} (h : Ok (mX8_listPlaces_L7 n a0 (s0, x1)) P) : BW G tX8_listPlaces E 0 0 7 [(0, .ref a0), (1, .int x1)] [] s0 := by
  unfold mX8_listPlaces_L7 at h
  refine BW.run [.iload_n 1, .sipush 256] (pc' := 11) (lv' := [(0, .ref a0), (1, .int x1)]) (st' := [.int (256 : Int32), .int x1]) (by decide +kernel) rfl rfl ?_
  refine BW.icmp_ge 62 (by decide +kernel : decode tX8_listPlaces.2.1 11 = .ok (.if_icmp .ge 51, 3)) (by decide) (fun hc => ?_) (fun hc => ?_)
  · have h := (Ok.ite h).1 hc
    refine BW.sub [] rfl ?_
    exact hE _ (Ok.some h)
  · have h := (Ok.ite h).2 hc
    refine BW.run [.aload_n 0] (pc' := 15) (lv' := [(0, .ref a0), (1, .int x1)]) (st' := [.ref a0]) (by decide +kernel) rfl rfl ?_
    obtain ⟨v2, ev2, h⟩ := Ok.bind h
    refine BW.get (by decide +kernel : decode tX8_listPlaces.2.1 15 = .ok (.getfield 21, 3)) ciX8 (k := 5) (by decide) lkF_X8_21 (toI_V ev2) ?_
    refine BW.run [.aload_n 0] (pc' := 19) (lv' := [(0, .ref a0), (1, .int x1)]) (st' := [.ref a0, .int v2]) (by decide +kernel) rfl rfl ?_
    obtain ⟨b3, eb3, h⟩ := Ok.bind h
    refine BW.get (by decide +kernel : decode tX8_listPlaces.2.1 19 = .ok (.getfield 18, 3)) ciX8 (k := 4) (by decide) lkF_X8_18 (toR_V eb3) ?_
    obtain ⟨v4, ev4, h⟩ := Ok.bind h
    refine BW.alen (by decide +kernel : decode tX8_listPlaces.2.1 22 = .ok (.arraylength, 1)) (t := 11) (by decide) ev4 ?_
    refine BW.icmp_ge 62 (by decide +kernel : decode tX8_listPlaces.2.1 23 = .ok (.if_icmp .ge 39, 3)) (by decide) (fun hc => ?_) (fun hc => ?_)
    · have h := (Ok.ite h).1 hc
      refine BW.sub [] rfl ?_
      exact hE _ (Ok.some h)
    · have h := (Ok.ite h).2 hc
      refine BW.run [.aload_n 0] (pc' := 27) (lv' := [(0, .ref a0), (1, .int x1)]) (st' := [.ref a0]) (by decide +kernel) rfl rfl ?_
      obtain ⟨b5, eb5, h⟩ := Ok.bind h
      refine BW.get (by decide +kernel : decode tX8_listPlaces.2.1 27 = .ok (.getfield 15, 3)) ciX8 (k := 3) (by decide) lkF_X8_15 (toR_V eb5) ?_
      refine BW.run [.iload_n 1] (pc' := 31) (lv' := [(0, .ref a0), (1, .int x1)]) (st' := [.int x1, .ref b5]) (by decide +kernel) rfl rfl ?_
      obtain ⟨v6, ev6, h⟩ := Ok.bind h
      refine BW.iald (by decide +kernel : decode tX8_listPlaces.2.1 31 = .ok (.iaload, 1)) (toI_V ev6) ?_
      refine BW.run [.iconst (-1)] (pc' := 33) (lv' := [(0, .ref a0), (1, .int x1)]) (st' := [.int (-1 : Int32), .int v6]) (by decide +kernel) rfl rfl ?_
      refine BW.icmp_eq 56 (by decide +kernel : decode tX8_listPlaces.2.1 33 = .ok (.if_icmp .eq 23, 3)) (by decide) (fun hc => ?_) (fun hc => ?_)
      · have h := (Ok.ite h).1 hc
        exact bX8_listPlaces_56 hRm hC hE h
      · have h := (Ok.ite h).2 hc
        refine BW.run [.aload_n 0] (pc' := 37) (lv' := [(0, .ref a0), (1, .int x1)]) (st' := [.ref a0]) (by decide +kernel) rfl rfl ?_
        obtain ⟨b7, eb7, h⟩ := Ok.bind h
        refine BW.get (by decide +kernel : decode tX8_listPlaces.2.1 37 = .ok (.getfield 18, 3)) ciX8 (k := 4) (by decide) lkF_X8_18 (toR_V eb7) ?_
        refine BW.run [.aload_n 0] (pc' := 41) (lv' := [(0, .ref a0), (1, .int x1)]) (st' := [.ref a0, .ref b7]) (by decide +kernel) rfl rfl ?_
        obtain ⟨v8, ev8, h⟩ := Ok.bind h
        refine BW.get (by decide +kernel : decode tX8_listPlaces.2.1 41 = .ok (.getfield 21, 3)) ciX8 (k := 5) (by decide) lkF_X8_21 (toI_V ev8) ?_
        refine BW.run [.iload_n 1] (pc' := 45) (lv' := [(0, .ref a0), (1, .int x1)]) (st' := [.int x1, .int v8, .ref b7]) (by decide +kernel) rfl rfl ?_
        obtain ⟨s9, es9, h⟩ := Ok.bind h
        refine BW.iast (by decide +kernel : decode tX8_listPlaces.2.1 45 = .ok (.iastore, 1)) es9 ?_
        refine BW.run [.aload_n 0, .dup] (pc' := 48) (lv' := [(0, .ref a0), (1, .int x1)]) (st' := [.ref a0, .ref a0]) (by decide +kernel) rfl rfl ?_
        obtain ⟨v10, ev10, h⟩ := Ok.bind h
        refine BW.get (by decide +kernel : decode tX8_listPlaces.2.1 48 = .ok (.getfield 21, 3)) ciX8 (k := 5) (by decide) lkF_X8_21 (toI_V ev10) ?_
        refine BW.run [.iconst 1, .iadd] (pc' := 53) (lv' := [(0, .ref a0), (1, .int x1)]) (st' := [.int (v10 + (1 : Int32)), .ref a0]) (by decide +kernel) rfl rfl ?_
        obtain ⟨s11, es11, h⟩ := Ok.bind h
        refine BW.put (by decide +kernel : decode tX8_listPlaces.2.1 53 = .ok (.putfield 21, 3)) ciX8 (k := 5) (by decide) lkF_X8_21 rfl rfl rfl es11 ?_
        exact bX8_listPlaces_56 hRm hC hE h
theorem bX8_listPlaces_W7 {G : Cx} {E : Ev} {n : Nat} (hRm : 0 ≤ E.1.frames ∧ 0 ≤ E.1.locals) {a0 : Nat} {K : (Sg) → Prop} (hE : ∀ (s : Sg), K s → BW G tX8_listPlaces E 0 0 62 [] [] s) : ∀ (f : Nat) (c : Sg × Int32), Ok (loopM (mX8_listPlaces_L7 n a0) f c) K → match c with | (s0, x1) => BW G tX8_listPlaces E 0 0 7 [(0, .ref a0), (1, .int x1)] [] s0 := by
  intro f
  induction f with
  | zero => intro c h; exact (Ok.no h).elim
  | succ f ih =>
    intro c h
    obtain ⟨s0, x1⟩ := c
    exact bX8_listPlaces_L7 (P := loopP (mX8_listPlaces_L7 n a0) f K) hRm (fun s c1 h => ih (s, c1) h) hE (loopM_ok h)
def mX8_listPlaces (n : Nat) (s0 : Sg) (a0 : Nat) : Option (Sg) :=
  (isO 8 s0 a0).bind fun _ =>
  (pV 8 s0 a0 5 (.int (0 : Int32))).bind fun s1 =>
  (loopM (mX8_listPlaces_L7 n a0) n (s1, (0 : Int32))).bind fun s12 =>
  some s12
theorem bX8_listPlaces {G : Cx} {E : Ev} {n : Nat} (hRm : 0 ≤ E.1.frames ∧ 0 ≤ E.1.locals) {P : Sg → Prop} (hQ : ∀ s, P s → E.2.2.2.2 none s) {s0 : Sg} {a0 : Nat} (h : Ok (mX8_listPlaces n s0 a0) P) : BW G tX8_listPlaces E 0 0 0 [(0, .ref a0)] [] s0 := by
  unfold mX8_listPlaces at h
  obtain ⟨_, _, h⟩ := Ok.bind h
  refine BW.run [.aload_n 0, .iconst 0] (pc' := 2) (lv' := [(0, .ref a0)]) (st' := [.int (0 : Int32), .ref a0]) (by decide +kernel) rfl rfl ?_
  obtain ⟨s1, es1, h⟩ := Ok.bind h
  refine BW.put (by decide +kernel : decode tX8_listPlaces.2.1 2 = .ok (.putfield 21, 3)) ciX8 (k := 5) (by decide) lkF_X8_21 rfl rfl rfl es1 ?_
  refine BW.run [.iconst 0, .istore_n 1] (pc' := 7) (lv' := [(0, .ref a0), (1, .int (0 : Int32))]) (st' := []) (by decide +kernel) rfl rfl ?_
  refine bX8_listPlaces_W7 hRm (a0 := a0) (fun s12 h => ?_) n (s1, (0 : Int32)) (Ok.bindK h)
  exact BW.vret (by decide +kernel : decode tX8_listPlaces.2.1 62 = .ok (.return_, 1)) rfl (Nat.zero_le _) (Nat.zero_le _) (hQ _ (Ok.some h))
theorem oX8_listPlaces {n : Nat} {P : Sg → Prop} {s0 : Sg} {a0 : Nat} (h : Ok (mX8_listPlaces n s0 a0) P) : ∃ n0, s0.2.1 a0 = some (8, n0) := by
  unfold mX8_listPlaces at h
  exact Ok.isO h
theorem DX8_listPlaces {G : Cx} {n : Nat} {P : Sg → Prop} {s0 : Sg} {a0 : Nat} (h : Ok (mX8_listPlaces n s0 a0) P) : BM G tX8_listPlaces 0 0 0 0 [.ref a0] s0 (fun v s => v = none ∧ P s) := by
  refine BM.of (by decide +kernel) (Nat.le_of_ble_eq_true rfl) ?_
  exact bX8_listPlaces (E := (({ frames := 0, cells := 0, slots := 0, locals := 0 }), Aof s0, 0, 0, (fun v s => v = none ∧ P s))) ⟨Nat.le_refl _, Nat.le_refl _⟩ (fun s hp => ⟨rfl, hp⟩) h
def mX8_tickOf (n : Nat) (s0 : Sg) (a0 : Nat) (x1 : Int32) : Option (Int32 × Sg) :=
  (isO 8 s0 a0).bind fun _ =>
  (toI (gV 8 s0 a0 8)).bind fun v1 =>
  (toI (gV 8 s0 a0 0)).bind fun v2 =>
  some ((v1 + (v2 * x1)), s0)
theorem bX8_tickOf {G : Cx} {E : Ev} {n : Nat} (hRm : 0 ≤ E.1.frames ∧ 0 ≤ E.1.locals) {P : Int32 × Sg → Prop} (hQ : ∀ r s, P (r, s) → E.2.2.2.2 (some (.int r)) s) {s0 : Sg} {a0 : Nat} {x1 : Int32} (h : Ok (mX8_tickOf n s0 a0 x1) P) : BW G tX8_tickOf E 0 0 0 [(0, .ref a0), (1, .int x1)] [] s0 := by
  unfold mX8_tickOf at h
  obtain ⟨_, _, h⟩ := Ok.bind h
  refine BW.run [.aload_n 0] (pc' := 1) (lv' := [(0, .ref a0), (1, .int x1)]) (st' := [.ref a0]) (by decide +kernel) rfl rfl ?_
  obtain ⟨v1, ev1, h⟩ := Ok.bind h
  refine BW.get (by decide +kernel : decode tX8_tickOf.2.1 1 = .ok (.getfield 31, 3)) ciX8 (k := 8) (by decide) lkF_X8_31 (toI_V ev1) ?_
  refine BW.run [.aload_n 0] (pc' := 5) (lv' := [(0, .ref a0), (1, .int x1)]) (st' := [.ref a0, .int v1]) (by decide +kernel) rfl rfl ?_
  obtain ⟨v2, ev2, h⟩ := Ok.bind h
  refine BW.get (by decide +kernel : decode tX8_tickOf.2.1 5 = .ok (.getfield 34, 3)) ciX8 (k := 0) (by decide) lkF_X8_34 (toI_V ev2) ?_
  refine BW.run [.iload_n 1, .imul, .iadd] (pc' := 11) (lv' := [(0, .ref a0), (1, .int x1)]) (st' := [.int (v1 + (v2 * x1))]) (by decide +kernel) rfl rfl ?_
  exact BW.iret (by decide +kernel : decode tX8_tickOf.2.1 11 = .ok (.ireturn, 1)) rfl (Nat.zero_le _) (Nat.zero_le _) (hQ _ _ (Ok.some h))
theorem oX8_tickOf {n : Nat} {P : Int32 × Sg → Prop} {s0 : Sg} {a0 : Nat} {x1 : Int32} (h : Ok (mX8_tickOf n s0 a0 x1) P) : ∃ n0, s0.2.1 a0 = some (8, n0) := by
  unfold mX8_tickOf at h
  exact Ok.isO h
theorem DX8_tickOf {G : Cx} {n : Nat} {P : Int32 × Sg → Prop} {s0 : Sg} {a0 : Nat} {x1 : Int32} (h : Ok (mX8_tickOf n s0 a0 x1) P) : BM G tX8_tickOf 0 0 0 0 [.ref a0, .int x1] s0 (fun v s => ∃ r, v = some (.int r) ∧ P (r, s)) := by
  refine BM.of (by decide +kernel) (Nat.le_of_ble_eq_true rfl) ?_
  exact bX8_tickOf (E := (({ frames := 0, cells := 0, slots := 0, locals := 0 }), Aof s0, 0, 0, (fun v s => ∃ r, v = some (.int r) ∧ P (r, s)))) ⟨Nat.le_refl _, Nat.le_refl _⟩ (fun r s hp => ⟨r, rfl, hp⟩) h
