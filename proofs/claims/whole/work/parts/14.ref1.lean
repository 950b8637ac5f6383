def mX10_least (n : Nat) (s0 : Sg) (a0 : Nat) (x1 : Int32) (x2 : Int32) (x3 : Int32) : Option (Sg) :=
  (isO 10 s0 a0).bind fun _ =>
  (toR (gV 10 s0 a0 28)).bind fun b1 =>
  (toR (gV 10 s0 a0 28)).bind fun b2 =>
  (toI (aV 11 s0 b2 (((9 : Int32) * x1) + x2))).bind fun v3 =>
  (sV 11 s0 b1 (((9 : Int32) * x1) + x2) (.int (jmax v3 x3))).bind fun s4 =>
  some s4
theorem bX10_least {G : Cx} {E : Ev} {n : Nat} (hRm : 1 ≤ E.1.frames ∧ 21 ≤ E.1.locals) {P : Sg → Prop} (hQ : ∀ s, P s → E.2.2.2.2 none s) {s0 : Sg} {a0 : Nat} {x1 : Int32} {x2 : Int32} {x3 : Int32} (h : Ok (mX10_least n s0 a0 x1 x2 x3) P) : BW G tX10_least E 0 0 0 [(0, .ref a0), (1, .int x1), (2, .int x2), (3, .int x3)] [] s0 := by
  unfold mX10_least at h
  obtain ⟨_, _, h⟩ := Ok.bind h
  refine BW.run [.aload_n 0] (pc' := 1) (lv' := [(0, .ref a0), (1, .int x1), (2, .int x2), (3, .int x3)]) (st' := [.ref a0]) (by decide +kernel) rfl rfl ?_
  obtain ⟨b1, eb1, h⟩ := Ok.bind h
  refine BW.get (by decide +kernel : decode tX10_least.2.1 1 = .ok (.getfield 61, 3)) ciX10 (k := 28) (by decide) lkF_X10_61 (toR_V eb1) ?_
  refine BW.run [.bipush 9, .iload_n 1, .imul, .iload_n 2, .iadd, .aload_n 0] (pc' := 11) (lv' := [(0, .ref a0), (1, .int x1), (2, .int x2), (3, .int x3)]) (st' := [.ref a0, .int (((9 : Int32) * x1) + x2), .ref b1]) (by decide +kernel) rfl rfl ?_
  obtain ⟨b2, eb2, h⟩ := Ok.bind h
  refine BW.get (by decide +kernel : decode tX10_least.2.1 11 = .ok (.getfield 61, 3)) ciX10 (k := 28) (by decide) lkF_X10_61 (toR_V eb2) ?_
  refine BW.run [.bipush 9, .iload_n 1, .imul, .iload_n 2, .iadd] (pc' := 20) (lv' := [(0, .ref a0), (1, .int x1), (2, .int x2), (3, .int x3)]) (st' := [.int (((9 : Int32) * x1) + x2), .ref b2, .int (((9 : Int32) * x1) + x2), .ref b1]) (by decide +kernel) rfl rfl ?_
  obtain ⟨v3, ev3, h⟩ := Ok.bind h
  refine BW.iald (by decide +kernel : decode tX10_least.2.1 20 = .ok (.iaload, 1)) (toI_V ev3) ?_
  refine BW.run [.iload_n 3] (pc' := 22) (lv' := [(0, .ref a0), (1, .int x1), (2, .int x2), (3, .int x3)]) (st' := [.int x3, .int v3, .int (((9 : Int32) * x1) + x2), .ref b1]) (by decide +kernel) rfl rfl ?_
  refine BW.mmax (by decide +kernel : decode tX10_least.2.1 22 = .ok (.invokestatic 9, 3)) lkM_X10_9 (Nat.le_of_ble_eq_true rfl) ⟨Nat.le_trans (by decide) hRm.1, Nat.le_trans (by decide) hRm.2⟩ ⟨Nat.zero_le _, Nat.zero_le _⟩ ?_
  obtain ⟨s4, es4, h⟩ := Ok.bind h
  refine BW.iast (by decide +kernel : decode tX10_least.2.1 25 = .ok (.iastore, 1)) es4 ?_
  exact BW.vret (by decide +kernel : decode tX10_least.2.1 26 = .ok (.return_, 1)) rfl (Nat.zero_le _) (Nat.zero_le _) (hQ _ (Ok.some h))
theorem oX10_least {n : Nat} {P : Sg → Prop} {s0 : Sg} {a0 : Nat} {x1 : Int32} {x2 : Int32} {x3 : Int32} (h : Ok (mX10_least n s0 a0 x1 x2 x3) P) : ∃ n0, s0.2.1 a0 = some (10, n0) := by
  unfold mX10_least at h
  exact Ok.isO h
theorem DX10_least {G : Cx} {n : Nat} {P : Sg → Prop} {s0 : Sg} {a0 : Nat} {x1 : Int32} {x2 : Int32} {x3 : Int32} (h : Ok (mX10_least n s0 a0 x1 x2 x3) P) : BM G tX10_least 1 21 0 0 [.ref a0, .int x1, .int x2, .int x3] s0 (fun v s => v = none ∧ P s) := by
  refine BM.of (by decide +kernel) (Nat.le_of_ble_eq_true rfl) ?_
  exact bX10_least (E := (({ frames := 1, cells := 0, slots := 0, locals := 21 }), Aof s0, 0, 0, (fun v s => v = none ∧ P s))) ⟨Nat.le_refl _, Nat.le_refl _⟩ (fun s hp => ⟨rfl, hp⟩) h
def mX10_cellAt (n : Nat) (s0 : Sg) (a0 : Nat) (x1 : Int32) (x2 : Int32) : Option (Int32 × Sg) :=
  (isO 10 s0 a0).bind fun _ =>
  (toR (gV 10 s0 a0 15)).bind fun b1 =>
  (toI (aV 11 s0 b1 (((61 : Int32) * x1) + x2))).bind fun v2 =>
  some (v2, s0)
theorem bX10_cellAt {G : Cx} {E : Ev} {n : Nat} (hRm : 0 ≤ E.1.frames ∧ 0 ≤ E.1.locals) {P : Int32 × Sg → Prop} (hQ : ∀ r s, P (r, s) → E.2.2.2.2 (some (.int r)) s) {s0 : Sg} {a0 : Nat} {x1 : Int32} {x2 : Int32} (h : Ok (mX10_cellAt n s0 a0 x1 x2) P) : BW G tX10_cellAt E 0 0 0 [(0, .ref a0), (1, .int x1), (2, .int x2)] [] s0 := by
  unfold mX10_cellAt at h
  obtain ⟨_, _, h⟩ := Ok.bind h
  refine BW.run [.aload_n 0] (pc' := 1) (lv' := [(0, .ref a0), (1, .int x1), (2, .int x2)]) (st' := [.ref a0]) (by decide +kernel) rfl rfl ?_
  obtain ⟨b1, eb1, h⟩ := Ok.bind h
  refine BW.get (by decide +kernel : decode tX10_cellAt.2.1 1 = .ok (.getfield 28, 3)) ciX10 (k := 15) (by decide) lkF_X10_28 (toR_V eb1) ?_
  refine BW.run [.bipush 61, .iload_n 1, .imul, .iload_n 2, .iadd] (pc' := 10) (lv' := [(0, .ref a0), (1, .int x1), (2, .int x2)]) (st' := [.int (((61 : Int32) * x1) + x2), .ref b1]) (by decide +kernel) rfl rfl ?_
  obtain ⟨v2, ev2, h⟩ := Ok.bind h
  refine BW.iald (by decide +kernel : decode tX10_cellAt.2.1 10 = .ok (.iaload, 1)) (toI_V ev2) ?_
  exact BW.iret (by decide +kernel : decode tX10_cellAt.2.1 11 = .ok (.ireturn, 1)) rfl (Nat.zero_le _) (Nat.zero_le _) (hQ _ _ (Ok.some h))
theorem oX10_cellAt {n : Nat} {P : Int32 × Sg → Prop} {s0 : Sg} {a0 : Nat} {x1 : Int32} {x2 : Int32} (h : Ok (mX10_cellAt n s0 a0 x1 x2) P) : ∃ n0, s0.2.1 a0 = some (10, n0) := by
  unfold mX10_cellAt at h
  exact Ok.isO h
theorem DX10_cellAt {G : Cx} {n : Nat} {P : Int32 × Sg → Prop} {s0 : Sg} {a0 : Nat} {x1 : Int32} {x2 : Int32} (h : Ok (mX10_cellAt n s0 a0 x1 x2) P) : BM G tX10_cellAt 0 0 0 0 [.ref a0, .int x1, .int x2] s0 (fun v s => ∃ r, v = some (.int r) ∧ P (r, s)) := by
  refine BM.of (by decide +kernel) (Nat.le_of_ble_eq_true rfl) ?_
  exact bX10_cellAt (E := (({ frames := 0, cells := 0, slots := 0, locals := 0 }), Aof s0, 0, 0, (fun v s => ∃ r, v = some (.int r) ∧ P (r, s)))) ⟨Nat.le_refl _, Nat.le_refl _⟩ (fun r s hp => ⟨r, rfl, hp⟩) h
def mX10_hasPrint_21 (n : Nat) (s0 : Sg)  : Option (Int32 × Sg) :=
  some ((1 : Int32), s0)
theorem bX10_hasPrint_21 {G : Cx} {E : Ev} {n : Nat} (hRm : 1 ≤ E.1.frames ∧ 22 ≤ E.1.locals) {s0 : Sg}  {P : Int32 × Sg → Prop} (hQ : ∀ r s, P (r, s) → E.2.2.2.2 (some (.int r)) s) (h : Ok (mX10_hasPrint_21 n s0 ) P) : BW G tX10_hasPrint E 0 0 21 [] [] s0 := by
  unfold mX10_hasPrint_21 at h
  refine BW.run [.iconst 1] (pc' := 22) (lv' := []) (st' := [.int (1 : Int32)]) (by decide +kernel) rfl rfl ?_
  refine BW.goto 26 (by decide +kernel : decode tX10_hasPrint.2.1 22 = .ok (.goto 4, 3)) (by decide) ?_
  exact BW.zret (by decide +kernel : decode tX10_hasPrint.2.1 26 = .ok (.ireturn, 1)) rfl (Or.inr rfl) (Nat.zero_le _) (Nat.zero_le _) (hQ _ _ (Ok.some h))
def mX10_hasPrint (n : Nat) (s0 : Sg) (a0 : Nat) (x1 : Int32) (x2 : Int32) : Option (Int32 × Sg) :=
  (isO 10 s0 a0).bind fun _ =>
  if x2 = 0 then (
    mX10_hasPrint_21 n s0 
  ) else (
    (mX10_cellAt n s0 a0 x1 x2).bind fun (v2, s1) =>
    (mX10_cellAt n s1 a0 x1 (x2 - (1 : Int32))).bind fun (v5, s4) =>
    if v2 = v5 then (
      some ((0 : Int32), s4)
    ) else (
      mX10_hasPrint_21 n s4 
    )
  )
theorem bX10_hasPrint {G : Cx} {E : Ev} {n : Nat} (hRm : 1 ≤ E.1.frames ∧ 22 ≤ E.1.locals) {P : Int32 × Sg → Prop} (hQ : ∀ r s, P (r, s) → E.2.2.2.2 (some (.int r)) s) {s0 : Sg} {a0 : Nat} {x1 : Int32} {x2 : Int32} (h : Ok (mX10_hasPrint n s0 a0 x1 x2) P) : BW G tX10_hasPrint E 0 0 0 [(0, .ref a0), (1, .int x1), (2, .int x2)] [] s0 := by
  unfold mX10_hasPrint at h
  obtain ⟨_, _, h⟩ := Ok.bind h
  refine BW.run [.iload_n 2] (pc' := 1) (lv' := [(0, .ref a0), (1, .int x1), (2, .int x2)]) (st' := [.int x2]) (by decide +kernel) rfl rfl ?_
  refine BW.if_eq 21 (by decide +kernel : decode tX10_hasPrint.2.1 1 = .ok (.ifCond .eq 20, 3)) (by decide) (fun hc => ?_) (fun hc => ?_)
  · have h := (Ok.ite h).1 hc
    refine BW.sub [] rfl ?_
    exact bX10_hasPrint_21 hRm hQ h
  · have h := (Ok.ite h).2 hc
    refine BW.run [.aload_n 0, .iload_n 1, .iload_n 2] (pc' := 7) (lv' := [(0, .ref a0), (1, .int x1), (2, .int x2)]) (st' := [.int x2, .int x1, .ref a0]) (by decide +kernel) rfl rfl ?_
    refine BW.callV (As := [.int x1, .int x2]) (st := []) (by decide +kernel : decode tX10_hasPrint.2.1 7 = .ok (.invokevirtual 168, 3)) (DX10_cellAt (Ok.bindK h)) mfX10_cellAt lkM_X10_168 imX10_cellAt selX10_cellAt ciX10 (oX10_cellAt (Ok.bindK h)).choose_spec rfl rfl (Nat.le_of_ble_eq_true rfl) ⟨Nat.le_trans (by decide) hRm.1, Nat.le_trans (by decide) hRm.2⟩ ⟨Nat.zero_le _, Nat.zero_le _⟩ ?_
    rintro _ s1 ⟨v2, rfl, h⟩
    show BW G tX10_hasPrint E 0 0 10 [(0, .ref a0), (1, .int x1), (2, .int x2)] [.int v2] s1
    refine BW.run [.aload_n 0, .iload_n 1, .iload_n 2, .iconst 1, .isub] (pc' := 15) (lv' := [(0, .ref a0), (1, .int x1), (2, .int x2)]) (st' := [.int (x2 - (1 : Int32)), .int x1, .ref a0, .int v2]) (by decide +kernel) rfl rfl ?_
    refine BW.callV (As := [.int x1, .int (x2 - (1 : Int32))]) (st := [.int v2]) (by decide +kernel : decode tX10_hasPrint.2.1 15 = .ok (.invokevirtual 168, 3)) (DX10_cellAt (Ok.bindK h)) mfX10_cellAt lkM_X10_168 imX10_cellAt selX10_cellAt ciX10 (oX10_cellAt (Ok.bindK h)).choose_spec rfl rfl (Nat.le_of_ble_eq_true rfl) ⟨Nat.le_trans (by decide) hRm.1, Nat.le_trans (by decide) hRm.2⟩ ⟨Nat.zero_le _, Nat.zero_le _⟩ ?_
    rintro _ s4 ⟨v5, rfl, h⟩
    show BW G tX10_hasPrint E 0 0 18 [(0, .ref a0), (1, .int x1), (2, .int x2)] [.int v5, .int v2] s4
    refine BW.icmp_eq 25 (by decide +kernel : decode tX10_hasPrint.2.1 18 = .ok (.if_icmp .eq 7, 3)) (by decide) (fun hc => ?_) (fun hc => ?_)
    · have h := (Ok.ite h).1 hc
      refine BW.run [.iconst 0] (pc' := 26) (lv' := [(0, .ref a0), (1, .int x1), (2, .int x2)]) (st' := [.int (0 : Int32)]) (by decide +kernel) rfl rfl ?_
      exact BW.zret (by decide +kernel : decode tX10_hasPrint.2.1 26 = .ok (.ireturn, 1)) rfl (Or.inl rfl) (Nat.zero_le _) (Nat.zero_le _) (hQ _ _ (Ok.some h))
    · have h := (Ok.ite h).2 hc
      refine BW.sub [] rfl ?_
      exact bX10_hasPrint_21 hRm hQ h
theorem oX10_hasPrint {n : Nat} {P : Int32 × Sg → Prop} {s0 : Sg} {a0 : Nat} {x1 : Int32} {x2 : Int32} (h : Ok (mX10_hasPrint n s0 a0 x1 x2) P) : ∃ n0, s0.2.1 a0 = some (10, n0) := by
  unfold mX10_hasPrint at h
  exact Ok.isO h
theorem DX10_hasPrint {G : Cx} {n : Nat} {P : Int32 × Sg → Prop} {s0 : Sg} {a0 : Nat} {x1 : Int32} {x2 : Int32} (h : Ok (mX10_hasPrint n s0 a0 x1 x2) P) : BM G tX10_hasPrint 1 22 0 0 [.ref a0, .int x1, .int x2] s0 (fun v s => ∃ r, v = some (.int r) ∧ P (r, s)) := by
  refine BM.of (by decide +kernel) (Nat.le_of_ble_eq_true rfl) ?_
  exact bX10_hasPrint (E := (({ frames := 1, cells := 0, slots := 0, locals := 22 }), Aof s0, 0, 0, (fun v s => ∃ r, v = some (.int r) ∧ P (r, s)))) ⟨Nat.le_refl _, Nat.le_refl _⟩ (fun r s hp => ⟨r, rfl, hp⟩) h
def mX10_latestIn_43 (n : Nat) (s0 : Sg) (t0 : Int32) (a0 : Nat) (x1 : Int32) (x2 : Int32) (x4 : Int32) : Option ((Sg × Int32 × Int32) ⊕ (Sg × Int32)) :=
  some (.inl (s0, t0, (x4 + (1 : Int32))))
theorem bX10_latestIn_43 {G : Cx} {E : Ev} {n : Nat} (hRm : 2 ≤ E.1.frames ∧ 44 ≤ E.1.locals) {s0 : Sg} {t0 : Int32} {a0 : Nat} {x1 : Int32} {x2 : Int32} {x4 : Int32} {P : (Sg × Int32 × Int32) ⊕ (Sg × Int32) → Prop} (hC : ∀ (s : Sg) (c3 : Int32) (c4 : Int32), P (.inl (s, c3, c4)) → BW G tX10_latestIn E 0 0 5 [(0, .ref a0), (1, .int x1), (2, .int x2), (3, .int c3), (4, .int c4)] [] s) (hE : ∀ (s : Sg) (c3 : Int32), P (.inr (s, c3)) → BW G tX10_latestIn E 0 0 50 [(3, .int c3)] [] s)  (h : Ok (mX10_latestIn_43 n s0 t0 a0 x1 x2 x4) P) : BW G tX10_latestIn E 0 0 43 [(0, .ref a0), (1, .int x1), (2, .int x2), (4, .int x4)] [.int t0] s0 := by
  unfold mX10_latestIn_43 at h
  refine BW.run [.istore_n 3, .iinc 4 1] (pc' := 47) (lv' := [(0, .ref a0), (1, .int x1), (2, .int x2), (3, .int t0), (4, .int (x4 + (1 : Int32)))]) (st' := []) (by decide +kernel) rfl rfl ?_
  refine BW.goto 5 (by decide +kernel : decode tX10_latestIn.2.1 47 = .ok (.goto (-42), 3)) (by decide) ?_
  exact hC _ _ _ (Ok.some h)
def mX10_latestIn_42 (n : Nat) (s0 : Sg) (a0 : Nat) (x1 : Int32) (x2 : Int32) (x3 : Int32) (x4 : Int32) : Option ((Sg × Int32 × Int32) ⊕ (Sg × Int32)) :=
  mX10_latestIn_43 n s0 x3 a0 x1 x2 x4
theorem bX10_latestIn_42 {G : Cx} {E : Ev} {n : Nat} (hRm : 2 ≤ E.1.frames ∧ 44 ≤ E.1.locals) {s0 : Sg} {a0 : Nat} {x1 : Int32} {x2 : Int32} {x3 : Int32} {x4 : Int32} {P : (Sg × Int32 × Int32) ⊕ (Sg × Int32) → Prop} (hC : ∀ (s : Sg) (c3 : Int32) (c4 : Int32), P (.inl (s, c3, c4)) → BW G tX10_latestIn E 0 0 5 [(0, .ref a0), (1, .int x1), (2, .int x2), (3, .int c3), (4, .int c4)] [] s) (hE : ∀ (s : Sg) (c3 : Int32), P (.inr (s, c3)) → BW G tX10_latestIn E 0 0 50 [(3, .int c3)] [] s)  (h : Ok (mX10_latestIn_42 n s0 a0 x1 x2 x3 x4) P) : BW G tX10_latestIn E 0 0 42 [(0, .ref a0), (1, .int x1), (2, .int x2), (3, .int x3), (4, .int x4)] [] s0 := by
  unfold mX10_latestIn_42 at h
  refine BW.run [.iload_n 3] (pc' := 43) (lv' := [(0, .ref a0), (1, .int x1), (2, .int x2), (3, .int x3), (4, .int x4)]) (st' := [.int x3]) (by decide +kernel) rfl rfl ?_
  refine BW.sub [0, 1, 2, 4] rfl ?_
  exact bX10_latestIn_43 hRm hC hE h
def mX10_latestIn_L5 (n : Nat) (a0 : Nat) (x1 : Int32) (x2 : Int32) : (Sg × Int32 × Int32) → Option ((Sg × Int32 × Int32) ⊕ (Sg × Int32))
  | (s0, x3, x4) =>
    (toR (gV 10 s0 a0 16)).bind fun b1 =>
    (toI (aV 11 s0 b1 x1)).bind fun v2 =>
    if v2 < x4 then (
      some (.inr (s0, x3))
    ) else (
      (mX10_cellAt n s0 a0 x1 x4).bind fun (v4, s3) =>
      if v4 = x2 then (
        (mX10_hasPrint n s3 a0 x1 x4).bind fun (v7, s6) =>
        if v7 = 0 then (
          mX10_latestIn_42 n s6 a0 x1 x2 x3 x4
        ) else (
          mX10_latestIn_43 n s6 x4 a0 x1 x2 x4
        )
      ) else (
        mX10_latestIn_42 n s3 a0 x1 x2 x3 x4
      )
    )
theorem bX10_latestIn_L5 {G : Cx} {E : Ev} {n : Nat} (hRm : 2 ≤ E.1.frames ∧ 44 ≤ E.1.locals) {a0 : Nat} {x1 : Int32} {x2 : Int32} {P : (Sg × Int32 × Int32) ⊕ (Sg × Int32) → Prop} (hC : ∀ (s : Sg) (c3 : Int32) (c4 : Int32), P (.inl (s, c3, c4)) → BW G tX10_latestIn E 0 0 5 [(0, .ref a0), (1, .int x1), (2, .int x2), (3, .int c3), (4, .int c4)] [] s) (hE : ∀ (s : Sg) (c3 : Int32), P (.inr (s, c3)) → BW G tX10_latestIn E 0 0 50 [(3, .int c3)] [] s) {s0 : Sg} {x3 : Int32} {x4 : Int32} (h : Ok (mX10_latestIn_L5 n a0 x1 x2 (s0, x3, x4)) P) : BW G tX10_latestIn E 0 0 5 [(0, .ref a0), (1, .int x1), (2, .int x2), (3, .int x3), (4, .int x4)] [] s0 := by
  unfold mX10_latestIn_L5 at h
  refine BW.run [.iload 4, .aload_n 0] (pc' := 8) (lv' := [(0, .ref a0), (1, .int x1), (2, .int x2), (3, .int x3), (4, .int x4)]) (st' := [.ref a0, .int x4]) (by decide +kernel) rfl rfl ?_
  obtain ⟨b1, eb1, h⟩ := Ok.bind h
  refine BW.get (by decide +kernel : decode tX10_latestIn.2.1 8 = .ok (.getfield 31, 3)) ciX10 (k := 16) (by decide) lkF_X10_31 (toR_V eb1) ?_
  refine BW.run [.iload_n 1] (pc' := 12) (lv' := [(0, .ref a0), (1, .int x1), (2, .int x2), (3, .int x3), (4, .int x4)]) (st' := [.int x1, .ref b1, .int x4]) (by decide +kernel) rfl rfl ?_
  obtain ⟨v2, ev2, h⟩ := Ok.bind h
  refine BW.iald (by decide +kernel : decode tX10_latestIn.2.1 12 = .ok (.iaload, 1)) (toI_V ev2) ?_
  refine BW.icmp_gt 50 (by decide +kernel : decode tX10_latestIn.2.1 13 = .ok (.if_icmp .gt 37, 3)) (by decide) (fun hc => ?_) (fun hc => ?_)
  · have h := (Ok.ite h).1 hc
    refine BW.sub [3] rfl ?_
    exact hE _ _ (Ok.some h)
  · have h := (Ok.ite h).2 hc
    refine BW.run [.aload_n 0, .iload_n 1, .iload 4] (pc' := 20) (lv' := [(0, .ref a0), (1, .int x1), (2, .int x2), (3, .int x3), (4, .int x4)]) (st' := [.int x4, .int x1, .ref a0]) (by decide +kernel) rfl rfl ?_
    refine BW.callV (As := [.int x1, .int x4]) (st := []) (by decide +kernel : decode tX10_latestIn.2.1 20 = .ok (.invokevirtual 168, 3)) (DX10_cellAt (Ok.bindK h)) mfX10_cellAt lkM_X10_168 imX10_cellAt selX10_cellAt ciX10 (oX10_cellAt (Ok.bindK h)).choose_spec rfl rfl (Nat.le_of_ble_eq_true rfl) ⟨Nat.le_trans (by decide) hRm.1, Nat.le_trans (by decide) hRm.2⟩ ⟨Nat.zero_le _, Nat.zero_le _⟩ ?_
    rintro _ s3 ⟨v4, rfl, h⟩
    show BW G tX10_latestIn E 0 0 23 [(0, .ref a0), (1, .int x1), (2, .int x2), (3, .int x3), (4, .int x4)] [.int v4] s3
    refine BW.run [.iload_n 2] (pc' := 24) (lv' := [(0, .ref a0), (1, .int x1), (2, .int x2), (3, .int x3), (4, .int x4)]) (st' := [.int x2, .int v4]) (by decide +kernel) rfl rfl ?_
    refine BW.icmp_ne 42 (by decide +kernel : decode tX10_latestIn.2.1 24 = .ok (.if_icmp .ne 18, 3)) (by decide) (fun hc => ?_) (fun hc => ?_)
    · have h := (Ok.ite h).2 hc
      exact bX10_latestIn_42 hRm hC hE h
    · have h := (Ok.ite h).1 hc
      refine BW.run [.aload_n 0, .iload_n 1, .iload 4] (pc' := 31) (lv' := [(0, .ref a0), (1, .int x1), (2, .int x2), (3, .int x3), (4, .int x4)]) (st' := [.int x4, .int x1, .ref a0]) (by decide +kernel) rfl rfl ?_
      refine BW.callV (As := [.int x1, .int x4]) (st := []) (by decide +kernel : decode tX10_latestIn.2.1 31 = .ok (.invokevirtual 174, 3)) (DX10_hasPrint (Ok.bindK h)) mfX10_hasPrint lkM_X10_174 imX10_hasPrint selX10_hasPrint ciX10 (oX10_hasPrint (Ok.bindK h)).choose_spec rfl rfl (Nat.le_of_ble_eq_true rfl) ⟨Nat.le_trans (by decide) hRm.1, Nat.le_trans (by decide) hRm.2⟩ ⟨Nat.zero_le _, Nat.zero_le _⟩ ?_
      rintro _ s6 ⟨v7, rfl, h⟩
      show BW G tX10_latestIn E 0 0 34 [(0, .ref a0), (1, .int x1), (2, .int x2), (3, .int x3), (4, .int x4)] [.int v7] s6
      refine BW.if_eq 42 (by decide +kernel : decode tX10_latestIn.2.1 34 = .ok (.ifCond .eq 8, 3)) (by decide) (fun hc => ?_) (fun hc => ?_)
      · have h := (Ok.ite h).1 hc
        exact bX10_latestIn_42 hRm hC hE h
      · have h := (Ok.ite h).2 hc
        refine BW.run [.iload 4] (pc' := 39) (lv' := [(0, .ref a0), (1, .int x1), (2, .int x2), (3, .int x3), (4, .int x4)]) (st' := [.int x4]) (by decide +kernel) rfl rfl ?_
        refine BW.goto 43 (by decide +kernel : decode tX10_latestIn.2.1 39 = .ok (.goto 4, 3)) (by decide) ?_
        refine BW.sub [0, 1, 2, 4] rfl ?_
        exact bX10_latestIn_43 hRm hC hE h
theorem bX10_latestIn_W5 {G : Cx} {E : Ev} {n : Nat} (hRm : 2 ≤ E.1.frames ∧ 44 ≤ E.1.locals) {a0 : Nat} {x1 : Int32} {x2 : Int32} {K : (Sg × Int32) → Prop} (hE : ∀ (s : Sg) (c3 : Int32), K (s, c3) → BW G tX10_latestIn E 0 0 50 [(3, .int c3)] [] s) : ∀ (f : Nat) (c : Sg × Int32 × Int32), Ok (loopM (mX10_latestIn_L5 n a0 x1 x2) f c) K → match c with | (s0, x3, x4) => BW G tX10_latestIn E 0 0 5 [(0, .ref a0), (1, .int x1), (2, .int x2), (3, .int x3), (4, .int x4)] [] s0 := by
  intro f
  induction f with
  | zero => intro c h; exact (Ok.no h).elim
  | succ f ih =>
    intro c h
    obtain ⟨s0, x3, x4⟩ := c
    exact bX10_latestIn_L5 (P := loopP (mX10_latestIn_L5 n a0 x1 x2) f K) hRm (fun s c3 c4 h => ih (s, c3, c4) h) hE (loopM_ok h)
def mX10_latestIn (n : Nat) (s0 : Sg) (a0 : Nat) (x1 : Int32) (x2 : Int32) : Option (Int32 × Sg) :=
  (isO 10 s0 a0).bind fun _ =>
  (loopM (mX10_latestIn_L5 n a0 x1 x2) n (s0, (-1 : Int32), (0 : Int32))).bind fun (s9, v10) =>
  some (v10, s9)
theorem bX10_latestIn {G : Cx} {E : Ev} {n : Nat} (hRm : 2 ≤ E.1.frames ∧ 44 ≤ E.1.locals) {P : Int32 × Sg → Prop} (hQ : ∀ r s, P (r, s) → E.2.2.2.2 (some (.int r)) s) {s0 : Sg} {a0 : Nat} {x1 : Int32} {x2 : Int32} (h : Ok (mX10_latestIn n s0 a0 x1 x2) P) : BW G tX10_latestIn E 0 0 0 [(0, .ref a0), (1, .int x1), (2, .int x2)] [] s0 := by
  unfold mX10_latestIn at h
  obtain ⟨_, _, h⟩ := Ok.bind h
  refine BW.run [.iconst (-1), .istore_n 3, .iconst 0, .istore 4] (pc' := 5) (lv' := [(0, .ref a0), (1, .int x1), (2, .int x2), (3, .int (-1 : Int32)), (4, .int (0 : Int32))]) (st' := []) (by decide +kernel) rfl rfl ?_
  refine bX10_latestIn_W5 hRm (a0 := a0) (x1 := x1) (x2 := x2) (fun s9 v10 h => ?_) n (s0, (-1 : Int32), (0 : Int32)) (Ok.bindK h)
  refine BW.run [.iload_n 3] (pc' := 51) (lv' := [(3, .int v10)]) (st' := [.int v10]) (by decide +kernel) rfl rfl ?_
  exact BW.iret (by decide +kernel : decode tX10_latestIn.2.1 51 = .ok (.ireturn, 1)) rfl (Nat.zero_le _) (Nat.zero_le _) (hQ _ _ (Ok.some h))
theorem oX10_latestIn {n : Nat} {P : Int32 × Sg → Prop} {s0 : Sg} {a0 : Nat} {x1 : Int32} {x2 : Int32} (h : Ok (mX10_latestIn n s0 a0 x1 x2) P) : ∃ n0, s0.2.1 a0 = some (10, n0) := by
  unfold mX10_latestIn at h
  exact Ok.isO h
theorem DX10_latestIn {G : Cx} {n : Nat} {P : Int32 × Sg → Prop} {s0 : Sg} {a0 : Nat} {x1 : Int32} {x2 : Int32} (h : Ok (mX10_latestIn n s0 a0 x1 x2) P) : BM G tX10_latestIn 2 44 0 0 [.ref a0, .int x1, .int x2] s0 (fun v s => ∃ r, v = some (.int r) ∧ P (r, s)) := by
  refine BM.of (by decide +kernel) (Nat.le_of_ble_eq_true rfl) ?_
  exact bX10_latestIn (E := (({ frames := 2, cells := 0, slots := 0, locals := 44 }), Aof s0, 0, 0, (fun v s => ∃ r, v = some (.int r) ∧ P (r, s)))) ⟨Nat.le_refl _, Nat.le_refl _⟩ (fun r s hp => ⟨r, rfl, hp⟩) h
def mX10_made (n : Nat) (s0 : Sg) (a0 : Nat) (x1 : Int32) (x2 : Int32) : Option (Int32 × Sg) :=
  (isO 10 s0 a0).bind fun _ =>
  (toR (gV 10 s0 a0 17)).bind fun b1 =>
  (toI (aV 11 s0 b1 x1)).bind fun v2 =>
  (mX10_latestIn n s0 a0 x1 x2).bind fun (v4, s3) =>
  some ((v2 * v4), s3)
theorem bX10_made {G : Cx} {E : Ev} {n : Nat} (hRm : 3 ≤ E.1.frames ∧ 68 ≤ E.1.locals) {P : Int32 × Sg → Prop} (hQ : ∀ r s, P (r, s) → E.2.2.2.2 (some (.int r)) s) {s0 : Sg} {a0 : Nat} {x1 : Int32} {x2 : Int32} (h : Ok (mX10_made n s0 a0 x1 x2) P) : BW G tX10_made E 0 0 0 [(0, .ref a0), (1, .int x1), (2, .int x2)] [] s0 := by
  unfold mX10_made at h
  obtain ⟨_, _, h⟩ := Ok.bind h
  refine BW.run [.aload_n 0] (pc' := 1) (lv' := [(0, .ref a0), (1, .int x1), (2, .int x2)]) (st' := [.ref a0]) (by decide +kernel) rfl rfl ?_
  obtain ⟨b1, eb1, h⟩ := Ok.bind h
  refine BW.get (by decide +kernel : decode tX10_made.2.1 1 = .ok (.getfield 34, 3)) ciX10 (k := 17) (by decide) lkF_X10_34 (toR_V eb1) ?_
  refine BW.run [.iload_n 1] (pc' := 5) (lv' := [(0, .ref a0), (1, .int x1), (2, .int x2)]) (st' := [.int x1, .ref b1]) (by decide +kernel) rfl rfl ?_
  obtain ⟨v2, ev2, h⟩ := Ok.bind h
  refine BW.iald (by decide +kernel : decode tX10_made.2.1 5 = .ok (.iaload, 1)) (toI_V ev2) ?_
  refine BW.run [.aload_n 0, .iload_n 1, .iload_n 2] (pc' := 9) (lv' := [(0, .ref a0), (1, .int x1), (2, .int x2)]) (st' := [.int x2, .int x1, .ref a0, .int v2]) (by decide +kernel) rfl rfl ?_
  refine BW.callV (As := [.int x1, .int x2]) (st := [.int v2]) (by decide +kernel : decode tX10_made.2.1 9 = .ok (.invokevirtual 181, 3)) (DX10_latestIn (Ok.bindK h)) mfX10_latestIn lkM_X10_181 imX10_latestIn selX10_latestIn ciX10 (oX10_latestIn (Ok.bindK h)).choose_spec rfl rfl (Nat.le_of_ble_eq_true rfl) ⟨Nat.le_trans (by decide) hRm.1, Nat.le_trans (by decide) hRm.2⟩ ⟨Nat.zero_le _, Nat.zero_le _⟩ ?_
  rintro _ s3 ⟨v4, rfl, h⟩
  show BW G tX10_made E 0 0 12 [(0, .ref a0), (1, .int x1), (2, .int x2)] [.int v4, .int v2] s3
  refine BW.run [.imul] (pc' := 13) (lv' := [(0, .ref a0), (1, .int x1), (2, .int x2)]) (st' := [.int (v2 * v4)]) (by decide +kernel) rfl rfl ?_
  exact BW.iret (by decide +kernel : decode tX10_made.2.1 13 = .ok (.ireturn, 1)) rfl (Nat.zero_le _) (Nat.zero_le _) (hQ _ _ (Ok.some h))
theorem oX10_made {n : Nat} {P : Int32 × Sg → Prop} {s0 : Sg} {a0 : Nat} {x1 : Int32} {x2 : Int32} (h : Ok (mX10_made n s0 a0 x1 x2) P) : ∃ n0, s0.2.1 a0 = some (10, n0) := by
  unfold mX10_made at h
  exact Ok.isO h
theorem DX10_made {G : Cx} {n : Nat} {P : Int32 × Sg → Prop} {s0 : Sg} {a0 : Nat} {x1 : Int32} {x2 : Int32} (h : Ok (mX10_made n s0 a0 x1 x2) P) : BM G tX10_made 3 68 0 0 [.ref a0, .int x1, .int x2] s0 (fun v s => ∃ r, v = some (.int r) ∧ P (r, s)) := by
  refine BM.of (by decide +kernel) (Nat.le_of_ble_eq_true rfl) ?_
  exact bX10_made (E := (({ frames := 3, cells := 0, slots := 0, locals := 68 }), Aof s0, 0, 0, (fun v s => ∃ r, v = some (.int r) ∧ P (r, s)))) ⟨Nat.le_refl _, Nat.le_refl _⟩ (fun r s hp => ⟨r, rfl, hp⟩) h
def mX10_above (n : Nat) (s0 : Sg) (a0 : Nat) (x1 : Int32) (x2 : Int32) (x3 : Int32) : Option (Sg) :=
  (isO 10 s0 a0).bind fun _ =>
  (mX10_made n s0 a0 x2 x3).bind fun (v2, s1) =>
  (mX10_made n s1 a0 x1 x3).bind fun (v5, s4) =>
  (mX10_least n s4 a0 x2 x1 ((v2 - v5) + (1 : Int32))).bind fun s7 =>
  some s7
theorem bX10_above {G : Cx} {E : Ev} {n : Nat} (hRm : 4 ≤ E.1.frames ∧ 90 ≤ E.1.locals) {P : Sg → Prop} (hQ : ∀ s, P s → E.2.2.2.2 none s) {s0 : Sg} {a0 : Nat} {x1 : Int32} {x2 : Int32} {x3 : Int32} (h : Ok (mX10_above n s0 a0 x1 x2 x3) P) : BW G tX10_above E 0 0 0 [(0, .ref a0), (1, .int x1), (2, .int x2), (3, .int x3)] [] s0 := by
  unfold mX10_above at h
  obtain ⟨_, _, h⟩ := Ok.bind h
  refine BW.run [.aload_n 0, .iload_n 2, .iload_n 1, .aload_n 0, .iload_n 2, .iload_n 3] (pc' := 6) (lv' := [(0, .ref a0), (1, .int x1), (2, .int x2), (3, .int x3)]) (st' := [.int x3, .int x2, .ref a0, .int x1, .int x2, .ref a0]) (by decide +kernel) rfl rfl ?_
  refine BW.callV (As := [.int x2, .int x3]) (st := [.int x1, .int x2, .ref a0]) (by decide +kernel : decode tX10_above.2.1 6 = .ok (.invokevirtual 202, 3)) (DX10_made (Ok.bindK h)) mfX10_made lkM_X10_202 imX10_made selX10_made ciX10 (oX10_made (Ok.bindK h)).choose_spec rfl rfl (Nat.le_of_ble_eq_true rfl) ⟨Nat.le_trans (by decide) hRm.1, Nat.le_trans (by decide) hRm.2⟩ ⟨Nat.zero_le _, Nat.zero_le _⟩ ?_
  rintro _ s1 ⟨v2, rfl, h⟩
  show BW G tX10_above E 0 0 9 [(0, .ref a0), (1, .int x1), (2, .int x2), (3, .int x3)] [.int v2, .int x1, .int x2, .ref a0] s1
  refine BW.run [.aload_n 0, .iload_n 1, .iload_n 3] (pc' := 12) (lv' := [(0, .ref a0), (1, .int x1), (2, .int x2), (3, .int x3)]) (st' := [.int x3, .int x1, .ref a0, .int v2, .int x1, .int x2, .ref a0]) (by decide +kernel) rfl rfl ?_
  refine BW.callV (As := [.int x1, .int x3]) (st := [.int v2, .int x1, .int x2, .ref a0]) (by decide +kernel : decode tX10_above.2.1 12 = .ok (.invokevirtual 202, 3)) (DX10_made (Ok.bindK h)) mfX10_made lkM_X10_202 imX10_made selX10_made ciX10 (oX10_made (Ok.bindK h)).choose_spec rfl rfl (Nat.le_of_ble_eq_true rfl) ⟨Nat.le_trans (by decide) hRm.1, Nat.le_trans (by decide) hRm.2⟩ ⟨Nat.zero_le _, Nat.zero_le _⟩ ?_
  rintro _ s4 ⟨v5, rfl, h⟩
  show BW G tX10_above E 0 0 15 [(0, .ref a0), (1, .int x1), (2, .int x2), (3, .int x3)] [.int v5, .int v2, .int x1, .int x2, .ref a0] s4
  refine BW.run [.isub, .iconst 1, .iadd] (pc' := 18) (lv' := [(0, .ref a0), (1, .int x1), (2, .int x2), (3, .int x3)]) (st' := [.int ((v2 - v5) + (1 : Int32)), .int x1, .int x2, .ref a0]) (by decide +kernel) rfl rfl ?_
  refine BW.callV (As := [.int x2, .int x1, .int ((v2 - v5) + (1 : Int32))]) (st := []) (by decide +kernel : decode tX10_above.2.1 18 = .ok (.invokevirtual 198, 3)) (DX10_least (Ok.bindK h)) mfX10_least lkM_X10_198 imX10_least selX10_least ciX10 (oX10_least (Ok.bindK h)).choose_spec rfl rfl (Nat.le_of_ble_eq_true rfl) ⟨Nat.le_trans (by decide) hRm.1, Nat.le_trans (by decide) hRm.2⟩ ⟨Nat.zero_le _, Nat.zero_le _⟩ ?_
  rintro _ s7 ⟨rfl, h⟩
  show BW G tX10_above E 0 0 21 [(0, .ref a0), (1, .int x1), (2, .int x2), (3, .int x3)] [] s7
  exact BW.vret (by decide +kernel : decode tX10_above.2.1 21 = .ok (.return_, 1)) rfl (Nat.zero_le _) (Nat.zero_le _) (hQ _ (Ok.some h))
theorem oX10_above {n : Nat} {P : Sg → Prop} {s0 : Sg} {a0 : Nat} {x1 : Int32} {x2 : Int32} {x3 : Int32} (h : Ok (mX10_above n s0 a0 x1 x2 x3) P) : ∃ n0, s0.2.1 a0 = some (10, n0) := by
  unfold mX10_above at h
  exact Ok.isO h
theorem DX10_above {G : Cx} {n : Nat} {P : Sg → Prop} {s0 : Sg} {a0 : Nat} {x1 : Int32} {x2 : Int32} {x3 : Int32} (h : Ok (mX10_above n s0 a0 x1 x2 x3) P) : BM G tX10_above 4 90 0 0 [.ref a0, .int x1, .int x2, .int x3] s0 (fun v s => v = none ∧ P s) := by
  refine BM.of (by decide +kernel) (Nat.le_of_ble_eq_true rfl) ?_
  exact bX10_above (E := (({ frames := 4, cells := 0, slots := 0, locals := 90 }), Aof s0, 0, 0, (fun v s => v = none ∧ P s))) ⟨Nat.le_refl _, Nat.le_refl _⟩ (fun s hp => ⟨rfl, hp⟩) h
def mX10_add (n : Nat) (s0 : Sg) (a0 : Nat) (x1 : Int32) : Option (Sg) :=
  (isO 10 s0 a0).bind fun _ =>
  (toR (gV 10 s0 a0 23)).bind fun b1 =>
  (toI (aV 11 s0 b1 x1)).bind fun v2 =>
  (toR (gV 10 s0 a0 22)).bind fun b3 =>
  (toI (aV 11 s0 b3 x1)).bind fun v4 =>
  if v4 = (0 : Int32) then (
    (toR (gV 10 s0 a0 24)).bind fun b5 =>
    (toI (aV 11 s0 b5 x1)).bind fun v6 =>
    (toR (gV 10 s0 a0 25)).bind fun b7 =>
    (toI (aV 11 s0 b7 x1)).bind fun v8 =>
    (mX10_above n s0 a0 v2 v6 v8).bind fun s9 =>
    some s9
  ) else (
  if v4 = (1 : Int32) then (
    (toR (gV 10 s0 a0 25)).bind fun b10 =>
    (toI (aV 11 s0 b10 x1)).bind fun v11 =>
    (mX10_least n s0 a0 (8 : Int32) v2 (v11 + (1 : Int32))).bind fun s12 =>
    some s12
  ) else (
  if v4 = (2 : Int32) then (
    (toR (gV 10 s0 a0 25)).bind fun b13 =>
    (toI (aV 11 s0 b13 x1)).bind fun v14 =>
    (mX10_least n s0 a0 v2 (8 : Int32) (-v14)).bind fun s15 =>
    some s15
  ) else (
  if v4 = (3 : Int32) then (
    (toR (gV 10 s0 a0 25)).bind fun b16 =>
    (toI (aV 11 s0 b16 x1)).bind fun v17 =>
    (mX10_least n s0 a0 (8 : Int32) v2 v17).bind fun s18 =>
    (toR (gV 10 s18 a0 26)).bind fun b19 =>
    (toI (aV 11 s18 b19 x1)).bind fun v20 =>
    (mX10_least n s18 a0 v2 (8 : Int32) (-v20)).bind fun s21 =>
    some s21
  ) else (
    (toR (gV 10 s0 a0 24)).bind fun b22 =>
    (toI (aV 11 s0 b22 x1)).bind fun v23 =>
    (toR (gV 10 s0 a0 25)).bind fun b24 =>
    (toI (aV 11 s0 b24 x1)).bind fun v25 =>
    (mX10_least n s0 a0 v23 v2 v25).bind fun s26 =>
    some s26
  ))))
theorem bX10_add {G : Cx} {E : Ev} {n : Nat} (hRm : 5 ≤ E.1.frames ∧ 113 ≤ E.1.locals) {P : Sg → Prop} (hQ : ∀ s, P s → E.2.2.2.2 none s) {s0 : Sg} {a0 : Nat} {x1 : Int32} (h : Ok (mX10_add n s0 a0 x1) P) : BW G tX10_add E 0 0 0 [(0, .ref a0), (1, .int x1)] [] s0 := by
  unfold mX10_add at h
  obtain ⟨_, _, h⟩ := Ok.bind h
  refine BW.run [.aload_n 0] (pc' := 1) (lv' := [(0, .ref a0), (1, .int x1)]) (st' := [.ref a0]) (by decide +kernel) rfl rfl ?_
  obtain ⟨b1, eb1, h⟩ := Ok.bind h
  refine BW.get (by decide +kernel : decode tX10_add.2.1 1 = .ok (.getfield 49, 3)) ciX10 (k := 23) (by decide) lkF_X10_49 (toR_V eb1) ?_
  refine BW.run [.iload_n 1] (pc' := 5) (lv' := [(0, .ref a0), (1, .int x1)]) (st' := [.int x1, .ref b1]) (by decide +kernel) rfl rfl ?_
  obtain ⟨v2, ev2, h⟩ := Ok.bind h
  refine BW.iald (by decide +kernel : decode tX10_add.2.1 5 = .ok (.iaload, 1)) (toI_V ev2) ?_
  refine BW.run [.istore_n 2, .aload_n 0] (pc' := 8) (lv' := [(0, .ref a0), (1, .int x1), (2, .int v2)]) (st' := [.ref a0]) (by decide +kernel) rfl rfl ?_
  obtain ⟨b3, eb3, h⟩ := Ok.bind h
  refine BW.get (by decide +kernel : decode tX10_add.2.1 8 = .ok (.getfield 46, 3)) ciX10 (k := 22) (by decide) lkF_X10_46 (toR_V eb3) ?_
  refine BW.run [.iload_n 1] (pc' := 12) (lv' := [(0, .ref a0), (1, .int x1), (2, .int v2)]) (st' := [.int x1, .ref b3]) (by decide +kernel) rfl rfl ?_
  obtain ⟨v4, ev4, h⟩ := Ok.bind h
  refine BW.iald (by decide +kernel : decode tX10_add.2.1 12 = .ok (.iaload, 1)) (toI_V ev4) ?_
  by_cases hc0 : v4 = (0 : Int32)
  · have h := (Ok.ite h).1 hc0
    refine BW.tblIn (off := 31) 44 (by decide +kernel : decode tX10_add.2.1 13 = .ok (.tableswitch 116 0 3 #[31, 51, 69, 86], 31)) (by rw [hc0]; decide) (by rw [hc0]; decide) (by rw [hc0]; rfl) (by decide) ?_
    refine BW.run [.aload_n 0, .iload_n 2, .aload_n 0] (pc' := 47) (lv' := [(0, .ref a0), (1, .int x1), (2, .int v2)]) (st' := [.ref a0, .int v2, .ref a0]) (by decide +kernel) rfl rfl ?_
    obtain ⟨b5, eb5, h⟩ := Ok.bind h
    refine BW.get (by decide +kernel : decode tX10_add.2.1 47 = .ok (.getfield 52, 3)) ciX10 (k := 24) (by decide) lkF_X10_52 (toR_V eb5) ?_
    refine BW.run [.iload_n 1] (pc' := 51) (lv' := [(0, .ref a0), (1, .int x1), (2, .int v2)]) (st' := [.int x1, .ref b5, .int v2, .ref a0]) (by decide +kernel) rfl rfl ?_
    obtain ⟨v6, ev6, h⟩ := Ok.bind h
    refine BW.iald (by decide +kernel : decode tX10_add.2.1 51 = .ok (.iaload, 1)) (toI_V ev6) ?_
    refine BW.run [.aload_n 0] (pc' := 53) (lv' := [(0, .ref a0), (1, .int x1), (2, .int v2)]) (st' := [.ref a0, .int v6, .int v2, .ref a0]) (by decide +kernel) rfl rfl ?_
    obtain ⟨b7, eb7, h⟩ := Ok.bind h
    refine BW.get (by decide +kernel : decode tX10_add.2.1 53 = .ok (.getfield 55, 3)) ciX10 (k := 25) (by decide) lkF_X10_55 (toR_V eb7) ?_
    refine BW.run [.iload_n 1] (pc' := 57) (lv' := [(0, .ref a0), (1, .int x1), (2, .int v2)]) (st' := [.int x1, .ref b7, .int v6, .int v2, .ref a0]) (by decide +kernel) rfl rfl ?_
    obtain ⟨v8, ev8, h⟩ := Ok.bind h
    refine BW.iald (by decide +kernel : decode tX10_add.2.1 57 = .ok (.iaload, 1)) (toI_V ev8) ?_
    refine BW.callV (As := [.int v2, .int v6, .int v8]) (st := []) (by decide +kernel : decode tX10_add.2.1 58 = .ok (.invokevirtual 205, 3)) (DX10_above (Ok.bindK h)) mfX10_above lkM_X10_205 imX10_above selX10_above ciX10 (oX10_above (Ok.bindK h)).choose_spec rfl rfl (Nat.le_of_ble_eq_true rfl) ⟨Nat.le_trans (by decide) hRm.1, Nat.le_trans (by decide) hRm.2⟩ ⟨Nat.zero_le _, Nat.zero_le _⟩ ?_
    rintro _ s9 ⟨rfl, h⟩
    show BW G tX10_add E 0 0 61 [(0, .ref a0), (1, .int x1), (2, .int v2)] [] s9
    refine BW.goto 146 (by decide +kernel : decode tX10_add.2.1 61 = .ok (.goto 85, 3)) (by decide) ?_
    exact BW.vret (by decide +kernel : decode tX10_add.2.1 146 = .ok (.return_, 1)) rfl (Nat.zero_le _) (Nat.zero_le _) (hQ _ (Ok.some h))
  · have h := (Ok.ite h).2 hc0
    by_cases hc1 : v4 = (1 : Int32)
    · have h := (Ok.ite h).1 hc1
      refine BW.tblIn (off := 51) 64 (by decide +kernel : decode tX10_add.2.1 13 = .ok (.tableswitch 116 0 3 #[31, 51, 69, 86], 31)) (by rw [hc1]; decide) (by rw [hc1]; decide) (by rw [hc1]; rfl) (by decide) ?_
      refine BW.run [.aload_n 0, .bipush 8, .iload_n 2, .aload_n 0] (pc' := 69) (lv' := [(0, .ref a0), (1, .int x1), (2, .int v2)]) (st' := [.ref a0, .int v2, .int (8 : Int32), .ref a0]) (by decide +kernel) rfl rfl ?_
      obtain ⟨b10, eb10, h⟩ := Ok.bind h
      refine BW.get (by decide +kernel : decode tX10_add.2.1 69 = .ok (.getfield 55, 3)) ciX10 (k := 25) (by decide) lkF_X10_55 (toR_V eb10) ?_
      refine BW.run [.iload_n 1] (pc' := 73) (lv' := [(0, .ref a0), (1, .int x1), (2, .int v2)]) (st' := [.int x1, .ref b10, .int v2, .int (8 : Int32), .ref a0]) (by decide +kernel) rfl rfl ?_
      obtain ⟨v11, ev11, h⟩ := Ok.bind h
      refine BW.iald (by decide +kernel : decode tX10_add.2.1 73 = .ok (.iaload, 1)) (toI_V ev11) ?_
      refine BW.run [.iconst 1, .iadd] (pc' := 76) (lv' := [(0, .ref a0), (1, .int x1), (2, .int v2)]) (st' := [.int (v11 + (1 : Int32)), .int v2, .int (8 : Int32), .ref a0]) (by decide +kernel) rfl rfl ?_
      refine BW.callV (As := [.int (8 : Int32), .int v2, .int (v11 + (1 : Int32))]) (st := []) (by decide +kernel : decode tX10_add.2.1 76 = .ok (.invokevirtual 198, 3)) (DX10_least (Ok.bindK h)) mfX10_least lkM_X10_198 imX10_least selX10_least ciX10 (oX10_least (Ok.bindK h)).choose_spec rfl rfl (Nat.le_of_ble_eq_true rfl) ⟨Nat.le_trans (by decide) hRm.1, Nat.le_trans (by decide) hRm.2⟩ ⟨Nat.zero_le _, Nat.zero_le _⟩ ?_
      rintro _ s12 ⟨rfl, h⟩
      show BW G tX10_add E 0 0 79 [(0, .ref a0), (1, .int x1), (2, .int v2)] [] s12
      refine BW.goto 146 (by decide +kernel : decode tX10_add.2.1 79 = .ok (.goto 67, 3)) (by decide) ?_
      exact BW.vret (by decide +kernel : decode tX10_add.2.1 146 = .ok (.return_, 1)) rfl (Nat.zero_le _) (Nat.zero_le _) (hQ _ (Ok.some h))
    · have h := (Ok.ite h).2 hc1
      by_cases hc2 : v4 = (2 : Int32)
      · have h := (Ok.ite h).1 hc2
        refine BW.tblIn (off := 69) 82 (by decide +kernel : decode tX10_add.2.1 13 = .ok (.tableswitch 116 0 3 #[31, 51, 69, 86], 31)) (by rw [hc2]; decide) (by rw [hc2]; decide) (by rw [hc2]; rfl) (by decide) ?_
        refine BW.run [.aload_n 0, .iload_n 2, .bipush 8, .aload_n 0] (pc' := 87) (lv' := [(0, .ref a0), (1, .int x1), (2, .int v2)]) (st' := [.ref a0, .int (8 : Int32), .int v2, .ref a0]) (by decide +kernel) rfl rfl ?_
        obtain ⟨b13, eb13, h⟩ := Ok.bind h
        refine BW.get (by decide +kernel : decode tX10_add.2.1 87 = .ok (.getfield 55, 3)) ciX10 (k := 25) (by decide) lkF_X10_55 (toR_V eb13) ?_
        refine BW.run [.iload_n 1] (pc' := 91) (lv' := [(0, .ref a0), (1, .int x1), (2, .int v2)]) (st' := [.int x1, .ref b13, .int (8 : Int32), .int v2, .ref a0]) (by decide +kernel) rfl rfl ?_
        obtain ⟨v14, ev14, h⟩ := Ok.bind h
        refine BW.iald (by decide +kernel : decode tX10_add.2.1 91 = .ok (.iaload, 1)) (toI_V ev14) ?_
        refine BW.run [.ineg] (pc' := 93) (lv' := [(0, .ref a0), (1, .int x1), (2, .int v2)]) (st' := [.int (-v14), .int (8 : Int32), .int v2, .ref a0]) (by decide +kernel) rfl rfl ?_
        refine BW.callV (As := [.int v2, .int (8 : Int32), .int (-v14)]) (st := []) (by decide +kernel : decode tX10_add.2.1 93 = .ok (.invokevirtual 198, 3)) (DX10_least (Ok.bindK h)) mfX10_least lkM_X10_198 imX10_least selX10_least ciX10 (oX10_least (Ok.bindK h)).choose_spec rfl rfl (Nat.le_of_ble_eq_true rfl) ⟨Nat.le_trans (by decide) hRm.1, Nat.le_trans (by decide) hRm.2⟩ ⟨Nat.zero_le _, Nat.zero_le _⟩ ?_
        rintro _ s15 ⟨rfl, h⟩
        show BW G tX10_add E 0 0 96 [(0, .ref a0), (1, .int x1), (2, .int v2)] [] s15
        refine BW.goto 146 (by decide +kernel : decode tX10_add.2.1 96 = .ok (.goto 50, 3)) (by decide) ?_
        exact BW.vret (by decide +kernel : decode tX10_add.2.1 146 = .ok (.return_, 1)) rfl (Nat.zero_le _) (Nat.zero_le _) (hQ _ (Ok.some h))
      · have h := (Ok.ite h).2 hc2
        by_cases hc3 : v4 = (3 : Int32)
        · have h := (Ok.ite h).1 hc3
          refine BW.tblIn (off := 86) 99 (by decide +kernel : decode tX10_add.2.1 13 = .ok (.tableswitch 116 0 3 #[31, 51, 69, 86], 31)) (by rw [hc3]; decide) (by rw [hc3]; decide) (by rw [hc3]; rfl) (by decide) ?_
          refine BW.run [.aload_n 0, .bipush 8, .iload_n 2, .aload_n 0] (pc' := 104) (lv' := [(0, .ref a0), (1, .int x1), (2, .int v2)]) (st' := [.ref a0, .int v2, .int (8 : Int32), .ref a0]) (by decide +kernel) rfl rfl ?_
          obtain ⟨b16, eb16, h⟩ := Ok.bind h
          refine BW.get (by decide +kernel : decode tX10_add.2.1 104 = .ok (.getfield 55, 3)) ciX10 (k := 25) (by decide) lkF_X10_55 (toR_V eb16) ?_
          refine BW.run [.iload_n 1] (pc' := 108) (lv' := [(0, .ref a0), (1, .int x1), (2, .int v2)]) (st' := [.int x1, .ref b16, .int v2, .int (8 : Int32), .ref a0]) (by decide +kernel) rfl rfl ?_
          obtain ⟨v17, ev17, h⟩ := Ok.bind h
          refine BW.iald (by decide +kernel : decode tX10_add.2.1 108 = .ok (.iaload, 1)) (toI_V ev17) ?_
          refine BW.callV (As := [.int (8 : Int32), .int v2, .int v17]) (st := []) (by decide +kernel : decode tX10_add.2.1 109 = .ok (.invokevirtual 198, 3)) (DX10_least (Ok.bindK h)) mfX10_least lkM_X10_198 imX10_least selX10_least ciX10 (oX10_least (Ok.bindK h)).choose_spec rfl rfl (Nat.le_of_ble_eq_true rfl) ⟨Nat.le_trans (by decide) hRm.1, Nat.le_trans (by decide) hRm.2⟩ ⟨Nat.zero_le _, Nat.zero_le _⟩ ?_
          rintro _ s18 ⟨rfl, h⟩
          show BW G tX10_add E 0 0 112 [(0, .ref a0), (1, .int x1), (2, .int v2)] [] s18
          refine BW.run [.aload_n 0, .iload_n 2, .bipush 8, .aload_n 0] (pc' := 117) (lv' := [(0, .ref a0), (1, .int x1), (2, .int v2)]) (st' := [.ref a0, .int (8 : Int32), .int v2, .ref a0]) (by decide +kernel) rfl rfl ?_
          obtain ⟨b19, eb19, h⟩ := Ok.bind h
          refine BW.get (by decide +kernel : decode tX10_add.2.1 117 = .ok (.getfield 58, 3)) ciX10 (k := 26) (by decide) lkF_X10_58 (toR_V eb19) ?_
          refine BW.run [.iload_n 1] (pc' := 121) (lv' := [(0, .ref a0), (1, .int x1), (2, .int v2)]) (st' := [.int x1, .ref b19, .int (8 : Int32), .int v2, .ref a0]) (by decide +kernel) rfl rfl ?_
          obtain ⟨v20, ev20, h⟩ := Ok.bind h
          refine BW.iald (by decide +kernel : decode tX10_add.2.1 121 = .ok (.iaload, 1)) (toI_V ev20) ?_
          refine BW.run [.ineg] (pc' := 123) (lv' := [(0, .ref a0), (1, .int x1), (2, .int v2)]) (st' := [.int (-v20), .int (8 : Int32), .int v2, .ref a0]) (by decide +kernel) rfl rfl ?_
          refine BW.callV (As := [.int v2, .int (8 : Int32), .int (-v20)]) (st := []) (by decide +kernel : decode tX10_add.2.1 123 = .ok (.invokevirtual 198, 3)) (DX10_least (Ok.bindK h)) mfX10_least lkM_X10_198 imX10_least selX10_least ciX10 (oX10_least (Ok.bindK h)).choose_spec rfl rfl (Nat.le_of_ble_eq_true rfl) ⟨Nat.le_trans (by decide) hRm.1, Nat.le_trans (by decide) hRm.2⟩ ⟨Nat.zero_le _, Nat.zero_le _⟩ ?_
          rintro _ s21 ⟨rfl, h⟩
          show BW G tX10_add E 0 0 126 [(0, .ref a0), (1, .int x1), (2, .int v2)] [] s21
          refine BW.goto 146 (by decide +kernel : decode tX10_add.2.1 126 = .ok (.goto 20, 3)) (by decide) ?_
          exact BW.vret (by decide +kernel : decode tX10_add.2.1 146 = .ok (.return_, 1)) rfl (Nat.zero_le _) (Nat.zero_le _) (hQ _ (Ok.some h))
        · have h := (Ok.ite h).2 hc3
          refine BW.tblOut 129 (by decide +kernel : decode tX10_add.2.1 13 = .ok (.tableswitch 116 0 3 #[31, 51, 69, 86], 31)) (by have z0 : v4.toInt ≠ 0 := Int32_nek hc0 (by decide); have z1 : v4.toInt ≠ 1 := Int32_nek hc1 (by decide); have z2 : v4.toInt ≠ 2 := Int32_nek hc2 (by decide); have z3 : v4.toInt ≠ 3 := Int32_nek hc3 (by decide); omega) (by decide) ?_
          refine BW.run [.aload_n 0, .aload_n 0] (pc' := 131) (lv' := [(0, .ref a0), (1, .int x1), (2, .int v2)]) (st' := [.ref a0, .ref a0]) (by decide +kernel) rfl rfl ?_
          obtain ⟨b22, eb22, h⟩ := Ok.bind h
          refine BW.get (by decide +kernel : decode tX10_add.2.1 131 = .ok (.getfield 52, 3)) ciX10 (k := 24) (by decide) lkF_X10_52 (toR_V eb22) ?_
          refine BW.run [.iload_n 1] (pc' := 135) (lv' := [(0, .ref a0), (1, .int x1), (2, .int v2)]) (st' := [.int x1, .ref b22, .ref a0]) (by decide +kernel) rfl rfl ?_
          obtain ⟨v23, ev23, h⟩ := Ok.bind h
          refine BW.iald (by decide +kernel : decode tX10_add.2.1 135 = .ok (.iaload, 1)) (toI_V ev23) ?_
          refine BW.run [.iload_n 2, .aload_n 0] (pc' := 138) (lv' := [(0, .ref a0), (1, .int x1), (2, .int v2)]) (st' := [.ref a0, .int v2, .int v23, .ref a0]) (by decide +kernel) rfl rfl ?_
          obtain ⟨b24, eb24, h⟩ := Ok.bind h
          refine BW.get (by decide +kernel : decode tX10_add.2.1 138 = .ok (.getfield 55, 3)) ciX10 (k := 25) (by decide) lkF_X10_55 (toR_V eb24) ?_
          refine BW.run [.iload_n 1] (pc' := 142) (lv' := [(0, .ref a0), (1, .int x1), (2, .int v2)]) (st' := [.int x1, .ref b24, .int v2, .int v23, .ref a0]) (by decide +kernel) rfl rfl ?_
          obtain ⟨v25, ev25, h⟩ := Ok.bind h
          refine BW.iald (by decide +kernel : decode tX10_add.2.1 142 = .ok (.iaload, 1)) (toI_V ev25) ?_
          refine BW.callV (As := [.int v23, .int v2, .int v25]) (st := []) (by decide +kernel : decode tX10_add.2.1 143 = .ok (.invokevirtual 198, 3)) (DX10_least (Ok.bindK h)) mfX10_least lkM_X10_198 imX10_least selX10_least ciX10 (oX10_least (Ok.bindK h)).choose_spec rfl rfl (Nat.le_of_ble_eq_true rfl) ⟨Nat.le_trans (by decide) hRm.1, Nat.le_trans (by decide) hRm.2⟩ ⟨Nat.zero_le _, Nat.zero_le _⟩ ?_
          rintro _ s26 ⟨rfl, h⟩
          show BW G tX10_add E 0 0 146 [(0, .ref a0), (1, .int x1), (2, .int v2)] [] s26
          exact BW.vret (by decide +kernel : decode tX10_add.2.1 146 = .ok (.return_, 1)) rfl (Nat.zero_le _) (Nat.zero_le _) (hQ _ (Ok.some h))
theorem oX10_add {n : Nat} {P : Sg → Prop} {s0 : Sg} {a0 : Nat} {x1 : Int32} (h : Ok (mX10_add n s0 a0 x1) P) : ∃ n0, s0.2.1 a0 = some (10, n0) := by
  unfold mX10_add at h
  exact Ok.isO h
theorem DX10_add {G : Cx} {n : Nat} {P : Sg → Prop} {s0 : Sg} {a0 : Nat} {x1 : Int32} (h : Ok (mX10_add n s0 a0 x1) P) : BM G tX10_add 5 113 0 0 [.ref a0, .int x1] s0 (fun v s => v = none ∧ P s) := by
  refine BM.of (by decide +kernel) (Nat.le_of_ble_eq_true rfl) ?_
  exact bX10_add (E := (({ frames := 5, cells := 0, slots := 0, locals := 113 }), Aof s0, 0, 0, (fun v s => v = none ∧ P s))) ⟨Nat.le_refl _, Nat.le_refl _⟩ (fun s hp => ⟨rfl, hp⟩) h
def mX10_close_75 (n : Nat) (s0 : Sg) (a0 : Nat) (x1 : Int32) (x2 : Int32) (x3 : Int32) : Option ((Sg × Int32) ⊕ (Sg)) :=
  some (.inl (s0, (x3 + (1 : Int32))))
theorem bX10_close_75 {G : Cx} {E : Ev} {n : Nat} (hRm : 2 ≤ E.1.frames ∧ 44 ≤ E.1.locals) {s0 : Sg} {a0 : Nat} {x1 : Int32} {x2 : Int32} {x3 : Int32} {P : (Sg × Int32) ⊕ (Sg) → Prop} (hC : ∀ (s : Sg) (c3 : Int32), P (.inl (s, c3)) → BW G tX10_close E 0 0 18 [(0, .ref a0), (1, .int x1), (2, .int x2), (3, .int c3)] [] s) (hE : ∀ (s : Sg), P (.inr s) → BW G tX10_close E 0 0 81 [(0, .ref a0), (1, .int x1), (2, .int x2)] [] s)  (h : Ok (mX10_close_75 n s0 a0 x1 x2 x3) P) : BW G tX10_close E 0 0 75 [(0, .ref a0), (1, .int x1), (2, .int x2), (3, .int x3)] [] s0 := by
  unfold mX10_close_75 at h
  refine BW.run [.iinc 3 1] (pc' := 78) (lv' := [(0, .ref a0), (1, .int x1), (2, .int x2), (3, .int (x3 + (1 : Int32)))]) (st' := []) (by decide +kernel) rfl rfl ?_
  refine BW.goto 18 (by decide +kernel : decode tX10_close.2.1 78 = .ok (.goto (-60), 3)) (by decide) ?_
  exact hC _ _ (Ok.some h)
def mX10_close_L18 (n : Nat) (a0 : Nat) (x1 : Int32) (x2 : Int32) : (Sg × Int32) → Option ((Sg × Int32) ⊕ (Sg))
  | (s0, x3) =>
    if (9 : Int32) ≤ x3 then (
      some (.inr s0)
    ) else (
      (toR (gV 10 s0 a0 28)).bind fun b1 =>
      (toI (aV 11 s0 b1 (((9 : Int32) * x2) + x1))).bind fun v2 =>
      (toR (gV 10 s0 a0 28)).bind fun b3 =>
      (toI (aV 11 s0 b3 (((9 : Int32) * x1) + x3))).bind fun v4 =>
      if v2 ≤ (-1000000 : Int32) then (
        mX10_close_75 n s0 a0 x1 x2 x3
      ) else (
        if v4 ≤ (-1000000 : Int32) then (
          mX10_close_75 n s0 a0 x1 x2 x3
        ) else (
          (mX10_least n s0 a0 x2 x3 (v2 + v4)).bind fun s5 =>
          mX10_close_75 n s5 a0 x1 x2 x3
        )
      )
    )
theorem bX10_close_L18 {G : Cx} {E : Ev} {n : Nat} (hRm : 2 ≤ E.1.frames ∧ 44 ≤ E.1.locals) {a0 : Nat} {x1 : Int32} {x2 : Int32} {P : (Sg × Int32) ⊕ (Sg) → Prop} (hC : ∀ (s : Sg) (c3 : Int32), P (.inl (s, c3)) → BW G tX10_close E 0 0 18 [(0, .ref a0), (1, .int x1), (2, .int x2), (3, .int c3)] [] s) (hE : ∀ (s : Sg), P (.inr s) → BW G tX10_close E 0 0 81 [(0, .ref a0), (1, .int x1), (2, .int x2)] [] s) {s0 : Sg} {x3 : Int32} (h : Ok (mX10_close_L18 n a0 x1 x2 (s0, x3)) P) : BW G tX10_close E 0 0 18 [(0, .ref a0), (1, .int x1), (2, .int x2), (3, .int x3)] [] s0 := by
  unfold mX10_close_L18 at h
  refine BW.run [.iload_n 3, .bipush 9] (pc' := 21) (lv' := [(0, .ref a0), (1, .int x1), (2, .int x2), (3, .int x3)]) (st' := [.int (9 : Int32), .int x3]) (by decide +kernel) rfl rfl ?_
  refine BW.icmp_ge 81 (by decide +kernel : decode tX10_close.2.1 21 = .ok (.if_icmp .ge 60, 3)) (by decide) (fun hc => ?_) (fun hc => ?_)
  · have h := (Ok.ite h).1 hc
    refine BW.sub [0, 1, 2] rfl ?_
    exact hE _ (Ok.some h)
  · have h := (Ok.ite h).2 hc
    refine BW.run [.aload_n 0] (pc' := 25) (lv' := [(0, .ref a0), (1, .int x1), (2, .int x2), (3, .int x3)]) (st' := [.ref a0]) (by decide +kernel) rfl rfl ?_
    obtain ⟨b1, eb1, h⟩ := Ok.bind h
    refine BW.get (by decide +kernel : decode tX10_close.2.1 25 = .ok (.getfield 61, 3)) ciX10 (k := 28) (by decide) lkF_X10_61 (toR_V eb1) ?_
    refine BW.run [.bipush 9, .iload_n 2, .imul, .iload_n 1, .iadd] (pc' := 34) (lv' := [(0, .ref a0), (1, .int x1), (2, .int x2), (3, .int x3)]) (st' := [.int (((9 : Int32) * x2) + x1), .ref b1]) (by decide +kernel) rfl rfl ?_
    obtain ⟨v2, ev2, h⟩ := Ok.bind h
    refine BW.iald (by decide +kernel : decode tX10_close.2.1 34 = .ok (.iaload, 1)) (toI_V ev2) ?_
    refine BW.run [.istore 4, .aload_n 0] (pc' := 38) (lv' := [(0, .ref a0), (1, .int x1), (2, .int x2), (3, .int x3), (4, .int v2)]) (st' := [.ref a0]) (by decide +kernel) rfl rfl ?_
    obtain ⟨b3, eb3, h⟩ := Ok.bind h
    refine BW.get (by decide +kernel : decode tX10_close.2.1 38 = .ok (.getfield 61, 3)) ciX10 (k := 28) (by decide) lkF_X10_61 (toR_V eb3) ?_
    refine BW.run [.bipush 9, .iload_n 1, .imul, .iload_n 3, .iadd] (pc' := 47) (lv' := [(0, .ref a0), (1, .int x1), (2, .int x2), (3, .int x3), (4, .int v2)]) (st' := [.int (((9 : Int32) * x1) + x3), .ref b3]) (by decide +kernel) rfl rfl ?_
    obtain ⟨v4, ev4, h⟩ := Ok.bind h
    refine BW.iald (by decide +kernel : decode tX10_close.2.1 47 = .ok (.iaload, 1)) (toI_V ev4) ?_
    refine BW.run [.istore 5, .iload 4] (pc' := 52) (lv' := [(0, .ref a0), (1, .int x1), (2, .int x2), (3, .int x3), (4, .int v2), (5, .int v4)]) (st' := [.int v2]) (by decide +kernel) rfl rfl ?_
    refine BW.ldc (by decide +kernel : decode tX10_close.2.1 52 = .ok (.ldc 197, 2)) (x := (-1000000 : Int32)) lkK_X10_197 ?_
    refine BW.icmp_le 75 (by decide +kernel : decode tX10_close.2.1 54 = .ok (.if_icmp .le 21, 3)) (by decide) (fun hc => ?_) (fun hc => ?_)
    · have h := (Ok.ite h).1 hc
      refine BW.sub [0, 1, 2, 3] rfl ?_
      exact bX10_close_75 hRm hC hE h
    · have h := (Ok.ite h).2 hc
      refine BW.run [.iload 5] (pc' := 59) (lv' := [(0, .ref a0), (1, .int x1), (2, .int x2), (3, .int x3), (4, .int v2), (5, .int v4)]) (st' := [.int v4]) (by decide +kernel) rfl rfl ?_
      refine BW.ldc (by decide +kernel : decode tX10_close.2.1 59 = .ok (.ldc 197, 2)) (x := (-1000000 : Int32)) lkK_X10_197 ?_
      refine BW.icmp_le 75 (by decide +kernel : decode tX10_close.2.1 61 = .ok (.if_icmp .le 14, 3)) (by decide) (fun hc => ?_) (fun hc => ?_)
      · have h := (Ok.ite h).1 hc
        refine BW.sub [0, 1, 2, 3] rfl ?_
        exact bX10_close_75 hRm hC hE h
      · have h := (Ok.ite h).2 hc
        refine BW.run [.aload_n 0, .iload_n 2, .iload_n 3, .iload 4, .iload 5, .iadd] (pc' := 72) (lv' := [(0, .ref a0), (1, .int x1), (2, .int x2), (3, .int x3), (4, .int v2), (5, .int v4)]) (st' := [.int (v2 + v4), .int x3, .int x2, .ref a0]) (by decide +kernel) rfl rfl ?_
        refine BW.callV (As := [.int x2, .int x3, .int (v2 + v4)]) (st := []) (by decide +kernel : decode tX10_close.2.1 72 = .ok (.invokevirtual 198, 3)) (DX10_least (Ok.bindK h)) mfX10_least lkM_X10_198 imX10_least selX10_least ciX10 (oX10_least (Ok.bindK h)).choose_spec rfl rfl (Nat.le_of_ble_eq_true rfl) ⟨Nat.le_trans (by decide) hRm.1, Nat.le_trans (by decide) hRm.2⟩ ⟨Nat.zero_le _, Nat.zero_le _⟩ ?_
        rintro _ s5 ⟨rfl, h⟩
        show BW G tX10_close E 0 0 75 [(0, .ref a0), (1, .int x1), (2, .int x2), (3, .int x3), (4, .int v2), (5, .int v4)] [] s5
        refine BW.sub [0, 1, 2, 3] rfl ?_
        exact bX10_close_75 hRm hC hE h
theorem bX10_close_W18 {G : Cx} {E : Ev} {n : Nat} (hRm : 2 ≤ E.1.frames ∧ 44 ≤ E.1.locals) {a0 : Nat} {x1 : Int32} {x2 : Int32} {K : (Sg) → Prop} (hE : ∀ (s : Sg), K s → BW G tX10_close E 0 0 81 [(0, .ref a0), (1, .int x1), (2, .int x2)] [] s) : ∀ (f : Nat) (c : Sg × Int32), Ok (loopM (mX10_close_L18 n a0 x1 x2) f c) K → match c with | (s0, x3) => BW G tX10_close E 0 0 18 [(0, .ref a0), (1, .int x1), (2, .int x2), (3, .int x3)] [] s0 := by
  intro f
  induction f with
  | zero => intro c h; exact (Ok.no h).elim
  | succ f ih =>
    intro c h
    obtain ⟨s0, x3⟩ := c
    exact bX10_close_L18 (P := loopP (mX10_close_L18 n a0 x1 x2) f K) hRm (fun s c3 h => ih (s, c3) h) hE (loopM_ok h)
def mX10_close_L10 (n : Nat) (a0 : Nat) (x1 : Int32) : (Sg × Int32) → Option ((Sg × Int32) ⊕ (Sg))
  | (s0, x2) =>
    if (9 : Int32) ≤ x2 then (
      some (.inr s0)
    ) else (
      (loopM (mX10_close_L18 n a0 x1 x2) n (s0, (0 : Int32))).bind fun s6 =>
      some (.inl (s6, (x2 + (1 : Int32))))
    )
theorem bX10_close_L10 {G : Cx} {E : Ev} {n : Nat} (hRm : 2 ≤ E.1.frames ∧ 44 ≤ E.1.locals) {a0 : Nat} {x1 : Int32} {P : (Sg × Int32) ⊕ (Sg) → Prop} (hC : ∀ (s : Sg) (c2 : Int32), P (.inl (s, c2)) → BW G tX10_close E 0 0 10 [(0, .ref a0), (1, .int x1), (2, .int c2)] [] s) (hE : ∀ (s : Sg), P (.inr s) → BW G tX10_close E 0 0 87 [(0, .ref a0), (1, .int x1)] [] s) {s0 : Sg} {x2 : Int32} (h : Ok (mX10_close_L10 n a0 x1 (s0, x2)) P) : BW G tX10_close E 0 0 10 [(0, .ref a0), (1, .int x1), (2, .int x2)] [] s0 := by
  unfold mX10_close_L10 at h
  refine BW.run [.iload_n 2, .bipush 9] (pc' := 13) (lv' := [(0, .ref a0), (1, .int x1), (2, .int x2)]) (st' := [.int (9 : Int32), .int x2]) (by decide +kernel) rfl rfl ?_
  refine BW.icmp_ge 87 (by decide +kernel : decode tX10_close.2.1 13 = .ok (.if_icmp .ge 74, 3)) (by decide) (fun hc => ?_) (fun hc => ?_)
  · have h := (Ok.ite h).1 hc
    refine BW.sub [0, 1] rfl ?_
    exact hE _ (Ok.some h)
  · have h := (Ok.ite h).2 hc
    refine BW.run [.iconst 0, .istore_n 3] (pc' := 18) (lv' := [(0, .ref a0), (1, .int x1), (2, .int x2), (3, .int (0 : Int32))]) (st' := []) (by decide +kernel) rfl rfl ?_
    refine bX10_close_W18 hRm (a0 := a0) (x1 := x1) (x2 := x2) (fun s6 h => ?_) n (s0, (0 : Int32)) (Ok.bindK h)
    refine BW.run [.iinc 2 1] (pc' := 84) (lv' := [(0, .ref a0), (1, .int x1), (2, .int (x2 + (1 : Int32)))]) (st' := []) (by decide +kernel) rfl rfl ?_
    refine BW.goto 10 (by decide +kernel : decode tX10_close.2.1 84 = .ok (.goto (-74), 3)) (by decide) ?_
    exact hC _ _ (Ok.some h)
theorem bX10_close_W10 {G : Cx} {E : Ev} {n : Nat} (hRm : 2 ≤ E.1.frames ∧ 44 ≤ E.1.locals) {a0 : Nat} {x1 : Int32} {K : (Sg) → Prop} (hE : ∀ (s : Sg), K s → BW G tX10_close E 0 0 87 [(0, .ref a0), (1, .int x1)] [] s) : ∀ (f : Nat) (c : Sg × Int32), Ok (loopM (mX10_close_L10 n a0 x1) f c) K → match c with | (s0, x2) => BW G tX10_close E 0 0 10 [(0, .ref a0), (1, .int x1), (2, .int x2)] [] s0 := by
  intro f
  induction f with
  | zero => intro c h; exact (Ok.no h).elim
  | succ f ih =>
    intro c h
    obtain ⟨s0, x2⟩ := c
    exact bX10_close_L10 (P := loopP (mX10_close_L10 n a0 x1) f K) hRm (fun s c2 h => ih (s, c2) h) hE (loopM_ok h)
def mX10_close_L89 (n : Nat) (a0 : Nat) : (Sg × Int32) → Option ((Sg × Int32) ⊕ ((Sg) ⊕ (Int32 × Sg)))
  | (s0, x2) =>
    if (9 : Int32) ≤ x2 then (
      some (.inr (.inl s0))
    ) else (
      (toR (gV 10 s0 a0 28)).bind fun b10 =>
      (toI (aV 11 s0 b10 (((9 : Int32) * x2) + x2))).bind fun v11 =>
      if v11 ≤ 0 then (
        some (.inl (s0, (x2 + (1 : Int32))))
      ) else (
        some (.inr (.inr ((0 : Int32), s0)))
      )
    )
theorem bX10_close_L89 {G : Cx} {E : Ev} {n : Nat} (hRm : 2 ≤ E.1.frames ∧ 44 ≤ E.1.locals) {a0 : Nat} {x1 : Int32} {P : (Sg × Int32) ⊕ ((Sg) ⊕ (Int32 × Sg)) → Prop} (hC : ∀ (s : Sg) (c2 : Int32), P (.inl (s, c2)) → BW G tX10_close E 0 0 89 [(0, .ref a0), (1, .int x1), (2, .int c2)] [] s) (hE : ∀ (s : Sg), P (.inr (.inl s)) → BW G tX10_close E 0 0 117 [(0, .ref a0), (1, .int x1)] [] s) (hQ : ∀ r s, P (.inr (.inr (r, s))) → E.2.2.2.2 (some (.int r)) s) {s0 : Sg} {x2 : Int32} (h : Ok (mX10_close_L89 n a0 (s0, x2)) P) : BW G tX10_close E 0 0 89 [(0, .ref a0), (1, .int x1), (2, .int x2)] [] s0 := by
  unfold mX10_close_L89 at h
  refine BW.run [.iload_n 2, .bipush 9] (pc' := 92) (lv' := [(0, .ref a0), (1, .int x1), (2, .int x2)]) (st' := [.int (9 : Int32), .int x2]) (by decide +kernel) rfl rfl ?_
  refine BW.icmp_ge 117 (by decide +kernel : decode tX10_close.2.1 92 = .ok (.if_icmp .ge 25, 3)) (by decide) (fun hc => ?_) (fun hc => ?_)
  · have h := (Ok.ite h).1 hc
    refine BW.sub [0, 1] rfl ?_
    exact hE _ (Ok.some h)
  · have h := (Ok.ite h).2 hc
    refine BW.run [.aload_n 0] (pc' := 96) (lv' := [(0, .ref a0), (1, .int x1), (2, .int x2)]) (st' := [.ref a0]) (by decide +kernel) rfl rfl ?_
    obtain ⟨b10, eb10, h⟩ := Ok.bind h
    refine BW.get (by decide +kernel : decode tX10_close.2.1 96 = .ok (.getfield 61, 3)) ciX10 (k := 28) (by decide) lkF_X10_61 (toR_V eb10) ?_
    refine BW.run [.bipush 9, .iload_n 2, .imul, .iload_n 2, .iadd] (pc' := 105) (lv' := [(0, .ref a0), (1, .int x1), (2, .int x2)]) (st' := [.int (((9 : Int32) * x2) + x2), .ref b10]) (by decide +kernel) rfl rfl ?_
    obtain ⟨v11, ev11, h⟩ := Ok.bind h
    refine BW.iald (by decide +kernel : decode tX10_close.2.1 105 = .ok (.iaload, 1)) (toI_V ev11) ?_
    refine BW.if_le 111 (by decide +kernel : decode tX10_close.2.1 106 = .ok (.ifCond .le 5, 3)) (by decide) (fun hc => ?_) (fun hc => ?_)
    · have h := (Ok.ite h).1 hc
      refine BW.run [.iinc 2 1] (pc' := 114) (lv' := [(0, .ref a0), (1, .int x1), (2, .int (x2 + (1 : Int32)))]) (st' := []) (by decide +kernel) rfl rfl ?_
      refine BW.goto 89 (by decide +kernel : decode tX10_close.2.1 114 = .ok (.goto (-25), 3)) (by decide) ?_
      exact hC _ _ (Ok.some h)
    · have h := (Ok.ite h).2 hc
      refine BW.run [.iconst 0] (pc' := 110) (lv' := [(0, .ref a0), (1, .int x1), (2, .int x2)]) (st' := [.int (0 : Int32)]) (by decide +kernel) rfl rfl ?_
      exact BW.zret (by decide +kernel : decode tX10_close.2.1 110 = .ok (.ireturn, 1)) rfl (Or.inl rfl) (Nat.zero_le _) (Nat.zero_le _) (hQ _ _ (Ok.some h))
theorem bX10_close_W89 {G : Cx} {E : Ev} {n : Nat} (hRm : 2 ≤ E.1.frames ∧ 44 ≤ E.1.locals) {a0 : Nat} {x1 : Int32} {K : ((Sg) ⊕ (Int32 × Sg)) → Prop} (hE : ∀ (s : Sg), K (.inl s) → BW G tX10_close E 0 0 117 [(0, .ref a0), (1, .int x1)] [] s) (hQ : ∀ r s, K (.inr (r, s)) → E.2.2.2.2 (some (.int r)) s) : ∀ (f : Nat) (c : Sg × Int32), Ok (loopM (mX10_close_L89 n a0) f c) K → match c with | (s0, x2) => BW G tX10_close E 0 0 89 [(0, .ref a0), (1, .int x1), (2, .int x2)] [] s0 := by
  intro f
  induction f with
  | zero => intro c h; exact (Ok.no h).elim
  | succ f ih =>
    intro c h
    obtain ⟨s0, x2⟩ := c
    exact bX10_close_L89 (P := loopP (mX10_close_L89 n a0) f K) hRm (fun s c2 h => ih (s, c2) h) hE hQ (loopM_ok h)
def mX10_close_L2 (n : Nat) (a0 : Nat) : (Sg × Int32) → Option ((Sg × Int32) ⊕ ((Sg) ⊕ (Int32 × Sg)))
  | (s0, x1) =>
    if (9 : Int32) ≤ x1 then (
      some (.inr (.inl s0))
    ) else (
      (loopM (mX10_close_L10 n a0 x1) n (s0, (0 : Int32))).bind fun s8 =>
      (loopM (mX10_close_L89 n a0) n (s8, (0 : Int32))).bind fun q13 => match q13 with
      | .inl s12 => (
        some (.inl (s12, (x1 + (1 : Int32))))
      )
      | .inr (r, s) => some (.inr (.inr (r, s)))
    )
theorem bX10_close_L2 {G : Cx} {E : Ev} {n : Nat} (hRm : 2 ≤ E.1.frames ∧ 44 ≤ E.1.locals) {a0 : Nat} {P : (Sg × Int32) ⊕ ((Sg) ⊕ (Int32 × Sg)) → Prop} (hC : ∀ (s : Sg) (c1 : Int32), P (.inl (s, c1)) → BW G tX10_close E 0 0 2 [(0, .ref a0), (1, .int c1)] [] s) (hE : ∀ (s : Sg), P (.inr (.inl s)) → BW G tX10_close E 0 0 123 [] [] s) (hQ : ∀ r s, P (.inr (.inr (r, s))) → E.2.2.2.2 (some (.int r)) s) {s0 : Sg} {x1 : Int32} (h : Ok (mX10_close_L2 n a0 (s0, x1)) P) : BW G tX10_close E 0 0 2 [(0, .ref a0), (1, .int x1)] [] s0 := by
  unfold mX10_close_L2 at h
  refine BW.run [.iload_n 1, .bipush 9] (pc' := 5) (lv' := [(0, .ref a0), (1, .int x1)]) (st' := [.int (9 : Int32), .int x1]) (by decide +kernel) rfl rfl ?_
  refine BW.icmp_ge 123 (by decide +kernel : decode tX10_close.2.1 5 = .ok (.if_icmp .ge 118, 3)) (by decide) (fun hc => ?_) (fun hc => ?_)
  · have h := (Ok.ite h).1 hc
    refine BW.sub [] rfl ?_
    exact hE _ (Ok.some h)
  · have h := (Ok.ite h).2 hc
    refine BW.run [.iconst 0, .istore_n 2] (pc' := 10) (lv' := [(0, .ref a0), (1, .int x1), (2, .int (0 : Int32))]) (st' := []) (by decide +kernel) rfl rfl ?_
    refine bX10_close_W10 hRm (a0 := a0) (x1 := x1) (fun s8 h => ?_) n (s0, (0 : Int32)) (Ok.bindK h)
    refine BW.run [.iconst 0, .istore_n 2] (pc' := 89) (lv' := [(0, .ref a0), (1, .int x1), (2, .int (0 : Int32))]) (st' := []) (by decide +kernel) rfl rfl ?_
    refine bX10_close_W89 hRm (a0 := a0) (x1 := x1) (fun s12 h => ?_) (fun r s h => ?_) n (s8, (0 : Int32)) (Ok.bindK h)
    · refine BW.run [.iinc 1 1] (pc' := 120) (lv' := [(0, .ref a0), (1, .int (x1 + (1 : Int32)))]) (st' := []) (by decide +kernel) rfl rfl ?_
      refine BW.goto 2 (by decide +kernel : decode tX10_close.2.1 120 = .ok (.goto (-118), 3)) (by decide) ?_
      exact hC _ _ (Ok.some h)
    · exact hQ r s (Ok.some h)
theorem bX10_close_W2 {G : Cx} {E : Ev} {n : Nat} (hRm : 2 ≤ E.1.frames ∧ 44 ≤ E.1.locals) {a0 : Nat} {K : ((Sg) ⊕ (Int32 × Sg)) → Prop} (hE : ∀ (s : Sg), K (.inl s) → BW G tX10_close E 0 0 123 [] [] s) (hQ : ∀ r s, K (.inr (r, s)) → E.2.2.2.2 (some (.int r)) s) : ∀ (f : Nat) (c : Sg × Int32), Ok (loopM (mX10_close_L2 n a0) f c) K → match c with | (s0, x1) => BW G tX10_close E 0 0 2 [(0, .ref a0), (1, .int x1)] [] s0 := by
  intro f
  induction f with
  | zero => intro c h; exact (Ok.no h).elim
  | succ f ih =>
    intro c h
    obtain ⟨s0, x1⟩ := c
    exact bX10_close_L2 (P := loopP (mX10_close_L2 n a0) f K) hRm (fun s c1 h => ih (s, c1) h) hE hQ (loopM_ok h)
def mX10_close (n : Nat) (s0 : Sg) (a0 : Nat) : Option (Int32 × Sg) :=
  (isO 10 s0 a0).bind fun _ =>
  (loopM (mX10_close_L2 n a0) n (s0, (0 : Int32))).bind fun q15 => match q15 with
  | .inl s14 => (
    some ((1 : Int32), s14)
  )
  | .inr (r, s) => some (r, s)
theorem bX10_close {G : Cx} {E : Ev} {n : Nat} (hRm : 2 ≤ E.1.frames ∧ 44 ≤ E.1.locals) {P : Int32 × Sg → Prop} (hQ : ∀ r s, P (r, s) → E.2.2.2.2 (some (.int r)) s) {s0 : Sg} {a0 : Nat} (h : Ok (mX10_close n s0 a0) P) : BW G tX10_close E 0 0 0 [(0, .ref a0)] [] s0 := by
  unfold mX10_close at h
  obtain ⟨_, _, h⟩ := Ok.bind h
  refine BW.run [.iconst 0, .istore_n 1] (pc' := 2) (lv' := [(0, .ref a0), (1, .int (0 : Int32))]) (st' := []) (by decide +kernel) rfl rfl ?_
  refine bX10_close_W2 hRm (a0 := a0) (fun s14 h => ?_) (fun r s h => ?_) n (s0, (0 : Int32)) (Ok.bindK h)
  · refine BW.run [.iconst 1] (pc' := 124) (lv' := []) (st' := [.int (1 : Int32)]) (by decide +kernel) rfl rfl ?_
    exact BW.zret (by decide +kernel : decode tX10_close.2.1 124 = .ok (.ireturn, 1)) rfl (Or.inr rfl) (Nat.zero_le _) (Nat.zero_le _) (hQ _ _ (Ok.some h))
  · exact hQ r s (Ok.some h)
theorem oX10_close {n : Nat} {P : Int32 × Sg → Prop} {s0 : Sg} {a0 : Nat} (h : Ok (mX10_close n s0 a0) P) : ∃ n0, s0.2.1 a0 = some (10, n0) := by
  unfold mX10_close at h
  exact Ok.isO h
theorem DX10_close {G : Cx} {n : Nat} {P : Int32 × Sg → Prop} {s0 : Sg} {a0 : Nat} (h : Ok (mX10_close n s0 a0) P) : BM G tX10_close 2 44 0 0 [.ref a0] s0 (fun v s => ∃ r, v = some (.int r) ∧ P (r, s)) := by
  refine BM.of (by decide +kernel) (Nat.le_of_ble_eq_true rfl) ?_
  exact bX10_close (E := (({ frames := 2, cells := 0, slots := 0, locals := 44 }), Aof s0, 0, 0, (fun v s => ∃ r, v = some (.int r) ∧ P (r, s)))) ⟨Nat.le_refl _, Nat.le_refl _⟩ (fun r s hp => ⟨r, rfl, hp⟩) h
def mX10_begin_30 (n : Nat) (s0 : Sg) (t0 : Int32) (t1 : Int32) (t2 : Nat) (a0 : Nat) (x1 : Int32) : Option ((Sg × Int32) ⊕ (Sg)) :=
  (sV 11 s0 t2 t1 (.int t0)).bind fun s2 =>
  some (.inl (s2, (x1 + (1 : Int32))))
theorem bX10_begin_30 {G : Cx} {E : Ev} {n : Nat} (hRm : 2 ≤ E.1.frames ∧ 44 ≤ E.1.locals) {s0 : Sg} {t0 : Int32} {t1 : Int32} {t2 : Nat} {a0 : Nat} {x1 : Int32} {P : (Sg × Int32) ⊕ (Sg) → Prop} (hC : ∀ (s : Sg) (c1 : Int32), P (.inl (s, c1)) → BW G tX10_begin E 0 0 2 [(0, .ref a0), (1, .int c1)] [] s) (hE : ∀ (s : Sg), P (.inr s) → BW G tX10_begin E 0 0 37 [(0, .ref a0)] [] s)  (h : Ok (mX10_begin_30 n s0 t0 t1 t2 a0 x1) P) : BW G tX10_begin E 0 0 30 [(0, .ref a0), (1, .int x1)] [.int t0, .int t1, .ref t2] s0 := by
  unfold mX10_begin_30 at h
  obtain ⟨s2, es2, h⟩ := Ok.bind h
  refine BW.iast (by decide +kernel : decode tX10_begin.2.1 30 = .ok (.iastore, 1)) es2 ?_
  refine BW.run [.iinc 1 1] (pc' := 34) (lv' := [(0, .ref a0), (1, .int (x1 + (1 : Int32)))]) (st' := []) (by decide +kernel) rfl rfl ?_
  refine BW.goto 2 (by decide +kernel : decode tX10_begin.2.1 34 = .ok (.goto (-32), 3)) (by decide) ?_
  exact hC _ _ (Ok.some h)
def mX10_begin_L2 (n : Nat) (a0 : Nat) : (Sg × Int32) → Option ((Sg × Int32) ⊕ (Sg))
  | (s0, x1) =>
    if (81 : Int32) ≤ x1 then (
      some (.inr s0)
    ) else (
      (toR (gV 10 s0 a0 28)).bind fun b1 =>
      if (x1 / (9 : Int32)) = (x1 - x1 / (9 : Int32) * (9 : Int32)) then (
        mX10_begin_30 n s0 (0 : Int32) x1 b1 a0 x1
      ) else (
        mX10_begin_30 n s0 (-1000000 : Int32) x1 b1 a0 x1
      )
    )
theorem bX10_begin_L2 {G : Cx} {E : Ev} {n : Nat} (hRm : 2 ≤ E.1.frames ∧ 44 ≤ E.1.locals) {a0 : Nat} {P : (Sg × Int32) ⊕ (Sg) → Prop} (hC : ∀ (s : Sg) (c1 : Int32), P (.inl (s, c1)) → BW G tX10_begin E 0 0 2 [(0, .ref a0), (1, .int c1)] [] s) (hE : ∀ (s : Sg), P (.inr s) → BW G tX10_begin E 0 0 37 [(0, .ref a0)] [] s) {s0 : Sg} {x1 : Int32} (h : Ok (mX10_begin_L2 n a0 (s0, x1)) P) : BW G tX10_begin E 0 0 2 [(0, .ref a0), (1, .int x1)] [] s0 := by
  unfold mX10_begin_L2 at h
  refine BW.run [.iload_n 1, .bipush 81] (pc' := 5) (lv' := [(0, .ref a0), (1, .int x1)]) (st' := [.int (81 : Int32), .int x1]) (by decide +kernel) rfl rfl ?_
  refine BW.icmp_ge 37 (by decide +kernel : decode tX10_begin.2.1 5 = .ok (.if_icmp .ge 32, 3)) (by decide) (fun hc => ?_) (fun hc => ?_)
  · have h := (Ok.ite h).1 hc
    refine BW.sub [0] rfl ?_
    exact hE _ (Ok.some h)
  · have h := (Ok.ite h).2 hc
    refine BW.run [.aload_n 0] (pc' := 9) (lv' := [(0, .ref a0), (1, .int x1)]) (st' := [.ref a0]) (by decide +kernel) rfl rfl ?_
    obtain ⟨b1, eb1, h⟩ := Ok.bind h
    refine BW.get (by decide +kernel : decode tX10_begin.2.1 9 = .ok (.getfield 61, 3)) ciX10 (k := 28) (by decide) lkF_X10_61 (toR_V eb1) ?_
    refine BW.run [.iload_n 1, .iload_n 1, .bipush 9] (pc' := 16) (lv' := [(0, .ref a0), (1, .int x1)]) (st' := [.int (9 : Int32), .int x1, .int x1, .ref b1]) (by decide +kernel) rfl rfl ?_
    refine BW.idiv (by decide +kernel : decode tX10_begin.2.1 16 = .ok (.idiv, 1)) (by decide) ?_
    refine BW.run [.iload_n 1, .bipush 9] (pc' := 20) (lv' := [(0, .ref a0), (1, .int x1)]) (st' := [.int (9 : Int32), .int x1, .int (x1 / (9 : Int32)), .int x1, .ref b1]) (by decide +kernel) rfl rfl ?_
    refine BW.irem (by decide +kernel : decode tX10_begin.2.1 20 = .ok (.irem, 1)) (by decide) ?_
    refine BW.icmp_ne 28 (by decide +kernel : decode tX10_begin.2.1 21 = .ok (.if_icmp .ne 7, 3)) (by decide) (fun hc => ?_) (fun hc => ?_)
    · have h := (Ok.ite h).2 hc
      refine BW.ldc (by decide +kernel : decode tX10_begin.2.1 28 = .ok (.ldc 197, 2)) (x := (-1000000 : Int32)) lkK_X10_197 ?_
      exact bX10_begin_30 hRm hC hE h
    · have h := (Ok.ite h).1 hc
      refine BW.run [.iconst 0] (pc' := 25) (lv' := [(0, .ref a0), (1, .int x1)]) (st' := [.int (0 : Int32), .int x1, .ref b1]) (by decide +kernel) rfl rfl ?_
      refine BW.goto 30 (by decide +kernel : decode tX10_begin.2.1 25 = .ok (.goto 5, 3)) (by decide) ?_
      exact bX10_begin_30 hRm hC hE h
theorem bX10_begin_W2 {G : Cx} {E : Ev} {n : Nat} (hRm : 2 ≤ E.1.frames ∧ 44 ≤ E.1.locals) {a0 : Nat} {K : (Sg) → Prop} (hE : ∀ (s : Sg), K s → BW G tX10_begin E 0 0 37 [(0, .ref a0)] [] s) : ∀ (f : Nat) (c : Sg × Int32), Ok (loopM (mX10_begin_L2 n a0) f c) K → match c with | (s0, x1) => BW G tX10_begin E 0 0 2 [(0, .ref a0), (1, .int x1)] [] s0 := by
  intro f
  induction f with
  | zero => intro c h; exact (Ok.no h).elim
  | succ f ih =>
    intro c h
    obtain ⟨s0, x1⟩ := c
    exact bX10_begin_L2 (P := loopP (mX10_begin_L2 n a0) f K) hRm (fun s c1 h => ih (s, c1) h) hE (loopM_ok h)
def mX10_begin_L39 (n : Nat) (a0 : Nat) : (Sg × Int32) → Option ((Sg × Int32) ⊕ (Sg))
  | (s0, x1) =>
    (toI (gV 10 s0 a0 20)).bind fun v5 =>
    if v5 ≤ x1 then (
      some (.inr s0)
    ) else (
      (mX10_least n s0 a0 (8 : Int32) x1 (0 : Int32)).bind fun s6 =>
      (toI (gV 10 s6 a0 3)).bind fun v7 =>
      (mX10_least n s6 a0 x1 (8 : Int32) (-v7)).bind fun s8 =>
      some (.inl (s8, (x1 + (1 : Int32))))
    )
theorem bX10_begin_L39 {G : Cx} {E : Ev} {n : Nat} (hRm : 2 ≤ E.1.frames ∧ 44 ≤ E.1.locals) {a0 : Nat} {P : (Sg × Int32) ⊕ (Sg) → Prop} (hC : ∀ (s : Sg) (c1 : Int32), P (.inl (s, c1)) → BW G tX10_begin E 0 0 39 [(0, .ref a0), (1, .int c1)] [] s) (hE : ∀ (s : Sg), P (.inr s) → BW G tX10_begin E 0 0 73 [] [] s) {s0 : Sg} {x1 : Int32} (h : Ok (mX10_begin_L39 n a0 (s0, x1)) P) : BW G tX10_begin E 0 0 39 [(0, .ref a0), (1, .int x1)] [] s0 := by
  unfold mX10_begin_L39 at h
  refine BW.run [.iload_n 1, .aload_n 0] (pc' := 41) (lv' := [(0, .ref a0), (1, .int x1)]) (st' := [.ref a0, .int x1]) (by decide +kernel) rfl rfl ?_
  obtain ⟨v5, ev5, h⟩ := Ok.bind h
  refine BW.get (by decide +kernel : decode tX10_begin.2.1 41 = .ok (.getfield 165, 3)) ciX10 (k := 20) (by decide) lkF_X10_165 (toI_V ev5) ?_
  refine BW.icmp_ge 73 (by decide +kernel : decode tX10_begin.2.1 44 = .ok (.if_icmp .ge 29, 3)) (by decide) (fun hc => ?_) (fun hc => ?_)
  · have h := (Ok.ite h).1 hc
    refine BW.sub [] rfl ?_
    exact hE _ (Ok.some h)
  · have h := (Ok.ite h).2 hc
    refine BW.run [.aload_n 0, .bipush 8, .iload_n 1, .iconst 0] (pc' := 52) (lv' := [(0, .ref a0), (1, .int x1)]) (st' := [.int (0 : Int32), .int x1, .int (8 : Int32), .ref a0]) (by decide +kernel) rfl rfl ?_
    refine BW.callV (As := [.int (8 : Int32), .int x1, .int (0 : Int32)]) (st := []) (by decide +kernel : decode tX10_begin.2.1 52 = .ok (.invokevirtual 198, 3)) (DX10_least (Ok.bindK h)) mfX10_least lkM_X10_198 imX10_least selX10_least ciX10 (oX10_least (Ok.bindK h)).choose_spec rfl rfl (Nat.le_of_ble_eq_true rfl) ⟨Nat.le_trans (by decide) hRm.1, Nat.le_trans (by decide) hRm.2⟩ ⟨Nat.zero_le _, Nat.zero_le _⟩ ?_
    rintro _ s6 ⟨rfl, h⟩
    show BW G tX10_begin E 0 0 55 [(0, .ref a0), (1, .int x1)] [] s6
    refine BW.run [.aload_n 0, .iload_n 1, .bipush 8, .aload_n 0] (pc' := 60) (lv' := [(0, .ref a0), (1, .int x1)]) (st' := [.ref a0, .int (8 : Int32), .int x1, .ref a0]) (by decide +kernel) rfl rfl ?_
    obtain ⟨v7, ev7, h⟩ := Ok.bind h
    refine BW.get (by decide +kernel : decode tX10_begin.2.1 60 = .ok (.getfield 84, 3)) ciX10 (k := 3) (by decide) lkF_X10_84 (toI_V ev7) ?_
    refine BW.run [.ineg] (pc' := 64) (lv' := [(0, .ref a0), (1, .int x1)]) (st' := [.int (-v7), .int (8 : Int32), .int x1, .ref a0]) (by decide +kernel) rfl rfl ?_
    refine BW.callV (As := [.int x1, .int (8 : Int32), .int (-v7)]) (st := []) (by decide +kernel : decode tX10_begin.2.1 64 = .ok (.invokevirtual 198, 3)) (DX10_least (Ok.bindK h)) mfX10_least lkM_X10_198 imX10_least selX10_least ciX10 (oX10_least (Ok.bindK h)).choose_spec rfl rfl (Nat.le_of_ble_eq_true rfl) ⟨Nat.le_trans (by decide) hRm.1, Nat.le_trans (by decide) hRm.2⟩ ⟨Nat.zero_le _, Nat.zero_le _⟩ ?_
    rintro _ s8 ⟨rfl, h⟩
    show BW G tX10_begin E 0 0 67 [(0, .ref a0), (1, .int x1)] [] s8
    refine BW.run [.iinc 1 1] (pc' := 70) (lv' := [(0, .ref a0), (1, .int (x1 + (1 : Int32)))]) (st' := []) (by decide +kernel) rfl rfl ?_
    refine BW.goto 39 (by decide +kernel : decode tX10_begin.2.1 70 = .ok (.goto (-31), 3)) (by decide) ?_
    exact hC _ _ (Ok.some h)
theorem bX10_begin_W39 {G : Cx} {E : Ev} {n : Nat} (hRm : 2 ≤ E.1.frames ∧ 44 ≤ E.1.locals) {a0 : Nat} {K : (Sg) → Prop} (hE : ∀ (s : Sg), K s → BW G tX10_begin E 0 0 73 [] [] s) : ∀ (f : Nat) (c : Sg × Int32), Ok (loopM (mX10_begin_L39 n a0) f c) K → match c with | (s0, x1) => BW G tX10_begin E 0 0 39 [(0, .ref a0), (1, .int x1)] [] s0 := by
  intro f
  induction f with
  | zero => intro c h; exact (Ok.no h).elim
  | succ f ih =>
    intro c h
    obtain ⟨s0, x1⟩ := c
    exact bX10_begin_L39 (P := loopP (mX10_begin_L39 n a0) f K) hRm (fun s c1 h => ih (s, c1) h) hE (loopM_ok h)
def mX10_begin (n : Nat) (s0 : Sg) (a0 : Nat) : Option (Sg) :=
  (isO 10 s0 a0).bind fun _ =>
  (loopM (mX10_begin_L2 n a0) n (s0, (0 : Int32))).bind fun s3 =>
  (loopM (mX10_begin_L39 n a0) n (s3, (0 : Int32))).bind fun s9 =>
  some s9
theorem bX10_begin {G : Cx} {E : Ev} {n : Nat} (hRm : 2 ≤ E.1.frames ∧ 44 ≤ E.1.locals) {P : Sg → Prop} (hQ : ∀ s, P s → E.2.2.2.2 none s) {s0 : Sg} {a0 : Nat} (h : Ok (mX10_begin n s0 a0) P) : BW G tX10_begin E 0 0 0 [(0, .ref a0)] [] s0 := by
  unfold mX10_begin at h
  obtain ⟨_, _, h⟩ := Ok.bind h
  refine BW.run [.iconst 0, .istore_n 1] (pc' := 2) (lv' := [(0, .ref a0), (1, .int (0 : Int32))]) (st' := []) (by decide +kernel) rfl rfl ?_
  refine bX10_begin_W2 hRm (a0 := a0) (fun s3 h => ?_) n (s0, (0 : Int32)) (Ok.bindK h)
  refine BW.run [.iconst 0, .istore_n 1] (pc' := 39) (lv' := [(0, .ref a0), (1, .int (0 : Int32))]) (st' := []) (by decide +kernel) rfl rfl ?_
  refine bX10_begin_W39 hRm (a0 := a0) (fun s9 h => ?_) n (s3, (0 : Int32)) (Ok.bindK h)
  exact BW.vret (by decide +kernel : decode tX10_begin.2.1 73 = .ok (.return_, 1)) rfl (Nat.zero_le _) (Nat.zero_le _) (hQ _ (Ok.some h))
theorem oX10_begin {n : Nat} {P : Sg → Prop} {s0 : Sg} {a0 : Nat} (h : Ok (mX10_begin n s0 a0) P) : ∃ n0, s0.2.1 a0 = some (10, n0) := by
  unfold mX10_begin at h
  exact Ok.isO h
theorem DX10_begin {G : Cx} {n : Nat} {P : Sg → Prop} {s0 : Sg} {a0 : Nat} (h : Ok (mX10_begin n s0 a0) P) : BM G tX10_begin 2 44 0 0 [.ref a0] s0 (fun v s => v = none ∧ P s) := by
  refine BM.of (by decide +kernel) (Nat.le_of_ble_eq_true rfl) ?_
  exact bX10_begin (E := (({ frames := 2, cells := 0, slots := 0, locals := 44 }), Aof s0, 0, 0, (fun v s => v = none ∧ P s))) ⟨Nat.le_refl _, Nat.le_refl _⟩ (fun s hp => ⟨rfl, hp⟩) h
def mX10_lay_28 (n : Nat) (s0 : Sg) (a0 : Nat) (x1 : Int32) (x2 : Int32) : Option ((Sg × Int32) ⊕ (Sg)) :=
  some (.inl (s0, (x2 + (1 : Int32))))
theorem bX10_lay_28 {G : Cx} {E : Ev} {n : Nat} (hRm : 6 ≤ E.1.frames ∧ 135 ≤ E.1.locals) {s0 : Sg} {a0 : Nat} {x1 : Int32} {x2 : Int32} {P : (Sg × Int32) ⊕ (Sg) → Prop} (hC : ∀ (s : Sg) (c2 : Int32), P (.inl (s, c2)) → BW G tX10_lay E 0 0 6 [(0, .ref a0), (1, .int x1), (2, .int c2)] [] s) (hE : ∀ (s : Sg), P (.inr s) → BW G tX10_lay E 0 0 34 [] [] s)  (h : Ok (mX10_lay_28 n s0 a0 x1 x2) P) : BW G tX10_lay E 0 0 28 [(0, .ref a0), (1, .int x1), (2, .int x2)] [] s0 := by
  unfold mX10_lay_28 at h
  refine BW.run [.iinc 2 1] (pc' := 31) (lv' := [(0, .ref a0), (1, .int x1), (2, .int (x2 + (1 : Int32)))]) (st' := []) (by decide +kernel) rfl rfl ?_
  refine BW.goto 6 (by decide +kernel : decode tX10_lay.2.1 31 = .ok (.goto (-25), 3)) (by decide) ?_
  exact hC _ _ (Ok.some h)
def mX10_lay_L6 (n : Nat) (a0 : Nat) (x1 : Int32) : (Sg × Int32) → Option ((Sg × Int32) ⊕ (Sg))
  | (s0, x2) =>
    (toI (gV 10 s0 a0 27)).bind fun v2 =>
    if v2 ≤ x2 then (
      some (.inr s0)
    ) else (
      if ((x1 >>> (x2 &&& 31)) &&& (1 : Int32)) = (1 : Int32) then (
        (mX10_add n s0 a0 x2).bind fun s3 =>
        mX10_lay_28 n s3 a0 x1 x2
      ) else (
        mX10_lay_28 n s0 a0 x1 x2
      )
    )
theorem bX10_lay_L6 {G : Cx} {E : Ev} {n : Nat} (hRm : 6 ≤ E.1.frames ∧ 135 ≤ E.1.locals) {a0 : Nat} {x1 : Int32} {P : (Sg × Int32) ⊕ (Sg) → Prop} (hC : ∀ (s : Sg) (c2 : Int32), P (.inl (s, c2)) → BW G tX10_lay E 0 0 6 [(0, .ref a0), (1, .int x1), (2, .int c2)] [] s) (hE : ∀ (s : Sg), P (.inr s) → BW G tX10_lay E 0 0 34 [] [] s) {s0 : Sg} {x2 : Int32} (h : Ok (mX10_lay_L6 n a0 x1 (s0, x2)) P) : BW G tX10_lay E 0 0 6 [(0, .ref a0), (1, .int x1), (2, .int x2)] [] s0 := by
  unfold mX10_lay_L6 at h
  refine BW.run [.iload_n 2, .aload_n 0] (pc' := 8) (lv' := [(0, .ref a0), (1, .int x1), (2, .int x2)]) (st' := [.ref a0, .int x2]) (by decide +kernel) rfl rfl ?_
  obtain ⟨v2, ev2, h⟩ := Ok.bind h
  refine BW.get (by decide +kernel : decode tX10_lay.2.1 8 = .ok (.getfield 194, 3)) ciX10 (k := 27) (by decide) lkF_X10_194 (toI_V ev2) ?_
  refine BW.icmp_ge 34 (by decide +kernel : decode tX10_lay.2.1 11 = .ok (.if_icmp .ge 23, 3)) (by decide) (fun hc => ?_) (fun hc => ?_)
  · have h := (Ok.ite h).1 hc
    refine BW.sub [] rfl ?_
    exact hE _ (Ok.some h)
  · have h := (Ok.ite h).2 hc
    refine BW.run [.iload_n 1, .iload_n 2, .ishr, .iconst 1, .iand, .iconst 1] (pc' := 20) (lv' := [(0, .ref a0), (1, .int x1), (2, .int x2)]) (st' := [.int (1 : Int32), .int ((x1 >>> (x2 &&& 31)) &&& (1 : Int32))]) (by decide +kernel) rfl rfl ?_
    refine BW.icmp_ne 28 (by decide +kernel : decode tX10_lay.2.1 20 = .ok (.if_icmp .ne 8, 3)) (by decide) (fun hc => ?_) (fun hc => ?_)
    · have h := (Ok.ite h).2 hc
      exact bX10_lay_28 hRm hC hE h
    · have h := (Ok.ite h).1 hc
      refine BW.run [.aload_n 0, .iload_n 2] (pc' := 25) (lv' := [(0, .ref a0), (1, .int x1), (2, .int x2)]) (st' := [.int x2, .ref a0]) (by decide +kernel) rfl rfl ?_
      refine BW.callV (As := [.int x2]) (st := []) (by decide +kernel : decode tX10_lay.2.1 25 = .ok (.invokevirtual 211, 3)) (DX10_add (Ok.bindK h)) mfX10_add lkM_X10_211 imX10_add selX10_add ciX10 (oX10_add (Ok.bindK h)).choose_spec rfl rfl (Nat.le_of_ble_eq_true rfl) ⟨Nat.le_trans (by decide) hRm.1, Nat.le_trans (by decide) hRm.2⟩ ⟨Nat.zero_le _, Nat.zero_le _⟩ ?_
      rintro _ s3 ⟨rfl, h⟩
      show BW G tX10_lay E 0 0 28 [(0, .ref a0), (1, .int x1), (2, .int x2)] [] s3
      exact bX10_lay_28 hRm hC hE h
theorem bX10_lay_W6 {G : Cx} {E : Ev} {n : Nat} (hRm : 6 ≤ E.1.frames ∧ 135 ≤ E.1.locals) {a0 : Nat} {x1 : Int32} {K : (Sg) → Prop} (hE : ∀ (s : Sg), K s → BW G tX10_lay E 0 0 34 [] [] s) : ∀ (f : Nat) (c : Sg × Int32), Ok (loopM (mX10_lay_L6 n a0 x1) f c) K → match c with | (s0, x2) => BW G tX10_lay E 0 0 6 [(0, .ref a0), (1, .int x1), (2, .int x2)] [] s0 := by
  intro f
  induction f with
  | zero => intro c h; exact (Ok.no h).elim
  | succ f ih =>
    intro c h
    obtain ⟨s0, x2⟩ := c
    exact bX10_lay_L6 (P := loopP (mX10_lay_L6 n a0 x1) f K) hRm (fun s c2 h => ih (s, c2) h) hE (loopM_ok h)
def mX10_lay (n : Nat) (s0 : Sg) (a0 : Nat) (x1 : Int32) : Option (Sg) :=
  (isO 10 s0 a0).bind fun _ =>
  (mX10_begin n s0 a0).bind fun s1 =>
  (loopM (mX10_lay_L6 n a0 x1) n (s1, (0 : Int32))).bind fun s4 =>
  some s4
theorem bX10_lay {G : Cx} {E : Ev} {n : Nat} (hRm : 6 ≤ E.1.frames ∧ 135 ≤ E.1.locals) {P : Sg → Prop} (hQ : ∀ s, P s → E.2.2.2.2 none s) {s0 : Sg} {a0 : Nat} {x1 : Int32} (h : Ok (mX10_lay n s0 a0 x1) P) : BW G tX10_lay E 0 0 0 [(0, .ref a0), (1, .int x1)] [] s0 := by
  unfold mX10_lay at h
  obtain ⟨_, _, h⟩ := Ok.bind h
  refine BW.run [.aload_n 0] (pc' := 1) (lv' := [(0, .ref a0), (1, .int x1)]) (st' := [.ref a0]) (by decide +kernel) rfl rfl ?_
  refine BW.callV (As := []) (st := []) (by decide +kernel : decode tX10_lay.2.1 1 = .ok (.invokevirtual 208, 3)) (DX10_begin (Ok.bindK h)) mfX10_begin lkM_X10_208 imX10_begin selX10_begin ciX10 (oX10_begin (Ok.bindK h)).choose_spec rfl rfl (Nat.le_of_ble_eq_true rfl) ⟨Nat.le_trans (by decide) hRm.1, Nat.le_trans (by decide) hRm.2⟩ ⟨Nat.zero_le _, Nat.zero_le _⟩ ?_
  rintro _ s1 ⟨rfl, h⟩
  show BW G tX10_lay E 0 0 4 [(0, .ref a0), (1, .int x1)] [] s1
  refine BW.run [.iconst 0, .istore_n 2] (pc' := 6) (lv' := [(0, .ref a0), (1, .int x1), (2, .int (0 : Int32))]) (st' := []) (by decide +kernel) rfl rfl ?_
  refine bX10_lay_W6 hRm (a0 := a0) (x1 := x1) (fun s4 h => ?_) n (s1, (0 : Int32)) (Ok.bindK h)
  exact BW.vret (by decide +kernel : decode tX10_lay.2.1 34 = .ok (.return_, 1)) rfl (Nat.zero_le _) (Nat.zero_le _) (hQ _ (Ok.some h))
theorem oX10_lay {n : Nat} {P : Sg → Prop} {s0 : Sg} {a0 : Nat} {x1 : Int32} (h : Ok (mX10_lay n s0 a0 x1) P) : ∃ n0, s0.2.1 a0 = some (10, n0) := by
  unfold mX10_lay at h
  exact Ok.isO h
theorem DX10_lay {G : Cx} {n : Nat} {P : Sg → Prop} {s0 : Sg} {a0 : Nat} {x1 : Int32} (h : Ok (mX10_lay n s0 a0 x1) P) : BM G tX10_lay 6 135 0 0 [.ref a0, .int x1] s0 (fun v s => v = none ∧ P s) := by
  refine BM.of (by decide +kernel) (Nat.le_of_ble_eq_true rfl) ?_
  exact bX10_lay (E := (({ frames := 6, cells := 0, slots := 0, locals := 135 }), Aof s0, 0, 0, (fun v s => v = none ∧ P s))) ⟨Nat.le_refl _, Nat.le_refl _⟩ (fun s hp => ⟨rfl, hp⟩) h
def mX10_canBe (n : Nat) (s0 : Sg) (a0 : Nat) (x1 : Int32) : Option (Int32 × Sg) :=
  (isO 10 s0 a0).bind fun _ =>
  (mX10_lay n s0 a0 x1).bind fun s1 =>
  (mX10_close n s1 a0).bind fun (v3, s2) =>
  if v3 = 0 ∨ v3 = 1 then some (v3, s2) else none
theorem bX10_canBe {G : Cx} {E : Ev} {n : Nat} (hRm : 7 ≤ E.1.frames ∧ 157 ≤ E.1.locals) {P : Int32 × Sg → Prop} (hQ : ∀ r s, P (r, s) → E.2.2.2.2 (some (.int r)) s) {s0 : Sg} {a0 : Nat} {x1 : Int32} (h : Ok (mX10_canBe n s0 a0 x1) P) : BW G tX10_canBe E 0 0 0 [(0, .ref a0), (1, .int x1)] [] s0 := by
  unfold mX10_canBe at h
  obtain ⟨_, _, h⟩ := Ok.bind h
  refine BW.run [.aload_n 0, .iload_n 1] (pc' := 2) (lv' := [(0, .ref a0), (1, .int x1)]) (st' := [.int x1, .ref a0]) (by decide +kernel) rfl rfl ?_
  refine BW.callV (As := [.int x1]) (st := []) (by decide +kernel : decode tX10_canBe.2.1 2 = .ok (.invokevirtual 214, 3)) (DX10_lay (Ok.bindK h)) mfX10_lay lkM_X10_214 imX10_lay selX10_lay ciX10 (oX10_lay (Ok.bindK h)).choose_spec rfl rfl (Nat.le_of_ble_eq_true rfl) ⟨Nat.le_trans (by decide) hRm.1, Nat.le_trans (by decide) hRm.2⟩ ⟨Nat.zero_le _, Nat.zero_le _⟩ ?_
  rintro _ s1 ⟨rfl, h⟩
  show BW G tX10_canBe E 0 0 5 [(0, .ref a0), (1, .int x1)] [] s1
  refine BW.run [.aload_n 0] (pc' := 6) (lv' := [(0, .ref a0), (1, .int x1)]) (st' := [.ref a0]) (by decide +kernel) rfl rfl ?_
  refine BW.callV (As := []) (st := []) (by decide +kernel : decode tX10_canBe.2.1 6 = .ok (.invokevirtual 217, 3)) (DX10_close (Ok.bindK h)) mfX10_close lkM_X10_217 imX10_close selX10_close ciX10 (oX10_close (Ok.bindK h)).choose_spec rfl rfl (Nat.le_of_ble_eq_true rfl) ⟨Nat.le_trans (by decide) hRm.1, Nat.le_trans (by decide) hRm.2⟩ ⟨Nat.zero_le _, Nat.zero_le _⟩ ?_
  rintro _ s2 ⟨v3, rfl, h⟩
  show BW G tX10_canBe E 0 0 9 [(0, .ref a0), (1, .int x1)] [.int v3] s2
  obtain ⟨hz, h⟩ := Ok.guard h
  exact BW.zret (by decide +kernel : decode tX10_canBe.2.1 9 = .ok (.ireturn, 1)) rfl hz (Nat.zero_le _) (Nat.zero_le _) (hQ _ _ (Ok.some h))
theorem oX10_canBe {n : Nat} {P : Int32 × Sg → Prop} {s0 : Sg} {a0 : Nat} {x1 : Int32} (h : Ok (mX10_canBe n s0 a0 x1) P) : ∃ n0, s0.2.1 a0 = some (10, n0) := by
  unfold mX10_canBe at h
  exact Ok.isO h
theorem DX10_canBe {G : Cx} {n : Nat} {P : Int32 × Sg → Prop} {s0 : Sg} {a0 : Nat} {x1 : Int32} (h : Ok (mX10_canBe n s0 a0 x1) P) : BM G tX10_canBe 7 157 0 0 [.ref a0, .int x1] s0 (fun v s => ∃ r, v = some (.int r) ∧ P (r, s)) := by
  refine BM.of (by decide +kernel) (Nat.le_of_ble_eq_true rfl) ?_
  exact bX10_canBe (E := (({ frames := 7, cells := 0, slots := 0, locals := 157 }), Aof s0, 0, 0, (fun v s => ∃ r, v = some (.int r) ∧ P (r, s)))) ⟨Nat.le_refl _, Nat.le_refl _⟩ (fun r s hp => ⟨r, rfl, hp⟩) h
def mX10_gapHigh (n : Nat) (s0 : Sg) (a0 : Nat) (x1 : Int32) (x2 : Int32) : Option (Int32 × Sg) :=
  (isO 10 s0 a0).bind fun _ =>
  (toR (gV 10 s0 a0 28)).bind fun b1 =>
  (toI (aV 11 s0 b1 (((9 : Int32) * x2) + x1))).bind fun v2 =>
  some ((-v2), s0)
theorem bX10_gapHigh {G : Cx} {E : Ev} {n : Nat} (hRm : 0 ≤ E.1.frames ∧ 0 ≤ E.1.locals) {P : Int32 × Sg → Prop} (hQ : ∀ r s, P (r, s) → E.2.2.2.2 (some (.int r)) s) {s0 : Sg} {a0 : Nat} {x1 : Int32} {x2 : Int32} (h : Ok (mX10_gapHigh n s0 a0 x1 x2) P) : BW G tX10_gapHigh E 0 0 0 [(0, .ref a0), (1, .int x1), (2, .int x2)] [] s0 := by
  unfold mX10_gapHigh at h
  obtain ⟨_, _, h⟩ := Ok.bind h
  refine BW.run [.aload_n 0] (pc' := 1) (lv' := [(0, .ref a0), (1, .int x1), (2, .int x2)]) (st' := [.ref a0]) (by decide +kernel) rfl rfl ?_
  obtain ⟨b1, eb1, h⟩ := Ok.bind h
  refine BW.get (by decide +kernel : decode tX10_gapHigh.2.1 1 = .ok (.getfield 61, 3)) ciX10 (k := 28) (by decide) lkF_X10_61 (toR_V eb1) ?_
  refine BW.run [.bipush 9, .iload_n 2, .imul, .iload_n 1, .iadd] (pc' := 10) (lv' := [(0, .ref a0), (1, .int x1), (2, .int x2)]) (st' := [.int (((9 : Int32) * x2) + x1), .ref b1]) (by decide +kernel) rfl rfl ?_
  obtain ⟨v2, ev2, h⟩ := Ok.bind h
  refine BW.iald (by decide +kernel : decode tX10_gapHigh.2.1 10 = .ok (.iaload, 1)) (toI_V ev2) ?_
  refine BW.run [.ineg] (pc' := 12) (lv' := [(0, .ref a0), (1, .int x1), (2, .int x2)]) (st' := [.int (-v2)]) (by decide +kernel) rfl rfl ?_
  exact BW.iret (by decide +kernel : decode tX10_gapHigh.2.1 12 = .ok (.ireturn, 1)) rfl (Nat.zero_le _) (Nat.zero_le _) (hQ _ _ (Ok.some h))
theorem oX10_gapHigh {n : Nat} {P : Int32 × Sg → Prop} {s0 : Sg} {a0 : Nat} {x1 : Int32} {x2 : Int32} (h : Ok (mX10_gapHigh n s0 a0 x1 x2) P) : ∃ n0, s0.2.1 a0 = some (10, n0) := by
  unfold mX10_gapHigh at h
  exact Ok.isO h
theorem DX10_gapHigh {G : Cx} {n : Nat} {P : Int32 × Sg → Prop} {s0 : Sg} {a0 : Nat} {x1 : Int32} {x2 : Int32} (h : Ok (mX10_gapHigh n s0 a0 x1 x2) P) : BM G tX10_gapHigh 0 0 0 0 [.ref a0, .int x1, .int x2] s0 (fun v s => ∃ r, v = some (.int r) ∧ P (r, s)) := by
  refine BM.of (by decide +kernel) (Nat.le_of_ble_eq_true rfl) ?_
  exact bX10_gapHigh (E := (({ frames := 0, cells := 0, slots := 0, locals := 0 }), Aof s0, 0, 0, (fun v s => ∃ r, v = some (.int r) ∧ P (r, s)))) ⟨Nat.le_refl _, Nat.le_refl _⟩ (fun r s hp => ⟨r, rfl, hp⟩) h
def mX10_gapLow (n : Nat) (s0 : Sg) (a0 : Nat) (x1 : Int32) (x2 : Int32) : Option (Int32 × Sg) :=
  (isO 10 s0 a0).bind fun _ =>
  (toR (gV 10 s0 a0 28)).bind fun b1 =>
  (toI (aV 11 s0 b1 (((9 : Int32) * x1) + x2))).bind fun v2 =>
  some (v2, s0)
theorem bX10_gapLow {G : Cx} {E : Ev} {n : Nat} (hRm : 0 ≤ E.1.frames ∧ 0 ≤ E.1.locals) {P : Int32 × Sg → Prop} (hQ : ∀ r s, P (r, s) → E.2.2.2.2 (some (.int r)) s) {s0 : Sg} {a0 : Nat} {x1 : Int32} {x2 : Int32} (h : Ok (mX10_gapLow n s0 a0 x1 x2) P) : BW G tX10_gapLow E 0 0 0 [(0, .ref a0), (1, .int x1), (2, .int x2)] [] s0 := by
  unfold mX10_gapLow at h
  obtain ⟨_, _, h⟩ := Ok.bind h
  refine BW.run [.aload_n 0] (pc' := 1) (lv' := [(0, .ref a0), (1, .int x1), (2, .int x2)]) (st' := [.ref a0]) (by decide +kernel) rfl rfl ?_
  obtain ⟨b1, eb1, h⟩ := Ok.bind h
  refine BW.get (by decide +kernel : decode tX10_gapLow.2.1 1 = .ok (.getfield 61, 3)) ciX10 (k := 28) (by decide) lkF_X10_61 (toR_V eb1) ?_
  refine BW.run [.bipush 9, .iload_n 1, .imul, .iload_n 2, .iadd] (pc' := 10) (lv' := [(0, .ref a0), (1, .int x1), (2, .int x2)]) (st' := [.int (((9 : Int32) * x1) + x2), .ref b1]) (by decide +kernel) rfl rfl ?_
  obtain ⟨v2, ev2, h⟩ := Ok.bind h
  refine BW.iald (by decide +kernel : decode tX10_gapLow.2.1 10 = .ok (.iaload, 1)) (toI_V ev2) ?_
  exact BW.iret (by decide +kernel : decode tX10_gapLow.2.1 11 = .ok (.ireturn, 1)) rfl (Nat.zero_le _) (Nat.zero_le _) (hQ _ _ (Ok.some h))
theorem oX10_gapLow {n : Nat} {P : Int32 × Sg → Prop} {s0 : Sg} {a0 : Nat} {x1 : Int32} {x2 : Int32} (h : Ok (mX10_gapLow n s0 a0 x1 x2) P) : ∃ n0, s0.2.1 a0 = some (10, n0) := by
  unfold mX10_gapLow at h
  exact Ok.isO h
theorem DX10_gapLow {G : Cx} {n : Nat} {P : Int32 × Sg → Prop} {s0 : Sg} {a0 : Nat} {x1 : Int32} {x2 : Int32} (h : Ok (mX10_gapLow n s0 a0 x1 x2) P) : BM G tX10_gapLow 0 0 0 0 [.ref a0, .int x1, .int x2] s0 (fun v s => ∃ r, v = some (.int r) ∧ P (r, s)) := by
  refine BM.of (by decide +kernel) (Nat.le_of_ble_eq_true rfl) ?_
  exact bX10_gapLow (E := (({ frames := 0, cells := 0, slots := 0, locals := 0 }), Aof s0, 0, 0, (fun v s => ∃ r, v = some (.int r) ∧ P (r, s)))) ⟨Nat.le_refl _, Nat.le_refl _⟩ (fun r s hp => ⟨r, rfl, hp⟩) h
def mX10_isSet (n : Nat) (s0 : Sg) (a0 : Nat) (x1 : Int32) : Option (Int32 × Sg) :=
  (isO 10 s0 a0).bind fun _ =>
  if x1 < 0 then (
    some ((0 : Int32), s0)
  ) else (
    (toI (gV 10 s0 a0 27)).bind fun v1 =>
    if (x1 >>> (v1 &&& 31)) = 0 then (
      some ((1 : Int32), s0)
    ) else (
      some ((0 : Int32), s0)
    )
  )
theorem bX10_isSet {G : Cx} {E : Ev} {n : Nat} (hRm : 0 ≤ E.1.frames ∧ 0 ≤ E.1.locals) {P : Int32 × Sg → Prop} (hQ : ∀ r s, P (r, s) → E.2.2.2.2 (some (.int r)) s) {s0 : Sg} {a0 : Nat} {x1 : Int32} (h : Ok (mX10_isSet n s0 a0 x1) P) : BW G tX10_isSet E 0 0 0 [(0, .ref a0), (1, .int x1)] [] s0 := by
  unfold mX10_isSet at h
  obtain ⟨_, _, h⟩ := Ok.bind h
  refine BW.run [.iload_n 1] (pc' := 1) (lv' := [(0, .ref a0), (1, .int x1)]) (st' := [.int x1]) (by decide +kernel) rfl rfl ?_
  refine BW.if_lt 17 (by decide +kernel : decode tX10_isSet.2.1 1 = .ok (.ifCond .lt 16, 3)) (by decide) (fun hc => ?_) (fun hc => ?_)
  · have h := (Ok.ite h).1 hc
    refine BW.run [.iconst 0] (pc' := 18) (lv' := [(0, .ref a0), (1, .int x1)]) (st' := [.int (0 : Int32)]) (by decide +kernel) rfl rfl ?_
    exact BW.zret (by decide +kernel : decode tX10_isSet.2.1 18 = .ok (.ireturn, 1)) rfl (Or.inl rfl) (Nat.zero_le _) (Nat.zero_le _) (hQ _ _ (Ok.some h))
  · have h := (Ok.ite h).2 hc
    refine BW.run [.iload_n 1, .aload_n 0] (pc' := 6) (lv' := [(0, .ref a0), (1, .int x1)]) (st' := [.ref a0, .int x1]) (by decide +kernel) rfl rfl ?_
    obtain ⟨v1, ev1, h⟩ := Ok.bind h
    refine BW.get (by decide +kernel : decode tX10_isSet.2.1 6 = .ok (.getfield 194, 3)) ciX10 (k := 27) (by decide) lkF_X10_194 (toI_V ev1) ?_
    refine BW.run [.ishr] (pc' := 10) (lv' := [(0, .ref a0), (1, .int x1)]) (st' := [.int (x1 >>> (v1 &&& 31))]) (by decide +kernel) rfl rfl ?_
    refine BW.if_ne 17 (by decide +kernel : decode tX10_isSet.2.1 10 = .ok (.ifCond .ne 7, 3)) (by decide) (fun hc => ?_) (fun hc => ?_)
    · have h := (Ok.ite h).2 hc
      refine BW.run [.iconst 0] (pc' := 18) (lv' := [(0, .ref a0), (1, .int x1)]) (st' := [.int (0 : Int32)]) (by decide +kernel) rfl rfl ?_
      exact BW.zret (by decide +kernel : decode tX10_isSet.2.1 18 = .ok (.ireturn, 1)) rfl (Or.inl rfl) (Nat.zero_le _) (Nat.zero_le _) (hQ _ _ (Ok.some h))
    · have h := (Ok.ite h).1 hc
      refine BW.run [.iconst 1] (pc' := 14) (lv' := [(0, .ref a0), (1, .int x1)]) (st' := [.int (1 : Int32)]) (by decide +kernel) rfl rfl ?_
      refine BW.goto 18 (by decide +kernel : decode tX10_isSet.2.1 14 = .ok (.goto 4, 3)) (by decide) ?_
      exact BW.zret (by decide +kernel : decode tX10_isSet.2.1 18 = .ok (.ireturn, 1)) rfl (Or.inr rfl) (Nat.zero_le _) (Nat.zero_le _) (hQ _ _ (Ok.some h))
theorem oX10_isSet {n : Nat} {P : Int32 × Sg → Prop} {s0 : Sg} {a0 : Nat} {x1 : Int32} (h : Ok (mX10_isSet n s0 a0 x1) P) : ∃ n0, s0.2.1 a0 = some (10, n0) := by
  unfold mX10_isSet at h
  exact Ok.isO h
theorem DX10_isSet {G : Cx} {n : Nat} {P : Int32 × Sg → Prop} {s0 : Sg} {a0 : Nat} {x1 : Int32} (h : Ok (mX10_isSet n s0 a0 x1) P) : BM G tX10_isSet 0 0 0 0 [.ref a0, .int x1] s0 (fun v s => ∃ r, v = some (.int r) ∧ P (r, s)) := by
  refine BM.of (by decide +kernel) (Nat.le_of_ble_eq_true rfl) ?_
  exact bX10_isSet (E := (({ frames := 0, cells := 0, slots := 0, locals := 0 }), Aof s0, 0, 0, (fun v s => ∃ r, v = some (.int r) ∧ P (r, s)))) ⟨Nat.le_refl _, Nat.le_refl _⟩ (fun r s hp => ⟨r, rfl, hp⟩) h
def mX10_in (n : Nat) (s0 : Sg) (x0 : Int32) (x1 : Int32) (x2 : Int32) : Option (Int32 × Sg) :=
  if x0 < x1 then (
    some ((0 : Int32), s0)
  ) else (
    if x2 < x0 then (
      some ((0 : Int32), s0)
    ) else (
      some ((1 : Int32), s0)
    )
  )
theorem bX10_in {G : Cx} {E : Ev} {n : Nat} (hRm : 0 ≤ E.1.frames ∧ 0 ≤ E.1.locals) {P : Int32 × Sg → Prop} (hQ : ∀ r s, P (r, s) → E.2.2.2.2 (some (.int r)) s) {s0 : Sg} {x0 : Int32} {x1 : Int32} {x2 : Int32} (h : Ok (mX10_in n s0 x0 x1 x2) P) : BW G tX10_in E 0 0 0 [(0, .int x0), (1, .int x1), (2, .int x2)] [] s0 := by
  unfold mX10_in at h
  refine BW.run [.iload_n 0, .iload_n 1] (pc' := 2) (lv' := [(0, .int x0), (1, .int x1), (2, .int x2)]) (st' := [.int x1, .int x0]) (by decide +kernel) rfl rfl ?_
  refine BW.icmp_lt 14 (by decide +kernel : decode tX10_in.2.1 2 = .ok (.if_icmp .lt 12, 3)) (by decide) (fun hc => ?_) (fun hc => ?_)
  · have h := (Ok.ite h).1 hc
    refine BW.run [.iconst 0] (pc' := 15) (lv' := [(0, .int x0), (1, .int x1), (2, .int x2)]) (st' := [.int (0 : Int32)]) (by decide +kernel) rfl rfl ?_
    exact BW.zret (by decide +kernel : decode tX10_in.2.1 15 = .ok (.ireturn, 1)) rfl (Or.inl rfl) (Nat.zero_le _) (Nat.zero_le _) (hQ _ _ (Ok.some h))
  · have h := (Ok.ite h).2 hc
    refine BW.run [.iload_n 0, .iload_n 2] (pc' := 7) (lv' := [(0, .int x0), (1, .int x1), (2, .int x2)]) (st' := [.int x2, .int x0]) (by decide +kernel) rfl rfl ?_
    refine BW.icmp_gt 14 (by decide +kernel : decode tX10_in.2.1 7 = .ok (.if_icmp .gt 7, 3)) (by decide) (fun hc => ?_) (fun hc => ?_)
    · have h := (Ok.ite h).1 hc
      refine BW.run [.iconst 0] (pc' := 15) (lv' := [(0, .int x0), (1, .int x1), (2, .int x2)]) (st' := [.int (0 : Int32)]) (by decide +kernel) rfl rfl ?_
      exact BW.zret (by decide +kernel : decode tX10_in.2.1 15 = .ok (.ireturn, 1)) rfl (Or.inl rfl) (Nat.zero_le _) (Nat.zero_le _) (hQ _ _ (Ok.some h))
    · have h := (Ok.ite h).2 hc
      refine BW.run [.iconst 1] (pc' := 11) (lv' := [(0, .int x0), (1, .int x1), (2, .int x2)]) (st' := [.int (1 : Int32)]) (by decide +kernel) rfl rfl ?_
      refine BW.goto 15 (by decide +kernel : decode tX10_in.2.1 11 = .ok (.goto 4, 3)) (by decide) ?_
      exact BW.zret (by decide +kernel : decode tX10_in.2.1 15 = .ok (.ireturn, 1)) rfl (Or.inr rfl) (Nat.zero_le _) (Nat.zero_le _) (hQ _ _ (Ok.some h))
theorem DX10_in {G : Cx} {n : Nat} {P : Int32 × Sg → Prop} {s0 : Sg} {x0 : Int32} {x1 : Int32} {x2 : Int32} (h : Ok (mX10_in n s0 x0 x1 x2) P) : BM G tX10_in 0 0 0 0 [.int x0, .int x1, .int x2] s0 (fun v s => ∃ r, v = some (.int r) ∧ P (r, s)) := by
  refine BM.of (by decide +kernel) (Nat.le_of_ble_eq_true rfl) ?_
  exact bX10_in (E := (({ frames := 0, cells := 0, slots := 0, locals := 0 }), Aof s0, 0, 0, (fun v s => ∃ r, v = some (.int r) ∧ P (r, s)))) ⟨Nat.le_refl _, Nat.le_refl _⟩ (fun r s hp => ⟨r, rfl, hp⟩) h
def mX10_isWalk (n : Nat) (s0 : Sg) (a0 : Nat) (x1 : Int32) : Option (Int32 × Sg) :=
  (isO 10 s0 a0).bind fun _ =>
  (toI (gV 10 s0 a0 20)).bind fun v1 =>
  (mX10_in n s0 x1 (0 : Int32) (v1 - (1 : Int32))).bind fun (v3, s2) =>
  if v3 = 0 ∨ v3 = 1 then some (v3, s2) else none
theorem bX10_isWalk {G : Cx} {E : Ev} {n : Nat} (hRm : 1 ≤ E.1.frames ∧ 22 ≤ E.1.locals) {P : Int32 × Sg → Prop} (hQ : ∀ r s, P (r, s) → E.2.2.2.2 (some (.int r)) s) {s0 : Sg} {a0 : Nat} {x1 : Int32} (h : Ok (mX10_isWalk n s0 a0 x1) P) : BW G tX10_isWalk E 0 0 0 [(0, .ref a0), (1, .int x1)] [] s0 := by
  unfold mX10_isWalk at h
  obtain ⟨_, _, h⟩ := Ok.bind h
  refine BW.run [.iload_n 1, .iconst 0, .aload_n 0] (pc' := 3) (lv' := [(0, .ref a0), (1, .int x1)]) (st' := [.ref a0, .int (0 : Int32), .int x1]) (by decide +kernel) rfl rfl ?_
  obtain ⟨v1, ev1, h⟩ := Ok.bind h
  refine BW.get (by decide +kernel : decode tX10_isWalk.2.1 3 = .ok (.getfield 165, 3)) ciX10 (k := 20) (by decide) lkF_X10_165 (toI_V ev1) ?_
  refine BW.run [.iconst 1, .isub] (pc' := 8) (lv' := [(0, .ref a0), (1, .int x1)]) (st' := [.int (v1 - (1 : Int32)), .int (0 : Int32), .int x1]) (by decide +kernel) rfl rfl ?_
  refine BW.callS (As := [.int x1, .int (0 : Int32), .int (v1 - (1 : Int32))]) (st := []) (by decide +kernel : decode tX10_isWalk.2.1 8 = .ok (.invokestatic 147, 3)) (DX10_in (Ok.bindK h)) mfX10_in lkM_X10_147 smX10_in rfl rfl (Nat.le_of_ble_eq_true rfl) ⟨Nat.le_trans (by decide) hRm.1, Nat.le_trans (by decide) hRm.2⟩ ⟨Nat.zero_le _, Nat.zero_le _⟩ ?_
  rintro _ s2 ⟨v3, rfl, h⟩
  show BW G tX10_isWalk E 0 0 11 [(0, .ref a0), (1, .int x1)] [.int v3] s2
  obtain ⟨hz, h⟩ := Ok.guard h
  exact BW.zret (by decide +kernel : decode tX10_isWalk.2.1 11 = .ok (.ireturn, 1)) rfl hz (Nat.zero_le _) (Nat.zero_le _) (hQ _ _ (Ok.some h))
theorem oX10_isWalk {n : Nat} {P : Int32 × Sg → Prop} {s0 : Sg} {a0 : Nat} {x1 : Int32} (h : Ok (mX10_isWalk n s0 a0 x1) P) : ∃ n0, s0.2.1 a0 = some (10, n0) := by
  unfold mX10_isWalk at h
  exact Ok.isO h
theorem DX10_isWalk {G : Cx} {n : Nat} {P : Int32 × Sg → Prop} {s0 : Sg} {a0 : Nat} {x1 : Int32} (h : Ok (mX10_isWalk n s0 a0 x1) P) : BM G tX10_isWalk 1 22 0 0 [.ref a0, .int x1] s0 (fun v s => ∃ r, v = some (.int r) ∧ P (r, s)) := by
  refine BM.of (by decide +kernel) (Nat.le_of_ble_eq_true rfl) ?_
  exact bX10_isWalk (E := (({ frames := 1, cells := 0, slots := 0, locals := 22 }), Aof s0, 0, 0, (fun v s => ∃ r, v = some (.int r) ∧ P (r, s)))) ⟨Nat.le_refl _, Nat.le_refl _⟩ (fun r s hp => ⟨r, rfl, hp⟩) h
def mX10_ahead (n : Nat) (s0 : Sg) (a0 : Nat) (x1 : Int32) (x2 : Int32) (x3 : Int32) : Option (Int32 × Sg) :=
  (isO 10 s0 a0).bind fun _ =>
  (mX10_isSet n s0 a0 x1).bind fun (v2, s1) =>
  if v2 = 0 then (
    some ((-1 : Int32), s1)
  ) else (
    (mX10_isWalk n s1 a0 x2).bind fun (v5, s4) =>
    if v5 = 0 then (
      some ((-1 : Int32), s4)
    ) else (
      (mX10_isWalk n s4 a0 x3).bind fun (v8, s7) =>
      if v8 = 0 then (
        some ((-1 : Int32), s7)
      ) else (
        (mX10_canBe n s7 a0 x1).bind fun (v11, s10) =>
        if v11 = 0 then (
          some ((-1 : Int32), s10)
        ) else (
          (mX10_gapLow n s10 a0 x2 x3).bind fun (v14, s13) =>
          if v14 ≤ 0 then (
            (mX10_gapHigh n s13 a0 x2 x3).bind fun (v17, s16) =>
            if 0 < v17 then (
              some ((-1 : Int32), s16)
            ) else (
              some ((0 : Int32), s16)
            )
          ) else (
            some ((1 : Int32), s13)
          )
        )
      )
    )
  )
theorem bX10_ahead {G : Cx} {E : Ev} {n : Nat} (hRm : 8 ≤ E.1.frames ∧ 178 ≤ E.1.locals) {P : Int32 × Sg → Prop} (hQ : ∀ r s, P (r, s) → E.2.2.2.2 (some (.int r)) s) {s0 : Sg} {a0 : Nat} {x1 : Int32} {x2 : Int32} {x3 : Int32} (h : Ok (mX10_ahead n s0 a0 x1 x2 x3) P) : BW G tX10_ahead E 0 0 0 [(0, .ref a0), (1, .int x1), (2, .int x2), (3, .int x3)] [] s0 := by
  unfold mX10_ahead at h
  obtain ⟨_, _, h⟩ := Ok.bind h
  refine BW.run [.aload_n 0, .iload_n 1] (pc' := 2) (lv' := [(0, .ref a0), (1, .int x1), (2, .int x2), (3, .int x3)]) (st' := [.int x1, .ref a0]) (by decide +kernel) rfl rfl ?_
  refine BW.callV (As := [.int x1]) (st := []) (by decide +kernel : decode tX10_ahead.2.1 2 = .ok (.invokevirtual 221, 3)) (DX10_isSet (Ok.bindK h)) mfX10_isSet lkM_X10_221 imX10_isSet selX10_isSet ciX10 (oX10_isSet (Ok.bindK h)).choose_spec rfl rfl (Nat.le_of_ble_eq_true rfl) ⟨Nat.le_trans (by decide) hRm.1, Nat.le_trans (by decide) hRm.2⟩ ⟨Nat.zero_le _, Nat.zero_le _⟩ ?_
  rintro _ s1 ⟨v2, rfl, h⟩
  show BW G tX10_ahead E 0 0 5 [(0, .ref a0), (1, .int x1), (2, .int x2), (3, .int x3)] [.int v2] s1
  refine BW.if_eq 32 (by decide +kernel : decode tX10_ahead.2.1 5 = .ok (.ifCond .eq 27, 3)) (by decide) (fun hc => ?_) (fun hc => ?_)
  · have h := (Ok.ite h).1 hc
    refine BW.run [.iconst (-1)] (pc' := 33) (lv' := [(0, .ref a0), (1, .int x1), (2, .int x2), (3, .int x3)]) (st' := [.int (-1 : Int32)]) (by decide +kernel) rfl rfl ?_
    exact BW.iret (by decide +kernel : decode tX10_ahead.2.1 33 = .ok (.ireturn, 1)) rfl (Nat.zero_le _) (Nat.zero_le _) (hQ _ _ (Ok.some h))
  · have h := (Ok.ite h).2 hc
    refine BW.run [.aload_n 0, .iload_n 2] (pc' := 10) (lv' := [(0, .ref a0), (1, .int x1), (2, .int x2), (3, .int x3)]) (st' := [.int x2, .ref a0]) (by decide +kernel) rfl rfl ?_
    refine BW.callV (As := [.int x2]) (st := []) (by decide +kernel : decode tX10_ahead.2.1 10 = .ok (.invokevirtual 171, 3)) (DX10_isWalk (Ok.bindK h)) mfX10_isWalk lkM_X10_171 imX10_isWalk selX10_isWalk ciX10 (oX10_isWalk (Ok.bindK h)).choose_spec rfl rfl (Nat.le_of_ble_eq_true rfl) ⟨Nat.le_trans (by decide) hRm.1, Nat.le_trans (by decide) hRm.2⟩ ⟨Nat.zero_le _, Nat.zero_le _⟩ ?_
    rintro _ s4 ⟨v5, rfl, h⟩
    show BW G tX10_ahead E 0 0 13 [(0, .ref a0), (1, .int x1), (2, .int x2), (3, .int x3)] [.int v5] s4
    refine BW.if_eq 32 (by decide +kernel : decode tX10_ahead.2.1 13 = .ok (.ifCond .eq 19, 3)) (by decide) (fun hc => ?_) (fun hc => ?_)
    · have h := (Ok.ite h).1 hc
      refine BW.run [.iconst (-1)] (pc' := 33) (lv' := [(0, .ref a0), (1, .int x1), (2, .int x2), (3, .int x3)]) (st' := [.int (-1 : Int32)]) (by decide +kernel) rfl rfl ?_
      exact BW.iret (by decide +kernel : decode tX10_ahead.2.1 33 = .ok (.ireturn, 1)) rfl (Nat.zero_le _) (Nat.zero_le _) (hQ _ _ (Ok.some h))
    · have h := (Ok.ite h).2 hc
      refine BW.run [.aload_n 0, .iload_n 3] (pc' := 18) (lv' := [(0, .ref a0), (1, .int x1), (2, .int x2), (3, .int x3)]) (st' := [.int x3, .ref a0]) (by decide +kernel) rfl rfl ?_
      refine BW.callV (As := [.int x3]) (st := []) (by decide +kernel : decode tX10_ahead.2.1 18 = .ok (.invokevirtual 171, 3)) (DX10_isWalk (Ok.bindK h)) mfX10_isWalk lkM_X10_171 imX10_isWalk selX10_isWalk ciX10 (oX10_isWalk (Ok.bindK h)).choose_spec rfl rfl (Nat.le_of_ble_eq_true rfl) ⟨Nat.le_trans (by decide) hRm.1, Nat.le_trans (by decide) hRm.2⟩ ⟨Nat.zero_le _, Nat.zero_le _⟩ ?_
      rintro _ s7 ⟨v8, rfl, h⟩
      show BW G tX10_ahead E 0 0 21 [(0, .ref a0), (1, .int x1), (2, .int x2), (3, .int x3)] [.int v8] s7
      refine BW.if_eq 32 (by decide +kernel : decode tX10_ahead.2.1 21 = .ok (.ifCond .eq 11, 3)) (by decide) (fun hc => ?_) (fun hc => ?_)
      · have h := (Ok.ite h).1 hc
        refine BW.run [.iconst (-1)] (pc' := 33) (lv' := [(0, .ref a0), (1, .int x1), (2, .int x2), (3, .int x3)]) (st' := [.int (-1 : Int32)]) (by decide +kernel) rfl rfl ?_
        exact BW.iret (by decide +kernel : decode tX10_ahead.2.1 33 = .ok (.ireturn, 1)) rfl (Nat.zero_le _) (Nat.zero_le _) (hQ _ _ (Ok.some h))
      · have h := (Ok.ite h).2 hc
        refine BW.run [.aload_n 0, .iload_n 1] (pc' := 26) (lv' := [(0, .ref a0), (1, .int x1), (2, .int x2), (3, .int x3)]) (st' := [.int x1, .ref a0]) (by decide +kernel) rfl rfl ?_
        refine BW.callV (As := [.int x1]) (st := []) (by decide +kernel : decode tX10_ahead.2.1 26 = .ok (.invokevirtual 224, 3)) (DX10_canBe (Ok.bindK h)) mfX10_canBe lkM_X10_224 imX10_canBe selX10_canBe ciX10 (oX10_canBe (Ok.bindK h)).choose_spec rfl rfl (Nat.le_of_ble_eq_true rfl) ⟨Nat.le_trans (by decide) hRm.1, Nat.le_trans (by decide) hRm.2⟩ ⟨Nat.zero_le _, Nat.zero_le _⟩ ?_
        rintro _ s10 ⟨v11, rfl, h⟩
        show BW G tX10_ahead E 0 0 29 [(0, .ref a0), (1, .int x1), (2, .int x2), (3, .int x3)] [.int v11] s10
        refine BW.if_ne 34 (by decide +kernel : decode tX10_ahead.2.1 29 = .ok (.ifCond .ne 5, 3)) (by decide) (fun hc => ?_) (fun hc => ?_)
        · have h := (Ok.ite h).2 hc
          refine BW.run [.aload_n 0, .iload_n 2, .iload_n 3] (pc' := 37) (lv' := [(0, .ref a0), (1, .int x1), (2, .int x2), (3, .int x3)]) (st' := [.int x3, .int x2, .ref a0]) (by decide +kernel) rfl rfl ?_
          refine BW.callV (As := [.int x2, .int x3]) (st := []) (by decide +kernel : decode tX10_ahead.2.1 37 = .ok (.invokevirtual 241, 3)) (DX10_gapLow (Ok.bindK h)) mfX10_gapLow lkM_X10_241 imX10_gapLow selX10_gapLow ciX10 (oX10_gapLow (Ok.bindK h)).choose_spec rfl rfl (Nat.le_of_ble_eq_true rfl) ⟨Nat.le_trans (by decide) hRm.1, Nat.le_trans (by decide) hRm.2⟩ ⟨Nat.zero_le _, Nat.zero_le _⟩ ?_
          rintro _ s13 ⟨v14, rfl, h⟩
          show BW G tX10_ahead E 0 0 40 [(0, .ref a0), (1, .int x1), (2, .int x2), (3, .int x3)] [.int v14] s13
          refine BW.if_le 47 (by decide +kernel : decode tX10_ahead.2.1 40 = .ok (.ifCond .le 7, 3)) (by decide) (fun hc => ?_) (fun hc => ?_)
          · have h := (Ok.ite h).1 hc
            refine BW.run [.aload_n 0, .iload_n 2, .iload_n 3] (pc' := 50) (lv' := [(0, .ref a0), (1, .int x1), (2, .int x2), (3, .int x3)]) (st' := [.int x3, .int x2, .ref a0]) (by decide +kernel) rfl rfl ?_
            refine BW.callV (As := [.int x2, .int x3]) (st := []) (by decide +kernel : decode tX10_ahead.2.1 50 = .ok (.invokevirtual 244, 3)) (DX10_gapHigh (Ok.bindK h)) mfX10_gapHigh lkM_X10_244 imX10_gapHigh selX10_gapHigh ciX10 (oX10_gapHigh (Ok.bindK h)).choose_spec rfl rfl (Nat.le_of_ble_eq_true rfl) ⟨Nat.le_trans (by decide) hRm.1, Nat.le_trans (by decide) hRm.2⟩ ⟨Nat.zero_le _, Nat.zero_le _⟩ ?_
            rintro _ s16 ⟨v17, rfl, h⟩
            show BW G tX10_ahead E 0 0 53 [(0, .ref a0), (1, .int x1), (2, .int x2), (3, .int x3)] [.int v17] s16
            refine BW.if_gt 60 (by decide +kernel : decode tX10_ahead.2.1 53 = .ok (.ifCond .gt 7, 3)) (by decide) (fun hc => ?_) (fun hc => ?_)
            · have h := (Ok.ite h).1 hc
              refine BW.run [.iconst (-1)] (pc' := 61) (lv' := [(0, .ref a0), (1, .int x1), (2, .int x2), (3, .int x3)]) (st' := [.int (-1 : Int32)]) (by decide +kernel) rfl rfl ?_
              exact BW.iret (by decide +kernel : decode tX10_ahead.2.1 61 = .ok (.ireturn, 1)) rfl (Nat.zero_le _) (Nat.zero_le _) (hQ _ _ (Ok.some h))
            · have h := (Ok.ite h).2 hc
              refine BW.run [.iconst 0] (pc' := 57) (lv' := [(0, .ref a0), (1, .int x1), (2, .int x2), (3, .int x3)]) (st' := [.int (0 : Int32)]) (by decide +kernel) rfl rfl ?_
              refine BW.goto 61 (by decide +kernel : decode tX10_ahead.2.1 57 = .ok (.goto 4, 3)) (by decide) ?_
              exact BW.iret (by decide +kernel : decode tX10_ahead.2.1 61 = .ok (.ireturn, 1)) rfl (Nat.zero_le _) (Nat.zero_le _) (hQ _ _ (Ok.some h))
          · have h := (Ok.ite h).2 hc
            refine BW.run [.iconst 1] (pc' := 44) (lv' := [(0, .ref a0), (1, .int x1), (2, .int x2), (3, .int x3)]) (st' := [.int (1 : Int32)]) (by decide +kernel) rfl rfl ?_
            refine BW.goto 61 (by decide +kernel : decode tX10_ahead.2.1 44 = .ok (.goto 17, 3)) (by decide) ?_
            exact BW.iret (by decide +kernel : decode tX10_ahead.2.1 61 = .ok (.ireturn, 1)) rfl (Nat.zero_le _) (Nat.zero_le _) (hQ _ _ (Ok.some h))
        · have h := (Ok.ite h).1 hc
          refine BW.run [.iconst (-1)] (pc' := 33) (lv' := [(0, .ref a0), (1, .int x1), (2, .int x2), (3, .int x3)]) (st' := [.int (-1 : Int32)]) (by decide +kernel) rfl rfl ?_
          exact BW.iret (by decide +kernel : decode tX10_ahead.2.1 33 = .ok (.ireturn, 1)) rfl (Nat.zero_le _) (Nat.zero_le _) (hQ _ _ (Ok.some h))
theorem oX10_ahead {n : Nat} {P : Int32 × Sg → Prop} {s0 : Sg} {a0 : Nat} {x1 : Int32} {x2 : Int32} {x3 : Int32} (h : Ok (mX10_ahead n s0 a0 x1 x2 x3) P) : ∃ n0, s0.2.1 a0 = some (10, n0) := by
  unfold mX10_ahead at h
  exact Ok.isO h
theorem DX10_ahead {G : Cx} {n : Nat} {P : Int32 × Sg → Prop} {s0 : Sg} {a0 : Nat} {x1 : Int32} {x2 : Int32} {x3 : Int32} (h : Ok (mX10_ahead n s0 a0 x1 x2 x3) P) : BM G tX10_ahead 8 178 0 0 [.ref a0, .int x1, .int x2, .int x3] s0 (fun v s => ∃ r, v = some (.int r) ∧ P (r, s)) := by
  refine BM.of (by decide +kernel) (Nat.le_of_ble_eq_true rfl) ?_
  exact bX10_ahead (E := (({ frames := 8, cells := 0, slots := 0, locals := 178 }), Aof s0, 0, 0, (fun v s => ∃ r, v = some (.int r) ∧ P (r, s)))) ⟨Nat.le_refl _, Nat.le_refl _⟩ (fun r s hp => ⟨r, rfl, hp⟩) h
def mX10_areTwo (n : Nat) (s0 : Sg) (a0 : Nat) (x1 : Int32) (x2 : Int32) : Option (Int32 × Sg) :=
  (isO 10 s0 a0).bind fun _ =>
  (mX10_isWalk n s0 a0 x1).bind fun (v2, s1) =>
  if v2 = 0 then (
    some ((0 : Int32), s1)
  ) else (
    (mX10_isWalk n s1 a0 x2).bind fun (v5, s4) =>
    if v5 = 0 then (
      some ((0 : Int32), s4)
    ) else (
      if x1 = x2 then (
        some ((0 : Int32), s4)
      ) else (
        some ((1 : Int32), s4)
      )
    )
  )
theorem bX10_areTwo {G : Cx} {E : Ev} {n : Nat} (hRm : 2 ≤ E.1.frames ∧ 43 ≤ E.1.locals) {P : Int32 × Sg → Prop} (hQ : ∀ r s, P (r, s) → E.2.2.2.2 (some (.int r)) s) {s0 : Sg} {a0 : Nat} {x1 : Int32} {x2 : Int32} (h : Ok (mX10_areTwo n s0 a0 x1 x2) P) : BW G tX10_areTwo E 0 0 0 [(0, .ref a0), (1, .int x1), (2, .int x2)] [] s0 := by
  unfold mX10_areTwo at h
  obtain ⟨_, _, h⟩ := Ok.bind h
  refine BW.run [.aload_n 0, .iload_n 1] (pc' := 2) (lv' := [(0, .ref a0), (1, .int x1), (2, .int x2)]) (st' := [.int x1, .ref a0]) (by decide +kernel) rfl rfl ?_
  refine BW.callV (As := [.int x1]) (st := []) (by decide +kernel : decode tX10_areTwo.2.1 2 = .ok (.invokevirtual 171, 3)) (DX10_isWalk (Ok.bindK h)) mfX10_isWalk lkM_X10_171 imX10_isWalk selX10_isWalk ciX10 (oX10_isWalk (Ok.bindK h)).choose_spec rfl rfl (Nat.le_of_ble_eq_true rfl) ⟨Nat.le_trans (by decide) hRm.1, Nat.le_trans (by decide) hRm.2⟩ ⟨Nat.zero_le _, Nat.zero_le _⟩ ?_
  rintro _ s1 ⟨v2, rfl, h⟩
  show BW G tX10_areTwo E 0 0 5 [(0, .ref a0), (1, .int x1), (2, .int x2)] [.int v2] s1
  refine BW.if_eq 25 (by decide +kernel : decode tX10_areTwo.2.1 5 = .ok (.ifCond .eq 20, 3)) (by decide) (fun hc => ?_) (fun hc => ?_)
  · have h := (Ok.ite h).1 hc
    refine BW.run [.iconst 0] (pc' := 26) (lv' := [(0, .ref a0), (1, .int x1), (2, .int x2)]) (st' := [.int (0 : Int32)]) (by decide +kernel) rfl rfl ?_
    exact BW.zret (by decide +kernel : decode tX10_areTwo.2.1 26 = .ok (.ireturn, 1)) rfl (Or.inl rfl) (Nat.zero_le _) (Nat.zero_le _) (hQ _ _ (Ok.some h))
  · have h := (Ok.ite h).2 hc
    refine BW.run [.aload_n 0, .iload_n 2] (pc' := 10) (lv' := [(0, .ref a0), (1, .int x1), (2, .int x2)]) (st' := [.int x2, .ref a0]) (by decide +kernel) rfl rfl ?_
    refine BW.callV (As := [.int x2]) (st := []) (by decide +kernel : decode tX10_areTwo.2.1 10 = .ok (.invokevirtual 171, 3)) (DX10_isWalk (Ok.bindK h)) mfX10_isWalk lkM_X10_171 imX10_isWalk selX10_isWalk ciX10 (oX10_isWalk (Ok.bindK h)).choose_spec rfl rfl (Nat.le_of_ble_eq_true rfl) ⟨Nat.le_trans (by decide) hRm.1, Nat.le_trans (by decide) hRm.2⟩ ⟨Nat.zero_le _, Nat.zero_le _⟩ ?_
    rintro _ s4 ⟨v5, rfl, h⟩
    show BW G tX10_areTwo E 0 0 13 [(0, .ref a0), (1, .int x1), (2, .int x2)] [.int v5] s4
    refine BW.if_eq 25 (by decide +kernel : decode tX10_areTwo.2.1 13 = .ok (.ifCond .eq 12, 3)) (by decide) (fun hc => ?_) (fun hc => ?_)
    · have h := (Ok.ite h).1 hc
      refine BW.run [.iconst 0] (pc' := 26) (lv' := [(0, .ref a0), (1, .int x1), (2, .int x2)]) (st' := [.int (0 : Int32)]) (by decide +kernel) rfl rfl ?_
      exact BW.zret (by decide +kernel : decode tX10_areTwo.2.1 26 = .ok (.ireturn, 1)) rfl (Or.inl rfl) (Nat.zero_le _) (Nat.zero_le _) (hQ _ _ (Ok.some h))
    · have h := (Ok.ite h).2 hc
      refine BW.run [.iload_n 1, .iload_n 2] (pc' := 18) (lv' := [(0, .ref a0), (1, .int x1), (2, .int x2)]) (st' := [.int x2, .int x1]) (by decide +kernel) rfl rfl ?_
      refine BW.icmp_eq 25 (by decide +kernel : decode tX10_areTwo.2.1 18 = .ok (.if_icmp .eq 7, 3)) (by decide) (fun hc => ?_) (fun hc => ?_)
      · have h := (Ok.ite h).1 hc
        refine BW.run [.iconst 0] (pc' := 26) (lv' := [(0, .ref a0), (1, .int x1), (2, .int x2)]) (st' := [.int (0 : Int32)]) (by decide +kernel) rfl rfl ?_
        exact BW.zret (by decide +kernel : decode tX10_areTwo.2.1 26 = .ok (.ireturn, 1)) rfl (Or.inl rfl) (Nat.zero_le _) (Nat.zero_le _) (hQ _ _ (Ok.some h))
      · have h := (Ok.ite h).2 hc
        refine BW.run [.iconst 1] (pc' := 22) (lv' := [(0, .ref a0), (1, .int x1), (2, .int x2)]) (st' := [.int (1 : Int32)]) (by decide +kernel) rfl rfl ?_
        refine BW.goto 26 (by decide +kernel : decode tX10_areTwo.2.1 22 = .ok (.goto 4, 3)) (by decide) ?_
        exact BW.zret (by decide +kernel : decode tX10_areTwo.2.1 26 = .ok (.ireturn, 1)) rfl (Or.inr rfl) (Nat.zero_le _) (Nat.zero_le _) (hQ _ _ (Ok.some h))
theorem oX10_areTwo {n : Nat} {P : Int32 × Sg → Prop} {s0 : Sg} {a0 : Nat} {x1 : Int32} {x2 : Int32} (h : Ok (mX10_areTwo n s0 a0 x1 x2) P) : ∃ n0, s0.2.1 a0 = some (10, n0) := by
  unfold mX10_areTwo at h
  exact Ok.isO h
theorem DX10_areTwo {G : Cx} {n : Nat} {P : Int32 × Sg → Prop} {s0 : Sg} {a0 : Nat} {x1 : Int32} {x2 : Int32} (h : Ok (mX10_areTwo n s0 a0 x1 x2) P) : BM G tX10_areTwo 2 43 0 0 [.ref a0, .int x1, .int x2] s0 (fun v s => ∃ r, v = some (.int r) ∧ P (r, s)) := by
  refine BM.of (by decide +kernel) (Nat.le_of_ble_eq_true rfl) ?_
  exact bX10_areTwo (E := (({ frames := 2, cells := 0, slots := 0, locals := 43 }), Aof s0, 0, 0, (fun v s => ∃ r, v = some (.int r) ∧ P (r, s)))) ⟨Nat.le_refl _, Nat.le_refl _⟩ (fun r s hp => ⟨r, rfl, hp⟩) h
def mX10_bad_20 (n : Nat) (s0 : Sg) (t0 : Int32) (t1 : Nat) : Option (Sg) :=
  (pV 10 s0 t1 7 (.int t0)).bind fun s3 =>
  some s3
theorem bX10_bad_20 {G : Cx} {E : Ev} {n : Nat} (hRm : 0 ≤ E.1.frames ∧ 0 ≤ E.1.locals) {s0 : Sg} {t0 : Int32} {t1 : Nat} {P : Sg → Prop} (hQ : ∀ s, P s → E.2.2.2.2 none s) (h : Ok (mX10_bad_20 n s0 t0 t1) P) : BW G tX10_bad E 0 0 20 [] [.int t0, .ref t1] s0 := by
  unfold mX10_bad_20 at h
  obtain ⟨s3, es3, h⟩ := Ok.bind h
  refine BW.put (by decide +kernel : decode tX10_bad.2.1 20 = .ok (.putfield 104, 3)) ciX10 (k := 7) (by decide) lkF_X10_104 rfl rfl rfl es3 ?_
  exact BW.vret (by decide +kernel : decode tX10_bad.2.1 23 = .ok (.return_, 1)) rfl (Nat.zero_le _) (Nat.zero_le _) (hQ _ (Ok.some h))
def mX10_bad (n : Nat) (s0 : Sg) (a0 : Nat) : Option (Sg) :=
  (isO 10 s0 a0).bind fun _ =>
  (toI (gV 10 s0 a0 7)).bind fun v1 =>
  if v1 = (-1 : Int32) then (
    (toI (gV 10 s0 a0 6)).bind fun v4 =>
    mX10_bad_20 n s0 v4 a0
  ) else (
    (toI (gV 10 s0 a0 7)).bind fun v2 =>
    mX10_bad_20 n s0 v2 a0
  )
theorem bX10_bad {G : Cx} {E : Ev} {n : Nat} (hRm : 0 ≤ E.1.frames ∧ 0 ≤ E.1.locals) {P : Sg → Prop} (hQ : ∀ s, P s → E.2.2.2.2 none s) {s0 : Sg} {a0 : Nat} (h : Ok (mX10_bad n s0 a0) P) : BW G tX10_bad E 0 0 0 [(0, .ref a0)] [] s0 := by
  unfold mX10_bad at h
  obtain ⟨_, _, h⟩ := Ok.bind h
  refine BW.run [.aload_n 0, .aload_n 0] (pc' := 2) (lv' := [(0, .ref a0)]) (st' := [.ref a0, .ref a0]) (by decide +kernel) rfl rfl ?_
  obtain ⟨v1, ev1, h⟩ := Ok.bind h
  refine BW.get (by decide +kernel : decode tX10_bad.2.1 2 = .ok (.getfield 104, 3)) ciX10 (k := 7) (by decide) lkF_X10_104 (toI_V ev1) ?_
  refine BW.run [.iconst (-1)] (pc' := 6) (lv' := [(0, .ref a0)]) (st' := [.int (-1 : Int32), .int v1, .ref a0]) (by decide +kernel) rfl rfl ?_
  refine BW.icmp_ne 16 (by decide +kernel : decode tX10_bad.2.1 6 = .ok (.if_icmp .ne 10, 3)) (by decide) (fun hc => ?_) (fun hc => ?_)
  · have h := (Ok.ite h).2 hc
    refine BW.run [.aload_n 0] (pc' := 17) (lv' := [(0, .ref a0)]) (st' := [.ref a0, .ref a0]) (by decide +kernel) rfl rfl ?_
    obtain ⟨v2, ev2, h⟩ := Ok.bind h
    refine BW.get (by decide +kernel : decode tX10_bad.2.1 17 = .ok (.getfield 104, 3)) ciX10 (k := 7) (by decide) lkF_X10_104 (toI_V ev2) ?_
    refine BW.sub [] rfl ?_
    exact bX10_bad_20 hRm hQ h
  · have h := (Ok.ite h).1 hc
    refine BW.run [.aload_n 0] (pc' := 10) (lv' := [(0, .ref a0)]) (st' := [.ref a0, .ref a0]) (by decide +kernel) rfl rfl ?_
    obtain ⟨v4, ev4, h⟩ := Ok.bind h
    refine BW.get (by decide +kernel : decode tX10_bad.2.1 10 = .ok (.getfield 97, 3)) ciX10 (k := 6) (by decide) lkF_X10_97 (toI_V ev4) ?_
    refine BW.goto 20 (by decide +kernel : decode tX10_bad.2.1 13 = .ok (.goto 7, 3)) (by decide) ?_
    refine BW.sub [] rfl ?_
    exact bX10_bad_20 hRm hQ h
theorem oX10_bad {n : Nat} {P : Sg → Prop} {s0 : Sg} {a0 : Nat} (h : Ok (mX10_bad n s0 a0) P) : ∃ n0, s0.2.1 a0 = some (10, n0) := by
  unfold mX10_bad at h
  exact Ok.isO h
theorem DX10_bad {G : Cx} {n : Nat} {P : Sg → Prop} {s0 : Sg} {a0 : Nat} (h : Ok (mX10_bad n s0 a0) P) : BM G tX10_bad 0 0 0 0 [.ref a0] s0 (fun v s => v = none ∧ P s) := by
  refine BM.of (by decide +kernel) (Nat.le_of_ble_eq_true rfl) ?_
  exact bX10_bad (E := (({ frames := 0, cells := 0, slots := 0, locals := 0 }), Aof s0, 0, 0, (fun v s => v = none ∧ P s))) ⟨Nat.le_refl _, Nat.le_refl _⟩ (fun s hp => ⟨rfl, hp⟩) h
def mX10_bars_53 (n : Nat) (s0 : Sg) (a0 : Nat) (x1 : Int32) (x2 : Int32) : Option ((Sg × Int32) ⊕ ((Sg) ⊕ (Int32 × Sg))) :=
  some (.inl (s0, (x2 + (1 : Int32))))
theorem bX10_bars_53 {G : Cx} {E : Ev} {n : Nat} (hRm : 8 ≤ E.1.frames ∧ 178 ≤ E.1.locals) {s0 : Sg} {a0 : Nat} {x1 : Int32} {x2 : Int32} {P : (Sg × Int32) ⊕ ((Sg) ⊕ (Int32 × Sg)) → Prop} (hC : ∀ (s : Sg) (c2 : Int32), P (.inl (s, c2)) → BW G tX10_bars E 0 0 20 [(0, .ref a0), (1, .int x1), (2, .int c2)] [] s) (hE : ∀ (s : Sg), P (.inr (.inl s)) → BW G tX10_bars E 0 0 59 [] [] s) (hQ : ∀ r s, P (.inr (.inr (r, s))) → E.2.2.2.2 (some (.int r)) s)  (h : Ok (mX10_bars_53 n s0 a0 x1 x2) P) : BW G tX10_bars E 0 0 53 [(0, .ref a0), (1, .int x1), (2, .int x2)] [] s0 := by
  unfold mX10_bars_53 at h
  refine BW.run [.iinc 2 1] (pc' := 56) (lv' := [(0, .ref a0), (1, .int x1), (2, .int (x2 + (1 : Int32)))]) (st' := []) (by decide +kernel) rfl rfl ?_
  refine BW.goto 20 (by decide +kernel : decode tX10_bars.2.1 56 = .ok (.goto (-36), 3)) (by decide) ?_
  exact hC _ _ (Ok.some h)
def mX10_bars_L20 (n : Nat) (a0 : Nat) (x1 : Int32) : (Sg × Int32) → Option ((Sg × Int32) ⊕ ((Sg) ⊕ (Int32 × Sg)))
  | (s0, x2) =>
    (toI (gV 10 s0 a0 27)).bind fun v7 =>
    if v7 ≤ x2 then (
      some (.inr (.inl s0))
    ) else (
      if ((x1 >>> (x2 &&& 31)) &&& (1 : Int32)) = (1 : Int32) then (
        (mX10_canBe n s0 a0 (x1 &&& (((2 : Int32) <<< (x2 &&& 31)) - (1 : Int32)))).bind fun (v9, s8) =>
        if v9 = 0 then (
          some (.inr (.inr (x2, s8)))
        ) else (
          mX10_bars_53 n s8 a0 x1 x2
        )
      ) else (
        mX10_bars_53 n s0 a0 x1 x2
      )
    )
theorem bX10_bars_L20 {G : Cx} {E : Ev} {n : Nat} (hRm : 8 ≤ E.1.frames ∧ 178 ≤ E.1.locals) {a0 : Nat} {x1 : Int32} {P : (Sg × Int32) ⊕ ((Sg) ⊕ (Int32 × Sg)) → Prop} (hC : ∀ (s : Sg) (c2 : Int32), P (.inl (s, c2)) → BW G tX10_bars E 0 0 20 [(0, .ref a0), (1, .int x1), (2, .int c2)] [] s) (hE : ∀ (s : Sg), P (.inr (.inl s)) → BW G tX10_bars E 0 0 59 [] [] s) (hQ : ∀ r s, P (.inr (.inr (r, s))) → E.2.2.2.2 (some (.int r)) s) {s0 : Sg} {x2 : Int32} (h : Ok (mX10_bars_L20 n a0 x1 (s0, x2)) P) : BW G tX10_bars E 0 0 20 [(0, .ref a0), (1, .int x1), (2, .int x2)] [] s0 := by
  unfold mX10_bars_L20 at h
  refine BW.run [.iload_n 2, .aload_n 0] (pc' := 22) (lv' := [(0, .ref a0), (1, .int x1), (2, .int x2)]) (st' := [.ref a0, .int x2]) (by decide +kernel) rfl rfl ?_
  obtain ⟨v7, ev7, h⟩ := Ok.bind h
  refine BW.get (by decide +kernel : decode tX10_bars.2.1 22 = .ok (.getfield 194, 3)) ciX10 (k := 27) (by decide) lkF_X10_194 (toI_V ev7) ?_
  refine BW.icmp_ge 59 (by decide +kernel : decode tX10_bars.2.1 25 = .ok (.if_icmp .ge 34, 3)) (by decide) (fun hc => ?_) (fun hc => ?_)
  · have h := (Ok.ite h).1 hc
    refine BW.sub [] rfl ?_
    exact hE _ (Ok.some h)
  · have h := (Ok.ite h).2 hc
    refine BW.run [.iload_n 1, .iload_n 2, .ishr, .iconst 1, .iand, .iconst 1] (pc' := 34) (lv' := [(0, .ref a0), (1, .int x1), (2, .int x2)]) (st' := [.int (1 : Int32), .int ((x1 >>> (x2 &&& 31)) &&& (1 : Int32))]) (by decide +kernel) rfl rfl ?_
    refine BW.icmp_ne 53 (by decide +kernel : decode tX10_bars.2.1 34 = .ok (.if_icmp .ne 19, 3)) (by decide) (fun hc => ?_) (fun hc => ?_)
    · have h := (Ok.ite h).2 hc
      exact bX10_bars_53 hRm hC hE hQ h
    · have h := (Ok.ite h).1 hc
      refine BW.run [.aload_n 0, .iload_n 1, .iconst 2, .iload_n 2, .ishl, .iconst 1, .isub, .iand] (pc' := 45) (lv' := [(0, .ref a0), (1, .int x1), (2, .int x2)]) (st' := [.int (x1 &&& (((2 : Int32) <<< (x2 &&& 31)) - (1 : Int32))), .ref a0]) (by decide +kernel) rfl rfl ?_
      refine BW.callV (As := [.int (x1 &&& (((2 : Int32) <<< (x2 &&& 31)) - (1 : Int32)))]) (st := []) (by decide +kernel : decode tX10_bars.2.1 45 = .ok (.invokevirtual 224, 3)) (DX10_canBe (Ok.bindK h)) mfX10_canBe lkM_X10_224 imX10_canBe selX10_canBe ciX10 (oX10_canBe (Ok.bindK h)).choose_spec rfl rfl (Nat.le_of_ble_eq_true rfl) ⟨Nat.le_trans (by decide) hRm.1, Nat.le_trans (by decide) hRm.2⟩ ⟨Nat.zero_le _, Nat.zero_le _⟩ ?_
      rintro _ s8 ⟨v9, rfl, h⟩
      show BW G tX10_bars E 0 0 48 [(0, .ref a0), (1, .int x1), (2, .int x2)] [.int v9] s8
      refine BW.if_ne 53 (by decide +kernel : decode tX10_bars.2.1 48 = .ok (.ifCond .ne 5, 3)) (by decide) (fun hc => ?_) (fun hc => ?_)
      · have h := (Ok.ite h).2 hc
        exact bX10_bars_53 hRm hC hE hQ h
      · have h := (Ok.ite h).1 hc
        refine BW.run [.iload_n 2] (pc' := 52) (lv' := [(0, .ref a0), (1, .int x1), (2, .int x2)]) (st' := [.int x2]) (by decide +kernel) rfl rfl ?_
        exact BW.iret (by decide +kernel : decode tX10_bars.2.1 52 = .ok (.ireturn, 1)) rfl (Nat.zero_le _) (Nat.zero_le _) (hQ _ _ (Ok.some h))
theorem bX10_bars_W20 {G : Cx} {E : Ev} {n : Nat} (hRm : 8 ≤ E.1.frames ∧ 178 ≤ E.1.locals) {a0 : Nat} {x1 : Int32} {K : ((Sg) ⊕ (Int32 × Sg)) → Prop} (hE : ∀ (s : Sg), K (.inl s) → BW G tX10_bars E 0 0 59 [] [] s) (hQ : ∀ r s, K (.inr (r, s)) → E.2.2.2.2 (some (.int r)) s) : ∀ (f : Nat) (c : Sg × Int32), Ok (loopM (mX10_bars_L20 n a0 x1) f c) K → match c with | (s0, x2) => BW G tX10_bars E 0 0 20 [(0, .ref a0), (1, .int x1), (2, .int x2)] [] s0 := by
  intro f
  induction f with
  | zero => intro c h; exact (Ok.no h).elim
  | succ f ih =>
    intro c h
    obtain ⟨s0, x2⟩ := c
    exact bX10_bars_L20 (P := loopP (mX10_bars_L20 n a0 x1) f K) hRm (fun s c2 h => ih (s, c2) h) hE hQ (loopM_ok h)
def mX10_bars (n : Nat) (s0 : Sg) (a0 : Nat) (x1 : Int32) : Option (Int32 × Sg) :=
  (isO 10 s0 a0).bind fun _ =>
  (mX10_isSet n s0 a0 x1).bind fun (v2, s1) =>
  if v2 = 0 then (
    some ((-1 : Int32), s1)
  ) else (
    (mX10_canBe n s1 a0 x1).bind fun (v5, s4) =>
    if v5 = 0 then (
      (loopM (mX10_bars_L20 n a0 x1) n (s4, (0 : Int32))).bind fun q12 => match q12 with
      | .inl s11 => (
        some ((-1 : Int32), s11)
      )
      | .inr (r, s) => some (r, s)
    ) else (
      some ((-1 : Int32), s4)
    )
  )
theorem bX10_bars {G : Cx} {E : Ev} {n : Nat} (hRm : 8 ≤ E.1.frames ∧ 178 ≤ E.1.locals) {P : Int32 × Sg → Prop} (hQ : ∀ r s, P (r, s) → E.2.2.2.2 (some (.int r)) s) {s0 : Sg} {a0 : Nat} {x1 : Int32} (h : Ok (mX10_bars n s0 a0 x1) P) : BW G tX10_bars E 0 0 0 [(0, .ref a0), (1, .int x1)] [] s0 := by
  unfold mX10_bars at h
  obtain ⟨_, _, h⟩ := Ok.bind h
  refine BW.run [.aload_n 0, .iload_n 1] (pc' := 2) (lv' := [(0, .ref a0), (1, .int x1)]) (st' := [.int x1, .ref a0]) (by decide +kernel) rfl rfl ?_
  refine BW.callV (As := [.int x1]) (st := []) (by decide +kernel : decode tX10_bars.2.1 2 = .ok (.invokevirtual 221, 3)) (DX10_isSet (Ok.bindK h)) mfX10_isSet lkM_X10_221 imX10_isSet selX10_isSet ciX10 (oX10_isSet (Ok.bindK h)).choose_spec rfl rfl (Nat.le_of_ble_eq_true rfl) ⟨Nat.le_trans (by decide) hRm.1, Nat.le_trans (by decide) hRm.2⟩ ⟨Nat.zero_le _, Nat.zero_le _⟩ ?_
  rintro _ s1 ⟨v2, rfl, h⟩
  show BW G tX10_bars E 0 0 5 [(0, .ref a0), (1, .int x1)] [.int v2] s1
  refine BW.if_eq 16 (by decide +kernel : decode tX10_bars.2.1 5 = .ok (.ifCond .eq 11, 3)) (by decide) (fun hc => ?_) (fun hc => ?_)
  · have h := (Ok.ite h).1 hc
    refine BW.run [.iconst (-1)] (pc' := 17) (lv' := [(0, .ref a0), (1, .int x1)]) (st' := [.int (-1 : Int32)]) (by decide +kernel) rfl rfl ?_
    exact BW.iret (by decide +kernel : decode tX10_bars.2.1 17 = .ok (.ireturn, 1)) rfl (Nat.zero_le _) (Nat.zero_le _) (hQ _ _ (Ok.some h))
  · have h := (Ok.ite h).2 hc
    refine BW.run [.aload_n 0, .iload_n 1] (pc' := 10) (lv' := [(0, .ref a0), (1, .int x1)]) (st' := [.int x1, .ref a0]) (by decide +kernel) rfl rfl ?_
    refine BW.callV (As := [.int x1]) (st := []) (by decide +kernel : decode tX10_bars.2.1 10 = .ok (.invokevirtual 224, 3)) (DX10_canBe (Ok.bindK h)) mfX10_canBe lkM_X10_224 imX10_canBe selX10_canBe ciX10 (oX10_canBe (Ok.bindK h)).choose_spec rfl rfl (Nat.le_of_ble_eq_true rfl) ⟨Nat.le_trans (by decide) hRm.1, Nat.le_trans (by decide) hRm.2⟩ ⟨Nat.zero_le _, Nat.zero_le _⟩ ?_
    rintro _ s4 ⟨v5, rfl, h⟩
    show BW G tX10_bars E 0 0 13 [(0, .ref a0), (1, .int x1)] [.int v5] s4
    refine BW.if_eq 18 (by decide +kernel : decode tX10_bars.2.1 13 = .ok (.ifCond .eq 5, 3)) (by decide) (fun hc => ?_) (fun hc => ?_)
    · have h := (Ok.ite h).1 hc
      refine BW.run [.iconst 0, .istore_n 2] (pc' := 20) (lv' := [(0, .ref a0), (1, .int x1), (2, .int (0 : Int32))]) (st' := []) (by decide +kernel) rfl rfl ?_
      refine bX10_bars_W20 hRm (a0 := a0) (x1 := x1) (fun s11 h => ?_) (fun r s h => ?_) n (s4, (0 : Int32)) (Ok.bindK h)
      · refine BW.run [.iconst (-1)] (pc' := 60) (lv' := []) (st' := [.int (-1 : Int32)]) (by decide +kernel) rfl rfl ?_
        exact BW.iret (by decide +kernel : decode tX10_bars.2.1 60 = .ok (.ireturn, 1)) rfl (Nat.zero_le _) (Nat.zero_le _) (hQ _ _ (Ok.some h))
      · exact hQ r s (Ok.some h)
    · have h := (Ok.ite h).2 hc
      refine BW.run [.iconst (-1)] (pc' := 17) (lv' := [(0, .ref a0), (1, .int x1)]) (st' := [.int (-1 : Int32)]) (by decide +kernel) rfl rfl ?_
      exact BW.iret (by decide +kernel : decode tX10_bars.2.1 17 = .ok (.ireturn, 1)) rfl (Nat.zero_le _) (Nat.zero_le _) (hQ _ _ (Ok.some h))
theorem oX10_bars {n : Nat} {P : Int32 × Sg → Prop} {s0 : Sg} {a0 : Nat} {x1 : Int32} (h : Ok (mX10_bars n s0 a0 x1) P) : ∃ n0, s0.2.1 a0 = some (10, n0) := by
  unfold mX10_bars at h
  exact Ok.isO h
theorem DX10_bars {G : Cx} {n : Nat} {P : Int32 × Sg → Prop} {s0 : Sg} {a0 : Nat} {x1 : Int32} (h : Ok (mX10_bars n s0 a0 x1) P) : BM G tX10_bars 8 178 0 0 [.ref a0, .int x1] s0 (fun v s => ∃ r, v = some (.int r) ∧ P (r, s)) := by
  refine BM.of (by decide +kernel) (Nat.le_of_ble_eq_true rfl) ?_
  exact bX10_bars (E := (({ frames := 8, cells := 0, slots := 0, locals := 178 }), Aof s0, 0, 0, (fun v s => ∃ r, v = some (.int r) ∧ P (r, s)))) ⟨Nat.le_refl _, Nat.le_refl _⟩ (fun r s hp => ⟨r, rfl, hp⟩) h
def mX10_high (n : Nat) (s0 : Sg) (a0 : Nat) (x1 : Int32) : Option (Int32 × Sg) :=
  (isO 10 s0 a0).bind fun _ =>
  (toR (gV 10 s0 a0 28)).bind fun b1 =>
  (toI (aV 11 s0 b1 (((9 : Int32) * x1) + (8 : Int32)))).bind fun v2 =>
  some ((-v2), s0)
theorem bX10_high {G : Cx} {E : Ev} {n : Nat} (hRm : 0 ≤ E.1.frames ∧ 0 ≤ E.1.locals) {P : Int32 × Sg → Prop} (hQ : ∀ r s, P (r, s) → E.2.2.2.2 (some (.int r)) s) {s0 : Sg} {a0 : Nat} {x1 : Int32} (h : Ok (mX10_high n s0 a0 x1) P) : BW G tX10_high E 0 0 0 [(0, .ref a0), (1, .int x1)] [] s0 := by
  unfold mX10_high at h
  obtain ⟨_, _, h⟩ := Ok.bind h
  refine BW.run [.aload_n 0] (pc' := 1) (lv' := [(0, .ref a0), (1, .int x1)]) (st' := [.ref a0]) (by decide +kernel) rfl rfl ?_
  obtain ⟨b1, eb1, h⟩ := Ok.bind h
  refine BW.get (by decide +kernel : decode tX10_high.2.1 1 = .ok (.getfield 61, 3)) ciX10 (k := 28) (by decide) lkF_X10_61 (toR_V eb1) ?_
  refine BW.run [.bipush 9, .iload_n 1, .imul, .bipush 8, .iadd] (pc' := 11) (lv' := [(0, .ref a0), (1, .int x1)]) (st' := [.int (((9 : Int32) * x1) + (8 : Int32)), .ref b1]) (by decide +kernel) rfl rfl ?_
  obtain ⟨v2, ev2, h⟩ := Ok.bind h
  refine BW.iald (by decide +kernel : decode tX10_high.2.1 11 = .ok (.iaload, 1)) (toI_V ev2) ?_
  refine BW.run [.ineg] (pc' := 13) (lv' := [(0, .ref a0), (1, .int x1)]) (st' := [.int (-v2)]) (by decide +kernel) rfl rfl ?_
  exact BW.iret (by decide +kernel : decode tX10_high.2.1 13 = .ok (.ireturn, 1)) rfl (Nat.zero_le _) (Nat.zero_le _) (hQ _ _ (Ok.some h))
theorem oX10_high {n : Nat} {P : Int32 × Sg → Prop} {s0 : Sg} {a0 : Nat} {x1 : Int32} (h : Ok (mX10_high n s0 a0 x1) P) : ∃ n0, s0.2.1 a0 = some (10, n0) := by
  unfold mX10_high at h
  exact Ok.isO h
theorem DX10_high {G : Cx} {n : Nat} {P : Int32 × Sg → Prop} {s0 : Sg} {a0 : Nat} {x1 : Int32} (h : Ok (mX10_high n s0 a0 x1) P) : BM G tX10_high 0 0 0 0 [.ref a0, .int x1] s0 (fun v s => ∃ r, v = some (.int r) ∧ P (r, s)) := by
  refine BM.of (by decide +kernel) (Nat.le_of_ble_eq_true rfl) ?_
  exact bX10_high (E := (({ frames := 0, cells := 0, slots := 0, locals := 0 }), Aof s0, 0, 0, (fun v s => ∃ r, v = some (.int r) ∧ P (r, s)))) ⟨Nat.le_refl _, Nat.le_refl _⟩ (fun r s hp => ⟨r, rfl, hp⟩) h
def mX10_low (n : Nat) (s0 : Sg) (a0 : Nat) (x1 : Int32) : Option (Int32 × Sg) :=
  (isO 10 s0 a0).bind fun _ =>
  (toR (gV 10 s0 a0 28)).bind fun b1 =>
  (toI (aV 11 s0 b1 ((72 : Int32) + x1))).bind fun v2 =>
  some (v2, s0)
theorem bX10_low {G : Cx} {E : Ev} {n : Nat} (hRm : 0 ≤ E.1.frames ∧ 0 ≤ E.1.locals) {P : Int32 × Sg → Prop} (hQ : ∀ r s, P (r, s) → E.2.2.2.2 (some (.int r)) s) {s0 : Sg} {a0 : Nat} {x1 : Int32} (h : Ok (mX10_low n s0 a0 x1) P) : BW G tX10_low E 0 0 0 [(0, .ref a0), (1, .int x1)] [] s0 := by
  unfold mX10_low at h
  obtain ⟨_, _, h⟩ := Ok.bind h
  refine BW.run [.aload_n 0] (pc' := 1) (lv' := [(0, .ref a0), (1, .int x1)]) (st' := [.ref a0]) (by decide +kernel) rfl rfl ?_
  obtain ⟨b1, eb1, h⟩ := Ok.bind h
  refine BW.get (by decide +kernel : decode tX10_low.2.1 1 = .ok (.getfield 61, 3)) ciX10 (k := 28) (by decide) lkF_X10_61 (toR_V eb1) ?_
  refine BW.run [.bipush 72, .iload_n 1, .iadd] (pc' := 8) (lv' := [(0, .ref a0), (1, .int x1)]) (st' := [.int ((72 : Int32) + x1), .ref b1]) (by decide +kernel) rfl rfl ?_
  obtain ⟨v2, ev2, h⟩ := Ok.bind h
  refine BW.iald (by decide +kernel : decode tX10_low.2.1 8 = .ok (.iaload, 1)) (toI_V ev2) ?_
  exact BW.iret (by decide +kernel : decode tX10_low.2.1 9 = .ok (.ireturn, 1)) rfl (Nat.zero_le _) (Nat.zero_le _) (hQ _ _ (Ok.some h))
theorem oX10_low {n : Nat} {P : Int32 × Sg → Prop} {s0 : Sg} {a0 : Nat} {x1 : Int32} (h : Ok (mX10_low n s0 a0 x1) P) : ∃ n0, s0.2.1 a0 = some (10, n0) := by
  unfold mX10_low at h
  exact Ok.isO h
theorem DX10_low {G : Cx} {n : Nat} {P : Int32 × Sg → Prop} {s0 : Sg} {a0 : Nat} {x1 : Int32} (h : Ok (mX10_low n s0 a0 x1) P) : BM G tX10_low 0 0 0 0 [.ref a0, .int x1] s0 (fun v s => ∃ r, v = some (.int r) ∧ P (r, s)) := by
  refine BM.of (by decide +kernel) (Nat.le_of_ble_eq_true rfl) ?_
  exact bX10_low (E := (({ frames := 0, cells := 0, slots := 0, locals := 0 }), Aof s0, 0, 0, (fun v s => ∃ r, v = some (.int r) ∧ P (r, s)))) ⟨Nat.le_refl _, Nat.le_refl _⟩ (fun r s hp => ⟨r, rfl, hp⟩) h
def mX10_begins (n : Nat) (s0 : Sg) (a0 : Nat) (x1 : Int32) (x2 : Int32) (x3 : Int32) : Option (Int32 × Sg) :=
  (isO 10 s0 a0).bind fun _ =>
  (mX10_isSet n s0 a0 x1).bind fun (v2, s1) =>
  if v2 = 0 then (
    some ((-1 : Int32), s1)
  ) else (
    (mX10_isWalk n s1 a0 x2).bind fun (v5, s4) =>
    if v5 = 0 then (
      some ((-1 : Int32), s4)
    ) else (
      (mX10_in n s4 x3 (0 : Int32) (1 : Int32)).bind fun (v8, s7) =>
      if v8 = 0 then (
        some ((-1 : Int32), s7)
      ) else (
        (mX10_canBe n s7 a0 x1).bind fun (v11, s10) =>
        if v11 = 0 then (
          some ((-1 : Int32), s10)
        ) else (
          if x3 = 0 then (
            (mX10_low n s10 a0 x2).bind fun (v17, s16) =>
            some (v17, s16)
          ) else (
            (mX10_high n s10 a0 x2).bind fun (v14, s13) =>
            some (v14, s13)
          )
        )
      )
    )
  )
theorem bX10_begins {G : Cx} {E : Ev} {n : Nat} (hRm : 8 ≤ E.1.frames ∧ 178 ≤ E.1.locals) {P : Int32 × Sg → Prop} (hQ : ∀ r s, P (r, s) → E.2.2.2.2 (some (.int r)) s) {s0 : Sg} {a0 : Nat} {x1 : Int32} {x2 : Int32} {x3 : Int32} (h : Ok (mX10_begins n s0 a0 x1 x2 x3) P) : BW G tX10_begins E 0 0 0 [(0, .ref a0), (1, .int x1), (2, .int x2), (3, .int x3)] [] s0 := by
  unfold mX10_begins at h
  obtain ⟨_, _, h⟩ := Ok.bind h
  refine BW.run [.aload_n 0, .iload_n 1] (pc' := 2) (lv' := [(0, .ref a0), (1, .int x1), (2, .int x2), (3, .int x3)]) (st' := [.int x1, .ref a0]) (by decide +kernel) rfl rfl ?_
  refine BW.callV (As := [.int x1]) (st := []) (by decide +kernel : decode tX10_begins.2.1 2 = .ok (.invokevirtual 221, 3)) (DX10_isSet (Ok.bindK h)) mfX10_isSet lkM_X10_221 imX10_isSet selX10_isSet ciX10 (oX10_isSet (Ok.bindK h)).choose_spec rfl rfl (Nat.le_of_ble_eq_true rfl) ⟨Nat.le_trans (by decide) hRm.1, Nat.le_trans (by decide) hRm.2⟩ ⟨Nat.zero_le _, Nat.zero_le _⟩ ?_
  rintro _ s1 ⟨v2, rfl, h⟩
  show BW G tX10_begins E 0 0 5 [(0, .ref a0), (1, .int x1), (2, .int x2), (3, .int x3)] [.int v2] s1
  refine BW.if_eq 53 (by decide +kernel : decode tX10_begins.2.1 5 = .ok (.ifCond .eq 48, 3)) (by decide) (fun hc => ?_) (fun hc => ?_)
  · have h := (Ok.ite h).1 hc
    refine BW.run [.iconst (-1)] (pc' := 54) (lv' := [(0, .ref a0), (1, .int x1), (2, .int x2), (3, .int x3)]) (st' := [.int (-1 : Int32)]) (by decide +kernel) rfl rfl ?_
    exact BW.iret (by decide +kernel : decode tX10_begins.2.1 54 = .ok (.ireturn, 1)) rfl (Nat.zero_le _) (Nat.zero_le _) (hQ _ _ (Ok.some h))
  · have h := (Ok.ite h).2 hc
    refine BW.run [.aload_n 0, .iload_n 2] (pc' := 10) (lv' := [(0, .ref a0), (1, .int x1), (2, .int x2), (3, .int x3)]) (st' := [.int x2, .ref a0]) (by decide +kernel) rfl rfl ?_
    refine BW.callV (As := [.int x2]) (st := []) (by decide +kernel : decode tX10_begins.2.1 10 = .ok (.invokevirtual 171, 3)) (DX10_isWalk (Ok.bindK h)) mfX10_isWalk lkM_X10_171 imX10_isWalk selX10_isWalk ciX10 (oX10_isWalk (Ok.bindK h)).choose_spec rfl rfl (Nat.le_of_ble_eq_true rfl) ⟨Nat.le_trans (by decide) hRm.1, Nat.le_trans (by decide) hRm.2⟩ ⟨Nat.zero_le _, Nat.zero_le _⟩ ?_
    rintro _ s4 ⟨v5, rfl, h⟩
    show BW G tX10_begins E 0 0 13 [(0, .ref a0), (1, .int x1), (2, .int x2), (3, .int x3)] [.int v5] s4
    refine BW.if_eq 53 (by decide +kernel : decode tX10_begins.2.1 13 = .ok (.ifCond .eq 40, 3)) (by decide) (fun hc => ?_) (fun hc => ?_)
    · have h := (Ok.ite h).1 hc
      refine BW.run [.iconst (-1)] (pc' := 54) (lv' := [(0, .ref a0), (1, .int x1), (2, .int x2), (3, .int x3)]) (st' := [.int (-1 : Int32)]) (by decide +kernel) rfl rfl ?_
      exact BW.iret (by decide +kernel : decode tX10_begins.2.1 54 = .ok (.ireturn, 1)) rfl (Nat.zero_le _) (Nat.zero_le _) (hQ _ _ (Ok.some h))
    · have h := (Ok.ite h).2 hc
      refine BW.run [.iload_n 3, .iconst 0, .iconst 1] (pc' := 19) (lv' := [(0, .ref a0), (1, .int x1), (2, .int x2), (3, .int x3)]) (st' := [.int (1 : Int32), .int (0 : Int32), .int x3]) (by decide +kernel) rfl rfl ?_
      refine BW.callS (As := [.int x3, .int (0 : Int32), .int (1 : Int32)]) (st := []) (by decide +kernel : decode tX10_begins.2.1 19 = .ok (.invokestatic 147, 3)) (DX10_in (Ok.bindK h)) mfX10_in lkM_X10_147 smX10_in rfl rfl (Nat.le_of_ble_eq_true rfl) ⟨Nat.le_trans (by decide) hRm.1, Nat.le_trans (by decide) hRm.2⟩ ⟨Nat.zero_le _, Nat.zero_le _⟩ ?_
      rintro _ s7 ⟨v8, rfl, h⟩
      show BW G tX10_begins E 0 0 22 [(0, .ref a0), (1, .int x1), (2, .int x2), (3, .int x3)] [.int v8] s7
      refine BW.if_eq 53 (by decide +kernel : decode tX10_begins.2.1 22 = .ok (.ifCond .eq 31, 3)) (by decide) (fun hc => ?_) (fun hc => ?_)
      · have h := (Ok.ite h).1 hc
        refine BW.run [.iconst (-1)] (pc' := 54) (lv' := [(0, .ref a0), (1, .int x1), (2, .int x2), (3, .int x3)]) (st' := [.int (-1 : Int32)]) (by decide +kernel) rfl rfl ?_
        exact BW.iret (by decide +kernel : decode tX10_begins.2.1 54 = .ok (.ireturn, 1)) rfl (Nat.zero_le _) (Nat.zero_le _) (hQ _ _ (Ok.some h))
      · have h := (Ok.ite h).2 hc
        refine BW.run [.aload_n 0, .iload_n 1] (pc' := 27) (lv' := [(0, .ref a0), (1, .int x1), (2, .int x2), (3, .int x3)]) (st' := [.int x1, .ref a0]) (by decide +kernel) rfl rfl ?_
        refine BW.callV (As := [.int x1]) (st := []) (by decide +kernel : decode tX10_begins.2.1 27 = .ok (.invokevirtual 224, 3)) (DX10_canBe (Ok.bindK h)) mfX10_canBe lkM_X10_224 imX10_canBe selX10_canBe ciX10 (oX10_canBe (Ok.bindK h)).choose_spec rfl rfl (Nat.le_of_ble_eq_true rfl) ⟨Nat.le_trans (by decide) hRm.1, Nat.le_trans (by decide) hRm.2⟩ ⟨Nat.zero_le _, Nat.zero_le _⟩ ?_
        rintro _ s10 ⟨v11, rfl, h⟩
        show BW G tX10_begins E 0 0 30 [(0, .ref a0), (1, .int x1), (2, .int x2), (3, .int x3)] [.int v11] s10
        refine BW.if_eq 53 (by decide +kernel : decode tX10_begins.2.1 30 = .ok (.ifCond .eq 23, 3)) (by decide) (fun hc => ?_) (fun hc => ?_)
        · have h := (Ok.ite h).1 hc
          refine BW.run [.iconst (-1)] (pc' := 54) (lv' := [(0, .ref a0), (1, .int x1), (2, .int x2), (3, .int x3)]) (st' := [.int (-1 : Int32)]) (by decide +kernel) rfl rfl ?_
          exact BW.iret (by decide +kernel : decode tX10_begins.2.1 54 = .ok (.ireturn, 1)) rfl (Nat.zero_le _) (Nat.zero_le _) (hQ _ _ (Ok.some h))
        · have h := (Ok.ite h).2 hc
          refine BW.run [.iload_n 3] (pc' := 34) (lv' := [(0, .ref a0), (1, .int x1), (2, .int x2), (3, .int x3)]) (st' := [.int x3]) (by decide +kernel) rfl rfl ?_
          refine BW.if_ne 45 (by decide +kernel : decode tX10_begins.2.1 34 = .ok (.ifCond .ne 11, 3)) (by decide) (fun hc => ?_) (fun hc => ?_)
          · have h := (Ok.ite h).2 hc
            refine BW.run [.aload_n 0, .iload_n 2] (pc' := 47) (lv' := [(0, .ref a0), (1, .int x1), (2, .int x2), (3, .int x3)]) (st' := [.int x2, .ref a0]) (by decide +kernel) rfl rfl ?_
            refine BW.callV (As := [.int x2]) (st := []) (by decide +kernel : decode tX10_begins.2.1 47 = .ok (.invokevirtual 238, 3)) (DX10_high (Ok.bindK h)) mfX10_high lkM_X10_238 imX10_high selX10_high ciX10 (oX10_high (Ok.bindK h)).choose_spec rfl rfl (Nat.le_of_ble_eq_true rfl) ⟨Nat.le_trans (by decide) hRm.1, Nat.le_trans (by decide) hRm.2⟩ ⟨Nat.zero_le _, Nat.zero_le _⟩ ?_
            rintro _ s13 ⟨v14, rfl, h⟩
            show BW G tX10_begins E 0 0 50 [(0, .ref a0), (1, .int x1), (2, .int x2), (3, .int x3)] [.int v14] s13
            refine BW.goto 54 (by decide +kernel : decode tX10_begins.2.1 50 = .ok (.goto 4, 3)) (by decide) ?_
            exact BW.iret (by decide +kernel : decode tX10_begins.2.1 54 = .ok (.ireturn, 1)) rfl (Nat.zero_le _) (Nat.zero_le _) (hQ _ _ (Ok.some h))
          · have h := (Ok.ite h).1 hc
            refine BW.run [.aload_n 0, .iload_n 2] (pc' := 39) (lv' := [(0, .ref a0), (1, .int x1), (2, .int x2), (3, .int x3)]) (st' := [.int x2, .ref a0]) (by decide +kernel) rfl rfl ?_
            refine BW.callV (As := [.int x2]) (st := []) (by decide +kernel : decode tX10_begins.2.1 39 = .ok (.invokevirtual 235, 3)) (DX10_low (Ok.bindK h)) mfX10_low lkM_X10_235 imX10_low selX10_low ciX10 (oX10_low (Ok.bindK h)).choose_spec rfl rfl (Nat.le_of_ble_eq_true rfl) ⟨Nat.le_trans (by decide) hRm.1, Nat.le_trans (by decide) hRm.2⟩ ⟨Nat.zero_le _, Nat.zero_le _⟩ ?_
            rintro _ s16 ⟨v17, rfl, h⟩
            show BW G tX10_begins E 0 0 42 [(0, .ref a0), (1, .int x1), (2, .int x2), (3, .int x3)] [.int v17] s16
            refine BW.goto 54 (by decide +kernel : decode tX10_begins.2.1 42 = .ok (.goto 12, 3)) (by decide) ?_
            exact BW.iret (by decide +kernel : decode tX10_begins.2.1 54 = .ok (.ireturn, 1)) rfl (Nat.zero_le _) (Nat.zero_le _) (hQ _ _ (Ok.some h))
theorem oX10_begins {n : Nat} {P : Int32 × Sg → Prop} {s0 : Sg} {a0 : Nat} {x1 : Int32} {x2 : Int32} {x3 : Int32} (h : Ok (mX10_begins n s0 a0 x1 x2 x3) P) : ∃ n0, s0.2.1 a0 = some (10, n0) := by
  unfold mX10_begins at h
  exact Ok.isO h
theorem DX10_begins {G : Cx} {n : Nat} {P : Int32 × Sg → Prop} {s0 : Sg} {a0 : Nat} {x1 : Int32} {x2 : Int32} {x3 : Int32} (h : Ok (mX10_begins n s0 a0 x1 x2 x3) P) : BM G tX10_begins 8 178 0 0 [.ref a0, .int x1, .int x2, .int x3] s0 (fun v s => ∃ r, v = some (.int r) ∧ P (r, s)) := by
  refine BM.of (by decide +kernel) (Nat.le_of_ble_eq_true rfl) ?_
  exact bX10_begins (E := (({ frames := 8, cells := 0, slots := 0, locals := 178 }), Aof s0, 0, 0, (fun v s => ∃ r, v = some (.int r) ∧ P (r, s)))) ⟨Nat.le_refl _, Nat.le_refl _⟩ (fun r s hp => ⟨r, rfl, hp⟩) h
def mX10_byteOf_45 (n : Nat) (s0 : Sg) (t0 : Int32) (x5 : Int32) : Option (Int32 × Sg) :=
  some (((t0 >>> (((24 : Int32) - ((8 : Int32) * (x5 - x5 / (4 : Int32) * (4 : Int32)))) &&& 31)) &&& (255 : Int32)), s0)
theorem bX10_byteOf_45 {G : Cx} {E : Ev} {n : Nat} (hRm : 0 ≤ E.1.frames ∧ 0 ≤ E.1.locals) {s0 : Sg} {t0 : Int32} {x5 : Int32} {P : Int32 × Sg → Prop} (hQ : ∀ r s, P (r, s) → E.2.2.2.2 (some (.int r)) s) (h : Ok (mX10_byteOf_45 n s0 t0 x5) P) : BW G tX10_byteOf E 0 0 45 [(5, .int x5)] [.int t0] s0 := by
  unfold mX10_byteOf_45 at h
  refine BW.run [.istore 6, .iload 6, .bipush 24, .bipush 8, .iload 5, .iconst 4] (pc' := 56) (lv' := [(5, .int x5), (6, .int t0)]) (st' := [.int (4 : Int32), .int x5, .int (8 : Int32), .int (24 : Int32), .int t0]) (by decide +kernel) rfl rfl ?_
  refine BW.irem (by decide +kernel : decode tX10_byteOf.2.1 56 = .ok (.irem, 1)) (by decide) ?_
  refine BW.run [.imul, .isub, .ishr, .sipush 255, .iand] (pc' := 64) (lv' := [(5, .int x5), (6, .int t0)]) (st' := [.int ((t0 >>> (((24 : Int32) - ((8 : Int32) * (x5 - x5 / (4 : Int32) * (4 : Int32)))) &&& 31)) &&& (255 : Int32))]) (by decide +kernel) rfl rfl ?_
  exact BW.iret (by decide +kernel : decode tX10_byteOf.2.1 64 = .ok (.ireturn, 1)) rfl (Nat.zero_le _) (Nat.zero_le _) (hQ _ _ (Ok.some h))
def mX10_byteOf (n : Nat) (s0 : Sg) (x0 : Int32) (x1 : Int32) (x2 : Int32) (x3 : Int32) (x4 : Int32) (x5 : Int32) : Option (Int32 × Sg) :=
  if (4 : Int32) ≤ x5 then (
    if (8 : Int32) ≤ x5 then (
      if (12 : Int32) ≤ x5 then (
        if (16 : Int32) ≤ x5 then (
          mX10_byteOf_45 n s0 x4 x5
        ) else (
          mX10_byteOf_45 n s0 x3 x5
        )
      ) else (
        mX10_byteOf_45 n s0 x2 x5
      )
    ) else (
      mX10_byteOf_45 n s0 x1 x5
    )
  ) else (
    mX10_byteOf_45 n s0 x0 x5
  )
theorem bX10_byteOf {G : Cx} {E : Ev} {n : Nat} (hRm : 0 ≤ E.1.frames ∧ 0 ≤ E.1.locals) {P : Int32 × Sg → Prop} (hQ : ∀ r s, P (r, s) → E.2.2.2.2 (some (.int r)) s) {s0 : Sg} {x0 : Int32} {x1 : Int32} {x2 : Int32} {x3 : Int32} {x4 : Int32} {x5 : Int32} (h : Ok (mX10_byteOf n s0 x0 x1 x2 x3 x4 x5) P) : BW G tX10_byteOf E 0 0 0 [(0, .int x0), (1, .int x1), (2, .int x2), (3, .int x3), (4, .int x4), (5, .int x5)] [] s0 := by
  unfold mX10_byteOf at h
  refine BW.run [.iload 5, .iconst 4] (pc' := 3) (lv' := [(0, .int x0), (1, .int x1), (2, .int x2), (3, .int x3), (4, .int x4), (5, .int x5)]) (st' := [.int (4 : Int32), .int x5]) (by decide +kernel) rfl rfl ?_
  refine BW.icmp_ge 10 (by decide +kernel : decode tX10_byteOf.2.1 3 = .ok (.if_icmp .ge 7, 3)) (by decide) (fun hc => ?_) (fun hc => ?_)
  · have h := (Ok.ite h).1 hc
    refine BW.run [.iload 5, .bipush 8] (pc' := 14) (lv' := [(0, .int x0), (1, .int x1), (2, .int x2), (3, .int x3), (4, .int x4), (5, .int x5)]) (st' := [.int (8 : Int32), .int x5]) (by decide +kernel) rfl rfl ?_
    refine BW.icmp_ge 21 (by decide +kernel : decode tX10_byteOf.2.1 14 = .ok (.if_icmp .ge 7, 3)) (by decide) (fun hc => ?_) (fun hc => ?_)
    · have h := (Ok.ite h).1 hc
      refine BW.run [.iload 5, .bipush 12] (pc' := 25) (lv' := [(0, .int x0), (1, .int x1), (2, .int x2), (3, .int x3), (4, .int x4), (5, .int x5)]) (st' := [.int (12 : Int32), .int x5]) (by decide +kernel) rfl rfl ?_
      refine BW.icmp_ge 32 (by decide +kernel : decode tX10_byteOf.2.1 25 = .ok (.if_icmp .ge 7, 3)) (by decide) (fun hc => ?_) (fun hc => ?_)
      · have h := (Ok.ite h).1 hc
        refine BW.run [.iload 5, .bipush 16] (pc' := 36) (lv' := [(0, .int x0), (1, .int x1), (2, .int x2), (3, .int x3), (4, .int x4), (5, .int x5)]) (st' := [.int (16 : Int32), .int x5]) (by decide +kernel) rfl rfl ?_
        refine BW.icmp_ge 43 (by decide +kernel : decode tX10_byteOf.2.1 36 = .ok (.if_icmp .ge 7, 3)) (by decide) (fun hc => ?_) (fun hc => ?_)
        · have h := (Ok.ite h).1 hc
          refine BW.run [.iload 4] (pc' := 45) (lv' := [(0, .int x0), (1, .int x1), (2, .int x2), (3, .int x3), (4, .int x4), (5, .int x5)]) (st' := [.int x4]) (by decide +kernel) rfl rfl ?_
          refine BW.sub [5] rfl ?_
          exact bX10_byteOf_45 hRm hQ h
        · have h := (Ok.ite h).2 hc
          refine BW.run [.iload_n 3] (pc' := 40) (lv' := [(0, .int x0), (1, .int x1), (2, .int x2), (3, .int x3), (4, .int x4), (5, .int x5)]) (st' := [.int x3]) (by decide +kernel) rfl rfl ?_
          refine BW.goto 45 (by decide +kernel : decode tX10_byteOf.2.1 40 = .ok (.goto 5, 3)) (by decide) ?_
          refine BW.sub [5] rfl ?_
          exact bX10_byteOf_45 hRm hQ h
      · have h := (Ok.ite h).2 hc
        refine BW.run [.iload_n 2] (pc' := 29) (lv' := [(0, .int x0), (1, .int x1), (2, .int x2), (3, .int x3), (4, .int x4), (5, .int x5)]) (st' := [.int x2]) (by decide +kernel) rfl rfl ?_
        refine BW.goto 45 (by decide +kernel : decode tX10_byteOf.2.1 29 = .ok (.goto 16, 3)) (by decide) ?_
        refine BW.sub [5] rfl ?_
        exact bX10_byteOf_45 hRm hQ h
    · have h := (Ok.ite h).2 hc
      refine BW.run [.iload_n 1] (pc' := 18) (lv' := [(0, .int x0), (1, .int x1), (2, .int x2), (3, .int x3), (4, .int x4), (5, .int x5)]) (st' := [.int x1]) (by decide +kernel) rfl rfl ?_
      refine BW.goto 45 (by decide +kernel : decode tX10_byteOf.2.1 18 = .ok (.goto 27, 3)) (by decide) ?_
      refine BW.sub [5] rfl ?_
      exact bX10_byteOf_45 hRm hQ h
  · have h := (Ok.ite h).2 hc
    refine BW.run [.iload_n 0] (pc' := 7) (lv' := [(0, .int x0), (1, .int x1), (2, .int x2), (3, .int x3), (4, .int x4), (5, .int x5)]) (st' := [.int x0]) (by decide +kernel) rfl rfl ?_
    refine BW.goto 45 (by decide +kernel : decode tX10_byteOf.2.1 7 = .ok (.goto 38, 3)) (by decide) ?_
    refine BW.sub [5] rfl ?_
    exact bX10_byteOf_45 hRm hQ h
theorem DX10_byteOf {G : Cx} {n : Nat} {P : Int32 × Sg → Prop} {s0 : Sg} {x0 : Int32} {x1 : Int32} {x2 : Int32} {x3 : Int32} {x4 : Int32} {x5 : Int32} (h : Ok (mX10_byteOf n s0 x0 x1 x2 x3 x4 x5) P) : BM G tX10_byteOf 0 0 0 0 [.int x0, .int x1, .int x2, .int x3, .int x4, .int x5] s0 (fun v s => ∃ r, v = some (.int r) ∧ P (r, s)) := by
  refine BM.of (by decide +kernel) (Nat.le_of_ble_eq_true rfl) ?_
  exact bX10_byteOf (E := (({ frames := 0, cells := 0, slots := 0, locals := 0 }), Aof s0, 0, 0, (fun v s => ∃ r, v = some (.int r) ∧ P (r, s)))) ⟨Nat.le_refl _, Nat.le_refl _⟩ (fun r s hp => ⟨r, rfl, hp⟩) h
def mX10_can (n : Nat) (s0 : Sg) (a0 : Nat) (x1 : Int32) : Option (Int32 × Sg) :=
  (isO 10 s0 a0).bind fun _ =>
  (mX10_isSet n s0 a0 x1).bind fun (v2, s1) =>
  if v2 = 0 then (
    some ((-1 : Int32), s1)
  ) else (
    (mX10_canBe n s1 a0 x1).bind fun (v5, s4) =>
    if v5 = 0 then (
      some ((0 : Int32), s4)
    ) else (
      some ((1 : Int32), s4)
    )
  )
theorem bX10_can {G : Cx} {E : Ev} {n : Nat} (hRm : 8 ≤ E.1.frames ∧ 178 ≤ E.1.locals) {P : Int32 × Sg → Prop} (hQ : ∀ r s, P (r, s) → E.2.2.2.2 (some (.int r)) s) {s0 : Sg} {a0 : Nat} {x1 : Int32} (h : Ok (mX10_can n s0 a0 x1) P) : BW G tX10_can E 0 0 0 [(0, .ref a0), (1, .int x1)] [] s0 := by
  unfold mX10_can at h
  obtain ⟨_, _, h⟩ := Ok.bind h
  refine BW.run [.aload_n 0, .iload_n 1] (pc' := 2) (lv' := [(0, .ref a0), (1, .int x1)]) (st' := [.int x1, .ref a0]) (by decide +kernel) rfl rfl ?_
  refine BW.callV (As := [.int x1]) (st := []) (by decide +kernel : decode tX10_can.2.1 2 = .ok (.invokevirtual 221, 3)) (DX10_isSet (Ok.bindK h)) mfX10_isSet lkM_X10_221 imX10_isSet selX10_isSet ciX10 (oX10_isSet (Ok.bindK h)).choose_spec rfl rfl (Nat.le_of_ble_eq_true rfl) ⟨Nat.le_trans (by decide) hRm.1, Nat.le_trans (by decide) hRm.2⟩ ⟨Nat.zero_le _, Nat.zero_le _⟩ ?_
  rintro _ s1 ⟨v2, rfl, h⟩
  show BW G tX10_can E 0 0 5 [(0, .ref a0), (1, .int x1)] [.int v2] s1
  refine BW.if_eq 24 (by decide +kernel : decode tX10_can.2.1 5 = .ok (.ifCond .eq 19, 3)) (by decide) (fun hc => ?_) (fun hc => ?_)
  · have h := (Ok.ite h).1 hc
    refine BW.run [.iconst (-1)] (pc' := 25) (lv' := [(0, .ref a0), (1, .int x1)]) (st' := [.int (-1 : Int32)]) (by decide +kernel) rfl rfl ?_
    exact BW.iret (by decide +kernel : decode tX10_can.2.1 25 = .ok (.ireturn, 1)) rfl (Nat.zero_le _) (Nat.zero_le _) (hQ _ _ (Ok.some h))
  · have h := (Ok.ite h).2 hc
    refine BW.run [.aload_n 0, .iload_n 1] (pc' := 10) (lv' := [(0, .ref a0), (1, .int x1)]) (st' := [.int x1, .ref a0]) (by decide +kernel) rfl rfl ?_
    refine BW.callV (As := [.int x1]) (st := []) (by decide +kernel : decode tX10_can.2.1 10 = .ok (.invokevirtual 224, 3)) (DX10_canBe (Ok.bindK h)) mfX10_canBe lkM_X10_224 imX10_canBe selX10_canBe ciX10 (oX10_canBe (Ok.bindK h)).choose_spec rfl rfl (Nat.le_of_ble_eq_true rfl) ⟨Nat.le_trans (by decide) hRm.1, Nat.le_trans (by decide) hRm.2⟩ ⟨Nat.zero_le _, Nat.zero_le _⟩ ?_
    rintro _ s4 ⟨v5, rfl, h⟩
    show BW G tX10_can E 0 0 13 [(0, .ref a0), (1, .int x1)] [.int v5] s4
    refine BW.if_eq 20 (by decide +kernel : decode tX10_can.2.1 13 = .ok (.ifCond .eq 7, 3)) (by decide) (fun hc => ?_) (fun hc => ?_)
    · have h := (Ok.ite h).1 hc
      refine BW.run [.iconst 0] (pc' := 21) (lv' := [(0, .ref a0), (1, .int x1)]) (st' := [.int (0 : Int32)]) (by decide +kernel) rfl rfl ?_
      refine BW.goto 25 (by decide +kernel : decode tX10_can.2.1 21 = .ok (.goto 4, 3)) (by decide) ?_
      exact BW.iret (by decide +kernel : decode tX10_can.2.1 25 = .ok (.ireturn, 1)) rfl (Nat.zero_le _) (Nat.zero_le _) (hQ _ _ (Ok.some h))
    · have h := (Ok.ite h).2 hc
      refine BW.run [.iconst 1] (pc' := 17) (lv' := [(0, .ref a0), (1, .int x1)]) (st' := [.int (1 : Int32)]) (by decide +kernel) rfl rfl ?_
      refine BW.goto 25 (by decide +kernel : decode tX10_can.2.1 17 = .ok (.goto 8, 3)) (by decide) ?_
      exact BW.iret (by decide +kernel : decode tX10_can.2.1 25 = .ok (.ireturn, 1)) rfl (Nat.zero_le _) (Nat.zero_le _) (hQ _ _ (Ok.some h))
theorem oX10_can {n : Nat} {P : Int32 × Sg → Prop} {s0 : Sg} {a0 : Nat} {x1 : Int32} (h : Ok (mX10_can n s0 a0 x1) P) : ∃ n0, s0.2.1 a0 = some (10, n0) := by
  unfold mX10_can at h
  exact Ok.isO h
theorem DX10_can {G : Cx} {n : Nat} {P : Int32 × Sg → Prop} {s0 : Sg} {a0 : Nat} {x1 : Int32} (h : Ok (mX10_can n s0 a0 x1) P) : BM G tX10_can 8 178 0 0 [.ref a0, .int x1] s0 (fun v s => ∃ r, v = some (.int r) ∧ P (r, s)) := by
  refine BM.of (by decide +kernel) (Nat.le_of_ble_eq_true rfl) ?_
  exact bX10_can (E := (({ frames := 8, cells := 0, slots := 0, locals := 178 }), Aof s0, 0, 0, (fun v s => ∃ r, v = some (.int r) ∧ P (r, s)))) ⟨Nat.le_refl _, Nat.le_refl _⟩ (fun r s hp => ⟨r, rfl, hp⟩) h
def mX10_core_59 (n : Nat) (s0 : Sg) (a0 : Nat) (x1 : Int32) (x2 : Int32) (x3 : Int32) : Option ((Sg × Int32 × Int32) ⊕ (Sg × Int32)) :=
  nm ((x3 - (1 : Int32)) &&& x1) fun v16 =>
  some (.inl (s0, x2, v16))
theorem bX10_core_59 {G : Cx} {E : Ev} {n : Nat} (hRm : 8 ≤ E.1.frames ∧ 178 ≤ E.1.locals) {s0 : Sg} {a0 : Nat} {x1 : Int32} {x2 : Int32} {x3 : Int32} {P : (Sg × Int32 × Int32) ⊕ (Sg × Int32) → Prop} (hC : ∀ (s : Sg) (c2 : Int32) (c3 : Int32), P (.inl (s, c2, c3)) → BW G tX10_core E 0 0 34 [(0, .ref a0), (1, .int x1), (2, .int c2), (3, .int c3)] [] s) (hE : ∀ (s : Sg) (c2 : Int32), P (.inr (s, c2)) → BW G tX10_core E 0 0 68 [(2, .int c2)] [] s)  (h : Ok (mX10_core_59 n s0 a0 x1 x2 x3) P) : BW G tX10_core E 0 0 59 [(0, .ref a0), (1, .int x1), (2, .int x2), (3, .int x3)] [] s0 := by
  unfold mX10_core_59 at h
  refine BW.run [.iload_n 3, .iconst 1, .isub, .iload_n 1, .iand] (pc' := 64) (lv' := [(0, .ref a0), (1, .int x1), (2, .int x2), (3, .int x3)]) (st' := [.int ((x3 - (1 : Int32)) &&& x1)]) (by decide +kernel) rfl rfl ?_
  obtain ⟨v16, wv16, h⟩ := Ok.nm h
  refine BW.nm wv16 ?_
  refine BW.run [.istore_n 3] (pc' := 65) (lv' := [(0, .ref a0), (1, .int x1), (2, .int x2), (3, .int v16)]) (st' := []) (by decide +kernel) rfl rfl ?_
  refine BW.goto 34 (by decide +kernel : decode tX10_core.2.1 65 = .ok (.goto (-31), 3)) (by decide) ?_
  exact hC _ _ _ (Ok.some h)
def mX10_core_L34 (n : Nat) (a0 : Nat) (x1 : Int32) : (Sg × Int32 × Int32) → Option ((Sg × Int32 × Int32) ⊕ (Sg × Int32))
  | (s0, x2, x3) =>
    if x3 ≤ 0 then (
      some (.inr (s0, x2))
    ) else (
      (mJ_bitCount n s0 x3).bind fun (v14, s13) =>
      if x2 ≤ v14 then (
        mX10_core_59 n s13 a0 x1 x2 x3
      ) else (
        (mX10_canBe n s13 a0 x3).bind fun (v18, s17) =>
        if v18 = 0 then (
          (mJ_bitCount n s17 x3).bind fun (v21, s20) =>
          mX10_core_59 n s20 a0 x1 v21 x3
        ) else (
          mX10_core_59 n s17 a0 x1 x2 x3
        )
      )
    )
theorem bX10_core_L34 {G : Cx} {E : Ev} {n : Nat} (hRm : 8 ≤ E.1.frames ∧ 178 ≤ E.1.locals) {a0 : Nat} {x1 : Int32} {P : (Sg × Int32 × Int32) ⊕ (Sg × Int32) → Prop} (hC : ∀ (s : Sg) (c2 : Int32) (c3 : Int32), P (.inl (s, c2, c3)) → BW G tX10_core E 0 0 34 [(0, .ref a0), (1, .int x1), (2, .int c2), (3, .int c3)] [] s) (hE : ∀ (s : Sg) (c2 : Int32), P (.inr (s, c2)) → BW G tX10_core E 0 0 68 [(2, .int c2)] [] s) {s0 : Sg} {x2 : Int32} {x3 : Int32} (h : Ok (mX10_core_L34 n a0 x1 (s0, x2, x3)) P) : BW G tX10_core E 0 0 34 [(0, .ref a0), (1, .int x1), (2, .int x2), (3, .int x3)] [] s0 := by
  unfold mX10_core_L34 at h
  refine BW.run [.iload_n 3] (pc' := 35) (lv' := [(0, .ref a0), (1, .int x1), (2, .int x2), (3, .int x3)]) (st' := [.int x3]) (by decide +kernel) rfl rfl ?_
  refine BW.if_le 68 (by decide +kernel : decode tX10_core.2.1 35 = .ok (.ifCond .le 33, 3)) (by decide) (fun hc => ?_) (fun hc => ?_)
  · have h := (Ok.ite h).1 hc
    refine BW.sub [2] rfl ?_
    exact hE _ _ (Ok.some h)
  · have h := (Ok.ite h).2 hc
    refine BW.run [.iload_n 3] (pc' := 39) (lv' := [(0, .ref a0), (1, .int x1), (2, .int x2), (3, .int x3)]) (st' := [.int x3]) (by decide +kernel) rfl rfl ?_
    refine BW.callS (As := [.int x3]) (st := []) (by decide +kernel : decode tX10_core.2.1 39 = .ok (.invokestatic 227, 3)) (DJ_bitCount (Ok.bindK h)) mfJ_bitCount lkM_X10_227 smJ_bitCount rfl rfl (Nat.le_of_ble_eq_true rfl) ⟨Nat.le_trans (by decide) hRm.1, Nat.le_trans (by decide) hRm.2⟩ ⟨Nat.zero_le _, Nat.zero_le _⟩ ?_
    rintro _ s13 ⟨v14, rfl, h⟩
    show BW G tX10_core E 0 0 42 [(0, .ref a0), (1, .int x1), (2, .int x2), (3, .int x3)] [.int v14] s13
    refine BW.run [.iload_n 2] (pc' := 43) (lv' := [(0, .ref a0), (1, .int x1), (2, .int x2), (3, .int x3)]) (st' := [.int x2, .int v14]) (by decide +kernel) rfl rfl ?_
    refine BW.icmp_ge 59 (by decide +kernel : decode tX10_core.2.1 43 = .ok (.if_icmp .ge 16, 3)) (by decide) (fun hc => ?_) (fun hc => ?_)
    · have h := (Ok.ite h).1 hc
      exact bX10_core_59 hRm hC hE h
    · have h := (Ok.ite h).2 hc
      refine BW.run [.aload_n 0, .iload_n 3] (pc' := 48) (lv' := [(0, .ref a0), (1, .int x1), (2, .int x2), (3, .int x3)]) (st' := [.int x3, .ref a0]) (by decide +kernel) rfl rfl ?_
      refine BW.callV (As := [.int x3]) (st := []) (by decide +kernel : decode tX10_core.2.1 48 = .ok (.invokevirtual 224, 3)) (DX10_canBe (Ok.bindK h)) mfX10_canBe lkM_X10_224 imX10_canBe selX10_canBe ciX10 (oX10_canBe (Ok.bindK h)).choose_spec rfl rfl (Nat.le_of_ble_eq_true rfl) ⟨Nat.le_trans (by decide) hRm.1, Nat.le_trans (by decide) hRm.2⟩ ⟨Nat.zero_le _, Nat.zero_le _⟩ ?_
      rintro _ s17 ⟨v18, rfl, h⟩
      show BW G tX10_core E 0 0 51 [(0, .ref a0), (1, .int x1), (2, .int x2), (3, .int x3)] [.int v18] s17
      refine BW.if_ne 59 (by decide +kernel : decode tX10_core.2.1 51 = .ok (.ifCond .ne 8, 3)) (by decide) (fun hc => ?_) (fun hc => ?_)
      · have h := (Ok.ite h).2 hc
        exact bX10_core_59 hRm hC hE h
      · have h := (Ok.ite h).1 hc
        refine BW.run [.iload_n 3] (pc' := 55) (lv' := [(0, .ref a0), (1, .int x1), (2, .int x2), (3, .int x3)]) (st' := [.int x3]) (by decide +kernel) rfl rfl ?_
        refine BW.callS (As := [.int x3]) (st := []) (by decide +kernel : decode tX10_core.2.1 55 = .ok (.invokestatic 227, 3)) (DJ_bitCount (Ok.bindK h)) mfJ_bitCount lkM_X10_227 smJ_bitCount rfl rfl (Nat.le_of_ble_eq_true rfl) ⟨Nat.le_trans (by decide) hRm.1, Nat.le_trans (by decide) hRm.2⟩ ⟨Nat.zero_le _, Nat.zero_le _⟩ ?_
        rintro _ s20 ⟨v21, rfl, h⟩
        show BW G tX10_core E 0 0 58 [(0, .ref a0), (1, .int x1), (2, .int x2), (3, .int x3)] [.int v21] s20
        refine BW.run [.istore_n 2] (pc' := 59) (lv' := [(0, .ref a0), (1, .int x1), (2, .int v21), (3, .int x3)]) (st' := []) (by decide +kernel) rfl rfl ?_
        exact bX10_core_59 hRm hC hE h
theorem bX10_core_W34 {G : Cx} {E : Ev} {n : Nat} (hRm : 8 ≤ E.1.frames ∧ 178 ≤ E.1.locals) {a0 : Nat} {x1 : Int32} {K : (Sg × Int32) → Prop} (hE : ∀ (s : Sg) (c2 : Int32), K (s, c2) → BW G tX10_core E 0 0 68 [(2, .int c2)] [] s) : ∀ (f : Nat) (c : Sg × Int32 × Int32), Ok (loopM (mX10_core_L34 n a0 x1) f c) K → match c with | (s0, x2, x3) => BW G tX10_core E 0 0 34 [(0, .ref a0), (1, .int x1), (2, .int x2), (3, .int x3)] [] s0 := by
  intro f
  induction f with
  | zero => intro c h; exact (Ok.no h).elim
  | succ f ih =>
    intro c h
    obtain ⟨s0, x2, x3⟩ := c
    exact bX10_core_L34 (P := loopP (mX10_core_L34 n a0 x1) f K) hRm (fun s c2 c3 h => ih (s, c2, c3) h) hE (loopM_ok h)
def mX10_core (n : Nat) (s0 : Sg) (a0 : Nat) (x1 : Int32) : Option (Int32 × Sg) :=
  (isO 10 s0 a0).bind fun _ =>
  (mX10_isSet n s0 a0 x1).bind fun (v2, s1) =>
  if v2 = 0 then (
    some ((-1 : Int32), s1)
  ) else (
    (mJ_bitCount n s1 x1).bind fun (v5, s4) =>
    if (12 : Int32) < v5 then (
      some ((-1 : Int32), s4)
    ) else (
      (mX10_canBe n s4 a0 x1).bind fun (v8, s7) =>
      if v8 = 0 then (
        (mJ_bitCount n s7 x1).bind fun (v11, s10) =>
        (loopM (mX10_core_L34 n a0 x1) n (s10, v11, x1)).bind fun (s23, v24) =>
        some (v24, s23)
      ) else (
        some ((-1 : Int32), s7)
      )
    )
  )
theorem bX10_core {G : Cx} {E : Ev} {n : Nat} (hRm : 8 ≤ E.1.frames ∧ 178 ≤ E.1.locals) {P : Int32 × Sg → Prop} (hQ : ∀ r s, P (r, s) → E.2.2.2.2 (some (.int r)) s) {s0 : Sg} {a0 : Nat} {x1 : Int32} (h : Ok (mX10_core n s0 a0 x1) P) : BW G tX10_core E 0 0 0 [(0, .ref a0), (1, .int x1)] [] s0 := by
  unfold mX10_core at h
  obtain ⟨_, _, h⟩ := Ok.bind h
  refine BW.run [.aload_n 0, .iload_n 1] (pc' := 2) (lv' := [(0, .ref a0), (1, .int x1)]) (st' := [.int x1, .ref a0]) (by decide +kernel) rfl rfl ?_
  refine BW.callV (As := [.int x1]) (st := []) (by decide +kernel : decode tX10_core.2.1 2 = .ok (.invokevirtual 221, 3)) (DX10_isSet (Ok.bindK h)) mfX10_isSet lkM_X10_221 imX10_isSet selX10_isSet ciX10 (oX10_isSet (Ok.bindK h)).choose_spec rfl rfl (Nat.le_of_ble_eq_true rfl) ⟨Nat.le_trans (by decide) hRm.1, Nat.le_trans (by decide) hRm.2⟩ ⟨Nat.zero_le _, Nat.zero_le _⟩ ?_
  rintro _ s1 ⟨v2, rfl, h⟩
  show BW G tX10_core E 0 0 5 [(0, .ref a0), (1, .int x1)] [.int v2] s1
  refine BW.if_eq 25 (by decide +kernel : decode tX10_core.2.1 5 = .ok (.ifCond .eq 20, 3)) (by decide) (fun hc => ?_) (fun hc => ?_)
  · have h := (Ok.ite h).1 hc
    refine BW.run [.iconst (-1)] (pc' := 26) (lv' := [(0, .ref a0), (1, .int x1)]) (st' := [.int (-1 : Int32)]) (by decide +kernel) rfl rfl ?_
    exact BW.iret (by decide +kernel : decode tX10_core.2.1 26 = .ok (.ireturn, 1)) rfl (Nat.zero_le _) (Nat.zero_le _) (hQ _ _ (Ok.some h))
  · have h := (Ok.ite h).2 hc
    refine BW.run [.iload_n 1] (pc' := 9) (lv' := [(0, .ref a0), (1, .int x1)]) (st' := [.int x1]) (by decide +kernel) rfl rfl ?_
    refine BW.callS (As := [.int x1]) (st := []) (by decide +kernel : decode tX10_core.2.1 9 = .ok (.invokestatic 227, 3)) (DJ_bitCount (Ok.bindK h)) mfJ_bitCount lkM_X10_227 smJ_bitCount rfl rfl (Nat.le_of_ble_eq_true rfl) ⟨Nat.le_trans (by decide) hRm.1, Nat.le_trans (by decide) hRm.2⟩ ⟨Nat.zero_le _, Nat.zero_le _⟩ ?_
    rintro _ s4 ⟨v5, rfl, h⟩
    show BW G tX10_core E 0 0 12 [(0, .ref a0), (1, .int x1)] [.int v5] s4
    refine BW.run [.bipush 12] (pc' := 14) (lv' := [(0, .ref a0), (1, .int x1)]) (st' := [.int (12 : Int32), .int v5]) (by decide +kernel) rfl rfl ?_
    refine BW.icmp_gt 25 (by decide +kernel : decode tX10_core.2.1 14 = .ok (.if_icmp .gt 11, 3)) (by decide) (fun hc => ?_) (fun hc => ?_)
    · have h := (Ok.ite h).1 hc
      refine BW.run [.iconst (-1)] (pc' := 26) (lv' := [(0, .ref a0), (1, .int x1)]) (st' := [.int (-1 : Int32)]) (by decide +kernel) rfl rfl ?_
      exact BW.iret (by decide +kernel : decode tX10_core.2.1 26 = .ok (.ireturn, 1)) rfl (Nat.zero_le _) (Nat.zero_le _) (hQ _ _ (Ok.some h))
    · have h := (Ok.ite h).2 hc
      refine BW.run [.aload_n 0, .iload_n 1] (pc' := 19) (lv' := [(0, .ref a0), (1, .int x1)]) (st' := [.int x1, .ref a0]) (by decide +kernel) rfl rfl ?_
      refine BW.callV (As := [.int x1]) (st := []) (by decide +kernel : decode tX10_core.2.1 19 = .ok (.invokevirtual 224, 3)) (DX10_canBe (Ok.bindK h)) mfX10_canBe lkM_X10_224 imX10_canBe selX10_canBe ciX10 (oX10_canBe (Ok.bindK h)).choose_spec rfl rfl (Nat.le_of_ble_eq_true rfl) ⟨Nat.le_trans (by decide) hRm.1, Nat.le_trans (by decide) hRm.2⟩ ⟨Nat.zero_le _, Nat.zero_le _⟩ ?_
      rintro _ s7 ⟨v8, rfl, h⟩
      show BW G tX10_core E 0 0 22 [(0, .ref a0), (1, .int x1)] [.int v8] s7
      refine BW.if_eq 27 (by decide +kernel : decode tX10_core.2.1 22 = .ok (.ifCond .eq 5, 3)) (by decide) (fun hc => ?_) (fun hc => ?_)
      · have h := (Ok.ite h).1 hc
        refine BW.run [.iload_n 1] (pc' := 28) (lv' := [(0, .ref a0), (1, .int x1)]) (st' := [.int x1]) (by decide +kernel) rfl rfl ?_
        refine BW.callS (As := [.int x1]) (st := []) (by decide +kernel : decode tX10_core.2.1 28 = .ok (.invokestatic 227, 3)) (DJ_bitCount (Ok.bindK h)) mfJ_bitCount lkM_X10_227 smJ_bitCount rfl rfl (Nat.le_of_ble_eq_true rfl) ⟨Nat.le_trans (by decide) hRm.1, Nat.le_trans (by decide) hRm.2⟩ ⟨Nat.zero_le _, Nat.zero_le _⟩ ?_
        rintro _ s10 ⟨v11, rfl, h⟩
        show BW G tX10_core E 0 0 31 [(0, .ref a0), (1, .int x1)] [.int v11] s10
        refine BW.run [.istore_n 2, .iload_n 1, .istore_n 3] (pc' := 34) (lv' := [(0, .ref a0), (1, .int x1), (2, .int v11), (3, .int x1)]) (st' := []) (by decide +kernel) rfl rfl ?_
        refine bX10_core_W34 hRm (a0 := a0) (x1 := x1) (fun s23 v24 h => ?_) n (s10, v11, x1) (Ok.bindK h)
        refine BW.run [.iload_n 2] (pc' := 69) (lv' := [(2, .int v24)]) (st' := [.int v24]) (by decide +kernel) rfl rfl ?_
        exact BW.iret (by decide +kernel : decode tX10_core.2.1 69 = .ok (.ireturn, 1)) rfl (Nat.zero_le _) (Nat.zero_le _) (hQ _ _ (Ok.some h))
      · have h := (Ok.ite h).2 hc
        refine BW.run [.iconst (-1)] (pc' := 26) (lv' := [(0, .ref a0), (1, .int x1)]) (st' := [.int (-1 : Int32)]) (by decide +kernel) rfl rfl ?_
        exact BW.iret (by decide +kernel : decode tX10_core.2.1 26 = .ok (.ireturn, 1)) rfl (Nat.zero_le _) (Nat.zero_le _) (hQ _ _ (Ok.some h))
theorem oX10_core {n : Nat} {P : Int32 × Sg → Prop} {s0 : Sg} {a0 : Nat} {x1 : Int32} (h : Ok (mX10_core n s0 a0 x1) P) : ∃ n0, s0.2.1 a0 = some (10, n0) := by
  unfold mX10_core at h
  exact Ok.isO h
theorem DX10_core {G : Cx} {n : Nat} {P : Int32 × Sg → Prop} {s0 : Sg} {a0 : Nat} {x1 : Int32} (h : Ok (mX10_core n s0 a0 x1) P) : BM G tX10_core 8 178 0 0 [.ref a0, .int x1] s0 (fun v s => ∃ r, v = some (.int r) ∧ P (r, s)) := by
  refine BM.of (by decide +kernel) (Nat.le_of_ble_eq_true rfl) ?_
  exact bX10_core (E := (({ frames := 8, cells := 0, slots := 0, locals := 178 }), Aof s0, 0, 0, (fun v s => ∃ r, v = some (.int r) ∧ P (r, s)))) ⟨Nat.le_refl _, Nat.le_refl _⟩ (fun r s hp => ⟨r, rfl, hp⟩) h
def mX10_count (n : Nat) (s0 : Sg) (a0 : Nat) (x1 : Int32) : Option (Int32 × Sg) :=
  (isO 10 s0 a0).bind fun _ =>
  if x1 = (0 : Int32) then (
    (toI (gV 10 s0 a0 20)).bind fun v1 =>
    some (v1, s0)
  ) else (
  if x1 = (1 : Int32) then (
    (toI (gV 10 s0 a0 27)).bind fun v2 =>
    some (v2, s0)
  ) else (
  if x1 = (2 : Int32) then (
    (toI (gV 10 s0 a0 5)).bind fun v3 =>
    some (v3, s0)
  ) else (
  if x1 = (3 : Int32) then (
    (toI (gV 10 s0 a0 1)).bind fun v4 =>
    some (v4, s0)
  ) else (
  if x1 = (4 : Int32) then (
    (toI (gV 10 s0 a0 2)).bind fun v5 =>
    some (v5, s0)
  ) else (
  if x1 = (5 : Int32) then (
    (toI (gV 10 s0 a0 3)).bind fun v6 =>
    some (v6, s0)
  ) else (
  if x1 = (6 : Int32) then (
    (toI (gV 10 s0 a0 36)).bind fun v7 =>
    some (v7, s0)
  ) else (
    some ((-1 : Int32), s0)
  )))))))
theorem bX10_count {G : Cx} {E : Ev} {n : Nat} (hRm : 0 ≤ E.1.frames ∧ 0 ≤ E.1.locals) {P : Int32 × Sg → Prop} (hQ : ∀ r s, P (r, s) → E.2.2.2.2 (some (.int r)) s) {s0 : Sg} {a0 : Nat} {x1 : Int32} (h : Ok (mX10_count n s0 a0 x1) P) : BW G tX10_count E 0 0 0 [(0, .ref a0), (1, .int x1)] [] s0 := by
  unfold mX10_count at h
  obtain ⟨_, _, h⟩ := Ok.bind h
  refine BW.run [.iload_n 1] (pc' := 1) (lv' := [(0, .ref a0), (1, .int x1)]) (st' := [.int x1]) (by decide +kernel) rfl rfl ?_
  by_cases hc0 : x1 = (0 : Int32)
  · have h := (Ok.ite h).1 hc0
    refine BW.tblIn (off := 48) 49 (by decide +kernel : decode tX10_count.2.1 1 = .ok (.tableswitch 78 0 6 #[48, 53, 58, 63, 68, 73, 43], 43)) (by rw [hc0]; decide) (by rw [hc0]; decide) (by rw [hc0]; rfl) (by decide) ?_
    refine BW.run [.aload_n 0] (pc' := 50) (lv' := [(0, .ref a0), (1, .int x1)]) (st' := [.ref a0]) (by decide +kernel) rfl rfl ?_
    obtain ⟨v1, ev1, h⟩ := Ok.bind h
    refine BW.get (by decide +kernel : decode tX10_count.2.1 50 = .ok (.getfield 165, 3)) ciX10 (k := 20) (by decide) lkF_X10_165 (toI_V ev1) ?_
    exact BW.iret (by decide +kernel : decode tX10_count.2.1 53 = .ok (.ireturn, 1)) rfl (Nat.zero_le _) (Nat.zero_le _) (hQ _ _ (Ok.some h))
  · have h := (Ok.ite h).2 hc0
    by_cases hc1 : x1 = (1 : Int32)
    · have h := (Ok.ite h).1 hc1
      refine BW.tblIn (off := 53) 54 (by decide +kernel : decode tX10_count.2.1 1 = .ok (.tableswitch 78 0 6 #[48, 53, 58, 63, 68, 73, 43], 43)) (by rw [hc1]; decide) (by rw [hc1]; decide) (by rw [hc1]; rfl) (by decide) ?_
      refine BW.run [.aload_n 0] (pc' := 55) (lv' := [(0, .ref a0), (1, .int x1)]) (st' := [.ref a0]) (by decide +kernel) rfl rfl ?_
      obtain ⟨v2, ev2, h⟩ := Ok.bind h
      refine BW.get (by decide +kernel : decode tX10_count.2.1 55 = .ok (.getfield 194, 3)) ciX10 (k := 27) (by decide) lkF_X10_194 (toI_V ev2) ?_
      exact BW.iret (by decide +kernel : decode tX10_count.2.1 58 = .ok (.ireturn, 1)) rfl (Nat.zero_le _) (Nat.zero_le _) (hQ _ _ (Ok.some h))
    · have h := (Ok.ite h).2 hc1
      by_cases hc2 : x1 = (2 : Int32)
      · have h := (Ok.ite h).1 hc2
        refine BW.tblIn (off := 58) 59 (by decide +kernel : decode tX10_count.2.1 1 = .ok (.tableswitch 78 0 6 #[48, 53, 58, 63, 68, 73, 43], 43)) (by rw [hc2]; decide) (by rw [hc2]; decide) (by rw [hc2]; rfl) (by decide) ?_
        refine BW.run [.aload_n 0] (pc' := 60) (lv' := [(0, .ref a0), (1, .int x1)]) (st' := [.ref a0]) (by decide +kernel) rfl rfl ?_
        obtain ⟨v3, ev3, h⟩ := Ok.bind h
        refine BW.get (by decide +kernel : decode tX10_count.2.1 60 = .ok (.getfield 94, 3)) ciX10 (k := 5) (by decide) lkF_X10_94 (toI_V ev3) ?_
        exact BW.iret (by decide +kernel : decode tX10_count.2.1 63 = .ok (.ireturn, 1)) rfl (Nat.zero_le _) (Nat.zero_le _) (hQ _ _ (Ok.some h))
      · have h := (Ok.ite h).2 hc2
        by_cases hc3 : x1 = (3 : Int32)
        · have h := (Ok.ite h).1 hc3
          refine BW.tblIn (off := 63) 64 (by decide +kernel : decode tX10_count.2.1 1 = .ok (.tableswitch 78 0 6 #[48, 53, 58, 63, 68, 73, 43], 43)) (by rw [hc3]; decide) (by rw [hc3]; decide) (by rw [hc3]; rfl) (by decide) ?_
          refine BW.run [.aload_n 0] (pc' := 65) (lv' := [(0, .ref a0), (1, .int x1)]) (st' := [.ref a0]) (by decide +kernel) rfl rfl ?_
          obtain ⟨v4, ev4, h⟩ := Ok.bind h
          refine BW.get (by decide +kernel : decode tX10_count.2.1 65 = .ok (.getfield 77, 3)) ciX10 (k := 1) (by decide) lkF_X10_77 (toI_V ev4) ?_
          exact BW.iret (by decide +kernel : decode tX10_count.2.1 68 = .ok (.ireturn, 1)) rfl (Nat.zero_le _) (Nat.zero_le _) (hQ _ _ (Ok.some h))
        · have h := (Ok.ite h).2 hc3
          by_cases hc4 : x1 = (4 : Int32)
          · have h := (Ok.ite h).1 hc4
            refine BW.tblIn (off := 68) 69 (by decide +kernel : decode tX10_count.2.1 1 = .ok (.tableswitch 78 0 6 #[48, 53, 58, 63, 68, 73, 43], 43)) (by rw [hc4]; decide) (by rw [hc4]; decide) (by rw [hc4]; rfl) (by decide) ?_
            refine BW.run [.aload_n 0] (pc' := 70) (lv' := [(0, .ref a0), (1, .int x1)]) (st' := [.ref a0]) (by decide +kernel) rfl rfl ?_
            obtain ⟨v5, ev5, h⟩ := Ok.bind h
            refine BW.get (by decide +kernel : decode tX10_count.2.1 70 = .ok (.getfield 81, 3)) ciX10 (k := 2) (by decide) lkF_X10_81 (toI_V ev5) ?_
            exact BW.iret (by decide +kernel : decode tX10_count.2.1 73 = .ok (.ireturn, 1)) rfl (Nat.zero_le _) (Nat.zero_le _) (hQ _ _ (Ok.some h))
          · have h := (Ok.ite h).2 hc4
            by_cases hc5 : x1 = (5 : Int32)
            · have h := (Ok.ite h).1 hc5
              refine BW.tblIn (off := 73) 74 (by decide +kernel : decode tX10_count.2.1 1 = .ok (.tableswitch 78 0 6 #[48, 53, 58, 63, 68, 73, 43], 43)) (by rw [hc5]; decide) (by rw [hc5]; decide) (by rw [hc5]; rfl) (by decide) ?_
              refine BW.run [.aload_n 0] (pc' := 75) (lv' := [(0, .ref a0), (1, .int x1)]) (st' := [.ref a0]) (by decide +kernel) rfl rfl ?_
              obtain ⟨v6, ev6, h⟩ := Ok.bind h
              refine BW.get (by decide +kernel : decode tX10_count.2.1 75 = .ok (.getfield 84, 3)) ciX10 (k := 3) (by decide) lkF_X10_84 (toI_V ev6) ?_
              exact BW.iret (by decide +kernel : decode tX10_count.2.1 78 = .ok (.ireturn, 1)) rfl (Nat.zero_le _) (Nat.zero_le _) (hQ _ _ (Ok.some h))
            · have h := (Ok.ite h).2 hc5
              by_cases hc6 : x1 = (6 : Int32)
              · have h := (Ok.ite h).1 hc6
                refine BW.tblIn (off := 43) 44 (by decide +kernel : decode tX10_count.2.1 1 = .ok (.tableswitch 78 0 6 #[48, 53, 58, 63, 68, 73, 43], 43)) (by rw [hc6]; decide) (by rw [hc6]; decide) (by rw [hc6]; rfl) (by decide) ?_
                refine BW.run [.aload_n 0] (pc' := 45) (lv' := [(0, .ref a0), (1, .int x1)]) (st' := [.ref a0]) (by decide +kernel) rfl rfl ?_
                obtain ⟨v7, ev7, h⟩ := Ok.bind h
                refine BW.get (by decide +kernel : decode tX10_count.2.1 45 = .ok (.getfield 298, 3)) ciX10 (k := 36) (by decide) lkF_X10_298 (toI_V ev7) ?_
                exact BW.iret (by decide +kernel : decode tX10_count.2.1 48 = .ok (.ireturn, 1)) rfl (Nat.zero_le _) (Nat.zero_le _) (hQ _ _ (Ok.some h))
              · have h := (Ok.ite h).2 hc6
                refine BW.tblOut 79 (by decide +kernel : decode tX10_count.2.1 1 = .ok (.tableswitch 78 0 6 #[48, 53, 58, 63, 68, 73, 43], 43)) (by have z0 : x1.toInt ≠ 0 := Int32_nek hc0 (by decide); have z1 : x1.toInt ≠ 1 := Int32_nek hc1 (by decide); have z2 : x1.toInt ≠ 2 := Int32_nek hc2 (by decide); have z3 : x1.toInt ≠ 3 := Int32_nek hc3 (by decide); have z4 : x1.toInt ≠ 4 := Int32_nek hc4 (by decide); have z5 : x1.toInt ≠ 5 := Int32_nek hc5 (by decide); have z6 : x1.toInt ≠ 6 := Int32_nek hc6 (by decide); omega) (by decide) ?_
                refine BW.run [.iconst (-1)] (pc' := 80) (lv' := [(0, .ref a0), (1, .int x1)]) (st' := [.int (-1 : Int32)]) (by decide +kernel) rfl rfl ?_
                exact BW.iret (by decide +kernel : decode tX10_count.2.1 80 = .ok (.ireturn, 1)) rfl (Nat.zero_le _) (Nat.zero_le _) (hQ _ _ (Ok.some h))
theorem oX10_count {n : Nat} {P : Int32 × Sg → Prop} {s0 : Sg} {a0 : Nat} {x1 : Int32} (h : Ok (mX10_count n s0 a0 x1) P) : ∃ n0, s0.2.1 a0 = some (10, n0) := by
  unfold mX10_count at h
  exact Ok.isO h
theorem DX10_count {G : Cx} {n : Nat} {P : Int32 × Sg → Prop} {s0 : Sg} {a0 : Nat} {x1 : Int32} (h : Ok (mX10_count n s0 a0 x1) P) : BM G tX10_count 0 0 0 0 [.ref a0, .int x1] s0 (fun v s => ∃ r, v = some (.int r) ∧ P (r, s)) := by
  refine BM.of (by decide +kernel) (Nat.le_of_ble_eq_true rfl) ?_
  exact bX10_count (E := (({ frames := 0, cells := 0, slots := 0, locals := 0 }), Aof s0, 0, 0, (fun v s => ∃ r, v = some (.int r) ∧ P (r, s)))) ⟨Nat.le_refl _, Nat.le_refl _⟩ (fun r s hp => ⟨r, rfl, hp⟩) h
def mX10_cross (n : Nat) (s0 : Sg) (a0 : Nat) (x1 : Int32) (x2 : Int32) (x3 : Int32) : Option (Int32 × Sg) :=
  (isO 10 s0 a0).bind fun _ =>
  (mX10_latestIn n s0 a0 x1 x3).bind fun (v2, s1) =>
  if v2 = (-1 : Int32) then (
    some ((0 : Int32), s1)
  ) else (
    (mX10_latestIn n s1 a0 x2 x3).bind fun (v5, s4) =>
    if v5 = (-1 : Int32) then (
      some ((0 : Int32), s4)
    ) else (
      some ((1 : Int32), s4)
    )
  )
theorem bX10_cross {G : Cx} {E : Ev} {n : Nat} (hRm : 3 ≤ E.1.frames ∧ 68 ≤ E.1.locals) {P : Int32 × Sg → Prop} (hQ : ∀ r s, P (r, s) → E.2.2.2.2 (some (.int r)) s) {s0 : Sg} {a0 : Nat} {x1 : Int32} {x2 : Int32} {x3 : Int32} (h : Ok (mX10_cross n s0 a0 x1 x2 x3) P) : BW G tX10_cross E 0 0 0 [(0, .ref a0), (1, .int x1), (2, .int x2), (3, .int x3)] [] s0 := by
  unfold mX10_cross at h
  obtain ⟨_, _, h⟩ := Ok.bind h
  refine BW.run [.aload_n 0, .iload_n 1, .iload_n 3] (pc' := 3) (lv' := [(0, .ref a0), (1, .int x1), (2, .int x2), (3, .int x3)]) (st' := [.int x3, .int x1, .ref a0]) (by decide +kernel) rfl rfl ?_
  refine BW.callV (As := [.int x1, .int x3]) (st := []) (by decide +kernel : decode tX10_cross.2.1 3 = .ok (.invokevirtual 181, 3)) (DX10_latestIn (Ok.bindK h)) mfX10_latestIn lkM_X10_181 imX10_latestIn selX10_latestIn ciX10 (oX10_latestIn (Ok.bindK h)).choose_spec rfl rfl (Nat.le_of_ble_eq_true rfl) ⟨Nat.le_trans (by decide) hRm.1, Nat.le_trans (by decide) hRm.2⟩ ⟨Nat.zero_le _, Nat.zero_le _⟩ ?_
  rintro _ s1 ⟨v2, rfl, h⟩
  show BW G tX10_cross E 0 0 6 [(0, .ref a0), (1, .int x1), (2, .int x2), (3, .int x3)] [.int v2] s1
  refine BW.run [.iconst (-1)] (pc' := 7) (lv' := [(0, .ref a0), (1, .int x1), (2, .int x2), (3, .int x3)]) (st' := [.int (-1 : Int32), .int v2]) (by decide +kernel) rfl rfl ?_
  refine BW.icmp_eq 24 (by decide +kernel : decode tX10_cross.2.1 7 = .ok (.if_icmp .eq 17, 3)) (by decide) (fun hc => ?_) (fun hc => ?_)
  · have h := (Ok.ite h).1 hc
    refine BW.run [.iconst 0] (pc' := 25) (lv' := [(0, .ref a0), (1, .int x1), (2, .int x2), (3, .int x3)]) (st' := [.int (0 : Int32)]) (by decide +kernel) rfl rfl ?_
    exact BW.zret (by decide +kernel : decode tX10_cross.2.1 25 = .ok (.ireturn, 1)) rfl (Or.inl rfl) (Nat.zero_le _) (Nat.zero_le _) (hQ _ _ (Ok.some h))
  · have h := (Ok.ite h).2 hc
    refine BW.run [.aload_n 0, .iload_n 2, .iload_n 3] (pc' := 13) (lv' := [(0, .ref a0), (1, .int x1), (2, .int x2), (3, .int x3)]) (st' := [.int x3, .int x2, .ref a0]) (by decide +kernel) rfl rfl ?_
    refine BW.callV (As := [.int x2, .int x3]) (st := []) (by decide +kernel : decode tX10_cross.2.1 13 = .ok (.invokevirtual 181, 3)) (DX10_latestIn (Ok.bindK h)) mfX10_latestIn lkM_X10_181 imX10_latestIn selX10_latestIn ciX10 (oX10_latestIn (Ok.bindK h)).choose_spec rfl rfl (Nat.le_of_ble_eq_true rfl) ⟨Nat.le_trans (by decide) hRm.1, Nat.le_trans (by decide) hRm.2⟩ ⟨Nat.zero_le _, Nat.zero_le _⟩ ?_
    rintro _ s4 ⟨v5, rfl, h⟩
    show BW G tX10_cross E 0 0 16 [(0, .ref a0), (1, .int x1), (2, .int x2), (3, .int x3)] [.int v5] s4
    refine BW.run [.iconst (-1)] (pc' := 17) (lv' := [(0, .ref a0), (1, .int x1), (2, .int x2), (3, .int x3)]) (st' := [.int (-1 : Int32), .int v5]) (by decide +kernel) rfl rfl ?_
    refine BW.icmp_eq 24 (by decide +kernel : decode tX10_cross.2.1 17 = .ok (.if_icmp .eq 7, 3)) (by decide) (fun hc => ?_) (fun hc => ?_)
    · have h := (Ok.ite h).1 hc
      refine BW.run [.iconst 0] (pc' := 25) (lv' := [(0, .ref a0), (1, .int x1), (2, .int x2), (3, .int x3)]) (st' := [.int (0 : Int32)]) (by decide +kernel) rfl rfl ?_
      exact BW.zret (by decide +kernel : decode tX10_cross.2.1 25 = .ok (.ireturn, 1)) rfl (Or.inl rfl) (Nat.zero_le _) (Nat.zero_le _) (hQ _ _ (Ok.some h))
    · have h := (Ok.ite h).2 hc
      refine BW.run [.iconst 1] (pc' := 21) (lv' := [(0, .ref a0), (1, .int x1), (2, .int x2), (3, .int x3)]) (st' := [.int (1 : Int32)]) (by decide +kernel) rfl rfl ?_
      refine BW.goto 25 (by decide +kernel : decode tX10_cross.2.1 21 = .ok (.goto 4, 3)) (by decide) ?_
      exact BW.zret (by decide +kernel : decode tX10_cross.2.1 25 = .ok (.ireturn, 1)) rfl (Or.inr rfl) (Nat.zero_le _) (Nat.zero_le _) (hQ _ _ (Ok.some h))
theorem oX10_cross {n : Nat} {P : Int32 × Sg → Prop} {s0 : Sg} {a0 : Nat} {x1 : Int32} {x2 : Int32} {x3 : Int32} (h : Ok (mX10_cross n s0 a0 x1 x2 x3) P) : ∃ n0, s0.2.1 a0 = some (10, n0) := by
  unfold mX10_cross at h
  exact Ok.isO h
theorem DX10_cross {G : Cx} {n : Nat} {P : Int32 × Sg → Prop} {s0 : Sg} {a0 : Nat} {x1 : Int32} {x2 : Int32} {x3 : Int32} (h : Ok (mX10_cross n s0 a0 x1 x2 x3) P) : BM G tX10_cross 3 68 0 0 [.ref a0, .int x1, .int x2, .int x3] s0 (fun v s => ∃ r, v = some (.int r) ∧ P (r, s)) := by
  refine BM.of (by decide +kernel) (Nat.le_of_ble_eq_true rfl) ?_
  exact bX10_cross (E := (({ frames := 3, cells := 0, slots := 0, locals := 68 }), Aof s0, 0, 0, (fun v s => ∃ r, v = some (.int r) ∧ P (r, s)))) ⟨Nat.le_refl _, Nat.le_refl _⟩ (fun r s hp => ⟨r, rfl, hp⟩) h
def mX10_crossings_48 (n : Nat) (s0 : Sg) (a0 : Nat) (x1 : Int32) (x2 : Int32) (x3 : Int32) (x4 : Int32) (x5 : Int32) : Option ((Sg × Int32 × Int32) ⊕ ((Sg × Int32) ⊕ (Int32 × Sg))) :=
  some (.inl (s0, x4, (x5 + (1 : Int32))))
theorem bX10_crossings_48 {G : Cx} {E : Ev} {n : Nat} (hRm : 4 ≤ E.1.frames ∧ 91 ≤ E.1.locals) {s0 : Sg} {a0 : Nat} {x1 : Int32} {x2 : Int32} {x3 : Int32} {x4 : Int32} {x5 : Int32} {P : (Sg × Int32 × Int32) ⊕ ((Sg × Int32) ⊕ (Int32 × Sg)) → Prop} (hC : ∀ (s : Sg) (c4 : Int32) (c5 : Int32), P (.inl (s, c4, c5)) → BW G tX10_crossings E 0 0 17 [(0, .ref a0), (1, .int x1), (2, .int x2), (3, .int x3), (4, .int c4), (5, .int c5)] [] s) (hE : ∀ (s : Sg) (c4 : Int32), P (.inr (.inl (s, c4))) → BW G tX10_crossings E 0 0 54 [(3, .int x3), (4, .int c4)] [] s) (hQ : ∀ r s, P (.inr (.inr (r, s))) → E.2.2.2.2 (some (.int r)) s)  (h : Ok (mX10_crossings_48 n s0 a0 x1 x2 x3 x4 x5) P) : BW G tX10_crossings E 0 0 48 [(0, .ref a0), (1, .int x1), (2, .int x2), (3, .int x3), (4, .int x4), (5, .int x5)] [] s0 := by
  unfold mX10_crossings_48 at h
  refine BW.run [.iinc 5 1] (pc' := 51) (lv' := [(0, .ref a0), (1, .int x1), (2, .int x2), (3, .int x3), (4, .int x4), (5, .int (x5 + (1 : Int32)))]) (st' := []) (by decide +kernel) rfl rfl ?_
  refine BW.goto 17 (by decide +kernel : decode tX10_crossings.2.1 51 = .ok (.goto (-34), 3)) (by decide) ?_
  exact hC _ _ _ (Ok.some h)
def mX10_crossings_L17 (n : Nat) (a0 : Nat) (x1 : Int32) (x2 : Int32) (x3 : Int32) : (Sg × Int32 × Int32) → Option ((Sg × Int32 × Int32) ⊕ ((Sg × Int32) ⊕ (Int32 × Sg)))
  | (s0, x4, x5) =>
    if (256 : Int32) ≤ x5 then (
      some (.inr (.inl (s0, x4)))
    ) else (
      (mX10_cross n s0 a0 x1 x2 x5).bind fun (v5, s4) =>
      if v5 = 0 then (
        mX10_crossings_48 n s4 a0 x1 x2 x3 x4 x5
      ) else (
        if x4 = x3 then (
          some (.inr (.inr (x5, s4)))
        ) else (
          mX10_crossings_48 n s4 a0 x1 x2 x3 (x4 + (1 : Int32)) x5
        )
      )
    )
theorem bX10_crossings_L17 {G : Cx} {E : Ev} {n : Nat} (hRm : 4 ≤ E.1.frames ∧ 91 ≤ E.1.locals) {a0 : Nat} {x1 : Int32} {x2 : Int32} {x3 : Int32} {P : (Sg × Int32 × Int32) ⊕ ((Sg × Int32) ⊕ (Int32 × Sg)) → Prop} (hC : ∀ (s : Sg) (c4 : Int32) (c5 : Int32), P (.inl (s, c4, c5)) → BW G tX10_crossings E 0 0 17 [(0, .ref a0), (1, .int x1), (2, .int x2), (3, .int x3), (4, .int c4), (5, .int c5)] [] s) (hE : ∀ (s : Sg) (c4 : Int32), P (.inr (.inl (s, c4))) → BW G tX10_crossings E 0 0 54 [(3, .int x3), (4, .int c4)] [] s) (hQ : ∀ r s, P (.inr (.inr (r, s))) → E.2.2.2.2 (some (.int r)) s) {s0 : Sg} {x4 : Int32} {x5 : Int32} (h : Ok (mX10_crossings_L17 n a0 x1 x2 x3 (s0, x4, x5)) P) : BW G tX10_crossings E 0 0 17 [(0, .ref a0), (1, .int x1), (2, .int x2), (3, .int x3), (4, .int x4), (5, .int x5)] [] s0 := by
  unfold mX10_crossings_L17 at h
  refine BW.run [.iload 5, .sipush 256] (pc' := 22) (lv' := [(0, .ref a0), (1, .int x1), (2, .int x2), (3, .int x3), (4, .int x4), (5, .int x5)]) (st' := [.int (256 : Int32), .int x5]) (by decide +kernel) rfl rfl ?_
  refine BW.icmp_ge 54 (by decide +kernel : decode tX10_crossings.2.1 22 = .ok (.if_icmp .ge 32, 3)) (by decide) (fun hc => ?_) (fun hc => ?_)
  · have h := (Ok.ite h).1 hc
    refine BW.sub [3, 4] rfl ?_
    exact hE _ _ (Ok.some h)
  · have h := (Ok.ite h).2 hc
    refine BW.run [.aload_n 0, .iload_n 1, .iload_n 2, .iload 5] (pc' := 30) (lv' := [(0, .ref a0), (1, .int x1), (2, .int x2), (3, .int x3), (4, .int x4), (5, .int x5)]) (st' := [.int x5, .int x2, .int x1, .ref a0]) (by decide +kernel) rfl rfl ?_
    refine BW.callV (As := [.int x1, .int x2, .int x5]) (st := []) (by decide +kernel : decode tX10_crossings.2.1 30 = .ok (.invokevirtual 251, 3)) (DX10_cross (Ok.bindK h)) mfX10_cross lkM_X10_251 imX10_cross selX10_cross ciX10 (oX10_cross (Ok.bindK h)).choose_spec rfl rfl (Nat.le_of_ble_eq_true rfl) ⟨Nat.le_trans (by decide) hRm.1, Nat.le_trans (by decide) hRm.2⟩ ⟨Nat.zero_le _, Nat.zero_le _⟩ ?_
    rintro _ s4 ⟨v5, rfl, h⟩
    show BW G tX10_crossings E 0 0 33 [(0, .ref a0), (1, .int x1), (2, .int x2), (3, .int x3), (4, .int x4), (5, .int x5)] [.int v5] s4
    refine BW.if_eq 48 (by decide +kernel : decode tX10_crossings.2.1 33 = .ok (.ifCond .eq 15, 3)) (by decide) (fun hc => ?_) (fun hc => ?_)
    · have h := (Ok.ite h).1 hc
      exact bX10_crossings_48 hRm hC hE hQ h
    · have h := (Ok.ite h).2 hc
      refine BW.run [.iload 4, .iload_n 3] (pc' := 39) (lv' := [(0, .ref a0), (1, .int x1), (2, .int x2), (3, .int x3), (4, .int x4), (5, .int x5)]) (st' := [.int x3, .int x4]) (by decide +kernel) rfl rfl ?_
      refine BW.icmp_ne 45 (by decide +kernel : decode tX10_crossings.2.1 39 = .ok (.if_icmp .ne 6, 3)) (by decide) (fun hc => ?_) (fun hc => ?_)
      · have h := (Ok.ite h).2 hc
        refine BW.run [.iinc 4 1] (pc' := 48) (lv' := [(0, .ref a0), (1, .int x1), (2, .int x2), (3, .int x3), (4, .int (x4 + (1 : Int32))), (5, .int x5)]) (st' := []) (by decide +kernel) rfl rfl ?_
        exact bX10_crossings_48 hRm hC hE hQ h
      · have h := (Ok.ite h).1 hc
        refine BW.run [.iload 5] (pc' := 44) (lv' := [(0, .ref a0), (1, .int x1), (2, .int x2), (3, .int x3), (4, .int x4), (5, .int x5)]) (st' := [.int x5]) (by decide +kernel) rfl rfl ?_
        exact BW.iret (by decide +kernel : decode tX10_crossings.2.1 44 = .ok (.ireturn, 1)) rfl (Nat.zero_le _) (Nat.zero_le _) (hQ _ _ (Ok.some h))
theorem bX10_crossings_W17 {G : Cx} {E : Ev} {n : Nat} (hRm : 4 ≤ E.1.frames ∧ 91 ≤ E.1.locals) {a0 : Nat} {x1 : Int32} {x2 : Int32} {x3 : Int32} {K : ((Sg × Int32) ⊕ (Int32 × Sg)) → Prop} (hE : ∀ (s : Sg) (c4 : Int32), K (.inl (s, c4)) → BW G tX10_crossings E 0 0 54 [(3, .int x3), (4, .int c4)] [] s) (hQ : ∀ r s, K (.inr (r, s)) → E.2.2.2.2 (some (.int r)) s) : ∀ (f : Nat) (c : Sg × Int32 × Int32), Ok (loopM (mX10_crossings_L17 n a0 x1 x2 x3) f c) K → match c with | (s0, x4, x5) => BW G tX10_crossings E 0 0 17 [(0, .ref a0), (1, .int x1), (2, .int x2), (3, .int x3), (4, .int x4), (5, .int x5)] [] s0 := by
  intro f
  induction f with
  | zero => intro c h; exact (Ok.no h).elim
  | succ f ih =>
    intro c h
    obtain ⟨s0, x4, x5⟩ := c
    exact bX10_crossings_L17 (P := loopP (mX10_crossings_L17 n a0 x1 x2 x3) f K) hRm (fun s c4 c5 h => ih (s, c4, c5) h) hE hQ (loopM_ok h)
def mX10_crossings (n : Nat) (s0 : Sg) (a0 : Nat) (x1 : Int32) (x2 : Int32) (x3 : Int32) : Option (Int32 × Sg) :=
  (isO 10 s0 a0).bind fun _ =>
  (mX10_areTwo n s0 a0 x1 x2).bind fun (v2, s1) =>
  if v2 = 0 then (
    some ((-1 : Int32), s1)
  ) else (
    (loopM (mX10_crossings_L17 n a0 x1 x2 x3) n (s1, (0 : Int32), (0 : Int32))).bind fun q9 => match q9 with
    | .inl (s7, v8) => (
      if x3 = (-1 : Int32) then (
        some (v8, s7)
      ) else (
        some ((-1 : Int32), s7)
      )
    )
    | .inr (r, s) => some (r, s)
  )
theorem bX10_crossings {G : Cx} {E : Ev} {n : Nat} (hRm : 4 ≤ E.1.frames ∧ 91 ≤ E.1.locals) {P : Int32 × Sg → Prop} (hQ : ∀ r s, P (r, s) → E.2.2.2.2 (some (.int r)) s) {s0 : Sg} {a0 : Nat} {x1 : Int32} {x2 : Int32} {x3 : Int32} (h : Ok (mX10_crossings n s0 a0 x1 x2 x3) P) : BW G tX10_crossings E 0 0 0 [(0, .ref a0), (1, .int x1), (2, .int x2), (3, .int x3)] [] s0 := by
  unfold mX10_crossings at h
  obtain ⟨_, _, h⟩ := Ok.bind h
  refine BW.run [.aload_n 0, .iload_n 1, .iload_n 2] (pc' := 3) (lv' := [(0, .ref a0), (1, .int x1), (2, .int x2), (3, .int x3)]) (st' := [.int x2, .int x1, .ref a0]) (by decide +kernel) rfl rfl ?_
  refine BW.callV (As := [.int x1, .int x2]) (st := []) (by decide +kernel : decode tX10_crossings.2.1 3 = .ok (.invokevirtual 248, 3)) (DX10_areTwo (Ok.bindK h)) mfX10_areTwo lkM_X10_248 imX10_areTwo selX10_areTwo ciX10 (oX10_areTwo (Ok.bindK h)).choose_spec rfl rfl (Nat.le_of_ble_eq_true rfl) ⟨Nat.le_trans (by decide) hRm.1, Nat.le_trans (by decide) hRm.2⟩ ⟨Nat.zero_le _, Nat.zero_le _⟩ ?_
  rintro _ s1 ⟨v2, rfl, h⟩
  show BW G tX10_crossings E 0 0 6 [(0, .ref a0), (1, .int x1), (2, .int x2), (3, .int x3)] [.int v2] s1
  refine BW.if_ne 11 (by decide +kernel : decode tX10_crossings.2.1 6 = .ok (.ifCond .ne 5, 3)) (by decide) (fun hc => ?_) (fun hc => ?_)
  · have h := (Ok.ite h).2 hc
    refine BW.run [.iconst 0, .istore 4, .iconst 0, .istore 5] (pc' := 17) (lv' := [(0, .ref a0), (1, .int x1), (2, .int x2), (3, .int x3), (4, .int (0 : Int32)), (5, .int (0 : Int32))]) (st' := []) (by decide +kernel) rfl rfl ?_
    refine bX10_crossings_W17 hRm (a0 := a0) (x1 := x1) (x2 := x2) (x3 := x3) (fun s7 v8 h => ?_) (fun r s h => ?_) n (s1, (0 : Int32), (0 : Int32)) (Ok.bindK h)
    · refine BW.run [.iload_n 3, .iconst (-1)] (pc' := 56) (lv' := [(3, .int x3), (4, .int v8)]) (st' := [.int (-1 : Int32), .int x3]) (by decide +kernel) rfl rfl ?_
      refine BW.icmp_ne 64 (by decide +kernel : decode tX10_crossings.2.1 56 = .ok (.if_icmp .ne 8, 3)) (by decide) (fun hc => ?_) (fun hc => ?_)
      · have h := (Ok.ite h).2 hc
        refine BW.run [.iconst (-1)] (pc' := 65) (lv' := [(3, .int x3), (4, .int v8)]) (st' := [.int (-1 : Int32)]) (by decide +kernel) rfl rfl ?_
        exact BW.iret (by decide +kernel : decode tX10_crossings.2.1 65 = .ok (.ireturn, 1)) rfl (Nat.zero_le _) (Nat.zero_le _) (hQ _ _ (Ok.some h))
      · have h := (Ok.ite h).1 hc
        refine BW.run [.iload 4] (pc' := 61) (lv' := [(3, .int x3), (4, .int v8)]) (st' := [.int v8]) (by decide +kernel) rfl rfl ?_
        refine BW.goto 65 (by decide +kernel : decode tX10_crossings.2.1 61 = .ok (.goto 4, 3)) (by decide) ?_
        exact BW.iret (by decide +kernel : decode tX10_crossings.2.1 65 = .ok (.ireturn, 1)) rfl (Nat.zero_le _) (Nat.zero_le _) (hQ _ _ (Ok.some h))
    · exact hQ r s (Ok.some h)
  · have h := (Ok.ite h).1 hc
    refine BW.run [.iconst (-1)] (pc' := 10) (lv' := [(0, .ref a0), (1, .int x1), (2, .int x2), (3, .int x3)]) (st' := [.int (-1 : Int32)]) (by decide +kernel) rfl rfl ?_
    exact BW.iret (by decide +kernel : decode tX10_crossings.2.1 10 = .ok (.ireturn, 1)) rfl (Nat.zero_le _) (Nat.zero_le _) (hQ _ _ (Ok.some h))
theorem oX10_crossings {n : Nat} {P : Int32 × Sg → Prop} {s0 : Sg} {a0 : Nat} {x1 : Int32} {x2 : Int32} {x3 : Int32} (h : Ok (mX10_crossings n s0 a0 x1 x2 x3) P) : ∃ n0, s0.2.1 a0 = some (10, n0) := by
  unfold mX10_crossings at h
  exact Ok.isO h
theorem DX10_crossings {G : Cx} {n : Nat} {P : Int32 × Sg → Prop} {s0 : Sg} {a0 : Nat} {x1 : Int32} {x2 : Int32} {x3 : Int32} (h : Ok (mX10_crossings n s0 a0 x1 x2 x3) P) : BM G tX10_crossings 4 91 0 0 [.ref a0, .int x1, .int x2, .int x3] s0 (fun v s => ∃ r, v = some (.int r) ∧ P (r, s)) := by
  refine BM.of (by decide +kernel) (Nat.le_of_ble_eq_true rfl) ?_
  exact bX10_crossings (E := (({ frames := 4, cells := 0, slots := 0, locals := 91 }), Aof s0, 0, 0, (fun v s => ∃ r, v = some (.int r) ∧ P (r, s)))) ⟨Nat.le_refl _, Nat.le_refl _⟩ (fun r s hp => ⟨r, rfl, hp⟩) h
def mX10_end (n : Nat) (s0 : Sg) (a0 : Nat) (x1 : Int32) : Option (Int32 × Sg) :=
  (isO 10 s0 a0).bind fun _ =>
  if x1 < 0 then (
    some ((0 : Int32), s0)
  ) else (
    (toI (gV 10 s0 a0 5)).bind fun v1 =>
    if x1 ≤ v1 then (
      (pV 10 s0 a0 5 (.int x1)).bind fun s2 =>
      some ((1 : Int32), s2)
    ) else (
      some ((0 : Int32), s0)
    )
  )
theorem bX10_end {G : Cx} {E : Ev} {n : Nat} (hRm : 0 ≤ E.1.frames ∧ 0 ≤ E.1.locals) {P : Int32 × Sg → Prop} (hQ : ∀ r s, P (r, s) → E.2.2.2.2 (some (.int r)) s) {s0 : Sg} {a0 : Nat} {x1 : Int32} (h : Ok (mX10_end n s0 a0 x1) P) : BW G tX10_end E 0 0 0 [(0, .ref a0), (1, .int x1)] [] s0 := by
  unfold mX10_end at h
  obtain ⟨_, _, h⟩ := Ok.bind h
  refine BW.run [.iload_n 1] (pc' := 1) (lv' := [(0, .ref a0), (1, .int x1)]) (st' := [.int x1]) (by decide +kernel) rfl rfl ?_
  refine BW.if_lt 12 (by decide +kernel : decode tX10_end.2.1 1 = .ok (.ifCond .lt 11, 3)) (by decide) (fun hc => ?_) (fun hc => ?_)
  · have h := (Ok.ite h).1 hc
    refine BW.run [.iconst 0] (pc' := 13) (lv' := [(0, .ref a0), (1, .int x1)]) (st' := [.int (0 : Int32)]) (by decide +kernel) rfl rfl ?_
    exact BW.zret (by decide +kernel : decode tX10_end.2.1 13 = .ok (.ireturn, 1)) rfl (Or.inl rfl) (Nat.zero_le _) (Nat.zero_le _) (hQ _ _ (Ok.some h))
  · have h := (Ok.ite h).2 hc
    refine BW.run [.iload_n 1, .aload_n 0] (pc' := 6) (lv' := [(0, .ref a0), (1, .int x1)]) (st' := [.ref a0, .int x1]) (by decide +kernel) rfl rfl ?_
    obtain ⟨v1, ev1, h⟩ := Ok.bind h
    refine BW.get (by decide +kernel : decode tX10_end.2.1 6 = .ok (.getfield 94, 3)) ciX10 (k := 5) (by decide) lkF_X10_94 (toI_V ev1) ?_
    refine BW.icmp_le 14 (by decide +kernel : decode tX10_end.2.1 9 = .ok (.if_icmp .le 5, 3)) (by decide) (fun hc => ?_) (fun hc => ?_)
    · have h := (Ok.ite h).1 hc
      refine BW.run [.aload_n 0, .iload_n 1] (pc' := 16) (lv' := [(0, .ref a0), (1, .int x1)]) (st' := [.int x1, .ref a0]) (by decide +kernel) rfl rfl ?_
      obtain ⟨s2, es2, h⟩ := Ok.bind h
      refine BW.put (by decide +kernel : decode tX10_end.2.1 16 = .ok (.putfield 94, 3)) ciX10 (k := 5) (by decide) lkF_X10_94 rfl rfl rfl es2 ?_
      refine BW.run [.iconst 1] (pc' := 20) (lv' := [(0, .ref a0), (1, .int x1)]) (st' := [.int (1 : Int32)]) (by decide +kernel) rfl rfl ?_
      exact BW.zret (by decide +kernel : decode tX10_end.2.1 20 = .ok (.ireturn, 1)) rfl (Or.inr rfl) (Nat.zero_le _) (Nat.zero_le _) (hQ _ _ (Ok.some h))
    · have h := (Ok.ite h).2 hc
      refine BW.run [.iconst 0] (pc' := 13) (lv' := [(0, .ref a0), (1, .int x1)]) (st' := [.int (0 : Int32)]) (by decide +kernel) rfl rfl ?_
      exact BW.zret (by decide +kernel : decode tX10_end.2.1 13 = .ok (.ireturn, 1)) rfl (Or.inl rfl) (Nat.zero_le _) (Nat.zero_le _) (hQ _ _ (Ok.some h))
theorem oX10_end {n : Nat} {P : Int32 × Sg → Prop} {s0 : Sg} {a0 : Nat} {x1 : Int32} (h : Ok (mX10_end n s0 a0 x1) P) : ∃ n0, s0.2.1 a0 = some (10, n0) := by
  unfold mX10_end at h
  exact Ok.isO h
theorem DX10_end {G : Cx} {n : Nat} {P : Int32 × Sg → Prop} {s0 : Sg} {a0 : Nat} {x1 : Int32} (h : Ok (mX10_end n s0 a0 x1) P) : BM G tX10_end 0 0 0 0 [.ref a0, .int x1] s0 (fun v s => ∃ r, v = some (.int r) ∧ P (r, s)) := by
  refine BM.of (by decide +kernel) (Nat.le_of_ble_eq_true rfl) ?_
  exact bX10_end (E := (({ frames := 0, cells := 0, slots := 0, locals := 0 }), Aof s0, 0, 0, (fun v s => ∃ r, v = some (.int r) ∧ P (r, s)))) ⟨Nat.le_refl _, Nat.le_refl _⟩ (fun r s hp => ⟨r, rfl, hp⟩) h
def mX10_isCell (n : Nat) (s0 : Sg) (a0 : Nat) (x1 : Int32) (x2 : Int32) : Option (Int32 × Sg) :=
  (isO 10 s0 a0).bind fun _ =>
  (toI (gV 10 s0 a0 1)).bind fun v1 =>
  (mX10_in n s0 x1 (0 : Int32) (v1 - (1 : Int32))).bind fun (v3, s2) =>
  if v3 = 0 then (
    some ((0 : Int32), s2)
  ) else (
    (toI (gV 10 s2 a0 2)).bind fun v5 =>
    (mX10_in n s2 x2 (0 : Int32) (v5 - (1 : Int32))).bind fun (v7, s6) =>
    if v7 = 0 then (
      some ((0 : Int32), s6)
    ) else (
      some ((1 : Int32), s6)
    )
  )
theorem bX10_isCell {G : Cx} {E : Ev} {n : Nat} (hRm : 1 ≤ E.1.frames ∧ 22 ≤ E.1.locals) {P : Int32 × Sg → Prop} (hQ : ∀ r s, P (r, s) → E.2.2.2.2 (some (.int r)) s) {s0 : Sg} {a0 : Nat} {x1 : Int32} {x2 : Int32} (h : Ok (mX10_isCell n s0 a0 x1 x2) P) : BW G tX10_isCell E 0 0 0 [(0, .ref a0), (1, .int x1), (2, .int x2)] [] s0 := by
  unfold mX10_isCell at h
  obtain ⟨_, _, h⟩ := Ok.bind h
  refine BW.run [.iload_n 1, .iconst 0, .aload_n 0] (pc' := 3) (lv' := [(0, .ref a0), (1, .int x1), (2, .int x2)]) (st' := [.ref a0, .int (0 : Int32), .int x1]) (by decide +kernel) rfl rfl ?_
  obtain ⟨v1, ev1, h⟩ := Ok.bind h
  refine BW.get (by decide +kernel : decode tX10_isCell.2.1 3 = .ok (.getfield 77, 3)) ciX10 (k := 1) (by decide) lkF_X10_77 (toI_V ev1) ?_
  refine BW.run [.iconst 1, .isub] (pc' := 8) (lv' := [(0, .ref a0), (1, .int x1), (2, .int x2)]) (st' := [.int (v1 - (1 : Int32)), .int (0 : Int32), .int x1]) (by decide +kernel) rfl rfl ?_
  refine BW.callS (As := [.int x1, .int (0 : Int32), .int (v1 - (1 : Int32))]) (st := []) (by decide +kernel : decode tX10_isCell.2.1 8 = .ok (.invokestatic 147, 3)) (DX10_in (Ok.bindK h)) mfX10_in lkM_X10_147 smX10_in rfl rfl (Nat.le_of_ble_eq_true rfl) ⟨Nat.le_trans (by decide) hRm.1, Nat.le_trans (by decide) hRm.2⟩ ⟨Nat.zero_le _, Nat.zero_le _⟩ ?_
  rintro _ s2 ⟨v3, rfl, h⟩
  show BW G tX10_isCell E 0 0 11 [(0, .ref a0), (1, .int x1), (2, .int x2)] [.int v3] s2
  refine BW.if_eq 32 (by decide +kernel : decode tX10_isCell.2.1 11 = .ok (.ifCond .eq 21, 3)) (by decide) (fun hc => ?_) (fun hc => ?_)
  · have h := (Ok.ite h).1 hc
    refine BW.run [.iconst 0] (pc' := 33) (lv' := [(0, .ref a0), (1, .int x1), (2, .int x2)]) (st' := [.int (0 : Int32)]) (by decide +kernel) rfl rfl ?_
    exact BW.zret (by decide +kernel : decode tX10_isCell.2.1 33 = .ok (.ireturn, 1)) rfl (Or.inl rfl) (Nat.zero_le _) (Nat.zero_le _) (hQ _ _ (Ok.some h))
  · have h := (Ok.ite h).2 hc
    refine BW.run [.iload_n 2, .iconst 0, .aload_n 0] (pc' := 17) (lv' := [(0, .ref a0), (1, .int x1), (2, .int x2)]) (st' := [.ref a0, .int (0 : Int32), .int x2]) (by decide +kernel) rfl rfl ?_
    obtain ⟨v5, ev5, h⟩ := Ok.bind h
    refine BW.get (by decide +kernel : decode tX10_isCell.2.1 17 = .ok (.getfield 81, 3)) ciX10 (k := 2) (by decide) lkF_X10_81 (toI_V ev5) ?_
    refine BW.run [.iconst 1, .isub] (pc' := 22) (lv' := [(0, .ref a0), (1, .int x1), (2, .int x2)]) (st' := [.int (v5 - (1 : Int32)), .int (0 : Int32), .int x2]) (by decide +kernel) rfl rfl ?_
    refine BW.callS (As := [.int x2, .int (0 : Int32), .int (v5 - (1 : Int32))]) (st := []) (by decide +kernel : decode tX10_isCell.2.1 22 = .ok (.invokestatic 147, 3)) (DX10_in (Ok.bindK h)) mfX10_in lkM_X10_147 smX10_in rfl rfl (Nat.le_of_ble_eq_true rfl) ⟨Nat.le_trans (by decide) hRm.1, Nat.le_trans (by decide) hRm.2⟩ ⟨Nat.zero_le _, Nat.zero_le _⟩ ?_
    rintro _ s6 ⟨v7, rfl, h⟩
    show BW G tX10_isCell E 0 0 25 [(0, .ref a0), (1, .int x1), (2, .int x2)] [.int v7] s6
    refine BW.if_eq 32 (by decide +kernel : decode tX10_isCell.2.1 25 = .ok (.ifCond .eq 7, 3)) (by decide) (fun hc => ?_) (fun hc => ?_)
    · have h := (Ok.ite h).1 hc
      refine BW.run [.iconst 0] (pc' := 33) (lv' := [(0, .ref a0), (1, .int x1), (2, .int x2)]) (st' := [.int (0 : Int32)]) (by decide +kernel) rfl rfl ?_
      exact BW.zret (by decide +kernel : decode tX10_isCell.2.1 33 = .ok (.ireturn, 1)) rfl (Or.inl rfl) (Nat.zero_le _) (Nat.zero_le _) (hQ _ _ (Ok.some h))
    · have h := (Ok.ite h).2 hc
      refine BW.run [.iconst 1] (pc' := 29) (lv' := [(0, .ref a0), (1, .int x1), (2, .int x2)]) (st' := [.int (1 : Int32)]) (by decide +kernel) rfl rfl ?_
      refine BW.goto 33 (by decide +kernel : decode tX10_isCell.2.1 29 = .ok (.goto 4, 3)) (by decide) ?_
      exact BW.zret (by decide +kernel : decode tX10_isCell.2.1 33 = .ok (.ireturn, 1)) rfl (Or.inr rfl) (Nat.zero_le _) (Nat.zero_le _) (hQ _ _ (Ok.some h))
theorem oX10_isCell {n : Nat} {P : Int32 × Sg → Prop} {s0 : Sg} {a0 : Nat} {x1 : Int32} {x2 : Int32} (h : Ok (mX10_isCell n s0 a0 x1 x2) P) : ∃ n0, s0.2.1 a0 = some (10, n0) := by
  unfold mX10_isCell at h
  exact Ok.isO h
theorem DX10_isCell {G : Cx} {n : Nat} {P : Int32 × Sg → Prop} {s0 : Sg} {a0 : Nat} {x1 : Int32} {x2 : Int32} (h : Ok (mX10_isCell n s0 a0 x1 x2) P) : BM G tX10_isCell 1 22 0 0 [.ref a0, .int x1, .int x2] s0 (fun v s => ∃ r, v = some (.int r) ∧ P (r, s)) := by
  refine BM.of (by decide +kernel) (Nat.le_of_ble_eq_true rfl) ?_
  exact bX10_isCell (E := (({ frames := 1, cells := 0, slots := 0, locals := 22 }), Aof s0, 0, 0, (fun v s => ∃ r, v = some (.int r) ∧ P (r, s)))) ⟨Nat.le_refl _, Nat.le_refl _⟩ (fun r s hp => ⟨r, rfl, hp⟩) h
def mX10_latest (n : Nat) (s0 : Sg) (a0 : Nat) (x1 : Int32) (x2 : Int32) (x3 : Int32) : Option (Int32 × Sg) :=
  (isO 10 s0 a0).bind fun _ =>
  (mX10_isWalk n s0 a0 x1).bind fun (v2, s1) =>
  if v2 = 0 then (
    some ((-1 : Int32), s1)
  ) else (
    (mX10_isCell n s1 a0 x2 x3).bind fun (v5, s4) =>
    if v5 = 0 then (
      some ((-1 : Int32), s4)
    ) else (
      (mX10_latestIn n s4 a0 x1 (((16 : Int32) * x3) + x2)).bind fun (v8, s7) =>
      some (v8, s7)
    )
  )
theorem bX10_latest {G : Cx} {E : Ev} {n : Nat} (hRm : 3 ≤ E.1.frames ∧ 68 ≤ E.1.locals) {P : Int32 × Sg → Prop} (hQ : ∀ r s, P (r, s) → E.2.2.2.2 (some (.int r)) s) {s0 : Sg} {a0 : Nat} {x1 : Int32} {x2 : Int32} {x3 : Int32} (h : Ok (mX10_latest n s0 a0 x1 x2 x3) P) : BW G tX10_latest E 0 0 0 [(0, .ref a0), (1, .int x1), (2, .int x2), (3, .int x3)] [] s0 := by
  unfold mX10_latest at h
  obtain ⟨_, _, h⟩ := Ok.bind h
  refine BW.run [.aload_n 0, .iload_n 1] (pc' := 2) (lv' := [(0, .ref a0), (1, .int x1), (2, .int x2), (3, .int x3)]) (st' := [.int x1, .ref a0]) (by decide +kernel) rfl rfl ?_
  refine BW.callV (As := [.int x1]) (st := []) (by decide +kernel : decode tX10_latest.2.1 2 = .ok (.invokevirtual 171, 3)) (DX10_isWalk (Ok.bindK h)) mfX10_isWalk lkM_X10_171 imX10_isWalk selX10_isWalk ciX10 (oX10_isWalk (Ok.bindK h)).choose_spec rfl rfl (Nat.le_of_ble_eq_true rfl) ⟨Nat.le_trans (by decide) hRm.1, Nat.le_trans (by decide) hRm.2⟩ ⟨Nat.zero_le _, Nat.zero_le _⟩ ?_
  rintro _ s1 ⟨v2, rfl, h⟩
  show BW G tX10_latest E 0 0 5 [(0, .ref a0), (1, .int x1), (2, .int x2), (3, .int x3)] [.int v2] s1
  refine BW.if_eq 31 (by decide +kernel : decode tX10_latest.2.1 5 = .ok (.ifCond .eq 26, 3)) (by decide) (fun hc => ?_) (fun hc => ?_)
  · have h := (Ok.ite h).1 hc
    refine BW.run [.iconst (-1)] (pc' := 32) (lv' := [(0, .ref a0), (1, .int x1), (2, .int x2), (3, .int x3)]) (st' := [.int (-1 : Int32)]) (by decide +kernel) rfl rfl ?_
    exact BW.iret (by decide +kernel : decode tX10_latest.2.1 32 = .ok (.ireturn, 1)) rfl (Nat.zero_le _) (Nat.zero_le _) (hQ _ _ (Ok.some h))
  · have h := (Ok.ite h).2 hc
    refine BW.run [.aload_n 0, .iload_n 2, .iload_n 3] (pc' := 11) (lv' := [(0, .ref a0), (1, .int x1), (2, .int x2), (3, .int x3)]) (st' := [.int x3, .int x2, .ref a0]) (by decide +kernel) rfl rfl ?_
    refine BW.callV (As := [.int x2, .int x3]) (st := []) (by decide +kernel : decode tX10_latest.2.1 11 = .ok (.invokevirtual 178, 3)) (DX10_isCell (Ok.bindK h)) mfX10_isCell lkM_X10_178 imX10_isCell selX10_isCell ciX10 (oX10_isCell (Ok.bindK h)).choose_spec rfl rfl (Nat.le_of_ble_eq_true rfl) ⟨Nat.le_trans (by decide) hRm.1, Nat.le_trans (by decide) hRm.2⟩ ⟨Nat.zero_le _, Nat.zero_le _⟩ ?_
    rintro _ s4 ⟨v5, rfl, h⟩
    show BW G tX10_latest E 0 0 14 [(0, .ref a0), (1, .int x1), (2, .int x2), (3, .int x3)] [.int v5] s4
    refine BW.if_eq 31 (by decide +kernel : decode tX10_latest.2.1 14 = .ok (.ifCond .eq 17, 3)) (by decide) (fun hc => ?_) (fun hc => ?_)
    · have h := (Ok.ite h).1 hc
      refine BW.run [.iconst (-1)] (pc' := 32) (lv' := [(0, .ref a0), (1, .int x1), (2, .int x2), (3, .int x3)]) (st' := [.int (-1 : Int32)]) (by decide +kernel) rfl rfl ?_
      exact BW.iret (by decide +kernel : decode tX10_latest.2.1 32 = .ok (.ireturn, 1)) rfl (Nat.zero_le _) (Nat.zero_le _) (hQ _ _ (Ok.some h))
    · have h := (Ok.ite h).2 hc
      refine BW.run [.aload_n 0, .iload_n 1, .bipush 16, .iload_n 3, .imul, .iload_n 2, .iadd] (pc' := 25) (lv' := [(0, .ref a0), (1, .int x1), (2, .int x2), (3, .int x3)]) (st' := [.int (((16 : Int32) * x3) + x2), .int x1, .ref a0]) (by decide +kernel) rfl rfl ?_
      refine BW.callV (As := [.int x1, .int (((16 : Int32) * x3) + x2)]) (st := []) (by decide +kernel : decode tX10_latest.2.1 25 = .ok (.invokevirtual 181, 3)) (DX10_latestIn (Ok.bindK h)) mfX10_latestIn lkM_X10_181 imX10_latestIn selX10_latestIn ciX10 (oX10_latestIn (Ok.bindK h)).choose_spec rfl rfl (Nat.le_of_ble_eq_true rfl) ⟨Nat.le_trans (by decide) hRm.1, Nat.le_trans (by decide) hRm.2⟩ ⟨Nat.zero_le _, Nat.zero_le _⟩ ?_
      rintro _ s7 ⟨v8, rfl, h⟩
      show BW G tX10_latest E 0 0 28 [(0, .ref a0), (1, .int x1), (2, .int x2), (3, .int x3)] [.int v8] s7
      refine BW.goto 32 (by decide +kernel : decode tX10_latest.2.1 28 = .ok (.goto 4, 3)) (by decide) ?_
      exact BW.iret (by decide +kernel : decode tX10_latest.2.1 32 = .ok (.ireturn, 1)) rfl (Nat.zero_le _) (Nat.zero_le _) (hQ _ _ (Ok.some h))
theorem oX10_latest {n : Nat} {P : Int32 × Sg → Prop} {s0 : Sg} {a0 : Nat} {x1 : Int32} {x2 : Int32} {x3 : Int32} (h : Ok (mX10_latest n s0 a0 x1 x2 x3) P) : ∃ n0, s0.2.1 a0 = some (10, n0) := by
  unfold mX10_latest at h
  exact Ok.isO h
theorem DX10_latest {G : Cx} {n : Nat} {P : Int32 × Sg → Prop} {s0 : Sg} {a0 : Nat} {x1 : Int32} {x2 : Int32} {x3 : Int32} (h : Ok (mX10_latest n s0 a0 x1 x2 x3) P) : BM G tX10_latest 3 68 0 0 [.ref a0, .int x1, .int x2, .int x3] s0 (fun v s => ∃ r, v = some (.int r) ∧ P (r, s)) := by
  refine BM.of (by decide +kernel) (Nat.le_of_ble_eq_true rfl) ?_
  exact bX10_latest (E := (({ frames := 3, cells := 0, slots := 0, locals := 68 }), Aof s0, 0, 0, (fun v s => ∃ r, v = some (.int r) ∧ P (r, s)))) ⟨Nat.le_refl _, Nat.le_refl _⟩ (fun r s hp => ⟨r, rfl, hp⟩) h
def mX10_hasLatest (n : Nat) (s0 : Sg) (a0 : Nat) (x1 : Int32) (x2 : Int32) (x3 : Int32) : Option (Int32 × Sg) :=
  (isO 10 s0 a0).bind fun _ =>
  (mX10_latest n s0 a0 x1 x2 x3).bind fun (v2, s1) =>
  if v2 = (-1 : Int32) then (
    some ((0 : Int32), s1)
  ) else (
    some ((1 : Int32), s1)
  )
theorem bX10_hasLatest {G : Cx} {E : Ev} {n : Nat} (hRm : 4 ≤ E.1.frames ∧ 91 ≤ E.1.locals) {P : Int32 × Sg → Prop} (hQ : ∀ r s, P (r, s) → E.2.2.2.2 (some (.int r)) s) {s0 : Sg} {a0 : Nat} {x1 : Int32} {x2 : Int32} {x3 : Int32} (h : Ok (mX10_hasLatest n s0 a0 x1 x2 x3) P) : BW G tX10_hasLatest E 0 0 0 [(0, .ref a0), (1, .int x1), (2, .int x2), (3, .int x3)] [] s0 := by
  unfold mX10_hasLatest at h
  obtain ⟨_, _, h⟩ := Ok.bind h
  refine BW.run [.aload_n 0, .iload_n 1, .iload_n 2, .iload_n 3] (pc' := 4) (lv' := [(0, .ref a0), (1, .int x1), (2, .int x2), (3, .int x3)]) (st' := [.int x3, .int x2, .int x1, .ref a0]) (by decide +kernel) rfl rfl ?_
  refine BW.callV (As := [.int x1, .int x2, .int x3]) (st := []) (by decide +kernel : decode tX10_hasLatest.2.1 4 = .ok (.invokevirtual 184, 3)) (DX10_latest (Ok.bindK h)) mfX10_latest lkM_X10_184 imX10_latest selX10_latest ciX10 (oX10_latest (Ok.bindK h)).choose_spec rfl rfl (Nat.le_of_ble_eq_true rfl) ⟨Nat.le_trans (by decide) hRm.1, Nat.le_trans (by decide) hRm.2⟩ ⟨Nat.zero_le _, Nat.zero_le _⟩ ?_
  rintro _ s1 ⟨v2, rfl, h⟩
  show BW G tX10_hasLatest E 0 0 7 [(0, .ref a0), (1, .int x1), (2, .int x2), (3, .int x3)] [.int v2] s1
  refine BW.run [.iconst (-1)] (pc' := 8) (lv' := [(0, .ref a0), (1, .int x1), (2, .int x2), (3, .int x3)]) (st' := [.int (-1 : Int32), .int v2]) (by decide +kernel) rfl rfl ?_
  refine BW.icmp_eq 15 (by decide +kernel : decode tX10_hasLatest.2.1 8 = .ok (.if_icmp .eq 7, 3)) (by decide) (fun hc => ?_) (fun hc => ?_)
  · have h := (Ok.ite h).1 hc
    refine BW.run [.iconst 0] (pc' := 16) (lv' := [(0, .ref a0), (1, .int x1), (2, .int x2), (3, .int x3)]) (st' := [.int (0 : Int32)]) (by decide +kernel) rfl rfl ?_
    exact BW.zret (by decide +kernel : decode tX10_hasLatest.2.1 16 = .ok (.ireturn, 1)) rfl (Or.inl rfl) (Nat.zero_le _) (Nat.zero_le _) (hQ _ _ (Ok.some h))
  · have h := (Ok.ite h).2 hc
    refine BW.run [.iconst 1] (pc' := 12) (lv' := [(0, .ref a0), (1, .int x1), (2, .int x2), (3, .int x3)]) (st' := [.int (1 : Int32)]) (by decide +kernel) rfl rfl ?_
    refine BW.goto 16 (by decide +kernel : decode tX10_hasLatest.2.1 12 = .ok (.goto 4, 3)) (by decide) ?_
    exact BW.zret (by decide +kernel : decode tX10_hasLatest.2.1 16 = .ok (.ireturn, 1)) rfl (Or.inr rfl) (Nat.zero_le _) (Nat.zero_le _) (hQ _ _ (Ok.some h))
theorem oX10_hasLatest {n : Nat} {P : Int32 × Sg → Prop} {s0 : Sg} {a0 : Nat} {x1 : Int32} {x2 : Int32} {x3 : Int32} (h : Ok (mX10_hasLatest n s0 a0 x1 x2 x3) P) : ∃ n0, s0.2.1 a0 = some (10, n0) := by
  unfold mX10_hasLatest at h
  exact Ok.isO h
theorem DX10_hasLatest {G : Cx} {n : Nat} {P : Int32 × Sg → Prop} {s0 : Sg} {a0 : Nat} {x1 : Int32} {x2 : Int32} {x3 : Int32} (h : Ok (mX10_hasLatest n s0 a0 x1 x2 x3) P) : BM G tX10_hasLatest 4 91 0 0 [.ref a0, .int x1, .int x2, .int x3] s0 (fun v s => ∃ r, v = some (.int r) ∧ P (r, s)) := by
  refine BM.of (by decide +kernel) (Nat.le_of_ble_eq_true rfl) ?_
  exact bX10_hasLatest (E := (({ frames := 4, cells := 0, slots := 0, locals := 91 }), Aof s0, 0, 0, (fun v s => ∃ r, v = some (.int r) ∧ P (r, s)))) ⟨Nat.le_refl _, Nat.le_refl _⟩ (fun r s hp => ⟨r, rfl, hp⟩) h
def mX10_mayBe (n : Nat) (s0 : Sg) (a0 : Nat) (x1 : Int32) (x2 : Int32) (x3 : Int32) (x4 : Int32) (x5 : Int32) : Option (Int32 × Sg) :=
  (isO 10 s0 a0).bind fun _ =>
  if x1 = (0 : Int32) then (
    (mX10_isWalk n s0 a0 x3).bind fun (v2, s1) =>
    if v2 = 0 then (
      some ((0 : Int32), s1)
    ) else (
      if x2 = x3 then (
        some ((0 : Int32), s1)
      ) else (
        (mX10_hasLatest n s1 a0 x2 x4 x5).bind fun (v5, s4) =>
        if v5 = 0 then (
          some ((0 : Int32), s4)
        ) else (
          (mX10_hasLatest n s4 a0 x3 x4 x5).bind fun (v8, s7) =>
          if v8 = 0 then (
            some ((0 : Int32), s7)
          ) else (
            some ((1 : Int32), s7)
          )
        )
      )
    )
  ) else (
  if x1 = (1 : Int32) then (
    (mX10_in n s0 x3 (0 : Int32) (5000 : Int32)).bind fun (v11, s10) =>
    if v11 = 0 then (
      some ((0 : Int32), s10)
    ) else (
      (mX10_hasLatest n s10 a0 x2 x4 x5).bind fun (v14, s13) =>
      if v14 = 0 then (
        some ((0 : Int32), s13)
      ) else (
        some ((1 : Int32), s13)
      )
    )
  ) else (
  if x1 = (2 : Int32) then (
    (mX10_in n s0 x3 (0 : Int32) (5000 : Int32)).bind fun (v17, s16) =>
    if v17 = 0 then (
      some ((0 : Int32), s16)
    ) else (
      (mX10_hasLatest n s16 a0 x2 x4 x5).bind fun (v20, s19) =>
      if v20 = 0 then (
        some ((0 : Int32), s19)
      ) else (
        some ((1 : Int32), s19)
      )
    )
  ) else (
  if x1 = (3 : Int32) then (
    (toI (gV 10 s0 a0 3)).bind fun v22 =>
    (mX10_in n s0 x4 (0 : Int32) v22).bind fun (v24, s23) =>
    if v24 = 0 then (
      some ((0 : Int32), s23)
    ) else (
      (toI (gV 10 s23 a0 3)).bind fun v26 =>
      (mX10_in n s23 x5 x4 v26).bind fun (v28, s27) =>
      if v28 = 0 then (
        some ((0 : Int32), s27)
      ) else (
        some ((1 : Int32), s27)
      )
    )
  ) else (
  if x1 = (4 : Int32) then (
    (mX10_isWalk n s0 a0 x3).bind fun (v31, s30) =>
    if v31 = 0 then (
      some ((0 : Int32), s30)
    ) else (
      if x2 = x3 then (
        some ((0 : Int32), s30)
      ) else (
        (mX10_in n s30 x4 (-5000 : Int32) (5000 : Int32)).bind fun (v34, s33) =>
        if v34 = 0 then (
          some ((0 : Int32), s33)
        ) else (
          some ((1 : Int32), s33)
        )
      )
    )
  ) else (
    some ((0 : Int32), s0)
  )))))
theorem bX10_mayBe {G : Cx} {E : Ev} {n : Nat} (hRm : 5 ≤ E.1.frames ∧ 114 ≤ E.1.locals) {P : Int32 × Sg → Prop} (hQ : ∀ r s, P (r, s) → E.2.2.2.2 (some (.int r)) s) {s0 : Sg} {a0 : Nat} {x1 : Int32} {x2 : Int32} {x3 : Int32} {x4 : Int32} {x5 : Int32} (h : Ok (mX10_mayBe n s0 a0 x1 x2 x3 x4 x5) P) : BW G tX10_mayBe E 0 0 0 [(0, .ref a0), (1, .int x1), (2, .int x2), (3, .int x3), (4, .int x4), (5, .int x5)] [] s0 := by
  unfold mX10_mayBe at h
  obtain ⟨_, _, h⟩ := Ok.bind h
  refine BW.run [.iload_n 1] (pc' := 1) (lv' := [(0, .ref a0), (1, .int x1), (2, .int x2), (3, .int x3), (4, .int x4), (5, .int x5)]) (st' := [.int x1]) (by decide +kernel) rfl rfl ?_
  by_cases hc0 : x1 = (0 : Int32)
  · have h := (Ok.ite h).1 hc0
    refine BW.tblIn (off := 35) 36 (by decide +kernel : decode tX10_mayBe.2.1 1 = .ok (.tableswitch 173 0 4 #[35, 78, 78, 107, 140], 35)) (by rw [hc0]; decide) (by rw [hc0]; decide) (by rw [hc0]; rfl) (by decide) ?_
    refine BW.run [.aload_n 0, .iload_n 3] (pc' := 38) (lv' := [(0, .ref a0), (1, .int x1), (2, .int x2), (3, .int x3), (4, .int x4), (5, .int x5)]) (st' := [.int x3, .ref a0]) (by decide +kernel) rfl rfl ?_
    refine BW.callV (As := [.int x3]) (st := []) (by decide +kernel : decode tX10_mayBe.2.1 38 = .ok (.invokevirtual 171, 3)) (DX10_isWalk (Ok.bindK h)) mfX10_isWalk lkM_X10_171 imX10_isWalk selX10_isWalk ciX10 (oX10_isWalk (Ok.bindK h)).choose_spec rfl rfl (Nat.le_of_ble_eq_true rfl) ⟨Nat.le_trans (by decide) hRm.1, Nat.le_trans (by decide) hRm.2⟩ ⟨Nat.zero_le _, Nat.zero_le _⟩ ?_
    rintro _ s1 ⟨v2, rfl, h⟩
    show BW G tX10_mayBe E 0 0 41 [(0, .ref a0), (1, .int x1), (2, .int x2), (3, .int x3), (4, .int x4), (5, .int x5)] [.int v2] s1
    refine BW.if_eq 77 (by decide +kernel : decode tX10_mayBe.2.1 41 = .ok (.ifCond .eq 36, 3)) (by decide) (fun hc => ?_) (fun hc => ?_)
    · have h := (Ok.ite h).1 hc
      refine BW.run [.iconst 0] (pc' := 78) (lv' := [(0, .ref a0), (1, .int x1), (2, .int x2), (3, .int x3), (4, .int x4), (5, .int x5)]) (st' := [.int (0 : Int32)]) (by decide +kernel) rfl rfl ?_
      exact BW.zret (by decide +kernel : decode tX10_mayBe.2.1 78 = .ok (.ireturn, 1)) rfl (Or.inl rfl) (Nat.zero_le _) (Nat.zero_le _) (hQ _ _ (Ok.some h))
    · have h := (Ok.ite h).2 hc
      refine BW.run [.iload_n 2, .iload_n 3] (pc' := 46) (lv' := [(0, .ref a0), (1, .int x1), (2, .int x2), (3, .int x3), (4, .int x4), (5, .int x5)]) (st' := [.int x3, .int x2]) (by decide +kernel) rfl rfl ?_
      refine BW.icmp_eq 77 (by decide +kernel : decode tX10_mayBe.2.1 46 = .ok (.if_icmp .eq 31, 3)) (by decide) (fun hc => ?_) (fun hc => ?_)
      · have h := (Ok.ite h).1 hc
        refine BW.run [.iconst 0] (pc' := 78) (lv' := [(0, .ref a0), (1, .int x1), (2, .int x2), (3, .int x3), (4, .int x4), (5, .int x5)]) (st' := [.int (0 : Int32)]) (by decide +kernel) rfl rfl ?_
        exact BW.zret (by decide +kernel : decode tX10_mayBe.2.1 78 = .ok (.ireturn, 1)) rfl (Or.inl rfl) (Nat.zero_le _) (Nat.zero_le _) (hQ _ _ (Ok.some h))
      · have h := (Ok.ite h).2 hc
        refine BW.run [.aload_n 0, .iload_n 2, .iload 4, .iload 5] (pc' := 55) (lv' := [(0, .ref a0), (1, .int x1), (2, .int x2), (3, .int x3), (4, .int x4), (5, .int x5)]) (st' := [.int x5, .int x4, .int x2, .ref a0]) (by decide +kernel) rfl rfl ?_
        refine BW.callV (As := [.int x2, .int x4, .int x5]) (st := []) (by decide +kernel : decode tX10_mayBe.2.1 55 = .ok (.invokevirtual 187, 3)) (DX10_hasLatest (Ok.bindK h)) mfX10_hasLatest lkM_X10_187 imX10_hasLatest selX10_hasLatest ciX10 (oX10_hasLatest (Ok.bindK h)).choose_spec rfl rfl (Nat.le_of_ble_eq_true rfl) ⟨Nat.le_trans (by decide) hRm.1, Nat.le_trans (by decide) hRm.2⟩ ⟨Nat.zero_le _, Nat.zero_le _⟩ ?_
        rintro _ s4 ⟨v5, rfl, h⟩
        show BW G tX10_mayBe E 0 0 58 [(0, .ref a0), (1, .int x1), (2, .int x2), (3, .int x3), (4, .int x4), (5, .int x5)] [.int v5] s4
        refine BW.if_eq 77 (by decide +kernel : decode tX10_mayBe.2.1 58 = .ok (.ifCond .eq 19, 3)) (by decide) (fun hc => ?_) (fun hc => ?_)
        · have h := (Ok.ite h).1 hc
          refine BW.run [.iconst 0] (pc' := 78) (lv' := [(0, .ref a0), (1, .int x1), (2, .int x2), (3, .int x3), (4, .int x4), (5, .int x5)]) (st' := [.int (0 : Int32)]) (by decide +kernel) rfl rfl ?_
          exact BW.zret (by decide +kernel : decode tX10_mayBe.2.1 78 = .ok (.ireturn, 1)) rfl (Or.inl rfl) (Nat.zero_le _) (Nat.zero_le _) (hQ _ _ (Ok.some h))
        · have h := (Ok.ite h).2 hc
          refine BW.run [.aload_n 0, .iload_n 3, .iload 4, .iload 5] (pc' := 67) (lv' := [(0, .ref a0), (1, .int x1), (2, .int x2), (3, .int x3), (4, .int x4), (5, .int x5)]) (st' := [.int x5, .int x4, .int x3, .ref a0]) (by decide +kernel) rfl rfl ?_
          refine BW.callV (As := [.int x3, .int x4, .int x5]) (st := []) (by decide +kernel : decode tX10_mayBe.2.1 67 = .ok (.invokevirtual 187, 3)) (DX10_hasLatest (Ok.bindK h)) mfX10_hasLatest lkM_X10_187 imX10_hasLatest selX10_hasLatest ciX10 (oX10_hasLatest (Ok.bindK h)).choose_spec rfl rfl (Nat.le_of_ble_eq_true rfl) ⟨Nat.le_trans (by decide) hRm.1, Nat.le_trans (by decide) hRm.2⟩ ⟨Nat.zero_le _, Nat.zero_le _⟩ ?_
          rintro _ s7 ⟨v8, rfl, h⟩
          show BW G tX10_mayBe E 0 0 70 [(0, .ref a0), (1, .int x1), (2, .int x2), (3, .int x3), (4, .int x4), (5, .int x5)] [.int v8] s7
          refine BW.if_eq 77 (by decide +kernel : decode tX10_mayBe.2.1 70 = .ok (.ifCond .eq 7, 3)) (by decide) (fun hc => ?_) (fun hc => ?_)
          · have h := (Ok.ite h).1 hc
            refine BW.run [.iconst 0] (pc' := 78) (lv' := [(0, .ref a0), (1, .int x1), (2, .int x2), (3, .int x3), (4, .int x4), (5, .int x5)]) (st' := [.int (0 : Int32)]) (by decide +kernel) rfl rfl ?_
            exact BW.zret (by decide +kernel : decode tX10_mayBe.2.1 78 = .ok (.ireturn, 1)) rfl (Or.inl rfl) (Nat.zero_le _) (Nat.zero_le _) (hQ _ _ (Ok.some h))
          · have h := (Ok.ite h).2 hc
            refine BW.run [.iconst 1] (pc' := 74) (lv' := [(0, .ref a0), (1, .int x1), (2, .int x2), (3, .int x3), (4, .int x4), (5, .int x5)]) (st' := [.int (1 : Int32)]) (by decide +kernel) rfl rfl ?_
            refine BW.goto 78 (by decide +kernel : decode tX10_mayBe.2.1 74 = .ok (.goto 4, 3)) (by decide) ?_
            exact BW.zret (by decide +kernel : decode tX10_mayBe.2.1 78 = .ok (.ireturn, 1)) rfl (Or.inr rfl) (Nat.zero_le _) (Nat.zero_le _) (hQ _ _ (Ok.some h))
  · have h := (Ok.ite h).2 hc0
    by_cases hc1 : x1 = (1 : Int32)
    · have h := (Ok.ite h).1 hc1
      refine BW.tblIn (off := 78) 79 (by decide +kernel : decode tX10_mayBe.2.1 1 = .ok (.tableswitch 173 0 4 #[35, 78, 78, 107, 140], 35)) (by rw [hc1]; decide) (by rw [hc1]; decide) (by rw [hc1]; rfl) (by decide) ?_
      refine BW.run [.iload_n 3, .iconst 0, .sipush 5000] (pc' := 84) (lv' := [(0, .ref a0), (1, .int x1), (2, .int x2), (3, .int x3), (4, .int x4), (5, .int x5)]) (st' := [.int (5000 : Int32), .int (0 : Int32), .int x3]) (by decide +kernel) rfl rfl ?_
      refine BW.callS (As := [.int x3, .int (0 : Int32), .int (5000 : Int32)]) (st := []) (by decide +kernel : decode tX10_mayBe.2.1 84 = .ok (.invokestatic 147, 3)) (DX10_in (Ok.bindK h)) mfX10_in lkM_X10_147 smX10_in rfl rfl (Nat.le_of_ble_eq_true rfl) ⟨Nat.le_trans (by decide) hRm.1, Nat.le_trans (by decide) hRm.2⟩ ⟨Nat.zero_le _, Nat.zero_le _⟩ ?_
      rintro _ s10 ⟨v11, rfl, h⟩
      show BW G tX10_mayBe E 0 0 87 [(0, .ref a0), (1, .int x1), (2, .int x2), (3, .int x3), (4, .int x4), (5, .int x5)] [.int v11] s10
      refine BW.if_eq 106 (by decide +kernel : decode tX10_mayBe.2.1 87 = .ok (.ifCond .eq 19, 3)) (by decide) (fun hc => ?_) (fun hc => ?_)
      · have h := (Ok.ite h).1 hc
        refine BW.run [.iconst 0] (pc' := 107) (lv' := [(0, .ref a0), (1, .int x1), (2, .int x2), (3, .int x3), (4, .int x4), (5, .int x5)]) (st' := [.int (0 : Int32)]) (by decide +kernel) rfl rfl ?_
        exact BW.zret (by decide +kernel : decode tX10_mayBe.2.1 107 = .ok (.ireturn, 1)) rfl (Or.inl rfl) (Nat.zero_le _) (Nat.zero_le _) (hQ _ _ (Ok.some h))
      · have h := (Ok.ite h).2 hc
        refine BW.run [.aload_n 0, .iload_n 2, .iload 4, .iload 5] (pc' := 96) (lv' := [(0, .ref a0), (1, .int x1), (2, .int x2), (3, .int x3), (4, .int x4), (5, .int x5)]) (st' := [.int x5, .int x4, .int x2, .ref a0]) (by decide +kernel) rfl rfl ?_
        refine BW.callV (As := [.int x2, .int x4, .int x5]) (st := []) (by decide +kernel : decode tX10_mayBe.2.1 96 = .ok (.invokevirtual 187, 3)) (DX10_hasLatest (Ok.bindK h)) mfX10_hasLatest lkM_X10_187 imX10_hasLatest selX10_hasLatest ciX10 (oX10_hasLatest (Ok.bindK h)).choose_spec rfl rfl (Nat.le_of_ble_eq_true rfl) ⟨Nat.le_trans (by decide) hRm.1, Nat.le_trans (by decide) hRm.2⟩ ⟨Nat.zero_le _, Nat.zero_le _⟩ ?_
        rintro _ s13 ⟨v14, rfl, h⟩
        show BW G tX10_mayBe E 0 0 99 [(0, .ref a0), (1, .int x1), (2, .int x2), (3, .int x3), (4, .int x4), (5, .int x5)] [.int v14] s13
        refine BW.if_eq 106 (by decide +kernel : decode tX10_mayBe.2.1 99 = .ok (.ifCond .eq 7, 3)) (by decide) (fun hc => ?_) (fun hc => ?_)
        · have h := (Ok.ite h).1 hc
          refine BW.run [.iconst 0] (pc' := 107) (lv' := [(0, .ref a0), (1, .int x1), (2, .int x2), (3, .int x3), (4, .int x4), (5, .int x5)]) (st' := [.int (0 : Int32)]) (by decide +kernel) rfl rfl ?_
          exact BW.zret (by decide +kernel : decode tX10_mayBe.2.1 107 = .ok (.ireturn, 1)) rfl (Or.inl rfl) (Nat.zero_le _) (Nat.zero_le _) (hQ _ _ (Ok.some h))
        · have h := (Ok.ite h).2 hc
          refine BW.run [.iconst 1] (pc' := 103) (lv' := [(0, .ref a0), (1, .int x1), (2, .int x2), (3, .int x3), (4, .int x4), (5, .int x5)]) (st' := [.int (1 : Int32)]) (by decide +kernel) rfl rfl ?_
          refine BW.goto 107 (by decide +kernel : decode tX10_mayBe.2.1 103 = .ok (.goto 4, 3)) (by decide) ?_
          exact BW.zret (by decide +kernel : decode tX10_mayBe.2.1 107 = .ok (.ireturn, 1)) rfl (Or.inr rfl) (Nat.zero_le _) (Nat.zero_le _) (hQ _ _ (Ok.some h))
    · have h := (Ok.ite h).2 hc1
      by_cases hc2 : x1 = (2 : Int32)
      · have h := (Ok.ite h).1 hc2
        refine BW.tblIn (off := 78) 79 (by decide +kernel : decode tX10_mayBe.2.1 1 = .ok (.tableswitch 173 0 4 #[35, 78, 78, 107, 140], 35)) (by rw [hc2]; decide) (by rw [hc2]; decide) (by rw [hc2]; rfl) (by decide) ?_
        refine BW.run [.iload_n 3, .iconst 0, .sipush 5000] (pc' := 84) (lv' := [(0, .ref a0), (1, .int x1), (2, .int x2), (3, .int x3), (4, .int x4), (5, .int x5)]) (st' := [.int (5000 : Int32), .int (0 : Int32), .int x3]) (by decide +kernel) rfl rfl ?_
        refine BW.callS (As := [.int x3, .int (0 : Int32), .int (5000 : Int32)]) (st := []) (by decide +kernel : decode tX10_mayBe.2.1 84 = .ok (.invokestatic 147, 3)) (DX10_in (Ok.bindK h)) mfX10_in lkM_X10_147 smX10_in rfl rfl (Nat.le_of_ble_eq_true rfl) ⟨Nat.le_trans (by decide) hRm.1, Nat.le_trans (by decide) hRm.2⟩ ⟨Nat.zero_le _, Nat.zero_le _⟩ ?_
        rintro _ s16 ⟨v17, rfl, h⟩
        show BW G tX10_mayBe E 0 0 87 [(0, .ref a0), (1, .int x1), (2, .int x2), (3, .int x3), (4, .int x4), (5, .int x5)] [.int v17] s16
        refine BW.if_eq 106 (by decide +kernel : decode tX10_mayBe.2.1 87 = .ok (.ifCond .eq 19, 3)) (by decide) (fun hc => ?_) (fun hc => ?_)
        · have h := (Ok.ite h).1 hc
          refine BW.run [.iconst 0] (pc' := 107) (lv' := [(0, .ref a0), (1, .int x1), (2, .int x2), (3, .int x3), (4, .int x4), (5, .int x5)]) (st' := [.int (0 : Int32)]) (by decide +kernel) rfl rfl ?_
          exact BW.zret (by decide +kernel : decode tX10_mayBe.2.1 107 = .ok (.ireturn, 1)) rfl (Or.inl rfl) (Nat.zero_le _) (Nat.zero_le _) (hQ _ _ (Ok.some h))
        · have h := (Ok.ite h).2 hc
          refine BW.run [.aload_n 0, .iload_n 2, .iload 4, .iload 5] (pc' := 96) (lv' := [(0, .ref a0), (1, .int x1), (2, .int x2), (3, .int x3), (4, .int x4), (5, .int x5)]) (st' := [.int x5, .int x4, .int x2, .ref a0]) (by decide +kernel) rfl rfl ?_
          refine BW.callV (As := [.int x2, .int x4, .int x5]) (st := []) (by decide +kernel : decode tX10_mayBe.2.1 96 = .ok (.invokevirtual 187, 3)) (DX10_hasLatest (Ok.bindK h)) mfX10_hasLatest lkM_X10_187 imX10_hasLatest selX10_hasLatest ciX10 (oX10_hasLatest (Ok.bindK h)).choose_spec rfl rfl (Nat.le_of_ble_eq_true rfl) ⟨Nat.le_trans (by decide) hRm.1, Nat.le_trans (by decide) hRm.2⟩ ⟨Nat.zero_le _, Nat.zero_le _⟩ ?_
          rintro _ s19 ⟨v20, rfl, h⟩
          show BW G tX10_mayBe E 0 0 99 [(0, .ref a0), (1, .int x1), (2, .int x2), (3, .int x3), (4, .int x4), (5, .int x5)] [.int v20] s19
          refine BW.if_eq 106 (by decide +kernel : decode tX10_mayBe.2.1 99 = .ok (.ifCond .eq 7, 3)) (by decide) (fun hc => ?_) (fun hc => ?_)
          · have h := (Ok.ite h).1 hc
            refine BW.run [.iconst 0] (pc' := 107) (lv' := [(0, .ref a0), (1, .int x1), (2, .int x2), (3, .int x3), (4, .int x4), (5, .int x5)]) (st' := [.int (0 : Int32)]) (by decide +kernel) rfl rfl ?_
            exact BW.zret (by decide +kernel : decode tX10_mayBe.2.1 107 = .ok (.ireturn, 1)) rfl (Or.inl rfl) (Nat.zero_le _) (Nat.zero_le _) (hQ _ _ (Ok.some h))
          · have h := (Ok.ite h).2 hc
            refine BW.run [.iconst 1] (pc' := 103) (lv' := [(0, .ref a0), (1, .int x1), (2, .int x2), (3, .int x3), (4, .int x4), (5, .int x5)]) (st' := [.int (1 : Int32)]) (by decide +kernel) rfl rfl ?_
            refine BW.goto 107 (by decide +kernel : decode tX10_mayBe.2.1 103 = .ok (.goto 4, 3)) (by decide) ?_
            exact BW.zret (by decide +kernel : decode tX10_mayBe.2.1 107 = .ok (.ireturn, 1)) rfl (Or.inr rfl) (Nat.zero_le _) (Nat.zero_le _) (hQ _ _ (Ok.some h))
      · have h := (Ok.ite h).2 hc2
        by_cases hc3 : x1 = (3 : Int32)
        · have h := (Ok.ite h).1 hc3
          refine BW.tblIn (off := 107) 108 (by decide +kernel : decode tX10_mayBe.2.1 1 = .ok (.tableswitch 173 0 4 #[35, 78, 78, 107, 140], 35)) (by rw [hc3]; decide) (by rw [hc3]; decide) (by rw [hc3]; rfl) (by decide) ?_
          refine BW.run [.iload 4, .iconst 0, .aload_n 0] (pc' := 112) (lv' := [(0, .ref a0), (1, .int x1), (2, .int x2), (3, .int x3), (4, .int x4), (5, .int x5)]) (st' := [.ref a0, .int (0 : Int32), .int x4]) (by decide +kernel) rfl rfl ?_
          obtain ⟨v22, ev22, h⟩ := Ok.bind h
          refine BW.get (by decide +kernel : decode tX10_mayBe.2.1 112 = .ok (.getfield 84, 3)) ciX10 (k := 3) (by decide) lkF_X10_84 (toI_V ev22) ?_
          refine BW.callS (As := [.int x4, .int (0 : Int32), .int v22]) (st := []) (by decide +kernel : decode tX10_mayBe.2.1 115 = .ok (.invokestatic 147, 3)) (DX10_in (Ok.bindK h)) mfX10_in lkM_X10_147 smX10_in rfl rfl (Nat.le_of_ble_eq_true rfl) ⟨Nat.le_trans (by decide) hRm.1, Nat.le_trans (by decide) hRm.2⟩ ⟨Nat.zero_le _, Nat.zero_le _⟩ ?_
          rintro _ s23 ⟨v24, rfl, h⟩
          show BW G tX10_mayBe E 0 0 118 [(0, .ref a0), (1, .int x1), (2, .int x2), (3, .int x3), (4, .int x4), (5, .int x5)] [.int v24] s23
          refine BW.if_eq 139 (by decide +kernel : decode tX10_mayBe.2.1 118 = .ok (.ifCond .eq 21, 3)) (by decide) (fun hc => ?_) (fun hc => ?_)
          · have h := (Ok.ite h).1 hc
            refine BW.run [.iconst 0] (pc' := 140) (lv' := [(0, .ref a0), (1, .int x1), (2, .int x2), (3, .int x3), (4, .int x4), (5, .int x5)]) (st' := [.int (0 : Int32)]) (by decide +kernel) rfl rfl ?_
            exact BW.zret (by decide +kernel : decode tX10_mayBe.2.1 140 = .ok (.ireturn, 1)) rfl (Or.inl rfl) (Nat.zero_le _) (Nat.zero_le _) (hQ _ _ (Ok.some h))
          · have h := (Ok.ite h).2 hc
            refine BW.run [.iload 5, .iload 4, .aload_n 0] (pc' := 126) (lv' := [(0, .ref a0), (1, .int x1), (2, .int x2), (3, .int x3), (4, .int x4), (5, .int x5)]) (st' := [.ref a0, .int x4, .int x5]) (by decide +kernel) rfl rfl ?_
            obtain ⟨v26, ev26, h⟩ := Ok.bind h
            refine BW.get (by decide +kernel : decode tX10_mayBe.2.1 126 = .ok (.getfield 84, 3)) ciX10 (k := 3) (by decide) lkF_X10_84 (toI_V ev26) ?_
            refine BW.callS (As := [.int x5, .int x4, .int v26]) (st := []) (by decide +kernel : decode tX10_mayBe.2.1 129 = .ok (.invokestatic 147, 3)) (DX10_in (Ok.bindK h)) mfX10_in lkM_X10_147 smX10_in rfl rfl (Nat.le_of_ble_eq_true rfl) ⟨Nat.le_trans (by decide) hRm.1, Nat.le_trans (by decide) hRm.2⟩ ⟨Nat.zero_le _, Nat.zero_le _⟩ ?_
            rintro _ s27 ⟨v28, rfl, h⟩
            show BW G tX10_mayBe E 0 0 132 [(0, .ref a0), (1, .int x1), (2, .int x2), (3, .int x3), (4, .int x4), (5, .int x5)] [.int v28] s27
            refine BW.if_eq 139 (by decide +kernel : decode tX10_mayBe.2.1 132 = .ok (.ifCond .eq 7, 3)) (by decide) (fun hc => ?_) (fun hc => ?_)
            · have h := (Ok.ite h).1 hc
              refine BW.run [.iconst 0] (pc' := 140) (lv' := [(0, .ref a0), (1, .int x1), (2, .int x2), (3, .int x3), (4, .int x4), (5, .int x5)]) (st' := [.int (0 : Int32)]) (by decide +kernel) rfl rfl ?_
              exact BW.zret (by decide +kernel : decode tX10_mayBe.2.1 140 = .ok (.ireturn, 1)) rfl (Or.inl rfl) (Nat.zero_le _) (Nat.zero_le _) (hQ _ _ (Ok.some h))
            · have h := (Ok.ite h).2 hc
              refine BW.run [.iconst 1] (pc' := 136) (lv' := [(0, .ref a0), (1, .int x1), (2, .int x2), (3, .int x3), (4, .int x4), (5, .int x5)]) (st' := [.int (1 : Int32)]) (by decide +kernel) rfl rfl ?_
              refine BW.goto 140 (by decide +kernel : decode tX10_mayBe.2.1 136 = .ok (.goto 4, 3)) (by decide) ?_
              exact BW.zret (by decide +kernel : decode tX10_mayBe.2.1 140 = .ok (.ireturn, 1)) rfl (Or.inr rfl) (Nat.zero_le _) (Nat.zero_le _) (hQ _ _ (Ok.some h))
        · have h := (Ok.ite h).2 hc3
          by_cases hc4 : x1 = (4 : Int32)
          · have h := (Ok.ite h).1 hc4
            refine BW.tblIn (off := 140) 141 (by decide +kernel : decode tX10_mayBe.2.1 1 = .ok (.tableswitch 173 0 4 #[35, 78, 78, 107, 140], 35)) (by rw [hc4]; decide) (by rw [hc4]; decide) (by rw [hc4]; rfl) (by decide) ?_
            refine BW.run [.aload_n 0, .iload_n 3] (pc' := 143) (lv' := [(0, .ref a0), (1, .int x1), (2, .int x2), (3, .int x3), (4, .int x4), (5, .int x5)]) (st' := [.int x3, .ref a0]) (by decide +kernel) rfl rfl ?_
            refine BW.callV (As := [.int x3]) (st := []) (by decide +kernel : decode tX10_mayBe.2.1 143 = .ok (.invokevirtual 171, 3)) (DX10_isWalk (Ok.bindK h)) mfX10_isWalk lkM_X10_171 imX10_isWalk selX10_isWalk ciX10 (oX10_isWalk (Ok.bindK h)).choose_spec rfl rfl (Nat.le_of_ble_eq_true rfl) ⟨Nat.le_trans (by decide) hRm.1, Nat.le_trans (by decide) hRm.2⟩ ⟨Nat.zero_le _, Nat.zero_le _⟩ ?_
            rintro _ s30 ⟨v31, rfl, h⟩
            show BW G tX10_mayBe E 0 0 146 [(0, .ref a0), (1, .int x1), (2, .int x2), (3, .int x3), (4, .int x4), (5, .int x5)] [.int v31] s30
            refine BW.if_eq 172 (by decide +kernel : decode tX10_mayBe.2.1 146 = .ok (.ifCond .eq 26, 3)) (by decide) (fun hc => ?_) (fun hc => ?_)
            · have h := (Ok.ite h).1 hc
              refine BW.run [.iconst 0] (pc' := 173) (lv' := [(0, .ref a0), (1, .int x1), (2, .int x2), (3, .int x3), (4, .int x4), (5, .int x5)]) (st' := [.int (0 : Int32)]) (by decide +kernel) rfl rfl ?_
              exact BW.zret (by decide +kernel : decode tX10_mayBe.2.1 173 = .ok (.ireturn, 1)) rfl (Or.inl rfl) (Nat.zero_le _) (Nat.zero_le _) (hQ _ _ (Ok.some h))
            · have h := (Ok.ite h).2 hc
              refine BW.run [.iload_n 2, .iload_n 3] (pc' := 151) (lv' := [(0, .ref a0), (1, .int x1), (2, .int x2), (3, .int x3), (4, .int x4), (5, .int x5)]) (st' := [.int x3, .int x2]) (by decide +kernel) rfl rfl ?_
              refine BW.icmp_eq 172 (by decide +kernel : decode tX10_mayBe.2.1 151 = .ok (.if_icmp .eq 21, 3)) (by decide) (fun hc => ?_) (fun hc => ?_)
              · have h := (Ok.ite h).1 hc
                refine BW.run [.iconst 0] (pc' := 173) (lv' := [(0, .ref a0), (1, .int x1), (2, .int x2), (3, .int x3), (4, .int x4), (5, .int x5)]) (st' := [.int (0 : Int32)]) (by decide +kernel) rfl rfl ?_
                exact BW.zret (by decide +kernel : decode tX10_mayBe.2.1 173 = .ok (.ireturn, 1)) rfl (Or.inl rfl) (Nat.zero_le _) (Nat.zero_le _) (hQ _ _ (Ok.some h))
              · have h := (Ok.ite h).2 hc
                refine BW.run [.iload 4, .sipush (-5000), .sipush 5000] (pc' := 162) (lv' := [(0, .ref a0), (1, .int x1), (2, .int x2), (3, .int x3), (4, .int x4), (5, .int x5)]) (st' := [.int (5000 : Int32), .int (-5000 : Int32), .int x4]) (by decide +kernel) rfl rfl ?_
                refine BW.callS (As := [.int x4, .int (-5000 : Int32), .int (5000 : Int32)]) (st := []) (by decide +kernel : decode tX10_mayBe.2.1 162 = .ok (.invokestatic 147, 3)) (DX10_in (Ok.bindK h)) mfX10_in lkM_X10_147 smX10_in rfl rfl (Nat.le_of_ble_eq_true rfl) ⟨Nat.le_trans (by decide) hRm.1, Nat.le_trans (by decide) hRm.2⟩ ⟨Nat.zero_le _, Nat.zero_le _⟩ ?_
                rintro _ s33 ⟨v34, rfl, h⟩
                show BW G tX10_mayBe E 0 0 165 [(0, .ref a0), (1, .int x1), (2, .int x2), (3, .int x3), (4, .int x4), (5, .int x5)] [.int v34] s33
                refine BW.if_eq 172 (by decide +kernel : decode tX10_mayBe.2.1 165 = .ok (.ifCond .eq 7, 3)) (by decide) (fun hc => ?_) (fun hc => ?_)
                · have h := (Ok.ite h).1 hc
                  refine BW.run [.iconst 0] (pc' := 173) (lv' := [(0, .ref a0), (1, .int x1), (2, .int x2), (3, .int x3), (4, .int x4), (5, .int x5)]) (st' := [.int (0 : Int32)]) (by decide +kernel) rfl rfl ?_
                  exact BW.zret (by decide +kernel : decode tX10_mayBe.2.1 173 = .ok (.ireturn, 1)) rfl (Or.inl rfl) (Nat.zero_le _) (Nat.zero_le _) (hQ _ _ (Ok.some h))
                · have h := (Ok.ite h).2 hc
                  refine BW.run [.iconst 1] (pc' := 169) (lv' := [(0, .ref a0), (1, .int x1), (2, .int x2), (3, .int x3), (4, .int x4), (5, .int x5)]) (st' := [.int (1 : Int32)]) (by decide +kernel) rfl rfl ?_
                  refine BW.goto 173 (by decide +kernel : decode tX10_mayBe.2.1 169 = .ok (.goto 4, 3)) (by decide) ?_
                  exact BW.zret (by decide +kernel : decode tX10_mayBe.2.1 173 = .ok (.ireturn, 1)) rfl (Or.inr rfl) (Nat.zero_le _) (Nat.zero_le _) (hQ _ _ (Ok.some h))
          · have h := (Ok.ite h).2 hc4
            refine BW.tblOut 174 (by decide +kernel : decode tX10_mayBe.2.1 1 = .ok (.tableswitch 173 0 4 #[35, 78, 78, 107, 140], 35)) (by have z0 : x1.toInt ≠ 0 := Int32_nek hc0 (by decide); have z1 : x1.toInt ≠ 1 := Int32_nek hc1 (by decide); have z2 : x1.toInt ≠ 2 := Int32_nek hc2 (by decide); have z3 : x1.toInt ≠ 3 := Int32_nek hc3 (by decide); have z4 : x1.toInt ≠ 4 := Int32_nek hc4 (by decide); omega) (by decide) ?_
            refine BW.run [.iconst 0] (pc' := 175) (lv' := [(0, .ref a0), (1, .int x1), (2, .int x2), (3, .int x3), (4, .int x4), (5, .int x5)]) (st' := [.int (0 : Int32)]) (by decide +kernel) rfl rfl ?_
            exact BW.zret (by decide +kernel : decode tX10_mayBe.2.1 175 = .ok (.ireturn, 1)) rfl (Or.inl rfl) (Nat.zero_le _) (Nat.zero_le _) (hQ _ _ (Ok.some h))
theorem oX10_mayBe {n : Nat} {P : Int32 × Sg → Prop} {s0 : Sg} {a0 : Nat} {x1 : Int32} {x2 : Int32} {x3 : Int32} {x4 : Int32} {x5 : Int32} (h : Ok (mX10_mayBe n s0 a0 x1 x2 x3 x4 x5) P) : ∃ n0, s0.2.1 a0 = some (10, n0) := by
  unfold mX10_mayBe at h
  exact Ok.isO h
theorem DX10_mayBe {G : Cx} {n : Nat} {P : Int32 × Sg → Prop} {s0 : Sg} {a0 : Nat} {x1 : Int32} {x2 : Int32} {x3 : Int32} {x4 : Int32} {x5 : Int32} (h : Ok (mX10_mayBe n s0 a0 x1 x2 x3 x4 x5) P) : BM G tX10_mayBe 5 114 0 0 [.ref a0, .int x1, .int x2, .int x3, .int x4, .int x5] s0 (fun v s => ∃ r, v = some (.int r) ∧ P (r, s)) := by
  refine BM.of (by decide +kernel) (Nat.le_of_ble_eq_true rfl) ?_
  exact bX10_mayBe (E := (({ frames := 5, cells := 0, slots := 0, locals := 114 }), Aof s0, 0, 0, (fun v s => ∃ r, v = some (.int r) ∧ P (r, s)))) ⟨Nat.le_refl _, Nat.le_refl _⟩ (fun r s hp => ⟨r, rfl, hp⟩) h
def mX10_fact_154 (n : Nat) (s0 : Sg) (t0 : Int32) (t1 : Int32) (t2 : Nat) (a0 : Nat) (x6 : Int32) : Option (Int32 × Sg) :=
  (sV 11 s0 t2 t1 (.int t0)).bind fun s30 =>
  (toR (gV 10 s30 a0 26)).bind fun b31 =>
  (toI (gV 10 s30 a0 27)).bind fun v32 =>
  (sV 11 s30 b31 v32 (.int x6)).bind fun s33 =>
  (toI (gV 10 s33 a0 27)).bind fun v34 =>
  (pV 10 s33 a0 27 (.int (v34 + (1 : Int32)))).bind fun s35 =>
  (toI (gV 10 s35 a0 27)).bind fun v36 =>
  some ((v36 - (1 : Int32)), s35)
theorem bX10_fact_154 {G : Cx} {E : Ev} {n : Nat} (hRm : 6 ≤ E.1.frames ∧ 139 ≤ E.1.locals) {s0 : Sg} {t0 : Int32} {t1 : Int32} {t2 : Nat} {a0 : Nat} {x6 : Int32} {P : Int32 × Sg → Prop} (hQ : ∀ r s, P (r, s) → E.2.2.2.2 (some (.int r)) s) (h : Ok (mX10_fact_154 n s0 t0 t1 t2 a0 x6) P) : BW G tX10_fact E 0 0 154 [(0, .ref a0), (6, .int x6)] [.int t0, .int t1, .ref t2] s0 := by
  unfold mX10_fact_154 at h
  obtain ⟨s30, es30, h⟩ := Ok.bind h
  refine BW.iast (by decide +kernel : decode tX10_fact.2.1 154 = .ok (.iastore, 1)) es30 ?_
  refine BW.run [.aload_n 0] (pc' := 156) (lv' := [(0, .ref a0), (6, .int x6)]) (st' := [.ref a0]) (by decide +kernel) rfl rfl ?_
  obtain ⟨b31, eb31, h⟩ := Ok.bind h
  refine BW.get (by decide +kernel : decode tX10_fact.2.1 156 = .ok (.getfield 58, 3)) ciX10 (k := 26) (by decide) lkF_X10_58 (toR_V eb31) ?_
  refine BW.run [.aload_n 0] (pc' := 160) (lv' := [(0, .ref a0), (6, .int x6)]) (st' := [.ref a0, .ref b31]) (by decide +kernel) rfl rfl ?_
  obtain ⟨v32, ev32, h⟩ := Ok.bind h
  refine BW.get (by decide +kernel : decode tX10_fact.2.1 160 = .ok (.getfield 194, 3)) ciX10 (k := 27) (by decide) lkF_X10_194 (toI_V ev32) ?_
  refine BW.run [.iload 6] (pc' := 165) (lv' := [(0, .ref a0), (6, .int x6)]) (st' := [.int x6, .int v32, .ref b31]) (by decide +kernel) rfl rfl ?_
  obtain ⟨s33, es33, h⟩ := Ok.bind h
  refine BW.iast (by decide +kernel : decode tX10_fact.2.1 165 = .ok (.iastore, 1)) es33 ?_
  refine BW.run [.aload_n 0, .dup] (pc' := 168) (lv' := [(0, .ref a0), (6, .int x6)]) (st' := [.ref a0, .ref a0]) (by decide +kernel) rfl rfl ?_
  obtain ⟨v34, ev34, h⟩ := Ok.bind h
  refine BW.get (by decide +kernel : decode tX10_fact.2.1 168 = .ok (.getfield 194, 3)) ciX10 (k := 27) (by decide) lkF_X10_194 (toI_V ev34) ?_
  refine BW.run [.iconst 1, .iadd] (pc' := 173) (lv' := [(0, .ref a0), (6, .int x6)]) (st' := [.int (v34 + (1 : Int32)), .ref a0]) (by decide +kernel) rfl rfl ?_
  obtain ⟨s35, es35, h⟩ := Ok.bind h
  refine BW.put (by decide +kernel : decode tX10_fact.2.1 173 = .ok (.putfield 194, 3)) ciX10 (k := 27) (by decide) lkF_X10_194 rfl rfl rfl es35 ?_
  refine BW.run [.aload_n 0] (pc' := 177) (lv' := [(0, .ref a0), (6, .int x6)]) (st' := [.ref a0]) (by decide +kernel) rfl rfl ?_
  obtain ⟨v36, ev36, h⟩ := Ok.bind h
  refine BW.get (by decide +kernel : decode tX10_fact.2.1 177 = .ok (.getfield 194, 3)) ciX10 (k := 27) (by decide) lkF_X10_194 (toI_V ev36) ?_
  refine BW.run [.iconst 1, .isub] (pc' := 182) (lv' := [(0, .ref a0), (6, .int x6)]) (st' := [.int (v36 - (1 : Int32))]) (by decide +kernel) rfl rfl ?_
  exact BW.iret (by decide +kernel : decode tX10_fact.2.1 182 = .ok (.ireturn, 1)) rfl (Nat.zero_le _) (Nat.zero_le _) (hQ _ _ (Ok.some h))
def mX10_fact_130 (n : Nat) (s0 : Sg) (t0 : Int32) (t1 : Nat) (a0 : Nat) (x3 : Int32) (x4 : Int32) (x5 : Int32) (x6 : Int32) : Option (Int32 × Sg) :=
  (toR (gV 10 s0 a0 17)).bind fun b25 =>
  (toI (aV 11 s0 b25 x3)).bind fun v26 =>
  (mX10_latest n s0 a0 x3 x5 x6).bind fun (v28, s27) =>
  mX10_fact_154 n s27 (x4 - (v26 * v28)) t0 t1 a0 x6
theorem bX10_fact_130 {G : Cx} {E : Ev} {n : Nat} (hRm : 6 ≤ E.1.frames ∧ 139 ≤ E.1.locals) {s0 : Sg} {t0 : Int32} {t1 : Nat} {a0 : Nat} {x3 : Int32} {x4 : Int32} {x5 : Int32} {x6 : Int32} {P : Int32 × Sg → Prop} (hQ : ∀ r s, P (r, s) → E.2.2.2.2 (some (.int r)) s) (h : Ok (mX10_fact_130 n s0 t0 t1 a0 x3 x4 x5 x6) P) : BW G tX10_fact E 0 0 130 [(0, .ref a0), (3, .int x3), (4, .int x4), (5, .int x5), (6, .int x6)] [.int t0, .ref t1] s0 := by
  unfold mX10_fact_130 at h
  refine BW.run [.iload 4, .aload_n 0] (pc' := 133) (lv' := [(0, .ref a0), (3, .int x3), (4, .int x4), (5, .int x5), (6, .int x6)]) (st' := [.ref a0, .int x4, .int t0, .ref t1]) (by decide +kernel) rfl rfl ?_
  obtain ⟨b25, eb25, h⟩ := Ok.bind h
  refine BW.get (by decide +kernel : decode tX10_fact.2.1 133 = .ok (.getfield 34, 3)) ciX10 (k := 17) (by decide) lkF_X10_34 (toR_V eb25) ?_
  refine BW.run [.iload_n 3] (pc' := 137) (lv' := [(0, .ref a0), (3, .int x3), (4, .int x4), (5, .int x5), (6, .int x6)]) (st' := [.int x3, .ref b25, .int x4, .int t0, .ref t1]) (by decide +kernel) rfl rfl ?_
  obtain ⟨v26, ev26, h⟩ := Ok.bind h
  refine BW.iald (by decide +kernel : decode tX10_fact.2.1 137 = .ok (.iaload, 1)) (toI_V ev26) ?_
  refine BW.run [.aload_n 0, .iload_n 3, .iload 5, .iload 6] (pc' := 144) (lv' := [(0, .ref a0), (3, .int x3), (4, .int x4), (5, .int x5), (6, .int x6)]) (st' := [.int x6, .int x5, .int x3, .ref a0, .int v26, .int x4, .int t0, .ref t1]) (by decide +kernel) rfl rfl ?_
  refine BW.callV (As := [.int x3, .int x5, .int x6]) (st := [.int v26, .int x4, .int t0, .ref t1]) (by decide +kernel : decode tX10_fact.2.1 144 = .ok (.invokevirtual 184, 3)) (DX10_latest (Ok.bindK h)) mfX10_latest lkM_X10_184 imX10_latest selX10_latest ciX10 (oX10_latest (Ok.bindK h)).choose_spec rfl rfl (Nat.le_of_ble_eq_true rfl) ⟨Nat.le_trans (by decide) hRm.1, Nat.le_trans (by decide) hRm.2⟩ ⟨Nat.zero_le _, Nat.zero_le _⟩ ?_
  rintro _ s27 ⟨v28, rfl, h⟩
  show BW G tX10_fact E 0 0 147 [(0, .ref a0), (3, .int x3), (4, .int x4), (5, .int x5), (6, .int x6)] [.int v28, .int v26, .int x4, .int t0, .ref t1] s27
  refine BW.run [.imul, .isub] (pc' := 149) (lv' := [(0, .ref a0), (3, .int x3), (4, .int x4), (5, .int x5), (6, .int x6)]) (st' := [.int (x4 - (v26 * v28)), .int t0, .ref t1]) (by decide +kernel) rfl rfl ?_
  refine BW.goto 154 (by decide +kernel : decode tX10_fact.2.1 149 = .ok (.goto 5, 3)) (by decide) ?_
  refine BW.sub [0, 4] rfl ?_
  exact bX10_fact_154 hRm hQ h
def mX10_fact_96 (n : Nat) (s0 : Sg) (t0 : Int32) (t1 : Int32) (t2 : Nat) (a0 : Nat) (x2 : Int32) (x3 : Int32) (x4 : Int32) (x5 : Int32) (x6 : Int32) : Option (Int32 × Sg) :=
  (sV 11 s0 t2 t1 (.int t0)).bind fun s22 =>
  (toR (gV 10 s22 a0 25)).bind fun b23 =>
  (toI (gV 10 s22 a0 27)).bind fun v24 =>
  if x2 = 0 then (
    mX10_fact_154 n s22 (((16 : Int32) * x6) + x5) v24 b23 a0 x6
  ) else (
    if x2 = (1 : Int32) then (
      mX10_fact_130 n s22 v24 b23 a0 x3 x4 x5 x6
    ) else (
      if x2 = (2 : Int32) then (
        mX10_fact_130 n s22 v24 b23 a0 x3 x4 x5 x6
      ) else (
        mX10_fact_154 n s22 x5 v24 b23 a0 x6
      )
    )
  )
theorem bX10_fact_96 {G : Cx} {E : Ev} {n : Nat} (hRm : 6 ≤ E.1.frames ∧ 139 ≤ E.1.locals) {s0 : Sg} {t0 : Int32} {t1 : Int32} {t2 : Nat} {a0 : Nat} {x2 : Int32} {x3 : Int32} {x4 : Int32} {x5 : Int32} {x6 : Int32} {P : Int32 × Sg → Prop} (hQ : ∀ r s, P (r, s) → E.2.2.2.2 (some (.int r)) s) (h : Ok (mX10_fact_96 n s0 t0 t1 t2 a0 x2 x3 x4 x5 x6) P) : BW G tX10_fact E 0 0 96 [(0, .ref a0), (2, .int x2), (3, .int x3), (4, .int x4), (5, .int x5), (6, .int x6)] [.int t0, .int t1, .ref t2] s0 := by
  unfold mX10_fact_96 at h
  obtain ⟨s22, es22, h⟩ := Ok.bind h
  refine BW.iast (by decide +kernel : decode tX10_fact.2.1 96 = .ok (.iastore, 1)) es22 ?_
  refine BW.run [.aload_n 0] (pc' := 98) (lv' := [(0, .ref a0), (2, .int x2), (3, .int x3), (4, .int x4), (5, .int x5), (6, .int x6)]) (st' := [.ref a0]) (by decide +kernel) rfl rfl ?_
  obtain ⟨b23, eb23, h⟩ := Ok.bind h
  refine BW.get (by decide +kernel : decode tX10_fact.2.1 98 = .ok (.getfield 55, 3)) ciX10 (k := 25) (by decide) lkF_X10_55 (toR_V eb23) ?_
  refine BW.run [.aload_n 0] (pc' := 102) (lv' := [(0, .ref a0), (2, .int x2), (3, .int x3), (4, .int x4), (5, .int x5), (6, .int x6)]) (st' := [.ref a0, .ref b23]) (by decide +kernel) rfl rfl ?_
  obtain ⟨v24, ev24, h⟩ := Ok.bind h
  refine BW.get (by decide +kernel : decode tX10_fact.2.1 102 = .ok (.getfield 194, 3)) ciX10 (k := 27) (by decide) lkF_X10_194 (toI_V ev24) ?_
  refine BW.run [.iload_n 2] (pc' := 106) (lv' := [(0, .ref a0), (2, .int x2), (3, .int x3), (4, .int x4), (5, .int x5), (6, .int x6)]) (st' := [.int x2, .int v24, .ref b23]) (by decide +kernel) rfl rfl ?_
  refine BW.if_ne 120 (by decide +kernel : decode tX10_fact.2.1 106 = .ok (.ifCond .ne 14, 3)) (by decide) (fun hc => ?_) (fun hc => ?_)
  · have h := (Ok.ite h).2 hc
    refine BW.run [.iload_n 2, .iconst 1] (pc' := 122) (lv' := [(0, .ref a0), (2, .int x2), (3, .int x3), (4, .int x4), (5, .int x5), (6, .int x6)]) (st' := [.int (1 : Int32), .int x2, .int v24, .ref b23]) (by decide +kernel) rfl rfl ?_
    refine BW.icmp_eq 130 (by decide +kernel : decode tX10_fact.2.1 122 = .ok (.if_icmp .eq 8, 3)) (by decide) (fun hc => ?_) (fun hc => ?_)
    · have h := (Ok.ite h).1 hc
      refine BW.sub [0, 2, 3, 4, 5] rfl ?_
      exact bX10_fact_130 hRm hQ h
    · have h := (Ok.ite h).2 hc
      refine BW.run [.iload_n 2, .iconst 2] (pc' := 127) (lv' := [(0, .ref a0), (2, .int x2), (3, .int x3), (4, .int x4), (5, .int x5), (6, .int x6)]) (st' := [.int (2 : Int32), .int x2, .int v24, .ref b23]) (by decide +kernel) rfl rfl ?_
      refine BW.icmp_ne 152 (by decide +kernel : decode tX10_fact.2.1 127 = .ok (.if_icmp .ne 25, 3)) (by decide) (fun hc => ?_) (fun hc => ?_)
      · have h := (Ok.ite h).2 hc
        refine BW.run [.iload 5] (pc' := 154) (lv' := [(0, .ref a0), (2, .int x2), (3, .int x3), (4, .int x4), (5, .int x5), (6, .int x6)]) (st' := [.int x5, .int v24, .ref b23]) (by decide +kernel) rfl rfl ?_
        refine BW.sub [0, 5] rfl ?_
        exact bX10_fact_154 hRm hQ h
      · have h := (Ok.ite h).1 hc
        refine BW.sub [0, 2, 3, 4, 5] rfl ?_
        exact bX10_fact_130 hRm hQ h
  · have h := (Ok.ite h).1 hc
    refine BW.run [.bipush 16, .iload 6, .imul, .iload 5, .iadd] (pc' := 117) (lv' := [(0, .ref a0), (2, .int x2), (3, .int x3), (4, .int x4), (5, .int x5), (6, .int x6)]) (st' := [.int (((16 : Int32) * x6) + x5), .int v24, .ref b23]) (by decide +kernel) rfl rfl ?_
    refine BW.goto 154 (by decide +kernel : decode tX10_fact.2.1 117 = .ok (.goto 37, 3)) (by decide) ?_
    refine BW.sub [0, 5] rfl ?_
    exact bX10_fact_154 hRm hQ h
def mX10_fact_90 (n : Nat) (s0 : Sg) (t0 : Int32) (t1 : Nat) (a0 : Nat) (x2 : Int32) (x3 : Int32) (x4 : Int32) (x5 : Int32) (x6 : Int32) : Option (Int32 × Sg) :=
  mX10_fact_96 n s0 x4 t0 t1 a0 x2 x3 x4 x5 x6
theorem bX10_fact_90 {G : Cx} {E : Ev} {n : Nat} (hRm : 6 ≤ E.1.frames ∧ 139 ≤ E.1.locals) {s0 : Sg} {t0 : Int32} {t1 : Nat} {a0 : Nat} {x2 : Int32} {x3 : Int32} {x4 : Int32} {x5 : Int32} {x6 : Int32} {P : Int32 × Sg → Prop} (hQ : ∀ r s, P (r, s) → E.2.2.2.2 (some (.int r)) s) (h : Ok (mX10_fact_90 n s0 t0 t1 a0 x2 x3 x4 x5 x6) P) : BW G tX10_fact E 0 0 90 [(0, .ref a0), (2, .int x2), (3, .int x3), (4, .int x4), (5, .int x5), (6, .int x6)] [.int t0, .ref t1] s0 := by
  unfold mX10_fact_90 at h
  refine BW.run [.iload 4] (pc' := 92) (lv' := [(0, .ref a0), (2, .int x2), (3, .int x3), (4, .int x4), (5, .int x5), (6, .int x6)]) (st' := [.int x4, .int t0, .ref t1]) (by decide +kernel) rfl rfl ?_
  refine BW.goto 96 (by decide +kernel : decode tX10_fact.2.1 92 = .ok (.goto 4, 3)) (by decide) ?_
  exact bX10_fact_96 hRm hQ h
def mX10_fact (n : Nat) (s0 : Sg) (a0 : Nat) (x1 : Int32) (x2 : Int32) (x3 : Int32) (x4 : Int32) (x5 : Int32) (x6 : Int32) : Option (Int32 × Sg) :=
  (isO 10 s0 a0).bind fun _ =>
  (mX10_in n s0 x1 (-1 : Int32) (5 : Int32)).bind fun (v2, s1) =>
  if v2 = 0 then (
    some ((-1 : Int32), s1)
  ) else (
    (mX10_isWalk n s1 a0 x3).bind fun (v5, s4) =>
    if v5 = 0 then (
      some ((-1 : Int32), s4)
    ) else (
      (mX10_mayBe n s4 a0 x2 x3 x4 x5 x6).bind fun (v8, s7) =>
      if v8 = 0 then (
        some ((-1 : Int32), s7)
      ) else (
        (toI (gV 10 s7 a0 27)).bind fun v10 =>
        if v10 = (20 : Int32) then (
          some ((-1 : Int32), s7)
        ) else (
          (toR (gV 10 s7 a0 21)).bind fun b11 =>
          (toI (gV 10 s7 a0 27)).bind fun v12 =>
          (sV 11 s7 b11 v12 (.int x1)).bind fun s13 =>
          (toR (gV 10 s13 a0 22)).bind fun b14 =>
          (toI (gV 10 s13 a0 27)).bind fun v15 =>
          (sV 11 s13 b14 v15 (.int x2)).bind fun s16 =>
          (toR (gV 10 s16 a0 23)).bind fun b17 =>
          (toI (gV 10 s16 a0 27)).bind fun v18 =>
          (sV 11 s16 b17 v18 (.int x3)).bind fun s19 =>
          (toR (gV 10 s19 a0 24)).bind fun b20 =>
          (toI (gV 10 s19 a0 27)).bind fun v21 =>
          if x2 = 0 then (
            mX10_fact_90 n s19 v21 b20 a0 x2 x3 x4 x5 x6
          ) else (
            if x2 = (4 : Int32) then (
              mX10_fact_90 n s19 v21 b20 a0 x2 x3 x4 x5 x6
            ) else (
              mX10_fact_96 n s19 (-1 : Int32) v21 b20 a0 x2 x3 x4 x5 x6
            )
          )
        )
      )
    )
  )
theorem bX10_fact {G : Cx} {E : Ev} {n : Nat} (hRm : 6 ≤ E.1.frames ∧ 139 ≤ E.1.locals) {P : Int32 × Sg → Prop} (hQ : ∀ r s, P (r, s) → E.2.2.2.2 (some (.int r)) s) {s0 : Sg} {a0 : Nat} {x1 : Int32} {x2 : Int32} {x3 : Int32} {x4 : Int32} {x5 : Int32} {x6 : Int32} (h : Ok (mX10_fact n s0 a0 x1 x2 x3 x4 x5 x6) P) : BW G tX10_fact E 0 0 0 [(0, .ref a0), (1, .int x1), (2, .int x2), (3, .int x3), (4, .int x4), (5, .int x5), (6, .int x6)] [] s0 := by
  unfold mX10_fact at h
  obtain ⟨_, _, h⟩ := Ok.bind h
  refine BW.run [.iload_n 1, .iconst (-1), .iconst 5] (pc' := 3) (lv' := [(0, .ref a0), (1, .int x1), (2, .int x2), (3, .int x3), (4, .int x4), (5, .int x5), (6, .int x6)]) (st' := [.int (5 : Int32), .int (-1 : Int32), .int x1]) (by decide +kernel) rfl rfl ?_
  refine BW.callS (As := [.int x1, .int (-1 : Int32), .int (5 : Int32)]) (st := []) (by decide +kernel : decode tX10_fact.2.1 3 = .ok (.invokestatic 147, 3)) (DX10_in (Ok.bindK h)) mfX10_in lkM_X10_147 smX10_in rfl rfl (Nat.le_of_ble_eq_true rfl) ⟨Nat.le_trans (by decide) hRm.1, Nat.le_trans (by decide) hRm.2⟩ ⟨Nat.zero_le _, Nat.zero_le _⟩ ?_
  rintro _ s1 ⟨v2, rfl, h⟩
  show BW G tX10_fact E 0 0 6 [(0, .ref a0), (1, .int x1), (2, .int x2), (3, .int x3), (4, .int x4), (5, .int x5), (6, .int x6)] [.int v2] s1
  refine BW.if_eq 41 (by decide +kernel : decode tX10_fact.2.1 6 = .ok (.ifCond .eq 35, 3)) (by decide) (fun hc => ?_) (fun hc => ?_)
  · have h := (Ok.ite h).1 hc
    refine BW.run [.iconst (-1)] (pc' := 42) (lv' := [(0, .ref a0), (1, .int x1), (2, .int x2), (3, .int x3), (4, .int x4), (5, .int x5), (6, .int x6)]) (st' := [.int (-1 : Int32)]) (by decide +kernel) rfl rfl ?_
    exact BW.iret (by decide +kernel : decode tX10_fact.2.1 42 = .ok (.ireturn, 1)) rfl (Nat.zero_le _) (Nat.zero_le _) (hQ _ _ (Ok.some h))
  · have h := (Ok.ite h).2 hc
    refine BW.run [.aload_n 0, .iload_n 3] (pc' := 11) (lv' := [(0, .ref a0), (1, .int x1), (2, .int x2), (3, .int x3), (4, .int x4), (5, .int x5), (6, .int x6)]) (st' := [.int x3, .ref a0]) (by decide +kernel) rfl rfl ?_
    refine BW.callV (As := [.int x3]) (st := []) (by decide +kernel : decode tX10_fact.2.1 11 = .ok (.invokevirtual 171, 3)) (DX10_isWalk (Ok.bindK h)) mfX10_isWalk lkM_X10_171 imX10_isWalk selX10_isWalk ciX10 (oX10_isWalk (Ok.bindK h)).choose_spec rfl rfl (Nat.le_of_ble_eq_true rfl) ⟨Nat.le_trans (by decide) hRm.1, Nat.le_trans (by decide) hRm.2⟩ ⟨Nat.zero_le _, Nat.zero_le _⟩ ?_
    rintro _ s4 ⟨v5, rfl, h⟩
    show BW G tX10_fact E 0 0 14 [(0, .ref a0), (1, .int x1), (2, .int x2), (3, .int x3), (4, .int x4), (5, .int x5), (6, .int x6)] [.int v5] s4
    refine BW.if_eq 41 (by decide +kernel : decode tX10_fact.2.1 14 = .ok (.ifCond .eq 27, 3)) (by decide) (fun hc => ?_) (fun hc => ?_)
    · have h := (Ok.ite h).1 hc
      refine BW.run [.iconst (-1)] (pc' := 42) (lv' := [(0, .ref a0), (1, .int x1), (2, .int x2), (3, .int x3), (4, .int x4), (5, .int x5), (6, .int x6)]) (st' := [.int (-1 : Int32)]) (by decide +kernel) rfl rfl ?_
      exact BW.iret (by decide +kernel : decode tX10_fact.2.1 42 = .ok (.ireturn, 1)) rfl (Nat.zero_le _) (Nat.zero_le _) (hQ _ _ (Ok.some h))
    · have h := (Ok.ite h).2 hc
      refine BW.run [.aload_n 0, .iload_n 2, .iload_n 3, .iload 4, .iload 5, .iload 6] (pc' := 26) (lv' := [(0, .ref a0), (1, .int x1), (2, .int x2), (3, .int x3), (4, .int x4), (5, .int x5), (6, .int x6)]) (st' := [.int x6, .int x5, .int x4, .int x3, .int x2, .ref a0]) (by decide +kernel) rfl rfl ?_
      refine BW.callV (As := [.int x2, .int x3, .int x4, .int x5, .int x6]) (st := []) (by decide +kernel : decode tX10_fact.2.1 26 = .ok (.invokevirtual 190, 3)) (DX10_mayBe (Ok.bindK h)) mfX10_mayBe lkM_X10_190 imX10_mayBe selX10_mayBe ciX10 (oX10_mayBe (Ok.bindK h)).choose_spec rfl rfl (Nat.le_of_ble_eq_true rfl) ⟨Nat.le_trans (by decide) hRm.1, Nat.le_trans (by decide) hRm.2⟩ ⟨Nat.zero_le _, Nat.zero_le _⟩ ?_
      rintro _ s7 ⟨v8, rfl, h⟩
      show BW G tX10_fact E 0 0 29 [(0, .ref a0), (1, .int x1), (2, .int x2), (3, .int x3), (4, .int x4), (5, .int x5), (6, .int x6)] [.int v8] s7
      refine BW.if_eq 41 (by decide +kernel : decode tX10_fact.2.1 29 = .ok (.ifCond .eq 12, 3)) (by decide) (fun hc => ?_) (fun hc => ?_)
      · have h := (Ok.ite h).1 hc
        refine BW.run [.iconst (-1)] (pc' := 42) (lv' := [(0, .ref a0), (1, .int x1), (2, .int x2), (3, .int x3), (4, .int x4), (5, .int x5), (6, .int x6)]) (st' := [.int (-1 : Int32)]) (by decide +kernel) rfl rfl ?_
        exact BW.iret (by decide +kernel : decode tX10_fact.2.1 42 = .ok (.ireturn, 1)) rfl (Nat.zero_le _) (Nat.zero_le _) (hQ _ _ (Ok.some h))
      · have h := (Ok.ite h).2 hc
        refine BW.run [.aload_n 0] (pc' := 33) (lv' := [(0, .ref a0), (1, .int x1), (2, .int x2), (3, .int x3), (4, .int x4), (5, .int x5), (6, .int x6)]) (st' := [.ref a0]) (by decide +kernel) rfl rfl ?_
        obtain ⟨v10, ev10, h⟩ := Ok.bind h
        refine BW.get (by decide +kernel : decode tX10_fact.2.1 33 = .ok (.getfield 194, 3)) ciX10 (k := 27) (by decide) lkF_X10_194 (toI_V ev10) ?_
        refine BW.run [.bipush 20] (pc' := 38) (lv' := [(0, .ref a0), (1, .int x1), (2, .int x2), (3, .int x3), (4, .int x4), (5, .int x5), (6, .int x6)]) (st' := [.int (20 : Int32), .int v10]) (by decide +kernel) rfl rfl ?_
        refine BW.icmp_ne 43 (by decide +kernel : decode tX10_fact.2.1 38 = .ok (.if_icmp .ne 5, 3)) (by decide) (fun hc => ?_) (fun hc => ?_)
        · have h := (Ok.ite h).2 hc
          refine BW.run [.aload_n 0] (pc' := 44) (lv' := [(0, .ref a0), (1, .int x1), (2, .int x2), (3, .int x3), (4, .int x4), (5, .int x5), (6, .int x6)]) (st' := [.ref a0]) (by decide +kernel) rfl rfl ?_
          obtain ⟨b11, eb11, h⟩ := Ok.bind h
          refine BW.get (by decide +kernel : decode tX10_fact.2.1 44 = .ok (.getfield 43, 3)) ciX10 (k := 21) (by decide) lkF_X10_43 (toR_V eb11) ?_
          refine BW.run [.aload_n 0] (pc' := 48) (lv' := [(0, .ref a0), (1, .int x1), (2, .int x2), (3, .int x3), (4, .int x4), (5, .int x5), (6, .int x6)]) (st' := [.ref a0, .ref b11]) (by decide +kernel) rfl rfl ?_
          obtain ⟨v12, ev12, h⟩ := Ok.bind h
          refine BW.get (by decide +kernel : decode tX10_fact.2.1 48 = .ok (.getfield 194, 3)) ciX10 (k := 27) (by decide) lkF_X10_194 (toI_V ev12) ?_
          refine BW.run [.iload_n 1] (pc' := 52) (lv' := [(0, .ref a0), (1, .int x1), (2, .int x2), (3, .int x3), (4, .int x4), (5, .int x5), (6, .int x6)]) (st' := [.int x1, .int v12, .ref b11]) (by decide +kernel) rfl rfl ?_
          obtain ⟨s13, es13, h⟩ := Ok.bind h
          refine BW.iast (by decide +kernel : decode tX10_fact.2.1 52 = .ok (.iastore, 1)) es13 ?_
          refine BW.run [.aload_n 0] (pc' := 54) (lv' := [(0, .ref a0), (1, .int x1), (2, .int x2), (3, .int x3), (4, .int x4), (5, .int x5), (6, .int x6)]) (st' := [.ref a0]) (by decide +kernel) rfl rfl ?_
          obtain ⟨b14, eb14, h⟩ := Ok.bind h
          refine BW.get (by decide +kernel : decode tX10_fact.2.1 54 = .ok (.getfield 46, 3)) ciX10 (k := 22) (by decide) lkF_X10_46 (toR_V eb14) ?_
          refine BW.run [.aload_n 0] (pc' := 58) (lv' := [(0, .ref a0), (1, .int x1), (2, .int x2), (3, .int x3), (4, .int x4), (5, .int x5), (6, .int x6)]) (st' := [.ref a0, .ref b14]) (by decide +kernel) rfl rfl ?_
          obtain ⟨v15, ev15, h⟩ := Ok.bind h
          refine BW.get (by decide +kernel : decode tX10_fact.2.1 58 = .ok (.getfield 194, 3)) ciX10 (k := 27) (by decide) lkF_X10_194 (toI_V ev15) ?_
          refine BW.run [.iload_n 2] (pc' := 62) (lv' := [(0, .ref a0), (1, .int x1), (2, .int x2), (3, .int x3), (4, .int x4), (5, .int x5), (6, .int x6)]) (st' := [.int x2, .int v15, .ref b14]) (by decide +kernel) rfl rfl ?_
          obtain ⟨s16, es16, h⟩ := Ok.bind h
          refine BW.iast (by decide +kernel : decode tX10_fact.2.1 62 = .ok (.iastore, 1)) es16 ?_
          refine BW.run [.aload_n 0] (pc' := 64) (lv' := [(0, .ref a0), (1, .int x1), (2, .int x2), (3, .int x3), (4, .int x4), (5, .int x5), (6, .int x6)]) (st' := [.ref a0]) (by decide +kernel) rfl rfl ?_
          obtain ⟨b17, eb17, h⟩ := Ok.bind h
          refine BW.get (by decide +kernel : decode tX10_fact.2.1 64 = .ok (.getfield 49, 3)) ciX10 (k := 23) (by decide) lkF_X10_49 (toR_V eb17) ?_
          refine BW.run [.aload_n 0] (pc' := 68) (lv' := [(0, .ref a0), (1, .int x1), (2, .int x2), (3, .int x3), (4, .int x4), (5, .int x5), (6, .int x6)]) (st' := [.ref a0, .ref b17]) (by decide +kernel) rfl rfl ?_
          obtain ⟨v18, ev18, h⟩ := Ok.bind h
          refine BW.get (by decide +kernel : decode tX10_fact.2.1 68 = .ok (.getfield 194, 3)) ciX10 (k := 27) (by decide) lkF_X10_194 (toI_V ev18) ?_
          refine BW.run [.iload_n 3] (pc' := 72) (lv' := [(0, .ref a0), (1, .int x1), (2, .int x2), (3, .int x3), (4, .int x4), (5, .int x5), (6, .int x6)]) (st' := [.int x3, .int v18, .ref b17]) (by decide +kernel) rfl rfl ?_
          obtain ⟨s19, es19, h⟩ := Ok.bind h
          refine BW.iast (by decide +kernel : decode tX10_fact.2.1 72 = .ok (.iastore, 1)) es19 ?_
          refine BW.run [.aload_n 0] (pc' := 74) (lv' := [(0, .ref a0), (1, .int x1), (2, .int x2), (3, .int x3), (4, .int x4), (5, .int x5), (6, .int x6)]) (st' := [.ref a0]) (by decide +kernel) rfl rfl ?_
          obtain ⟨b20, eb20, h⟩ := Ok.bind h
          refine BW.get (by decide +kernel : decode tX10_fact.2.1 74 = .ok (.getfield 52, 3)) ciX10 (k := 24) (by decide) lkF_X10_52 (toR_V eb20) ?_
          refine BW.run [.aload_n 0] (pc' := 78) (lv' := [(0, .ref a0), (1, .int x1), (2, .int x2), (3, .int x3), (4, .int x4), (5, .int x5), (6, .int x6)]) (st' := [.ref a0, .ref b20]) (by decide +kernel) rfl rfl ?_
          obtain ⟨v21, ev21, h⟩ := Ok.bind h
          refine BW.get (by decide +kernel : decode tX10_fact.2.1 78 = .ok (.getfield 194, 3)) ciX10 (k := 27) (by decide) lkF_X10_194 (toI_V ev21) ?_
          refine BW.run [.iload_n 2] (pc' := 82) (lv' := [(0, .ref a0), (1, .int x1), (2, .int x2), (3, .int x3), (4, .int x4), (5, .int x5), (6, .int x6)]) (st' := [.int x2, .int v21, .ref b20]) (by decide +kernel) rfl rfl ?_
          refine BW.if_eq 90 (by decide +kernel : decode tX10_fact.2.1 82 = .ok (.ifCond .eq 8, 3)) (by decide) (fun hc => ?_) (fun hc => ?_)
          · have h := (Ok.ite h).1 hc
            refine BW.sub [0, 2, 3, 4, 5, 6] rfl ?_
            exact bX10_fact_90 hRm hQ h
          · have h := (Ok.ite h).2 hc
            refine BW.run [.iload_n 2, .iconst 4] (pc' := 87) (lv' := [(0, .ref a0), (1, .int x1), (2, .int x2), (3, .int x3), (4, .int x4), (5, .int x5), (6, .int x6)]) (st' := [.int (4 : Int32), .int x2, .int v21, .ref b20]) (by decide +kernel) rfl rfl ?_
            refine BW.icmp_ne 95 (by decide +kernel : decode tX10_fact.2.1 87 = .ok (.if_icmp .ne 8, 3)) (by decide) (fun hc => ?_) (fun hc => ?_)
            · have h := (Ok.ite h).2 hc
              refine BW.run [.iconst (-1)] (pc' := 96) (lv' := [(0, .ref a0), (1, .int x1), (2, .int x2), (3, .int x3), (4, .int x4), (5, .int x5), (6, .int x6)]) (st' := [.int (-1 : Int32), .int v21, .ref b20]) (by decide +kernel) rfl rfl ?_
              refine BW.sub [0, 2, 3, 4, 5, 6] rfl ?_
              exact bX10_fact_96 hRm hQ h
            · have h := (Ok.ite h).1 hc
              refine BW.sub [0, 2, 3, 4, 5, 6] rfl ?_
              exact bX10_fact_90 hRm hQ h
        · have h := (Ok.ite h).1 hc
          refine BW.run [.iconst (-1)] (pc' := 42) (lv' := [(0, .ref a0), (1, .int x1), (2, .int x2), (3, .int x3), (4, .int x4), (5, .int x5), (6, .int x6)]) (st' := [.int (-1 : Int32)]) (by decide +kernel) rfl rfl ?_
          exact BW.iret (by decide +kernel : decode tX10_fact.2.1 42 = .ok (.ireturn, 1)) rfl (Nat.zero_le _) (Nat.zero_le _) (hQ _ _ (Ok.some h))
theorem oX10_fact {n : Nat} {P : Int32 × Sg → Prop} {s0 : Sg} {a0 : Nat} {x1 : Int32} {x2 : Int32} {x3 : Int32} {x4 : Int32} {x5 : Int32} {x6 : Int32} (h : Ok (mX10_fact n s0 a0 x1 x2 x3 x4 x5 x6) P) : ∃ n0, s0.2.1 a0 = some (10, n0) := by
  unfold mX10_fact at h
  exact Ok.isO h
theorem DX10_fact {G : Cx} {n : Nat} {P : Int32 × Sg → Prop} {s0 : Sg} {a0 : Nat} {x1 : Int32} {x2 : Int32} {x3 : Int32} {x4 : Int32} {x5 : Int32} {x6 : Int32} (h : Ok (mX10_fact n s0 a0 x1 x2 x3 x4 x5 x6) P) : BM G tX10_fact 6 139 0 0 [.ref a0, .int x1, .int x2, .int x3, .int x4, .int x5, .int x6] s0 (fun v s => ∃ r, v = some (.int r) ∧ P (r, s)) := by
  refine BM.of (by decide +kernel) (Nat.le_of_ble_eq_true rfl) ?_
  exact bX10_fact (E := (({ frames := 6, cells := 0, slots := 0, locals := 139 }), Aof s0, 0, 0, (fun v s => ∃ r, v = some (.int r) ∧ P (r, s)))) ⟨Nat.le_refl _, Nat.le_refl _⟩ (fun r s hp => ⟨r, rfl, hp⟩) h
def mX10_here (n : Nat) (s0 : Sg) (a0 : Nat) : Option (Int32 × Sg) :=
  (isO 10 s0 a0).bind fun _ =>
  (toI (gV 10 s0 a0 6)).bind fun v1 =>
  (toI (gV 10 s0 a0 5)).bind fun v2 =>
  if v2 ≤ v1 then (
    some ((-1 : Int32), s0)
  ) else (
    (toR (gV 10 s0 a0 4)).bind fun b3 =>
    (toI (gV 10 s0 a0 6)).bind fun v4 =>
    (toI (aV 11 s0 b3 v4)).bind fun v5 =>
    some (v5, s0)
  )
theorem bX10_here {G : Cx} {E : Ev} {n : Nat} (hRm : 0 ≤ E.1.frames ∧ 0 ≤ E.1.locals) {P : Int32 × Sg → Prop} (hQ : ∀ r s, P (r, s) → E.2.2.2.2 (some (.int r)) s) {s0 : Sg} {a0 : Nat} (h : Ok (mX10_here n s0 a0) P) : BW G tX10_here E 0 0 0 [(0, .ref a0)] [] s0 := by
  unfold mX10_here at h
  obtain ⟨_, _, h⟩ := Ok.bind h
  refine BW.run [.aload_n 0] (pc' := 1) (lv' := [(0, .ref a0)]) (st' := [.ref a0]) (by decide +kernel) rfl rfl ?_
  obtain ⟨v1, ev1, h⟩ := Ok.bind h
  refine BW.get (by decide +kernel : decode tX10_here.2.1 1 = .ok (.getfield 97, 3)) ciX10 (k := 6) (by decide) lkF_X10_97 (toI_V ev1) ?_
  refine BW.run [.aload_n 0] (pc' := 5) (lv' := [(0, .ref a0)]) (st' := [.ref a0, .int v1]) (by decide +kernel) rfl rfl ?_
  obtain ⟨v2, ev2, h⟩ := Ok.bind h
  refine BW.get (by decide +kernel : decode tX10_here.2.1 5 = .ok (.getfield 94, 3)) ciX10 (k := 5) (by decide) lkF_X10_94 (toI_V ev2) ?_
  refine BW.icmp_ge 23 (by decide +kernel : decode tX10_here.2.1 8 = .ok (.if_icmp .ge 15, 3)) (by decide) (fun hc => ?_) (fun hc => ?_)
  · have h := (Ok.ite h).1 hc
    refine BW.run [.iconst (-1)] (pc' := 24) (lv' := [(0, .ref a0)]) (st' := [.int (-1 : Int32)]) (by decide +kernel) rfl rfl ?_
    exact BW.iret (by decide +kernel : decode tX10_here.2.1 24 = .ok (.ireturn, 1)) rfl (Nat.zero_le _) (Nat.zero_le _) (hQ _ _ (Ok.some h))
  · have h := (Ok.ite h).2 hc
    refine BW.run [.aload_n 0] (pc' := 12) (lv' := [(0, .ref a0)]) (st' := [.ref a0]) (by decide +kernel) rfl rfl ?_
    obtain ⟨b3, eb3, h⟩ := Ok.bind h
    refine BW.get (by decide +kernel : decode tX10_here.2.1 12 = .ok (.getfield 18, 3)) ciX10 (k := 4) (by decide) lkF_X10_18 (toR_V eb3) ?_
    refine BW.run [.aload_n 0] (pc' := 16) (lv' := [(0, .ref a0)]) (st' := [.ref a0, .ref b3]) (by decide +kernel) rfl rfl ?_
    obtain ⟨v4, ev4, h⟩ := Ok.bind h
    refine BW.get (by decide +kernel : decode tX10_here.2.1 16 = .ok (.getfield 97, 3)) ciX10 (k := 6) (by decide) lkF_X10_97 (toI_V ev4) ?_
    obtain ⟨v5, ev5, h⟩ := Ok.bind h
    refine BW.iald (by decide +kernel : decode tX10_here.2.1 19 = .ok (.iaload, 1)) (toI_V ev5) ?_
    refine BW.goto 24 (by decide +kernel : decode tX10_here.2.1 20 = .ok (.goto 4, 3)) (by decide) ?_
    exact BW.iret (by decide +kernel : decode tX10_here.2.1 24 = .ok (.ireturn, 1)) rfl (Nat.zero_le _) (Nat.zero_le _) (hQ _ _ (Ok.some h))
theorem oX10_here {n : Nat} {P : Int32 × Sg → Prop} {s0 : Sg} {a0 : Nat} (h : Ok (mX10_here n s0 a0) P) : ∃ n0, s0.2.1 a0 = some (10, n0) := by
  unfold mX10_here at h
  exact Ok.isO h
theorem DX10_here {G : Cx} {n : Nat} {P : Int32 × Sg → Prop} {s0 : Sg} {a0 : Nat} (h : Ok (mX10_here n s0 a0) P) : BM G tX10_here 0 0 0 0 [.ref a0] s0 (fun v s => ∃ r, v = some (.int r) ∧ P (r, s)) := by
  refine BM.of (by decide +kernel) (Nat.le_of_ble_eq_true rfl) ?_
  exact bX10_here (E := (({ frames := 0, cells := 0, slots := 0, locals := 0 }), Aof s0, 0, 0, (fun v s => ∃ r, v = some (.int r) ∧ P (r, s)))) ⟨Nat.le_refl _, Nat.le_refl _⟩ (fun r s hp => ⟨r, rfl, hp⟩) h
def mX10_look_L0 (n : Nat) (a0 : Nat) : (Sg) → Option ((Sg) ⊕ (Sg))
  | s0 =>
    (mX10_here n s0 a0).bind fun (v2, s1) =>
    if v2 = (32 : Int32) then (
      (toI (gV 10 s1 a0 6)).bind fun v4 =>
      (pV 10 s1 a0 6 (.int (v4 + (1 : Int32)))).bind fun s5 =>
      some (.inl s5)
    ) else (
      some (.inr s1)
    )
theorem bX10_look_L0 {G : Cx} {E : Ev} {n : Nat} (hRm : 1 ≤ E.1.frames ∧ 20 ≤ E.1.locals) {a0 : Nat} {P : (Sg) ⊕ (Sg) → Prop} (hC : ∀ (s : Sg), P (.inl s) → BW G tX10_look E 0 0 0 [(0, .ref a0)] [] s) (hE : ∀ (s : Sg), P (.inr s) → BW G tX10_look E 0 0 22 [(0, .ref a0)] [] s) {s0 : Sg}  (h : Ok (mX10_look_L0 n a0 s0) P) : BW G tX10_look E 0 0 0 [(0, .ref a0)] [] s0 := by
  unfold mX10_look_L0 at h
  refine BW.run [.aload_n 0] (pc' := 1) (lv' := [(0, .ref a0)]) (st' := [.ref a0]) (by decide +kernel) rfl rfl ?_
  refine BW.callV (As := []) (st := []) (by decide +kernel : decode tX10_look.2.1 1 = .ok (.invokevirtual 100, 3)) (DX10_here (Ok.bindK h)) mfX10_here lkM_X10_100 imX10_here selX10_here ciX10 (oX10_here (Ok.bindK h)).choose_spec rfl rfl (Nat.le_of_ble_eq_true rfl) ⟨Nat.le_trans (by decide) hRm.1, Nat.le_trans (by decide) hRm.2⟩ ⟨Nat.zero_le _, Nat.zero_le _⟩ ?_
  rintro _ s1 ⟨v2, rfl, h⟩
  show BW G tX10_look E 0 0 4 [(0, .ref a0)] [.int v2] s1
  refine BW.run [.bipush 32] (pc' := 6) (lv' := [(0, .ref a0)]) (st' := [.int (32 : Int32), .int v2]) (by decide +kernel) rfl rfl ?_
  refine BW.icmp_ne 22 (by decide +kernel : decode tX10_look.2.1 6 = .ok (.if_icmp .ne 16, 3)) (by decide) (fun hc => ?_) (fun hc => ?_)
  · have h := (Ok.ite h).2 hc
    exact hE _ (Ok.some h)
  · have h := (Ok.ite h).1 hc
    refine BW.run [.aload_n 0, .dup] (pc' := 11) (lv' := [(0, .ref a0)]) (st' := [.ref a0, .ref a0]) (by decide +kernel) rfl rfl ?_
    obtain ⟨v4, ev4, h⟩ := Ok.bind h
    refine BW.get (by decide +kernel : decode tX10_look.2.1 11 = .ok (.getfield 97, 3)) ciX10 (k := 6) (by decide) lkF_X10_97 (toI_V ev4) ?_
    refine BW.run [.iconst 1, .iadd] (pc' := 16) (lv' := [(0, .ref a0)]) (st' := [.int (v4 + (1 : Int32)), .ref a0]) (by decide +kernel) rfl rfl ?_
    obtain ⟨s5, es5, h⟩ := Ok.bind h
    refine BW.put (by decide +kernel : decode tX10_look.2.1 16 = .ok (.putfield 97, 3)) ciX10 (k := 6) (by decide) lkF_X10_97 rfl rfl rfl es5 ?_
    refine BW.goto 0 (by decide +kernel : decode tX10_look.2.1 19 = .ok (.goto (-19), 3)) (by decide) ?_
    exact hC _ (Ok.some h)
theorem bX10_look_W0 {G : Cx} {E : Ev} {n : Nat} (hRm : 1 ≤ E.1.frames ∧ 20 ≤ E.1.locals) {a0 : Nat} {K : (Sg) → Prop} (hE : ∀ (s : Sg), K s → BW G tX10_look E 0 0 22 [(0, .ref a0)] [] s) : ∀ (f : Nat) (c : Sg), Ok (loopM (mX10_look_L0 n a0) f c) K → match c with | s0 => BW G tX10_look E 0 0 0 [(0, .ref a0)] [] s0 := by
  intro f
  induction f with
  | zero => intro c h; exact (Ok.no h).elim
  | succ f ih =>
    intro c h
    obtain s0 := c
    exact bX10_look_L0 (P := loopP (mX10_look_L0 n a0) f K) hRm (fun s  h => ih s h) hE (loopM_ok h)
def mX10_look (n : Nat) (s0 : Sg) (a0 : Nat) : Option (Int32 × Sg) :=
  (isO 10 s0 a0).bind fun _ =>
  (loopM (mX10_look_L0 n a0) n s0).bind fun s6 =>
  (mX10_here n s6 a0).bind fun (v9, s8) =>
  some (v9, s8)
theorem bX10_look {G : Cx} {E : Ev} {n : Nat} (hRm : 1 ≤ E.1.frames ∧ 20 ≤ E.1.locals) {P : Int32 × Sg → Prop} (hQ : ∀ r s, P (r, s) → E.2.2.2.2 (some (.int r)) s) {s0 : Sg} {a0 : Nat} (h : Ok (mX10_look n s0 a0) P) : BW G tX10_look E 0 0 0 [(0, .ref a0)] [] s0 := by
  unfold mX10_look at h
  obtain ⟨_, _, h⟩ := Ok.bind h
  refine bX10_look_W0 hRm (a0 := a0) (fun s6 h => ?_) n s0 (Ok.bindK h)
  refine BW.run [.aload_n 0] (pc' := 23) (lv' := [(0, .ref a0)]) (st' := [.ref a0]) (by decide +kernel) rfl rfl ?_
  refine BW.callV (As := []) (st := []) (by decide +kernel : decode tX10_look.2.1 23 = .ok (.invokevirtual 100, 3)) (DX10_here (Ok.bindK h)) mfX10_here lkM_X10_100 imX10_here selX10_here ciX10 (oX10_here (Ok.bindK h)).choose_spec rfl rfl (Nat.le_of_ble_eq_true rfl) ⟨Nat.le_trans (by decide) hRm.1, Nat.le_trans (by decide) hRm.2⟩ ⟨Nat.zero_le _, Nat.zero_le _⟩ ?_
  rintro _ s8 ⟨v9, rfl, h⟩
  show BW G tX10_look E 0 0 26 [(0, .ref a0)] [.int v9] s8
  exact BW.iret (by decide +kernel : decode tX10_look.2.1 26 = .ok (.ireturn, 1)) rfl (Nat.zero_le _) (Nat.zero_le _) (hQ _ _ (Ok.some h))
theorem oX10_look {n : Nat} {P : Int32 × Sg → Prop} {s0 : Sg} {a0 : Nat} (h : Ok (mX10_look n s0 a0) P) : ∃ n0, s0.2.1 a0 = some (10, n0) := by
  unfold mX10_look at h
  exact Ok.isO h
theorem DX10_look {G : Cx} {n : Nat} {P : Int32 × Sg → Prop} {s0 : Sg} {a0 : Nat} (h : Ok (mX10_look n s0 a0) P) : BM G tX10_look 1 20 0 0 [.ref a0] s0 (fun v s => ∃ r, v = some (.int r) ∧ P (r, s)) := by
  refine BM.of (by decide +kernel) (Nat.le_of_ble_eq_true rfl) ?_
  exact bX10_look (E := (({ frames := 1, cells := 0, slots := 0, locals := 20 }), Aof s0, 0, 0, (fun v s => ∃ r, v = some (.int r) ∧ P (r, s)))) ⟨Nat.le_refl _, Nat.le_refl _⟩ (fun r s hp => ⟨r, rfl, hp⟩) h
def mX10_isStep_36 (n : Nat) (s0 : Sg)  : Option (Int32 × Sg) :=
  some ((1 : Int32), s0)
theorem bX10_isStep_36 {G : Cx} {E : Ev} {n : Nat} (hRm : 0 ≤ E.1.frames ∧ 0 ≤ E.1.locals) {s0 : Sg}  {P : Int32 × Sg → Prop} (hQ : ∀ r s, P (r, s) → E.2.2.2.2 (some (.int r)) s) (h : Ok (mX10_isStep_36 n s0 ) P) : BW G tX10_isStep E 0 0 36 [] [] s0 := by
  unfold mX10_isStep_36 at h
  refine BW.run [.iconst 1] (pc' := 37) (lv' := []) (st' := [.int (1 : Int32)]) (by decide +kernel) rfl rfl ?_
  refine BW.goto 41 (by decide +kernel : decode tX10_isStep.2.1 37 = .ok (.goto 4, 3)) (by decide) ?_
  exact BW.zret (by decide +kernel : decode tX10_isStep.2.1 41 = .ok (.ireturn, 1)) rfl (Or.inr rfl) (Nat.zero_le _) (Nat.zero_le _) (hQ _ _ (Ok.some h))
def mX10_isStep (n : Nat) (s0 : Sg) (x0 : Int32) : Option (Int32 × Sg) :=
  if x0 = (110 : Int32) then (
    mX10_isStep_36 n s0 
  ) else (
    if x0 = (101 : Int32) then (
      mX10_isStep_36 n s0 
    ) else (
      if x0 = (115 : Int32) then (
        mX10_isStep_36 n s0 
      ) else (
        if x0 = (119 : Int32) then (
          mX10_isStep_36 n s0 
        ) else (
          if x0 = (122 : Int32) then (
            mX10_isStep_36 n s0 
          ) else (
            if x0 = (98 : Int32) then (
              mX10_isStep_36 n s0 
            ) else (
              some ((0 : Int32), s0)
            )
          )
        )
      )
    )
  )
theorem bX10_isStep {G : Cx} {E : Ev} {n : Nat} (hRm : 0 ≤ E.1.frames ∧ 0 ≤ E.1.locals) {P : Int32 × Sg → Prop} (hQ : ∀ r s, P (r, s) → E.2.2.2.2 (some (.int r)) s) {s0 : Sg} {x0 : Int32} (h : Ok (mX10_isStep n s0 x0) P) : BW G tX10_isStep E 0 0 0 [(0, .int x0)] [] s0 := by
  unfold mX10_isStep at h
  refine BW.run [.iload_n 0, .bipush 110] (pc' := 3) (lv' := [(0, .int x0)]) (st' := [.int (110 : Int32), .int x0]) (by decide +kernel) rfl rfl ?_
  refine BW.icmp_eq 36 (by decide +kernel : decode tX10_isStep.2.1 3 = .ok (.if_icmp .eq 33, 3)) (by decide) (fun hc => ?_) (fun hc => ?_)
  · have h := (Ok.ite h).1 hc
    refine BW.sub [] rfl ?_
    exact bX10_isStep_36 hRm hQ h
  · have h := (Ok.ite h).2 hc
    refine BW.run [.iload_n 0, .bipush 101] (pc' := 9) (lv' := [(0, .int x0)]) (st' := [.int (101 : Int32), .int x0]) (by decide +kernel) rfl rfl ?_
    refine BW.icmp_eq 36 (by decide +kernel : decode tX10_isStep.2.1 9 = .ok (.if_icmp .eq 27, 3)) (by decide) (fun hc => ?_) (fun hc => ?_)
    · have h := (Ok.ite h).1 hc
      refine BW.sub [] rfl ?_
      exact bX10_isStep_36 hRm hQ h
    · have h := (Ok.ite h).2 hc
      refine BW.run [.iload_n 0, .bipush 115] (pc' := 15) (lv' := [(0, .int x0)]) (st' := [.int (115 : Int32), .int x0]) (by decide +kernel) rfl rfl ?_
      refine BW.icmp_eq 36 (by decide +kernel : decode tX10_isStep.2.1 15 = .ok (.if_icmp .eq 21, 3)) (by decide) (fun hc => ?_) (fun hc => ?_)
      · have h := (Ok.ite h).1 hc
        refine BW.sub [] rfl ?_
        exact bX10_isStep_36 hRm hQ h
      · have h := (Ok.ite h).2 hc
        refine BW.run [.iload_n 0, .bipush 119] (pc' := 21) (lv' := [(0, .int x0)]) (st' := [.int (119 : Int32), .int x0]) (by decide +kernel) rfl rfl ?_
        refine BW.icmp_eq 36 (by decide +kernel : decode tX10_isStep.2.1 21 = .ok (.if_icmp .eq 15, 3)) (by decide) (fun hc => ?_) (fun hc => ?_)
        · have h := (Ok.ite h).1 hc
          refine BW.sub [] rfl ?_
          exact bX10_isStep_36 hRm hQ h
        · have h := (Ok.ite h).2 hc
          refine BW.run [.iload_n 0, .bipush 122] (pc' := 27) (lv' := [(0, .int x0)]) (st' := [.int (122 : Int32), .int x0]) (by decide +kernel) rfl rfl ?_
          refine BW.icmp_eq 36 (by decide +kernel : decode tX10_isStep.2.1 27 = .ok (.if_icmp .eq 9, 3)) (by decide) (fun hc => ?_) (fun hc => ?_)
          · have h := (Ok.ite h).1 hc
            refine BW.sub [] rfl ?_
            exact bX10_isStep_36 hRm hQ h
          · have h := (Ok.ite h).2 hc
            refine BW.run [.iload_n 0, .bipush 98] (pc' := 33) (lv' := [(0, .int x0)]) (st' := [.int (98 : Int32), .int x0]) (by decide +kernel) rfl rfl ?_
            refine BW.icmp_ne 40 (by decide +kernel : decode tX10_isStep.2.1 33 = .ok (.if_icmp .ne 7, 3)) (by decide) (fun hc => ?_) (fun hc => ?_)
            · have h := (Ok.ite h).2 hc
              refine BW.run [.iconst 0] (pc' := 41) (lv' := [(0, .int x0)]) (st' := [.int (0 : Int32)]) (by decide +kernel) rfl rfl ?_
              exact BW.zret (by decide +kernel : decode tX10_isStep.2.1 41 = .ok (.ireturn, 1)) rfl (Or.inl rfl) (Nat.zero_le _) (Nat.zero_le _) (hQ _ _ (Ok.some h))
            · have h := (Ok.ite h).1 hc
              refine BW.sub [] rfl ?_
              exact bX10_isStep_36 hRm hQ h
theorem DX10_isStep {G : Cx} {n : Nat} {P : Int32 × Sg → Prop} {s0 : Sg} {x0 : Int32} (h : Ok (mX10_isStep n s0 x0) P) : BM G tX10_isStep 0 0 0 0 [.int x0] s0 (fun v s => ∃ r, v = some (.int r) ∧ P (r, s)) := by
  refine BM.of (by decide +kernel) (Nat.le_of_ble_eq_true rfl) ?_
  exact bX10_isStep (E := (({ frames := 0, cells := 0, slots := 0, locals := 0 }), Aof s0, 0, 0, (fun v s => ∃ r, v = some (.int r) ∧ P (r, s)))) ⟨Nat.le_refl _, Nat.le_refl _⟩ (fun r s hp => ⟨r, rfl, hp⟩) h
