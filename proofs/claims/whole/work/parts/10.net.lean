def mJ_bitCount (n : Nat) (s0 : Sg) (x0 : Int32) : Option (Int32 × Sg) :=
  nm (x0 - ((x0.toUInt32 >>> ((1 : Int32).toUInt32 &&& Int32.toUInt32 31)).toInt32 &&& (1431655765 : Int32))) fun v1 =>
  nm ((v1 &&& (858993459 : Int32)) + ((v1.toUInt32 >>> ((2 : Int32).toUInt32 &&& Int32.toUInt32 31)).toInt32 &&& (858993459 : Int32))) fun v2 =>
  nm ((v2 + (v2.toUInt32 >>> ((4 : Int32).toUInt32 &&& Int32.toUInt32 31)).toInt32) &&& (252645135 : Int32)) fun v3 =>
  nm (v3 + (v3.toUInt32 >>> ((8 : Int32).toUInt32 &&& Int32.toUInt32 31)).toInt32) fun v4 =>
  nm (v4 + (v4.toUInt32 >>> ((16 : Int32).toUInt32 &&& Int32.toUInt32 31)).toInt32) fun v5 =>
  some ((v5 &&& (63 : Int32)), s0)
theorem bJ_bitCount {G : Cx} {E : Ev} {n : Nat} (hRm : 0 ≤ E.1.frames ∧ 0 ≤ E.1.locals) {P : Int32 × Sg → Prop} (hQ : ∀ r s, P (r, s) → E.2.2.2.2 (some (.int r)) s) {s0 : Sg} {x0 : Int32} (h : Ok (mJ_bitCount n s0 x0) P) : BW G tJ_bitCount E 0 0 0 [(0, .int x0)] [] s0 := by
  unfold mJ_bitCount at h
  refine BW.run [.iload_n 0, .iload_n 0, .iconst 1, .iushr] (pc' := 4) (lv' := [(0, .int x0)]) (st' := [.int (x0.toUInt32 >>> ((1 : Int32).toUInt32 &&& Int32.toUInt32 31)).toInt32, .int x0]) (by decide +kernel) rfl rfl ?_
  refine BW.ldcw (by decide +kernel : decode tJ_bitCount.2.1 4 = .ok (.ldc_w 265, 3)) (x := (1431655765 : Int32)) lkK_I_265 ?_
  refine BW.run [.iand, .isub] (pc' := 9) (lv' := [(0, .int x0)]) (st' := [.int (x0 - ((x0.toUInt32 >>> ((1 : Int32).toUInt32 &&& Int32.toUInt32 31)).toInt32 &&& (1431655765 : Int32)))]) (by decide +kernel) rfl rfl ?_
  obtain ⟨v1, wv1, h⟩ := Ok.nm h
  refine BW.nm wv1 ?_
  refine BW.run [.istore_n 0, .iload_n 0] (pc' := 11) (lv' := [(0, .int v1)]) (st' := [.int v1]) (by decide +kernel) rfl rfl ?_
  refine BW.ldcw (by decide +kernel : decode tJ_bitCount.2.1 11 = .ok (.ldc_w 266, 3)) (x := (858993459 : Int32)) lkK_I_266 ?_
  refine BW.run [.iand, .iload_n 0, .iconst 2, .iushr] (pc' := 18) (lv' := [(0, .int v1)]) (st' := [.int (v1.toUInt32 >>> ((2 : Int32).toUInt32 &&& Int32.toUInt32 31)).toInt32, .int (v1 &&& (858993459 : Int32))]) (by decide +kernel) rfl rfl ?_
  refine BW.ldcw (by decide +kernel : decode tJ_bitCount.2.1 18 = .ok (.ldc_w 266, 3)) (x := (858993459 : Int32)) lkK_I_266 ?_
  refine BW.run [.iand, .iadd] (pc' := 23) (lv' := [(0, .int v1)]) (st' := [.int ((v1 &&& (858993459 : Int32)) + ((v1.toUInt32 >>> ((2 : Int32).toUInt32 &&& Int32.toUInt32 31)).toInt32 &&& (858993459 : Int32)))]) (by decide +kernel) rfl rfl ?_
  obtain ⟨v2, wv2, h⟩ := Ok.nm h
  refine BW.nm wv2 ?_
  refine BW.run [.istore_n 0, .iload_n 0, .iload_n 0, .iconst 4, .iushr, .iadd] (pc' := 29) (lv' := [(0, .int v2)]) (st' := [.int (v2 + (v2.toUInt32 >>> ((4 : Int32).toUInt32 &&& Int32.toUInt32 31)).toInt32)]) (by decide +kernel) rfl rfl ?_
  refine BW.ldcw (by decide +kernel : decode tJ_bitCount.2.1 29 = .ok (.ldc_w 267, 3)) (x := (252645135 : Int32)) lkK_I_267 ?_
  refine BW.run [.iand] (pc' := 33) (lv' := [(0, .int v2)]) (st' := [.int ((v2 + (v2.toUInt32 >>> ((4 : Int32).toUInt32 &&& Int32.toUInt32 31)).toInt32) &&& (252645135 : Int32))]) (by decide +kernel) rfl rfl ?_
  obtain ⟨v3, wv3, h⟩ := Ok.nm h
  refine BW.nm wv3 ?_
  refine BW.run [.istore_n 0, .iload_n 0, .iload_n 0, .bipush 8, .iushr, .iadd] (pc' := 40) (lv' := [(0, .int v3)]) (st' := [.int (v3 + (v3.toUInt32 >>> ((8 : Int32).toUInt32 &&& Int32.toUInt32 31)).toInt32)]) (by decide +kernel) rfl rfl ?_
  obtain ⟨v4, wv4, h⟩ := Ok.nm h
  refine BW.nm wv4 ?_
  refine BW.run [.istore_n 0, .iload_n 0, .iload_n 0, .bipush 16, .iushr, .iadd] (pc' := 47) (lv' := [(0, .int v4)]) (st' := [.int (v4 + (v4.toUInt32 >>> ((16 : Int32).toUInt32 &&& Int32.toUInt32 31)).toInt32)]) (by decide +kernel) rfl rfl ?_
  obtain ⟨v5, wv5, h⟩ := Ok.nm h
  refine BW.nm wv5 ?_
  refine BW.run [.istore_n 0, .iload_n 0, .bipush 63, .iand] (pc' := 52) (lv' := [(0, .int v5)]) (st' := [.int (v5 &&& (63 : Int32))]) (by decide +kernel) rfl rfl ?_
  exact BW.iret (by decide +kernel : decode tJ_bitCount.2.1 52 = .ok (.ireturn, 1)) rfl (Nat.zero_le _) (Nat.zero_le _) (hQ _ _ (Ok.some h))
theorem DJ_bitCount {G : Cx} {n : Nat} {P : Int32 × Sg → Prop} {s0 : Sg} {x0 : Int32} (h : Ok (mJ_bitCount n s0 x0) P) : BM G tJ_bitCount 0 0 0 0 [.int x0] s0 (fun v s => ∃ r, v = some (.int r) ∧ P (r, s)) := by
  refine BM.of (by decide +kernel) (Nat.le_of_ble_eq_true rfl) ?_
  exact bJ_bitCount (E := (({ frames := 0, cells := 0, slots := 0, locals := 0 }), Aof s0, 0, 0, (fun v s => ∃ r, v = some (.int r) ∧ P (r, s)))) ⟨Nat.le_refl _, Nat.le_refl _⟩ (fun r s hp => ⟨r, rfl, hp⟩) h
def mJ_fill_L5 (n : Nat) (a0 : Nat) (x1 : Int32) (x3 : Int32) : (Sg × Int32) → Option ((Sg × Int32) ⊕ (Sg))
  | (s0, x2) =>
    if x3 ≤ x2 then (
      some (.inr s0)
    ) else (
      (sV 11 s0 a0 x2 (.int x1)).bind fun s2 =>
      some (.inl (s2, (x2 + (1 : Int32))))
    )
theorem bJ_fill_L5 {G : Cx} {E : Ev} {n : Nat} (hRm : 0 ≤ E.1.frames ∧ 0 ≤ E.1.locals) {a0 : Nat} {x1 : Int32} {x3 : Int32} {P : (Sg × Int32) ⊕ (Sg) → Prop} (hC : ∀ (s : Sg) (c2 : Int32), P (.inl (s, c2)) → BW G tJ_fill E 0 0 5 [(0, .ref a0), (1, .int x1), (2, .int c2), (3, .int x3)] [] s) (hE : ∀ (s : Sg), P (.inr s) → BW G tJ_fill E 0 0 20 [] [] s) {s0 : Sg} {x2 : Int32} (h : Ok (mJ_fill_L5 n a0 x1 x3 (s0, x2)) P) : BW G tJ_fill E 0 0 5 [(0, .ref a0), (1, .int x1), (2, .int x2), (3, .int x3)] [] s0 := by
  unfold mJ_fill_L5 at h
  refine BW.run [.iload_n 2, .iload_n 3] (pc' := 7) (lv' := [(0, .ref a0), (1, .int x1), (2, .int x2), (3, .int x3)]) (st' := [.int x3, .int x2]) (by decide +kernel) rfl rfl ?_
  refine BW.icmp_ge 20 (by decide +kernel : decode tJ_fill.2.1 7 = .ok (.if_icmp .ge 13, 3)) (by decide) (fun hc => ?_) (fun hc => ?_)
  · have h := (Ok.ite h).1 hc
    refine BW.sub [] rfl ?_
    exact hE _ (Ok.some h)
  · have h := (Ok.ite h).2 hc
    refine BW.run [.aload_n 0, .iload_n 2, .iload_n 1] (pc' := 13) (lv' := [(0, .ref a0), (1, .int x1), (2, .int x2), (3, .int x3)]) (st' := [.int x1, .int x2, .ref a0]) (by decide +kernel) rfl rfl ?_
    obtain ⟨s2, es2, h⟩ := Ok.bind h
    refine BW.iast (by decide +kernel : decode tJ_fill.2.1 13 = .ok (.iastore, 1)) es2 ?_
    refine BW.run [.iinc 2 1] (pc' := 17) (lv' := [(0, .ref a0), (1, .int x1), (2, .int (x2 + (1 : Int32))), (3, .int x3)]) (st' := []) (by decide +kernel) rfl rfl ?_
    refine BW.goto 5 (by decide +kernel : decode tJ_fill.2.1 17 = .ok (.goto (-12), 3)) (by decide) ?_
    exact hC _ _ (Ok.some h)
theorem bJ_fill_W5 {G : Cx} {E : Ev} {n : Nat} (hRm : 0 ≤ E.1.frames ∧ 0 ≤ E.1.locals) {a0 : Nat} {x1 : Int32} {x3 : Int32} {K : (Sg) → Prop} (hE : ∀ (s : Sg), K s → BW G tJ_fill E 0 0 20 [] [] s) : ∀ (f : Nat) (c : Sg × Int32), Ok (loopM (mJ_fill_L5 n a0 x1 x3) f c) K → match c with | (s0, x2) => BW G tJ_fill E 0 0 5 [(0, .ref a0), (1, .int x1), (2, .int x2), (3, .int x3)] [] s0 := by
  intro f
  induction f with
  | zero => intro c h; exact (Ok.no h).elim
  | succ f ih =>
    intro c h
    obtain ⟨s0, x2⟩ := c
    exact bJ_fill_L5 (P := loopP (mJ_fill_L5 n a0 x1 x3) f K) hRm (fun s c2 h => ih (s, c2) h) hE (loopM_ok h)
def mJ_fill (n : Nat) (s0 : Sg) (a0 : Nat) (x1 : Int32) : Option (Sg) :=
  (lenA 11 s0 a0).bind fun v1 =>
  (loopM (mJ_fill_L5 n a0 x1 v1) n (s0, (0 : Int32))).bind fun s3 =>
  some s3
theorem bJ_fill {G : Cx} {E : Ev} {n : Nat} (hRm : 0 ≤ E.1.frames ∧ 0 ≤ E.1.locals) {P : Sg → Prop} (hQ : ∀ s, P s → E.2.2.2.2 none s) {s0 : Sg} {a0 : Nat} {x1 : Int32} (h : Ok (mJ_fill n s0 a0 x1) P) : BW G tJ_fill E 0 0 0 [(0, .ref a0), (1, .int x1)] [] s0 := by
  unfold mJ_fill at h
  refine BW.run [.iconst 0, .istore_n 2, .aload_n 0] (pc' := 3) (lv' := [(0, .ref a0), (1, .int x1), (2, .int (0 : Int32))]) (st' := [.ref a0]) (by decide +kernel) rfl rfl ?_
  obtain ⟨v1, ev1, h⟩ := Ok.bind h
  refine BW.alen (by decide +kernel : decode tJ_fill.2.1 3 = .ok (.arraylength, 1)) (t := 11) (by decide) ev1 ?_
  refine BW.run [.istore_n 3] (pc' := 5) (lv' := [(0, .ref a0), (1, .int x1), (2, .int (0 : Int32)), (3, .int v1)]) (st' := []) (by decide +kernel) rfl rfl ?_
  refine bJ_fill_W5 hRm (a0 := a0) (x1 := x1) (x3 := v1) (fun s3 h => ?_) n (s0, (0 : Int32)) (Ok.bindK h)
  exact BW.vret (by decide +kernel : decode tJ_fill.2.1 20 = .ok (.return_, 1)) rfl (Nat.zero_le _) (Nat.zero_le _) (hQ _ (Ok.some h))
theorem DJ_fill {G : Cx} {n : Nat} {P : Sg → Prop} {s0 : Sg} {a0 : Nat} {x1 : Int32} (h : Ok (mJ_fill n s0 a0 x1) P) : BM G tJ_fill 0 0 0 0 [.ref a0, .int x1] s0 (fun v s => v = none ∧ P s) := by
  refine BM.of (by decide +kernel) (Nat.le_of_ble_eq_true rfl) ?_
  exact bJ_fill (E := (({ frames := 0, cells := 0, slots := 0, locals := 0 }), Aof s0, 0, 0, (fun v s => v = none ∧ P s))) ⟨Nat.le_refl _, Nat.le_refl _⟩ (fun s hp => ⟨rfl, hp⟩) h
def mX4_isPoint (n : Nat) (s0 : Sg) (a0 : Nat) (x1 : Int32) : Option (Int32 × Sg) :=
  (isO 4 s0 a0).bind fun _ =>
  if x1 < 0 then (
    some ((0 : Int32), s0)
  ) else (
    (toI (gV 4 s0 a0 1)).bind fun v1 =>
    if v1 ≤ x1 then (
      some ((0 : Int32), s0)
    ) else (
      some ((1 : Int32), s0)
    )
  )
theorem bX4_isPoint {G : Cx} {E : Ev} {n : Nat} (hRm : 0 ≤ E.1.frames ∧ 0 ≤ E.1.locals) {P : Int32 × Sg → Prop} (hQ : ∀ r s, P (r, s) → E.2.2.2.2 (some (.int r)) s) {s0 : Sg} {a0 : Nat} {x1 : Int32} (h : Ok (mX4_isPoint n s0 a0 x1) P) : BW G tX4_isPoint E 0 0 0 [(0, .ref a0), (1, .int x1)] [] s0 := by
  unfold mX4_isPoint at h
  obtain ⟨_, _, h⟩ := Ok.bind h
  refine BW.run [.iload_n 1] (pc' := 1) (lv' := [(0, .ref a0), (1, .int x1)]) (st' := [.int x1]) (by decide +kernel) rfl rfl ?_
  refine BW.if_lt 16 (by decide +kernel : decode tX4_isPoint.2.1 1 = .ok (.ifCond .lt 15, 3)) (by decide) (fun hc => ?_) (fun hc => ?_)
  · have h := (Ok.ite h).1 hc
    refine BW.run [.iconst 0] (pc' := 17) (lv' := [(0, .ref a0), (1, .int x1)]) (st' := [.int (0 : Int32)]) (by decide +kernel) rfl rfl ?_
    exact BW.zret (by decide +kernel : decode tX4_isPoint.2.1 17 = .ok (.ireturn, 1)) rfl (Or.inl rfl) (Nat.zero_le _) (Nat.zero_le _) (hQ _ _ (Ok.some h))
  · have h := (Ok.ite h).2 hc
    refine BW.run [.iload_n 1, .aload_n 0] (pc' := 6) (lv' := [(0, .ref a0), (1, .int x1)]) (st' := [.ref a0, .int x1]) (by decide +kernel) rfl rfl ?_
    obtain ⟨v1, ev1, h⟩ := Ok.bind h
    refine BW.get (by decide +kernel : decode tX4_isPoint.2.1 6 = .ok (.getfield 15, 3)) ciX4 (k := 1) (by decide) lkF_X4_15 (toI_V ev1) ?_
    refine BW.icmp_ge 16 (by decide +kernel : decode tX4_isPoint.2.1 9 = .ok (.if_icmp .ge 7, 3)) (by decide) (fun hc => ?_) (fun hc => ?_)
    · have h := (Ok.ite h).1 hc
      refine BW.run [.iconst 0] (pc' := 17) (lv' := [(0, .ref a0), (1, .int x1)]) (st' := [.int (0 : Int32)]) (by decide +kernel) rfl rfl ?_
      exact BW.zret (by decide +kernel : decode tX4_isPoint.2.1 17 = .ok (.ireturn, 1)) rfl (Or.inl rfl) (Nat.zero_le _) (Nat.zero_le _) (hQ _ _ (Ok.some h))
    · have h := (Ok.ite h).2 hc
      refine BW.run [.iconst 1] (pc' := 13) (lv' := [(0, .ref a0), (1, .int x1)]) (st' := [.int (1 : Int32)]) (by decide +kernel) rfl rfl ?_
      refine BW.goto 17 (by decide +kernel : decode tX4_isPoint.2.1 13 = .ok (.goto 4, 3)) (by decide) ?_
      exact BW.zret (by decide +kernel : decode tX4_isPoint.2.1 17 = .ok (.ireturn, 1)) rfl (Or.inr rfl) (Nat.zero_le _) (Nat.zero_le _) (hQ _ _ (Ok.some h))
theorem oX4_isPoint {n : Nat} {P : Int32 × Sg → Prop} {s0 : Sg} {a0 : Nat} {x1 : Int32} (h : Ok (mX4_isPoint n s0 a0 x1) P) : ∃ n0, s0.2.1 a0 = some (4, n0) := by
  unfold mX4_isPoint at h
  exact Ok.isO h
theorem DX4_isPoint {G : Cx} {n : Nat} {P : Int32 × Sg → Prop} {s0 : Sg} {a0 : Nat} {x1 : Int32} (h : Ok (mX4_isPoint n s0 a0 x1) P) : BM G tX4_isPoint 0 0 0 0 [.ref a0, .int x1] s0 (fun v s => ∃ r, v = some (.int r) ∧ P (r, s)) := by
  refine BM.of (by decide +kernel) (Nat.le_of_ble_eq_true rfl) ?_
  exact bX4_isPoint (E := (({ frames := 0, cells := 0, slots := 0, locals := 0 }), Aof s0, 0, 0, (fun v s => ∃ r, v = some (.int r) ∧ P (r, s)))) ⟨Nat.le_refl _, Nat.le_refl _⟩ (fun r s hp => ⟨r, rfl, hp⟩) h
def mX4_fits (n : Nat) (s0 : Sg) (a0 : Nat) (x1 : Int32) (x2 : Int32) (x3 : Int32) : Option (Int32 × Sg) :=
  (isO 4 s0 a0).bind fun _ =>
  (mX4_isPoint n s0 a0 x1).bind fun (v2, s1) =>
  if v2 = 0 then (
    some ((0 : Int32), s1)
  ) else (
    (mX4_isPoint n s1 a0 x2).bind fun (v5, s4) =>
    if v5 = 0 then (
      some ((0 : Int32), s4)
    ) else (
      (toR (gV 4 s4 a0 0)).bind fun b7 =>
      (toI (aV 11 s4 b7 ((x1 * (9 : Int32)) + x2))).bind fun v8 =>
      if 0 < (v8 + x3) then (
        some ((0 : Int32), s4)
      ) else (
        some ((1 : Int32), s4)
      )
    )
  )
theorem bX4_fits {G : Cx} {E : Ev} {n : Nat} (hRm : 1 ≤ E.1.frames ∧ 21 ≤ E.1.locals) {P : Int32 × Sg → Prop} (hQ : ∀ r s, P (r, s) → E.2.2.2.2 (some (.int r)) s) {s0 : Sg} {a0 : Nat} {x1 : Int32} {x2 : Int32} {x3 : Int32} (h : Ok (mX4_fits n s0 a0 x1 x2 x3) P) : BW G tX4_fits E 0 0 0 [(0, .ref a0), (1, .int x1), (2, .int x2), (3, .int x3)] [] s0 := by
  unfold mX4_fits at h
  obtain ⟨_, _, h⟩ := Ok.bind h
  refine BW.run [.aload_n 0, .iload_n 1] (pc' := 2) (lv' := [(0, .ref a0), (1, .int x1), (2, .int x2), (3, .int x3)]) (st' := [.int x1, .ref a0]) (by decide +kernel) rfl rfl ?_
  refine BW.callV (As := [.int x1]) (st := []) (by decide +kernel : decode tX4_fits.2.1 2 = .ok (.invokevirtual 31, 3)) (DX4_isPoint (Ok.bindK h)) mfX4_isPoint lkM_X4_31 imX4_isPoint selX4_isPoint ciX4 (oX4_isPoint (Ok.bindK h)).choose_spec rfl rfl (Nat.le_of_ble_eq_true rfl) ⟨Nat.le_trans (by decide) hRm.1, Nat.le_trans (by decide) hRm.2⟩ ⟨Nat.zero_le _, Nat.zero_le _⟩ ?_
  rintro _ s1 ⟨v2, rfl, h⟩
  show BW G tX4_fits E 0 0 5 [(0, .ref a0), (1, .int x1), (2, .int x2), (3, .int x3)] [.int v2] s1
  refine BW.if_eq 36 (by decide +kernel : decode tX4_fits.2.1 5 = .ok (.ifCond .eq 31, 3)) (by decide) (fun hc => ?_) (fun hc => ?_)
  · have h := (Ok.ite h).1 hc
    refine BW.run [.iconst 0] (pc' := 37) (lv' := [(0, .ref a0), (1, .int x1), (2, .int x2), (3, .int x3)]) (st' := [.int (0 : Int32)]) (by decide +kernel) rfl rfl ?_
    exact BW.zret (by decide +kernel : decode tX4_fits.2.1 37 = .ok (.ireturn, 1)) rfl (Or.inl rfl) (Nat.zero_le _) (Nat.zero_le _) (hQ _ _ (Ok.some h))
  · have h := (Ok.ite h).2 hc
    refine BW.run [.aload_n 0, .iload_n 2] (pc' := 10) (lv' := [(0, .ref a0), (1, .int x1), (2, .int x2), (3, .int x3)]) (st' := [.int x2, .ref a0]) (by decide +kernel) rfl rfl ?_
    refine BW.callV (As := [.int x2]) (st := []) (by decide +kernel : decode tX4_fits.2.1 10 = .ok (.invokevirtual 31, 3)) (DX4_isPoint (Ok.bindK h)) mfX4_isPoint lkM_X4_31 imX4_isPoint selX4_isPoint ciX4 (oX4_isPoint (Ok.bindK h)).choose_spec rfl rfl (Nat.le_of_ble_eq_true rfl) ⟨Nat.le_trans (by decide) hRm.1, Nat.le_trans (by decide) hRm.2⟩ ⟨Nat.zero_le _, Nat.zero_le _⟩ ?_
    rintro _ s4 ⟨v5, rfl, h⟩
    show BW G tX4_fits E 0 0 13 [(0, .ref a0), (1, .int x1), (2, .int x2), (3, .int x3)] [.int v5] s4
    refine BW.if_eq 36 (by decide +kernel : decode tX4_fits.2.1 13 = .ok (.ifCond .eq 23, 3)) (by decide) (fun hc => ?_) (fun hc => ?_)
    · have h := (Ok.ite h).1 hc
      refine BW.run [.iconst 0] (pc' := 37) (lv' := [(0, .ref a0), (1, .int x1), (2, .int x2), (3, .int x3)]) (st' := [.int (0 : Int32)]) (by decide +kernel) rfl rfl ?_
      exact BW.zret (by decide +kernel : decode tX4_fits.2.1 37 = .ok (.ireturn, 1)) rfl (Or.inl rfl) (Nat.zero_le _) (Nat.zero_le _) (hQ _ _ (Ok.some h))
    · have h := (Ok.ite h).2 hc
      refine BW.run [.aload_n 0] (pc' := 17) (lv' := [(0, .ref a0), (1, .int x1), (2, .int x2), (3, .int x3)]) (st' := [.ref a0]) (by decide +kernel) rfl rfl ?_
      obtain ⟨b7, eb7, h⟩ := Ok.bind h
      refine BW.get (by decide +kernel : decode tX4_fits.2.1 17 = .ok (.getfield 9, 3)) ciX4 (k := 0) (by decide) lkF_X4_9 (toR_V eb7) ?_
      refine BW.run [.iload_n 1, .bipush 9, .imul, .iload_n 2, .iadd] (pc' := 26) (lv' := [(0, .ref a0), (1, .int x1), (2, .int x2), (3, .int x3)]) (st' := [.int ((x1 * (9 : Int32)) + x2), .ref b7]) (by decide +kernel) rfl rfl ?_
      obtain ⟨v8, ev8, h⟩ := Ok.bind h
      refine BW.iald (by decide +kernel : decode tX4_fits.2.1 26 = .ok (.iaload, 1)) (toI_V ev8) ?_
      refine BW.run [.iload_n 3, .iadd] (pc' := 29) (lv' := [(0, .ref a0), (1, .int x1), (2, .int x2), (3, .int x3)]) (st' := [.int (v8 + x3)]) (by decide +kernel) rfl rfl ?_
      refine BW.if_gt 36 (by decide +kernel : decode tX4_fits.2.1 29 = .ok (.ifCond .gt 7, 3)) (by decide) (fun hc => ?_) (fun hc => ?_)
      · have h := (Ok.ite h).1 hc
        refine BW.run [.iconst 0] (pc' := 37) (lv' := [(0, .ref a0), (1, .int x1), (2, .int x2), (3, .int x3)]) (st' := [.int (0 : Int32)]) (by decide +kernel) rfl rfl ?_
        exact BW.zret (by decide +kernel : decode tX4_fits.2.1 37 = .ok (.ireturn, 1)) rfl (Or.inl rfl) (Nat.zero_le _) (Nat.zero_le _) (hQ _ _ (Ok.some h))
      · have h := (Ok.ite h).2 hc
        refine BW.run [.iconst 1] (pc' := 33) (lv' := [(0, .ref a0), (1, .int x1), (2, .int x2), (3, .int x3)]) (st' := [.int (1 : Int32)]) (by decide +kernel) rfl rfl ?_
        refine BW.goto 37 (by decide +kernel : decode tX4_fits.2.1 33 = .ok (.goto 4, 3)) (by decide) ?_
        exact BW.zret (by decide +kernel : decode tX4_fits.2.1 37 = .ok (.ireturn, 1)) rfl (Or.inr rfl) (Nat.zero_le _) (Nat.zero_le _) (hQ _ _ (Ok.some h))
theorem oX4_fits {n : Nat} {P : Int32 × Sg → Prop} {s0 : Sg} {a0 : Nat} {x1 : Int32} {x2 : Int32} {x3 : Int32} (h : Ok (mX4_fits n s0 a0 x1 x2 x3) P) : ∃ n0, s0.2.1 a0 = some (4, n0) := by
  unfold mX4_fits at h
  exact Ok.isO h
theorem DX4_fits {G : Cx} {n : Nat} {P : Int32 × Sg → Prop} {s0 : Sg} {a0 : Nat} {x1 : Int32} {x2 : Int32} {x3 : Int32} (h : Ok (mX4_fits n s0 a0 x1 x2 x3) P) : BM G tX4_fits 1 21 0 0 [.ref a0, .int x1, .int x2, .int x3] s0 (fun v s => ∃ r, v = some (.int r) ∧ P (r, s)) := by
  refine BM.of (by decide +kernel) (Nat.le_of_ble_eq_true rfl) ?_
  exact bX4_fits (E := (({ frames := 1, cells := 0, slots := 0, locals := 21 }), Aof s0, 0, 0, (fun v s => ∃ r, v = some (.int r) ∧ P (r, s)))) ⟨Nat.le_refl _, Nat.le_refl _⟩ (fun r s hp => ⟨r, rfl, hp⟩) h
def mX9_pointOf (n : Nat) (s0 : Sg) (x0 : Int32) : Option (Int32 × Sg) :=
  some ((x0 + (1 : Int32)), s0)
theorem bX9_pointOf {G : Cx} {E : Ev} {n : Nat} (hRm : 0 ≤ E.1.frames ∧ 0 ≤ E.1.locals) {P : Int32 × Sg → Prop} (hQ : ∀ r s, P (r, s) → E.2.2.2.2 (some (.int r)) s) {s0 : Sg} {x0 : Int32} (h : Ok (mX9_pointOf n s0 x0) P) : BW G tX9_pointOf E 0 0 0 [(0, .int x0)] [] s0 := by
  unfold mX9_pointOf at h
  refine BW.run [.iload_n 0, .iconst 1, .iadd] (pc' := 3) (lv' := [(0, .int x0)]) (st' := [.int (x0 + (1 : Int32))]) (by decide +kernel) rfl rfl ?_
  exact BW.iret (by decide +kernel : decode tX9_pointOf.2.1 3 = .ok (.ireturn, 1)) rfl (Nat.zero_le _) (Nat.zero_le _) (hQ _ _ (Ok.some h))
theorem DX9_pointOf {G : Cx} {n : Nat} {P : Int32 × Sg → Prop} {s0 : Sg} {x0 : Int32} (h : Ok (mX9_pointOf n s0 x0) P) : BM G tX9_pointOf 0 0 0 0 [.int x0] s0 (fun v s => ∃ r, v = some (.int r) ∧ P (r, s)) := by
  refine BM.of (by decide +kernel) (Nat.le_of_ble_eq_true rfl) ?_
  exact bX9_pointOf (E := (({ frames := 0, cells := 0, slots := 0, locals := 0 }), Aof s0, 0, 0, (fun v s => ∃ r, v = some (.int r) ∧ P (r, s)))) ⟨Nat.le_refl _, Nat.le_refl _⟩ (fun r s hp => ⟨r, rfl, hp⟩) h
def mX4_copy (n : Nat) (s0 : Sg) (a0 : Nat) (a1 : Nat) : Option (Sg) :=
  (isO 4 s0 a0).bind fun _ =>
  (toI (gV 4 s0 a1 1)).bind fun v1 =>
  (pV 4 s0 a0 1 (.int v1)).bind fun s2 =>
  (toR (gV 4 s2 a1 0)).bind fun b3 =>
  (toR (gV 4 s2 a0 0)).bind fun b4 =>
  (toR (gV 4 s2 a0 0)).bind fun b5 =>
  (lenA 11 s2 b5).bind fun v6 =>
  (cpA s2 b3 (0 : Int32) b4 (0 : Int32) v6).bind fun s7 =>
  some s7
theorem bX4_copy {G : Cx} {E : Ev} {n : Nat} (hRm : 1 ≤ E.1.frames ∧ 26 ≤ E.1.locals) {P : Sg → Prop} (hQ : ∀ s, P s → E.2.2.2.2 none s) {s0 : Sg} {a0 : Nat} {a1 : Nat} (h : Ok (mX4_copy n s0 a0 a1) P) : BW G tX4_copy E 0 0 0 [(0, .ref a0), (1, .ref a1)] [] s0 := by
  unfold mX4_copy at h
  obtain ⟨_, _, h⟩ := Ok.bind h
  refine BW.run [.aload_n 0, .aload_n 1] (pc' := 2) (lv' := [(0, .ref a0), (1, .ref a1)]) (st' := [.ref a1, .ref a0]) (by decide +kernel) rfl rfl ?_
  obtain ⟨v1, ev1, h⟩ := Ok.bind h
  refine BW.get (by decide +kernel : decode tX4_copy.2.1 2 = .ok (.getfield 15, 3)) ciX4 (k := 1) (by decide) lkF_X4_15 (toI_V ev1) ?_
  obtain ⟨s2, es2, h⟩ := Ok.bind h
  refine BW.put (by decide +kernel : decode tX4_copy.2.1 5 = .ok (.putfield 15, 3)) ciX4 (k := 1) (by decide) lkF_X4_15 rfl rfl rfl es2 ?_
  refine BW.run [.aload_n 1] (pc' := 9) (lv' := [(0, .ref a0), (1, .ref a1)]) (st' := [.ref a1]) (by decide +kernel) rfl rfl ?_
  obtain ⟨b3, eb3, h⟩ := Ok.bind h
  refine BW.get (by decide +kernel : decode tX4_copy.2.1 9 = .ok (.getfield 9, 3)) ciX4 (k := 0) (by decide) lkF_X4_9 (toR_V eb3) ?_
  refine BW.run [.iconst 0, .aload_n 0] (pc' := 14) (lv' := [(0, .ref a0), (1, .ref a1)]) (st' := [.ref a0, .int (0 : Int32), .ref b3]) (by decide +kernel) rfl rfl ?_
  obtain ⟨b4, eb4, h⟩ := Ok.bind h
  refine BW.get (by decide +kernel : decode tX4_copy.2.1 14 = .ok (.getfield 9, 3)) ciX4 (k := 0) (by decide) lkF_X4_9 (toR_V eb4) ?_
  refine BW.run [.iconst 0, .aload_n 0] (pc' := 19) (lv' := [(0, .ref a0), (1, .ref a1)]) (st' := [.ref a0, .int (0 : Int32), .ref b4, .int (0 : Int32), .ref b3]) (by decide +kernel) rfl rfl ?_
  obtain ⟨b5, eb5, h⟩ := Ok.bind h
  refine BW.get (by decide +kernel : decode tX4_copy.2.1 19 = .ok (.getfield 9, 3)) ciX4 (k := 0) (by decide) lkF_X4_9 (toR_V eb5) ?_
  obtain ⟨v6, ev6, h⟩ := Ok.bind h
  refine BW.alen (by decide +kernel : decode tX4_copy.2.1 22 = .ok (.arraylength, 1)) (t := 11) (by decide) ev6 ?_
  obtain ⟨s7, es7, h⟩ := Ok.bind h
  refine BW.copy (by decide +kernel : decode tX4_copy.2.1 23 = .ok (.invokestatic 25, 3)) lkM_X4_25 na_copy st_copy in_system (Nat.le_of_ble_eq_true rfl) ⟨Nat.le_trans (by decide) hRm.1, Nat.le_trans (by decide) hRm.2⟩ es7 ?_
  exact BW.vret (by decide +kernel : decode tX4_copy.2.1 26 = .ok (.return_, 1)) rfl (Nat.zero_le _) (Nat.zero_le _) (hQ _ (Ok.some h))
theorem oX4_copy {n : Nat} {P : Sg → Prop} {s0 : Sg} {a0 : Nat} {a1 : Nat} (h : Ok (mX4_copy n s0 a0 a1) P) : ∃ n0, s0.2.1 a0 = some (4, n0) := by
  unfold mX4_copy at h
  exact Ok.isO h
theorem DX4_copy {G : Cx} {n : Nat} {P : Sg → Prop} {s0 : Sg} {a0 : Nat} {a1 : Nat} (h : Ok (mX4_copy n s0 a0 a1) P) : BM G tX4_copy 1 26 0 0 [.ref a0, .ref a1] s0 (fun v s => v = none ∧ P s) := by
  refine BM.of (by decide +kernel) (Nat.le_of_ble_eq_true rfl) ?_
  exact bX4_copy (E := (({ frames := 1, cells := 0, slots := 0, locals := 26 }), Aof s0, 0, 0, (fun v s => v = none ∧ P s))) ⟨Nat.le_refl _, Nat.le_refl _⟩ (fun s hp => ⟨rfl, hp⟩) h
def mX4_least_30 (n : Nat) (s0 : Sg)  : Option (Int32 × Sg) :=
  some ((-1000000 : Int32), s0)
theorem bX4_least_30 {G : Cx} {E : Ev} {n : Nat} (hRm : 1 ≤ E.1.frames ∧ 21 ≤ E.1.locals) {s0 : Sg}  {P : Int32 × Sg → Prop} (hQ : ∀ r s, P (r, s) → E.2.2.2.2 (some (.int r)) s) (h : Ok (mX4_least_30 n s0 ) P) : BW G tX4_least E 0 0 30 [] [] s0 := by
  unfold mX4_least_30 at h
  refine BW.ldc (by decide +kernel : decode tX4_least.2.1 30 = .ok (.ldc 35, 2)) (x := (-1000000 : Int32)) lkK_X4_35 ?_
  exact BW.iret (by decide +kernel : decode tX4_least.2.1 32 = .ok (.ireturn, 1)) rfl (Nat.zero_le _) (Nat.zero_le _) (hQ _ _ (Ok.some h))
def mX4_least (n : Nat) (s0 : Sg) (a0 : Nat) (x1 : Int32) (x2 : Int32) : Option (Int32 × Sg) :=
  (isO 4 s0 a0).bind fun _ =>
  (mX4_isPoint n s0 a0 x1).bind fun (v2, s1) =>
  if v2 = 0 then (
    mX4_least_30 n s1 
  ) else (
    (mX4_isPoint n s1 a0 x2).bind fun (v5, s4) =>
    if v5 = 0 then (
      mX4_least_30 n s4 
    ) else (
      (toR (gV 4 s4 a0 0)).bind fun b7 =>
      (toI (aV 11 s4 b7 ((x1 * (9 : Int32)) + x2))).bind fun v8 =>
      some (v8, s4)
    )
  )
theorem bX4_least {G : Cx} {E : Ev} {n : Nat} (hRm : 1 ≤ E.1.frames ∧ 21 ≤ E.1.locals) {P : Int32 × Sg → Prop} (hQ : ∀ r s, P (r, s) → E.2.2.2.2 (some (.int r)) s) {s0 : Sg} {a0 : Nat} {x1 : Int32} {x2 : Int32} (h : Ok (mX4_least n s0 a0 x1 x2) P) : BW G tX4_least E 0 0 0 [(0, .ref a0), (1, .int x1), (2, .int x2)] [] s0 := by
  unfold mX4_least at h
  obtain ⟨_, _, h⟩ := Ok.bind h
  refine BW.run [.aload_n 0, .iload_n 1] (pc' := 2) (lv' := [(0, .ref a0), (1, .int x1), (2, .int x2)]) (st' := [.int x1, .ref a0]) (by decide +kernel) rfl rfl ?_
  refine BW.callV (As := [.int x1]) (st := []) (by decide +kernel : decode tX4_least.2.1 2 = .ok (.invokevirtual 31, 3)) (DX4_isPoint (Ok.bindK h)) mfX4_isPoint lkM_X4_31 imX4_isPoint selX4_isPoint ciX4 (oX4_isPoint (Ok.bindK h)).choose_spec rfl rfl (Nat.le_of_ble_eq_true rfl) ⟨Nat.le_trans (by decide) hRm.1, Nat.le_trans (by decide) hRm.2⟩ ⟨Nat.zero_le _, Nat.zero_le _⟩ ?_
  rintro _ s1 ⟨v2, rfl, h⟩
  show BW G tX4_least E 0 0 5 [(0, .ref a0), (1, .int x1), (2, .int x2)] [.int v2] s1
  refine BW.if_eq 30 (by decide +kernel : decode tX4_least.2.1 5 = .ok (.ifCond .eq 25, 3)) (by decide) (fun hc => ?_) (fun hc => ?_)
  · have h := (Ok.ite h).1 hc
    refine BW.sub [] rfl ?_
    exact bX4_least_30 hRm hQ h
  · have h := (Ok.ite h).2 hc
    refine BW.run [.aload_n 0, .iload_n 2] (pc' := 10) (lv' := [(0, .ref a0), (1, .int x1), (2, .int x2)]) (st' := [.int x2, .ref a0]) (by decide +kernel) rfl rfl ?_
    refine BW.callV (As := [.int x2]) (st := []) (by decide +kernel : decode tX4_least.2.1 10 = .ok (.invokevirtual 31, 3)) (DX4_isPoint (Ok.bindK h)) mfX4_isPoint lkM_X4_31 imX4_isPoint selX4_isPoint ciX4 (oX4_isPoint (Ok.bindK h)).choose_spec rfl rfl (Nat.le_of_ble_eq_true rfl) ⟨Nat.le_trans (by decide) hRm.1, Nat.le_trans (by decide) hRm.2⟩ ⟨Nat.zero_le _, Nat.zero_le _⟩ ?_
    rintro _ s4 ⟨v5, rfl, h⟩
    show BW G tX4_least E 0 0 13 [(0, .ref a0), (1, .int x1), (2, .int x2)] [.int v5] s4
    refine BW.if_eq 30 (by decide +kernel : decode tX4_least.2.1 13 = .ok (.ifCond .eq 17, 3)) (by decide) (fun hc => ?_) (fun hc => ?_)
    · have h := (Ok.ite h).1 hc
      refine BW.sub [] rfl ?_
      exact bX4_least_30 hRm hQ h
    · have h := (Ok.ite h).2 hc
      refine BW.run [.aload_n 0] (pc' := 17) (lv' := [(0, .ref a0), (1, .int x1), (2, .int x2)]) (st' := [.ref a0]) (by decide +kernel) rfl rfl ?_
      obtain ⟨b7, eb7, h⟩ := Ok.bind h
      refine BW.get (by decide +kernel : decode tX4_least.2.1 17 = .ok (.getfield 9, 3)) ciX4 (k := 0) (by decide) lkF_X4_9 (toR_V eb7) ?_
      refine BW.run [.iload_n 1, .bipush 9, .imul, .iload_n 2, .iadd] (pc' := 26) (lv' := [(0, .ref a0), (1, .int x1), (2, .int x2)]) (st' := [.int ((x1 * (9 : Int32)) + x2), .ref b7]) (by decide +kernel) rfl rfl ?_
      obtain ⟨v8, ev8, h⟩ := Ok.bind h
      refine BW.iald (by decide +kernel : decode tX4_least.2.1 26 = .ok (.iaload, 1)) (toI_V ev8) ?_
      refine BW.goto 32 (by decide +kernel : decode tX4_least.2.1 27 = .ok (.goto 5, 3)) (by decide) ?_
      exact BW.iret (by decide +kernel : decode tX4_least.2.1 32 = .ok (.ireturn, 1)) rfl (Nat.zero_le _) (Nat.zero_le _) (hQ _ _ (Ok.some h))
theorem oX4_least {n : Nat} {P : Int32 × Sg → Prop} {s0 : Sg} {a0 : Nat} {x1 : Int32} {x2 : Int32} (h : Ok (mX4_least n s0 a0 x1 x2) P) : ∃ n0, s0.2.1 a0 = some (4, n0) := by
  unfold mX4_least at h
  exact Ok.isO h
theorem DX4_least {G : Cx} {n : Nat} {P : Int32 × Sg → Prop} {s0 : Sg} {a0 : Nat} {x1 : Int32} {x2 : Int32} (h : Ok (mX4_least n s0 a0 x1 x2) P) : BM G tX4_least 1 21 0 0 [.ref a0, .int x1, .int x2] s0 (fun v s => ∃ r, v = some (.int r) ∧ P (r, s)) := by
  refine BM.of (by decide +kernel) (Nat.le_of_ble_eq_true rfl) ?_
  exact bX4_least (E := (({ frames := 1, cells := 0, slots := 0, locals := 21 }), Aof s0, 0, 0, (fun v s => ∃ r, v = some (.int r) ∧ P (r, s)))) ⟨Nat.le_refl _, Nat.le_refl _⟩ (fun r s hp => ⟨r, rfl, hp⟩) h
def mX4_widen_50 (n : Nat) (s0 : Sg) (a0 : Nat) (x1 : Int32) (x2 : Int32) (x3 : Int32) (x4 : Int32) : Option ((Sg × Int32) ⊕ (Sg)) :=
  some (.inl (s0, (x4 + (1 : Int32))))
theorem bX4_widen_50 {G : Cx} {E : Ev} {n : Nat} (hRm : 0 ≤ E.1.frames ∧ 0 ≤ E.1.locals) {s0 : Sg} {a0 : Nat} {x1 : Int32} {x2 : Int32} {x3 : Int32} {x4 : Int32} {P : (Sg × Int32) ⊕ (Sg) → Prop} (hC : ∀ (s : Sg) (c4 : Int32), P (.inl (s, c4)) → BW G tX4_widen E 0 0 3 [(0, .ref a0), (1, .int x1), (2, .int x2), (3, .int x3), (4, .int c4)] [] s) (hE : ∀ (s : Sg), P (.inr s) → BW G tX4_widen E 0 0 56 [] [] s)  (h : Ok (mX4_widen_50 n s0 a0 x1 x2 x3 x4) P) : BW G tX4_widen E 0 0 50 [(0, .ref a0), (1, .int x1), (2, .int x2), (3, .int x3), (4, .int x4)] [] s0 := by
  unfold mX4_widen_50 at h
  refine BW.run [.iinc 4 1] (pc' := 53) (lv' := [(0, .ref a0), (1, .int x1), (2, .int x2), (3, .int x3), (4, .int (x4 + (1 : Int32)))]) (st' := []) (by decide +kernel) rfl rfl ?_
  refine BW.goto 3 (by decide +kernel : decode tX4_widen.2.1 53 = .ok (.goto (-50), 3)) (by decide) ?_
  exact hC _ _ (Ok.some h)
def mX4_widen_L3 (n : Nat) (a0 : Nat) (x1 : Int32) (x2 : Int32) (x3 : Int32) : (Sg × Int32) → Option ((Sg × Int32) ⊕ (Sg))
  | (s0, x4) =>
    (toI (gV 4 s0 a0 1)).bind fun v1 =>
    if v1 ≤ x4 then (
      some (.inr s0)
    ) else (
      (toR (gV 4 s0 a0 0)).bind fun b2 =>
      (toI (aV 11 s0 b2 (x2 + x4))).bind fun v3 =>
      nm (x3 + v3) fun v4 =>
      (toR (gV 4 s0 a0 0)).bind fun b5 =>
      (toI (aV 11 s0 b5 (x1 + x4))).bind fun v6 =>
      if v4 ≤ v6 then (
        mX4_widen_50 n s0 a0 x1 x2 x3 x4
      ) else (
        (toR (gV 4 s0 a0 0)).bind fun b7 =>
        (sV 11 s0 b7 (x1 + x4) (.int v4)).bind fun s8 =>
        mX4_widen_50 n s8 a0 x1 x2 x3 x4
      )
    )
theorem bX4_widen_L3 {G : Cx} {E : Ev} {n : Nat} (hRm : 0 ≤ E.1.frames ∧ 0 ≤ E.1.locals) {a0 : Nat} {x1 : Int32} {x2 : Int32} {x3 : Int32} {P : (Sg × Int32) ⊕ (Sg) → Prop} (hC : ∀ (s : Sg) (c4 : Int32), P (.inl (s, c4)) → BW G tX4_widen E 0 0 3 [(0, .ref a0), (1, .int x1), (2, .int x2), (3, .int x3), (4, .int c4)] [] s) (hE : ∀ (s : Sg), P (.inr s) → BW G tX4_widen E 0 0 56 [] [] s) {s0 : Sg} {x4 : Int32} (h : Ok (mX4_widen_L3 n a0 x1 x2 x3 (s0, x4)) P) : BW G tX4_widen E 0 0 3 [(0, .ref a0), (1, .int x1), (2, .int x2), (3, .int x3), (4, .int x4)] [] s0 := by
  unfold mX4_widen_L3 at h
  refine BW.run [.iload 4, .aload_n 0] (pc' := 6) (lv' := [(0, .ref a0), (1, .int x1), (2, .int x2), (3, .int x3), (4, .int x4)]) (st' := [.ref a0, .int x4]) (by decide +kernel) rfl rfl ?_
  obtain ⟨v1, ev1, h⟩ := Ok.bind h
  refine BW.get (by decide +kernel : decode tX4_widen.2.1 6 = .ok (.getfield 15, 3)) ciX4 (k := 1) (by decide) lkF_X4_15 (toI_V ev1) ?_
  refine BW.icmp_ge 56 (by decide +kernel : decode tX4_widen.2.1 9 = .ok (.if_icmp .ge 47, 3)) (by decide) (fun hc => ?_) (fun hc => ?_)
  · have h := (Ok.ite h).1 hc
    refine BW.sub [] rfl ?_
    exact hE _ (Ok.some h)
  · have h := (Ok.ite h).2 hc
    refine BW.run [.iload_n 3, .aload_n 0] (pc' := 14) (lv' := [(0, .ref a0), (1, .int x1), (2, .int x2), (3, .int x3), (4, .int x4)]) (st' := [.ref a0, .int x3]) (by decide +kernel) rfl rfl ?_
    obtain ⟨b2, eb2, h⟩ := Ok.bind h
    refine BW.get (by decide +kernel : decode tX4_widen.2.1 14 = .ok (.getfield 9, 3)) ciX4 (k := 0) (by decide) lkF_X4_9 (toR_V eb2) ?_
    refine BW.run [.iload_n 2, .iload 4, .iadd] (pc' := 21) (lv' := [(0, .ref a0), (1, .int x1), (2, .int x2), (3, .int x3), (4, .int x4)]) (st' := [.int (x2 + x4), .ref b2, .int x3]) (by decide +kernel) rfl rfl ?_
    obtain ⟨v3, ev3, h⟩ := Ok.bind h
    refine BW.iald (by decide +kernel : decode tX4_widen.2.1 21 = .ok (.iaload, 1)) (toI_V ev3) ?_
    refine BW.run [.iadd] (pc' := 23) (lv' := [(0, .ref a0), (1, .int x1), (2, .int x2), (3, .int x3), (4, .int x4)]) (st' := [.int (x3 + v3)]) (by decide +kernel) rfl rfl ?_
    obtain ⟨v4, wv4, h⟩ := Ok.nm h
    refine BW.nm wv4 ?_
    refine BW.run [.istore 5, .iload 5, .aload_n 0] (pc' := 28) (lv' := [(0, .ref a0), (1, .int x1), (2, .int x2), (3, .int x3), (4, .int x4), (5, .int v4)]) (st' := [.ref a0, .int v4]) (by decide +kernel) rfl rfl ?_
    obtain ⟨b5, eb5, h⟩ := Ok.bind h
    refine BW.get (by decide +kernel : decode tX4_widen.2.1 28 = .ok (.getfield 9, 3)) ciX4 (k := 0) (by decide) lkF_X4_9 (toR_V eb5) ?_
    refine BW.run [.iload_n 1, .iload 4, .iadd] (pc' := 35) (lv' := [(0, .ref a0), (1, .int x1), (2, .int x2), (3, .int x3), (4, .int x4), (5, .int v4)]) (st' := [.int (x1 + x4), .ref b5, .int v4]) (by decide +kernel) rfl rfl ?_
    obtain ⟨v6, ev6, h⟩ := Ok.bind h
    refine BW.iald (by decide +kernel : decode tX4_widen.2.1 35 = .ok (.iaload, 1)) (toI_V ev6) ?_
    refine BW.icmp_le 50 (by decide +kernel : decode tX4_widen.2.1 36 = .ok (.if_icmp .le 14, 3)) (by decide) (fun hc => ?_) (fun hc => ?_)
    · have h := (Ok.ite h).1 hc
      refine BW.sub [0, 1, 2, 3, 4] rfl ?_
      exact bX4_widen_50 hRm hC hE h
    · have h := (Ok.ite h).2 hc
      refine BW.run [.aload_n 0] (pc' := 40) (lv' := [(0, .ref a0), (1, .int x1), (2, .int x2), (3, .int x3), (4, .int x4), (5, .int v4)]) (st' := [.ref a0]) (by decide +kernel) rfl rfl ?_
      obtain ⟨b7, eb7, h⟩ := Ok.bind h
      refine BW.get (by decide +kernel : decode tX4_widen.2.1 40 = .ok (.getfield 9, 3)) ciX4 (k := 0) (by decide) lkF_X4_9 (toR_V eb7) ?_
      refine BW.run [.iload_n 1, .iload 4, .iadd, .iload 5] (pc' := 49) (lv' := [(0, .ref a0), (1, .int x1), (2, .int x2), (3, .int x3), (4, .int x4), (5, .int v4)]) (st' := [.int v4, .int (x1 + x4), .ref b7]) (by decide +kernel) rfl rfl ?_
      obtain ⟨s8, es8, h⟩ := Ok.bind h
      refine BW.iast (by decide +kernel : decode tX4_widen.2.1 49 = .ok (.iastore, 1)) es8 ?_
      refine BW.sub [0, 1, 2, 3, 4] rfl ?_
      exact bX4_widen_50 hRm hC hE h
theorem bX4_widen_W3 {G : Cx} {E : Ev} {n : Nat} (hRm : 0 ≤ E.1.frames ∧ 0 ≤ E.1.locals) {a0 : Nat} {x1 : Int32} {x2 : Int32} {x3 : Int32} {K : (Sg) → Prop} (hE : ∀ (s : Sg), K s → BW G tX4_widen E 0 0 56 [] [] s) : ∀ (f : Nat) (c : Sg × Int32), Ok (loopM (mX4_widen_L3 n a0 x1 x2 x3) f c) K → match c with | (s0, x4) => BW G tX4_widen E 0 0 3 [(0, .ref a0), (1, .int x1), (2, .int x2), (3, .int x3), (4, .int x4)] [] s0 := by
  intro f
  induction f with
  | zero => intro c h; exact (Ok.no h).elim
  | succ f ih =>
    intro c h
    obtain ⟨s0, x4⟩ := c
    exact bX4_widen_L3 (P := loopP (mX4_widen_L3 n a0 x1 x2 x3) f K) hRm (fun s c4 h => ih (s, c4) h) hE (loopM_ok h)
def mX4_widen (n : Nat) (s0 : Sg) (a0 : Nat) (x1 : Int32) (x2 : Int32) (x3 : Int32) : Option (Sg) :=
  (isO 4 s0 a0).bind fun _ =>
  (loopM (mX4_widen_L3 n a0 x1 x2 x3) n (s0, (0 : Int32))).bind fun s9 =>
  some s9
theorem bX4_widen {G : Cx} {E : Ev} {n : Nat} (hRm : 0 ≤ E.1.frames ∧ 0 ≤ E.1.locals) {P : Sg → Prop} (hQ : ∀ s, P s → E.2.2.2.2 none s) {s0 : Sg} {a0 : Nat} {x1 : Int32} {x2 : Int32} {x3 : Int32} (h : Ok (mX4_widen n s0 a0 x1 x2 x3) P) : BW G tX4_widen E 0 0 0 [(0, .ref a0), (1, .int x1), (2, .int x2), (3, .int x3)] [] s0 := by
  unfold mX4_widen at h
  obtain ⟨_, _, h⟩ := Ok.bind h
  refine BW.run [.iconst 0, .istore 4] (pc' := 3) (lv' := [(0, .ref a0), (1, .int x1), (2, .int x2), (3, .int x3), (4, .int (0 : Int32))]) (st' := []) (by decide +kernel) rfl rfl ?_
  refine bX4_widen_W3 hRm (a0 := a0) (x1 := x1) (x2 := x2) (x3 := x3) (fun s9 h => ?_) n (s0, (0 : Int32)) (Ok.bindK h)
  exact BW.vret (by decide +kernel : decode tX4_widen.2.1 56 = .ok (.return_, 1)) rfl (Nat.zero_le _) (Nat.zero_le _) (hQ _ (Ok.some h))
theorem oX4_widen {n : Nat} {P : Sg → Prop} {s0 : Sg} {a0 : Nat} {x1 : Int32} {x2 : Int32} {x3 : Int32} (h : Ok (mX4_widen n s0 a0 x1 x2 x3) P) : ∃ n0, s0.2.1 a0 = some (4, n0) := by
  unfold mX4_widen at h
  exact Ok.isO h
theorem DX4_widen {G : Cx} {n : Nat} {P : Sg → Prop} {s0 : Sg} {a0 : Nat} {x1 : Int32} {x2 : Int32} {x3 : Int32} (h : Ok (mX4_widen n s0 a0 x1 x2 x3) P) : BM G tX4_widen 0 0 0 0 [.ref a0, .int x1, .int x2, .int x3] s0 (fun v s => v = none ∧ P s) := by
  refine BM.of (by decide +kernel) (Nat.le_of_ble_eq_true rfl) ?_
  exact bX4_widen (E := (({ frames := 0, cells := 0, slots := 0, locals := 0 }), Aof s0, 0, 0, (fun v s => v = none ∧ P s))) ⟨Nat.le_refl _, Nat.le_refl _⟩ (fun s hp => ⟨rfl, hp⟩) h
def mX4_takesGap_74 (n : Nat) (s0 : Sg) (a0 : Nat) (x1 : Int32) (x2 : Int32) (x3 : Int32) (x4 : Int32) : Option ((Sg × Int32) ⊕ (Sg)) :=
  some (.inl (s0, (x4 + (1 : Int32))))
theorem bX4_takesGap_74 {G : Cx} {E : Ev} {n : Nat} (hRm : 2 ≤ E.1.frames ∧ 44 ≤ E.1.locals) {s0 : Sg} {a0 : Nat} {x1 : Int32} {x2 : Int32} {x3 : Int32} {x4 : Int32} {P : (Sg × Int32) ⊕ (Sg) → Prop} (hC : ∀ (s : Sg) (c4 : Int32), P (.inl (s, c4)) → BW G tX4_takesGap E 0 0 27 [(0, .ref a0), (1, .int x1), (2, .int x2), (3, .int x3), (4, .int c4)] [] s) (hE : ∀ (s : Sg), P (.inr s) → BW G tX4_takesGap E 0 0 80 [] [] s)  (h : Ok (mX4_takesGap_74 n s0 a0 x1 x2 x3 x4) P) : BW G tX4_takesGap E 0 0 74 [(0, .ref a0), (1, .int x1), (2, .int x2), (3, .int x3), (4, .int x4)] [] s0 := by
  unfold mX4_takesGap_74 at h
  refine BW.run [.iinc 4 1] (pc' := 77) (lv' := [(0, .ref a0), (1, .int x1), (2, .int x2), (3, .int x3), (4, .int (x4 + (1 : Int32)))]) (st' := []) (by decide +kernel) rfl rfl ?_
  refine BW.goto 27 (by decide +kernel : decode tX4_takesGap.2.1 77 = .ok (.goto (-50), 3)) (by decide) ?_
  exact hC _ _ (Ok.some h)
def mX4_takesGap_L27 (n : Nat) (a0 : Nat) (x1 : Int32) (x2 : Int32) (x3 : Int32) : (Sg × Int32) → Option ((Sg × Int32) ⊕ (Sg))
  | (s0, x4) =>
    (toI (gV 4 s0 a0 1)).bind fun v7 =>
    if v7 ≤ x4 then (
      some (.inr s0)
    ) else (
      (mX4_least n s0 a0 x4 x2).bind fun (v9, s8) =>
      nm (v9 + x3) fun v11 =>
      (mX4_least n s8 a0 x4 x1).bind fun (v13, s12) =>
      if v11 ≤ v13 then (
        mX4_takesGap_74 n s12 a0 x1 x2 x3 x4
      ) else (
        (mX4_widen n s12 a0 (x4 * (9 : Int32)) (x1 * (9 : Int32)) v11).bind fun s15 =>
        mX4_takesGap_74 n s15 a0 x1 x2 x3 x4
      )
    )
theorem bX4_takesGap_L27 {G : Cx} {E : Ev} {n : Nat} (hRm : 2 ≤ E.1.frames ∧ 44 ≤ E.1.locals) {a0 : Nat} {x1 : Int32} {x2 : Int32} {x3 : Int32} {P : (Sg × Int32) ⊕ (Sg) → Prop} (hC : ∀ (s : Sg) (c4 : Int32), P (.inl (s, c4)) → BW G tX4_takesGap E 0 0 27 [(0, .ref a0), (1, .int x1), (2, .int x2), (3, .int x3), (4, .int c4)] [] s) (hE : ∀ (s : Sg), P (.inr s) → BW G tX4_takesGap E 0 0 80 [] [] s) {s0 : Sg} {x4 : Int32} (h : Ok (mX4_takesGap_L27 n a0 x1 x2 x3 (s0, x4)) P) : BW G tX4_takesGap E 0 0 27 [(0, .ref a0), (1, .int x1), (2, .int x2), (3, .int x3), (4, .int x4)] [] s0 := by
  unfold mX4_takesGap_L27 at h
  refine BW.run [.iload 4, .aload_n 0] (pc' := 30) (lv' := [(0, .ref a0), (1, .int x1), (2, .int x2), (3, .int x3), (4, .int x4)]) (st' := [.ref a0, .int x4]) (by decide +kernel) rfl rfl ?_
  obtain ⟨v7, ev7, h⟩ := Ok.bind h
  refine BW.get (by decide +kernel : decode tX4_takesGap.2.1 30 = .ok (.getfield 15, 3)) ciX4 (k := 1) (by decide) lkF_X4_15 (toI_V ev7) ?_
  refine BW.icmp_ge 80 (by decide +kernel : decode tX4_takesGap.2.1 33 = .ok (.if_icmp .ge 47, 3)) (by decide) (fun hc => ?_) (fun hc => ?_)
  · have h := (Ok.ite h).1 hc
    refine BW.sub [] rfl ?_
    exact hE _ (Ok.some h)
  · have h := (Ok.ite h).2 hc
    refine BW.run [.aload_n 0, .iload 4, .iload_n 2] (pc' := 40) (lv' := [(0, .ref a0), (1, .int x1), (2, .int x2), (3, .int x3), (4, .int x4)]) (st' := [.int x2, .int x4, .ref a0]) (by decide +kernel) rfl rfl ?_
    refine BW.callV (As := [.int x4, .int x2]) (st := []) (by decide +kernel : decode tX4_takesGap.2.1 40 = .ok (.invokevirtual 57, 3)) (DX4_least (Ok.bindK h)) mfX4_least lkM_X4_57 imX4_least selX4_least ciX4 (oX4_least (Ok.bindK h)).choose_spec rfl rfl (Nat.le_of_ble_eq_true rfl) ⟨Nat.le_trans (by decide) hRm.1, Nat.le_trans (by decide) hRm.2⟩ ⟨Nat.zero_le _, Nat.zero_le _⟩ ?_
    rintro _ s8 ⟨v9, rfl, h⟩
    show BW G tX4_takesGap E 0 0 43 [(0, .ref a0), (1, .int x1), (2, .int x2), (3, .int x3), (4, .int x4)] [.int v9] s8
    refine BW.run [.iload_n 3, .iadd] (pc' := 45) (lv' := [(0, .ref a0), (1, .int x1), (2, .int x2), (3, .int x3), (4, .int x4)]) (st' := [.int (v9 + x3)]) (by decide +kernel) rfl rfl ?_
    obtain ⟨v11, wv11, h⟩ := Ok.nm h
    refine BW.nm wv11 ?_
    refine BW.run [.istore 5, .iload 5, .aload_n 0, .iload 4, .iload_n 1] (pc' := 53) (lv' := [(0, .ref a0), (1, .int x1), (2, .int x2), (3, .int x3), (4, .int x4), (5, .int v11)]) (st' := [.int x1, .int x4, .ref a0, .int v11]) (by decide +kernel) rfl rfl ?_
    refine BW.callV (As := [.int x4, .int x1]) (st := [.int v11]) (by decide +kernel : decode tX4_takesGap.2.1 53 = .ok (.invokevirtual 57, 3)) (DX4_least (Ok.bindK h)) mfX4_least lkM_X4_57 imX4_least selX4_least ciX4 (oX4_least (Ok.bindK h)).choose_spec rfl rfl (Nat.le_of_ble_eq_true rfl) ⟨Nat.le_trans (by decide) hRm.1, Nat.le_trans (by decide) hRm.2⟩ ⟨Nat.zero_le _, Nat.zero_le _⟩ ?_
    rintro _ s12 ⟨v13, rfl, h⟩
    show BW G tX4_takesGap E 0 0 56 [(0, .ref a0), (1, .int x1), (2, .int x2), (3, .int x3), (4, .int x4), (5, .int v11)] [.int v13, .int v11] s12
    refine BW.icmp_le 74 (by decide +kernel : decode tX4_takesGap.2.1 56 = .ok (.if_icmp .le 18, 3)) (by decide) (fun hc => ?_) (fun hc => ?_)
    · have h := (Ok.ite h).1 hc
      refine BW.sub [0, 1, 2, 3, 4] rfl ?_
      exact bX4_takesGap_74 hRm hC hE h
    · have h := (Ok.ite h).2 hc
      refine BW.run [.aload_n 0, .iload 4, .bipush 9, .imul, .iload_n 1, .bipush 9, .imul, .iload 5] (pc' := 71) (lv' := [(0, .ref a0), (1, .int x1), (2, .int x2), (3, .int x3), (4, .int x4), (5, .int v11)]) (st' := [.int v11, .int (x1 * (9 : Int32)), .int (x4 * (9 : Int32)), .ref a0]) (by decide +kernel) rfl rfl ?_
      refine BW.callV (As := [.int (x4 * (9 : Int32)), .int (x1 * (9 : Int32)), .int v11]) (st := []) (by decide +kernel : decode tX4_takesGap.2.1 71 = .ok (.invokevirtual 59, 3)) (DX4_widen (Ok.bindK h)) mfX4_widen lkM_X4_59 imX4_widen selX4_widen ciX4 (oX4_widen (Ok.bindK h)).choose_spec rfl rfl (Nat.le_of_ble_eq_true rfl) ⟨Nat.le_trans (by decide) hRm.1, Nat.le_trans (by decide) hRm.2⟩ ⟨Nat.zero_le _, Nat.zero_le _⟩ ?_
      rintro _ s15 ⟨rfl, h⟩
      show BW G tX4_takesGap E 0 0 74 [(0, .ref a0), (1, .int x1), (2, .int x2), (3, .int x3), (4, .int x4), (5, .int v11)] [] s15
      refine BW.sub [0, 1, 2, 3, 4] rfl ?_
      exact bX4_takesGap_74 hRm hC hE h
theorem bX4_takesGap_W27 {G : Cx} {E : Ev} {n : Nat} (hRm : 2 ≤ E.1.frames ∧ 44 ≤ E.1.locals) {a0 : Nat} {x1 : Int32} {x2 : Int32} {x3 : Int32} {K : (Sg) → Prop} (hE : ∀ (s : Sg), K s → BW G tX4_takesGap E 0 0 80 [] [] s) : ∀ (f : Nat) (c : Sg × Int32), Ok (loopM (mX4_takesGap_L27 n a0 x1 x2 x3) f c) K → match c with | (s0, x4) => BW G tX4_takesGap E 0 0 27 [(0, .ref a0), (1, .int x1), (2, .int x2), (3, .int x3), (4, .int x4)] [] s0 := by
  intro f
  induction f with
  | zero => intro c h; exact (Ok.no h).elim
  | succ f ih =>
    intro c h
    obtain ⟨s0, x4⟩ := c
    exact bX4_takesGap_L27 (P := loopP (mX4_takesGap_L27 n a0 x1 x2 x3) f K) hRm (fun s c4 h => ih (s, c4) h) hE (loopM_ok h)
def mX4_takesGap (n : Nat) (s0 : Sg) (a0 : Nat) (x1 : Int32) (x2 : Int32) (x3 : Int32) : Option (Int32 × Sg) :=
  (isO 4 s0 a0).bind fun _ =>
  (mX4_fits n s0 a0 x1 x2 x3).bind fun (v2, s1) =>
  if v2 = 0 then (
    some ((0 : Int32), s1)
  ) else (
    (mX4_least n s1 a0 x2 x1).bind fun (v5, s4) =>
    if v5 < x3 then (
      (loopM (mX4_takesGap_L27 n a0 x1 x2 x3) n (s4, (0 : Int32))).bind fun s16 =>
      some ((1 : Int32), s16)
    ) else (
      some ((1 : Int32), s4)
    )
  )
theorem bX4_takesGap {G : Cx} {E : Ev} {n : Nat} (hRm : 2 ≤ E.1.frames ∧ 44 ≤ E.1.locals) {P : Int32 × Sg → Prop} (hQ : ∀ r s, P (r, s) → E.2.2.2.2 (some (.int r)) s) {s0 : Sg} {a0 : Nat} {x1 : Int32} {x2 : Int32} {x3 : Int32} (h : Ok (mX4_takesGap n s0 a0 x1 x2 x3) P) : BW G tX4_takesGap E 0 0 0 [(0, .ref a0), (1, .int x1), (2, .int x2), (3, .int x3)] [] s0 := by
  unfold mX4_takesGap at h
  obtain ⟨_, _, h⟩ := Ok.bind h
  refine BW.run [.aload_n 0, .iload_n 1, .iload_n 2, .iload_n 3] (pc' := 4) (lv' := [(0, .ref a0), (1, .int x1), (2, .int x2), (3, .int x3)]) (st' := [.int x3, .int x2, .int x1, .ref a0]) (by decide +kernel) rfl rfl ?_
  refine BW.callV (As := [.int x1, .int x2, .int x3]) (st := []) (by decide +kernel : decode tX4_takesGap.2.1 4 = .ok (.invokevirtual 54, 3)) (DX4_fits (Ok.bindK h)) mfX4_fits lkM_X4_54 imX4_fits selX4_fits ciX4 (oX4_fits (Ok.bindK h)).choose_spec rfl rfl (Nat.le_of_ble_eq_true rfl) ⟨Nat.le_trans (by decide) hRm.1, Nat.le_trans (by decide) hRm.2⟩ ⟨Nat.zero_le _, Nat.zero_le _⟩ ?_
  rintro _ s1 ⟨v2, rfl, h⟩
  show BW G tX4_takesGap E 0 0 7 [(0, .ref a0), (1, .int x1), (2, .int x2), (3, .int x3)] [.int v2] s1
  refine BW.if_ne 12 (by decide +kernel : decode tX4_takesGap.2.1 7 = .ok (.ifCond .ne 5, 3)) (by decide) (fun hc => ?_) (fun hc => ?_)
  · have h := (Ok.ite h).2 hc
    refine BW.run [.iload_n 3, .aload_n 0, .iload_n 2, .iload_n 1] (pc' := 16) (lv' := [(0, .ref a0), (1, .int x1), (2, .int x2), (3, .int x3)]) (st' := [.int x1, .int x2, .ref a0, .int x3]) (by decide +kernel) rfl rfl ?_
    refine BW.callV (As := [.int x2, .int x1]) (st := [.int x3]) (by decide +kernel : decode tX4_takesGap.2.1 16 = .ok (.invokevirtual 57, 3)) (DX4_least (Ok.bindK h)) mfX4_least lkM_X4_57 imX4_least selX4_least ciX4 (oX4_least (Ok.bindK h)).choose_spec rfl rfl (Nat.le_of_ble_eq_true rfl) ⟨Nat.le_trans (by decide) hRm.1, Nat.le_trans (by decide) hRm.2⟩ ⟨Nat.zero_le _, Nat.zero_le _⟩ ?_
    rintro _ s4 ⟨v5, rfl, h⟩
    show BW G tX4_takesGap E 0 0 19 [(0, .ref a0), (1, .int x1), (2, .int x2), (3, .int x3)] [.int v5, .int x3] s4
    refine BW.icmp_gt 24 (by decide +kernel : decode tX4_takesGap.2.1 19 = .ok (.if_icmp .gt 5, 3)) (by decide) (fun hc => ?_) (fun hc => ?_)
    · have h := (Ok.ite h).1 hc
      refine BW.run [.iconst 0, .istore 4] (pc' := 27) (lv' := [(0, .ref a0), (1, .int x1), (2, .int x2), (3, .int x3), (4, .int (0 : Int32))]) (st' := []) (by decide +kernel) rfl rfl ?_
      refine bX4_takesGap_W27 hRm (a0 := a0) (x1 := x1) (x2 := x2) (x3 := x3) (fun s16 h => ?_) n (s4, (0 : Int32)) (Ok.bindK h)
      refine BW.run [.iconst 1] (pc' := 81) (lv' := []) (st' := [.int (1 : Int32)]) (by decide +kernel) rfl rfl ?_
      exact BW.zret (by decide +kernel : decode tX4_takesGap.2.1 81 = .ok (.ireturn, 1)) rfl (Or.inr rfl) (Nat.zero_le _) (Nat.zero_le _) (hQ _ _ (Ok.some h))
    · have h := (Ok.ite h).2 hc
      refine BW.run [.iconst 1] (pc' := 23) (lv' := [(0, .ref a0), (1, .int x1), (2, .int x2), (3, .int x3)]) (st' := [.int (1 : Int32)]) (by decide +kernel) rfl rfl ?_
      exact BW.zret (by decide +kernel : decode tX4_takesGap.2.1 23 = .ok (.ireturn, 1)) rfl (Or.inr rfl) (Nat.zero_le _) (Nat.zero_le _) (hQ _ _ (Ok.some h))
  · have h := (Ok.ite h).1 hc
    refine BW.run [.iconst 0] (pc' := 11) (lv' := [(0, .ref a0), (1, .int x1), (2, .int x2), (3, .int x3)]) (st' := [.int (0 : Int32)]) (by decide +kernel) rfl rfl ?_
    exact BW.zret (by decide +kernel : decode tX4_takesGap.2.1 11 = .ok (.ireturn, 1)) rfl (Or.inl rfl) (Nat.zero_le _) (Nat.zero_le _) (hQ _ _ (Ok.some h))
theorem oX4_takesGap {n : Nat} {P : Int32 × Sg → Prop} {s0 : Sg} {a0 : Nat} {x1 : Int32} {x2 : Int32} {x3 : Int32} (h : Ok (mX4_takesGap n s0 a0 x1 x2 x3) P) : ∃ n0, s0.2.1 a0 = some (4, n0) := by
  unfold mX4_takesGap at h
  exact Ok.isO h
theorem DX4_takesGap {G : Cx} {n : Nat} {P : Int32 × Sg → Prop} {s0 : Sg} {a0 : Nat} {x1 : Int32} {x2 : Int32} {x3 : Int32} (h : Ok (mX4_takesGap n s0 a0 x1 x2 x3) P) : BM G tX4_takesGap 2 44 0 0 [.ref a0, .int x1, .int x2, .int x3] s0 (fun v s => ∃ r, v = some (.int r) ∧ P (r, s)) := by
  refine BM.of (by decide +kernel) (Nat.le_of_ble_eq_true rfl) ?_
  exact bX4_takesGap (E := (({ frames := 2, cells := 0, slots := 0, locals := 44 }), Aof s0, 0, 0, (fun v s => ∃ r, v = some (.int r) ∧ P (r, s)))) ⟨Nat.le_refl _, Nat.le_refl _⟩ (fun r s hp => ⟨r, rfl, hp⟩) h
def mX9_isIn (n : Nat) (s0 : Sg) (x0 : Int32) (x1 : Int32) : Option (Int32 × Sg) :=
  if ((x0.toUInt32 >>> (x1.toUInt32 &&& Int32.toUInt32 31)).toInt32 &&& (1 : Int32)) = 0 then (
    some ((0 : Int32), s0)
  ) else (
    some ((1 : Int32), s0)
  )
theorem bX9_isIn {G : Cx} {E : Ev} {n : Nat} (hRm : 0 ≤ E.1.frames ∧ 0 ≤ E.1.locals) {P : Int32 × Sg → Prop} (hQ : ∀ r s, P (r, s) → E.2.2.2.2 (some (.int r)) s) {s0 : Sg} {x0 : Int32} {x1 : Int32} (h : Ok (mX9_isIn n s0 x0 x1) P) : BW G tX9_isIn E 0 0 0 [(0, .int x0), (1, .int x1)] [] s0 := by
  unfold mX9_isIn at h
  refine BW.run [.iload_n 0, .iload_n 1, .iushr, .iconst 1, .iand] (pc' := 5) (lv' := [(0, .int x0), (1, .int x1)]) (st' := [.int ((x0.toUInt32 >>> (x1.toUInt32 &&& Int32.toUInt32 31)).toInt32 &&& (1 : Int32))]) (by decide +kernel) rfl rfl ?_
  refine BW.if_eq 12 (by decide +kernel : decode tX9_isIn.2.1 5 = .ok (.ifCond .eq 7, 3)) (by decide) (fun hc => ?_) (fun hc => ?_)
  · have h := (Ok.ite h).1 hc
    refine BW.run [.iconst 0] (pc' := 13) (lv' := [(0, .int x0), (1, .int x1)]) (st' := [.int (0 : Int32)]) (by decide +kernel) rfl rfl ?_
    exact BW.zret (by decide +kernel : decode tX9_isIn.2.1 13 = .ok (.ireturn, 1)) rfl (Or.inl rfl) (Nat.zero_le _) (Nat.zero_le _) (hQ _ _ (Ok.some h))
  · have h := (Ok.ite h).2 hc
    refine BW.run [.iconst 1] (pc' := 9) (lv' := [(0, .int x0), (1, .int x1)]) (st' := [.int (1 : Int32)]) (by decide +kernel) rfl rfl ?_
    refine BW.goto 13 (by decide +kernel : decode tX9_isIn.2.1 9 = .ok (.goto 4, 3)) (by decide) ?_
    exact BW.zret (by decide +kernel : decode tX9_isIn.2.1 13 = .ok (.ireturn, 1)) rfl (Or.inr rfl) (Nat.zero_le _) (Nat.zero_le _) (hQ _ _ (Ok.some h))
theorem DX9_isIn {G : Cx} {n : Nat} {P : Int32 × Sg → Prop} {s0 : Sg} {x0 : Int32} {x1 : Int32} (h : Ok (mX9_isIn n s0 x0 x1) P) : BM G tX9_isIn 0 0 0 0 [.int x0, .int x1] s0 (fun v s => ∃ r, v = some (.int r) ∧ P (r, s)) := by
  refine BM.of (by decide +kernel) (Nat.le_of_ble_eq_true rfl) ?_
  exact bX9_isIn (E := (({ frames := 0, cells := 0, slots := 0, locals := 0 }), Aof s0, 0, 0, (fun v s => ∃ r, v = some (.int r) ∧ P (r, s)))) ⟨Nat.le_refl _, Nat.le_refl _⟩ (fun r s hp => ⟨r, rfl, hp⟩) h
def mX2_tell (n : Nat) (s0 : Sg) (a0 : Nat) (x1 : Int32) (x2 : Int32) (x3 : Int32) (x4 : Int32) (x5 : Int32) : Option (Sg) :=
  (isO 2 s0 a0).bind fun _ =>
  (pV 2 s0 a0 0 (.int x1)).bind fun s1 =>
  (pV 2 s1 a0 1 (.int x2)).bind fun s2 =>
  (pV 2 s2 a0 2 (.int x3)).bind fun s3 =>
  (pV 2 s3 a0 3 (.int x4)).bind fun s4 =>
  (pV 2 s4 a0 4 (.int x5)).bind fun s5 =>
  some s5
theorem bX2_tell {G : Cx} {E : Ev} {n : Nat} (hRm : 0 ≤ E.1.frames ∧ 0 ≤ E.1.locals) {P : Sg → Prop} (hQ : ∀ s, P s → E.2.2.2.2 none s) {s0 : Sg} {a0 : Nat} {x1 : Int32} {x2 : Int32} {x3 : Int32} {x4 : Int32} {x5 : Int32} (h : Ok (mX2_tell n s0 a0 x1 x2 x3 x4 x5) P) : BW G tX2_tell E 0 0 0 [(0, .ref a0), (1, .int x1), (2, .int x2), (3, .int x3), (4, .int x4), (5, .int x5)] [] s0 := by
  unfold mX2_tell at h
  obtain ⟨_, _, h⟩ := Ok.bind h
  refine BW.run [.aload_n 0, .iload_n 1] (pc' := 2) (lv' := [(0, .ref a0), (1, .int x1), (2, .int x2), (3, .int x3), (4, .int x4), (5, .int x5)]) (st' := [.int x1, .ref a0]) (by decide +kernel) rfl rfl ?_
  obtain ⟨s1, es1, h⟩ := Ok.bind h
  refine BW.put (by decide +kernel : decode tX2_tell.2.1 2 = .ok (.putfield 9, 3)) ciX2 (k := 0) (by decide) lkF_X2_9 rfl rfl rfl es1 ?_
  refine BW.run [.aload_n 0, .iload_n 2] (pc' := 7) (lv' := [(0, .ref a0), (1, .int x1), (2, .int x2), (3, .int x3), (4, .int x4), (5, .int x5)]) (st' := [.int x2, .ref a0]) (by decide +kernel) rfl rfl ?_
  obtain ⟨s2, es2, h⟩ := Ok.bind h
  refine BW.put (by decide +kernel : decode tX2_tell.2.1 7 = .ok (.putfield 15, 3)) ciX2 (k := 1) (by decide) lkF_X2_15 rfl rfl rfl es2 ?_
  refine BW.run [.aload_n 0, .iload_n 3] (pc' := 12) (lv' := [(0, .ref a0), (1, .int x1), (2, .int x2), (3, .int x3), (4, .int x4), (5, .int x5)]) (st' := [.int x3, .ref a0]) (by decide +kernel) rfl rfl ?_
  obtain ⟨s3, es3, h⟩ := Ok.bind h
  refine BW.put (by decide +kernel : decode tX2_tell.2.1 12 = .ok (.putfield 18, 3)) ciX2 (k := 2) (by decide) lkF_X2_18 rfl rfl rfl es3 ?_
  refine BW.run [.aload_n 0, .iload 4] (pc' := 18) (lv' := [(0, .ref a0), (1, .int x1), (2, .int x2), (3, .int x3), (4, .int x4), (5, .int x5)]) (st' := [.int x4, .ref a0]) (by decide +kernel) rfl rfl ?_
  obtain ⟨s4, es4, h⟩ := Ok.bind h
  refine BW.put (by decide +kernel : decode tX2_tell.2.1 18 = .ok (.putfield 22, 3)) ciX2 (k := 3) (by decide) lkF_X2_22 rfl rfl rfl es4 ?_
  refine BW.run [.aload_n 0, .iload 5] (pc' := 24) (lv' := [(0, .ref a0), (1, .int x1), (2, .int x2), (3, .int x3), (4, .int x4), (5, .int x5)]) (st' := [.int x5, .ref a0]) (by decide +kernel) rfl rfl ?_
  obtain ⟨s5, es5, h⟩ := Ok.bind h
  refine BW.put (by decide +kernel : decode tX2_tell.2.1 24 = .ok (.putfield 26, 3)) ciX2 (k := 4) (by decide) lkF_X2_26 rfl rfl rfl es5 ?_
  exact BW.vret (by decide +kernel : decode tX2_tell.2.1 27 = .ok (.return_, 1)) rfl (Nat.zero_le _) (Nat.zero_le _) (hQ _ (Ok.some h))
theorem oX2_tell {n : Nat} {P : Sg → Prop} {s0 : Sg} {a0 : Nat} {x1 : Int32} {x2 : Int32} {x3 : Int32} {x4 : Int32} {x5 : Int32} (h : Ok (mX2_tell n s0 a0 x1 x2 x3 x4 x5) P) : ∃ n0, s0.2.1 a0 = some (2, n0) := by
  unfold mX2_tell at h
  exact Ok.isO h
theorem DX2_tell {G : Cx} {n : Nat} {P : Sg → Prop} {s0 : Sg} {a0 : Nat} {x1 : Int32} {x2 : Int32} {x3 : Int32} {x4 : Int32} {x5 : Int32} (h : Ok (mX2_tell n s0 a0 x1 x2 x3 x4 x5) P) : BM G tX2_tell 0 0 0 0 [.ref a0, .int x1, .int x2, .int x3, .int x4, .int x5] s0 (fun v s => v = none ∧ P s) := by
  refine BM.of (by decide +kernel) (Nat.le_of_ble_eq_true rfl) ?_
  exact bX2_tell (E := (({ frames := 0, cells := 0, slots := 0, locals := 0 }), Aof s0, 0, 0, (fun v s => v = none ∧ P s))) ⟨Nat.le_refl _, Nat.le_refl _⟩ (fun s hp => ⟨rfl, hp⟩) h
def mX4_clear_61 (n : Nat) (s0 : Sg) (t0 : Int32) (t1 : Int32) (t2 : Nat) (a0 : Nat) (x2 : Int32) (x3 : Int32) (x4 : Int32) : Option ((Sg × Int32) ⊕ (Sg)) :=
  (sV 11 s0 t2 t1 (.int t0)).bind fun s5 =>
  some (.inl (s5, (x4 + (1 : Int32))))
theorem bX4_clear_61 {G : Cx} {E : Ev} {n : Nat} (hRm : 1 ≤ E.1.frames ∧ 21 ≤ E.1.locals) {s0 : Sg} {t0 : Int32} {t1 : Int32} {t2 : Nat} {a0 : Nat} {x2 : Int32} {x3 : Int32} {x4 : Int32} {P : (Sg × Int32) ⊕ (Sg) → Prop} (hC : ∀ (s : Sg) (c4 : Int32), P (.inl (s, c4)) → BW G tX4_clear E 0 0 25 [(0, .ref a0), (2, .int x2), (3, .int x3), (4, .int c4)] [] s) (hE : ∀ (s : Sg), P (.inr s) → BW G tX4_clear E 0 0 68 [(0, .ref a0), (2, .int x2), (3, .int x3)] [] s)  (h : Ok (mX4_clear_61 n s0 t0 t1 t2 a0 x2 x3 x4) P) : BW G tX4_clear E 0 0 61 [(0, .ref a0), (2, .int x2), (3, .int x3), (4, .int x4)] [.int t0, .int t1, .ref t2] s0 := by
  unfold mX4_clear_61 at h
  obtain ⟨s5, es5, h⟩ := Ok.bind h
  refine BW.iast (by decide +kernel : decode tX4_clear.2.1 61 = .ok (.iastore, 1)) es5 ?_
  refine BW.run [.iinc 4 1] (pc' := 65) (lv' := [(0, .ref a0), (2, .int x2), (3, .int x3), (4, .int (x4 + (1 : Int32)))]) (st' := []) (by decide +kernel) rfl rfl ?_
  refine BW.goto 25 (by decide +kernel : decode tX4_clear.2.1 65 = .ok (.goto (-40), 3)) (by decide) ?_
  exact hC _ _ (Ok.some h)
def mX4_clear_55 (n : Nat) (s0 : Sg) (t0 : Int32) (t1 : Nat) (a0 : Nat) (x2 : Int32) (x3 : Int32) (x4 : Int32) : Option ((Sg × Int32) ⊕ (Sg)) :=
  mX4_clear_61 n s0 (0 : Int32) t0 t1 a0 x2 x3 x4
theorem bX4_clear_55 {G : Cx} {E : Ev} {n : Nat} (hRm : 1 ≤ E.1.frames ∧ 21 ≤ E.1.locals) {s0 : Sg} {t0 : Int32} {t1 : Nat} {a0 : Nat} {x2 : Int32} {x3 : Int32} {x4 : Int32} {P : (Sg × Int32) ⊕ (Sg) → Prop} (hC : ∀ (s : Sg) (c4 : Int32), P (.inl (s, c4)) → BW G tX4_clear E 0 0 25 [(0, .ref a0), (2, .int x2), (3, .int x3), (4, .int c4)] [] s) (hE : ∀ (s : Sg), P (.inr s) → BW G tX4_clear E 0 0 68 [(0, .ref a0), (2, .int x2), (3, .int x3)] [] s)  (h : Ok (mX4_clear_55 n s0 t0 t1 a0 x2 x3 x4) P) : BW G tX4_clear E 0 0 55 [(0, .ref a0), (2, .int x2), (3, .int x3), (4, .int x4)] [.int t0, .ref t1] s0 := by
  unfold mX4_clear_55 at h
  refine BW.run [.iconst 0] (pc' := 56) (lv' := [(0, .ref a0), (2, .int x2), (3, .int x3), (4, .int x4)]) (st' := [.int (0 : Int32), .int t0, .ref t1]) (by decide +kernel) rfl rfl ?_
  refine BW.goto 61 (by decide +kernel : decode tX4_clear.2.1 56 = .ok (.goto 5, 3)) (by decide) ?_
  exact bX4_clear_61 hRm hC hE h
def mX4_clear_L25 (n : Nat) (a0 : Nat) (x2 : Int32) (x3 : Int32) : (Sg × Int32) → Option ((Sg × Int32) ⊕ (Sg))
  | (s0, x4) =>
    (toI (gV 4 s0 a0 1)).bind fun v3 =>
    if v3 ≤ x4 then (
      some (.inr s0)
    ) else (
      (toR (gV 4 s0 a0 0)).bind fun b4 =>
      if x3 = x4 then (
        mX4_clear_55 n s0 ((x3 * (9 : Int32)) + x4) b4 a0 x2 x3 x4
      ) else (
        if x3 = 0 then (
          mX4_clear_55 n s0 ((x3 * (9 : Int32)) + x4) b4 a0 x2 x3 x4
        ) else (
          mX4_clear_61 n s0 (-x2) ((x3 * (9 : Int32)) + x4) b4 a0 x2 x3 x4
        )
      )
    )
theorem bX4_clear_L25 {G : Cx} {E : Ev} {n : Nat} (hRm : 1 ≤ E.1.frames ∧ 21 ≤ E.1.locals) {a0 : Nat} {x2 : Int32} {x3 : Int32} {P : (Sg × Int32) ⊕ (Sg) → Prop} (hC : ∀ (s : Sg) (c4 : Int32), P (.inl (s, c4)) → BW G tX4_clear E 0 0 25 [(0, .ref a0), (2, .int x2), (3, .int x3), (4, .int c4)] [] s) (hE : ∀ (s : Sg), P (.inr s) → BW G tX4_clear E 0 0 68 [(0, .ref a0), (2, .int x2), (3, .int x3)] [] s) {s0 : Sg} {x4 : Int32} (h : Ok (mX4_clear_L25 n a0 x2 x3 (s0, x4)) P) : BW G tX4_clear E 0 0 25 [(0, .ref a0), (2, .int x2), (3, .int x3), (4, .int x4)] [] s0 := by
  unfold mX4_clear_L25 at h
  refine BW.run [.iload 4, .aload_n 0] (pc' := 28) (lv' := [(0, .ref a0), (2, .int x2), (3, .int x3), (4, .int x4)]) (st' := [.ref a0, .int x4]) (by decide +kernel) rfl rfl ?_
  obtain ⟨v3, ev3, h⟩ := Ok.bind h
  refine BW.get (by decide +kernel : decode tX4_clear.2.1 28 = .ok (.getfield 15, 3)) ciX4 (k := 1) (by decide) lkF_X4_15 (toI_V ev3) ?_
  refine BW.icmp_ge 68 (by decide +kernel : decode tX4_clear.2.1 31 = .ok (.if_icmp .ge 37, 3)) (by decide) (fun hc => ?_) (fun hc => ?_)
  · have h := (Ok.ite h).1 hc
    refine BW.sub [0, 1, 2] rfl ?_
    exact hE _ (Ok.some h)
  · have h := (Ok.ite h).2 hc
    refine BW.run [.aload_n 0] (pc' := 35) (lv' := [(0, .ref a0), (2, .int x2), (3, .int x3), (4, .int x4)]) (st' := [.ref a0]) (by decide +kernel) rfl rfl ?_
    obtain ⟨b4, eb4, h⟩ := Ok.bind h
    refine BW.get (by decide +kernel : decode tX4_clear.2.1 35 = .ok (.getfield 9, 3)) ciX4 (k := 0) (by decide) lkF_X4_9 (toR_V eb4) ?_
    refine BW.run [.iload_n 3, .bipush 9, .imul, .iload 4, .iadd, .iload_n 3, .iload 4] (pc' := 48) (lv' := [(0, .ref a0), (2, .int x2), (3, .int x3), (4, .int x4)]) (st' := [.int x4, .int x3, .int ((x3 * (9 : Int32)) + x4), .ref b4]) (by decide +kernel) rfl rfl ?_
    refine BW.icmp_eq 55 (by decide +kernel : decode tX4_clear.2.1 48 = .ok (.if_icmp .eq 7, 3)) (by decide) (fun hc => ?_) (fun hc => ?_)
    · have h := (Ok.ite h).1 hc
      exact bX4_clear_55 hRm hC hE h
    · have h := (Ok.ite h).2 hc
      refine BW.run [.iload_n 3] (pc' := 52) (lv' := [(0, .ref a0), (2, .int x2), (3, .int x3), (4, .int x4)]) (st' := [.int x3, .int ((x3 * (9 : Int32)) + x4), .ref b4]) (by decide +kernel) rfl rfl ?_
      refine BW.if_ne 59 (by decide +kernel : decode tX4_clear.2.1 52 = .ok (.ifCond .ne 7, 3)) (by decide) (fun hc => ?_) (fun hc => ?_)
      · have h := (Ok.ite h).2 hc
        refine BW.run [.iload_n 2, .ineg] (pc' := 61) (lv' := [(0, .ref a0), (2, .int x2), (3, .int x3), (4, .int x4)]) (st' := [.int (-x2), .int ((x3 * (9 : Int32)) + x4), .ref b4]) (by decide +kernel) rfl rfl ?_
        exact bX4_clear_61 hRm hC hE h
      · have h := (Ok.ite h).1 hc
        exact bX4_clear_55 hRm hC hE h
theorem bX4_clear_W25 {G : Cx} {E : Ev} {n : Nat} (hRm : 1 ≤ E.1.frames ∧ 21 ≤ E.1.locals) {a0 : Nat} {x2 : Int32} {x3 : Int32} {K : (Sg) → Prop} (hE : ∀ (s : Sg), K s → BW G tX4_clear E 0 0 68 [(0, .ref a0), (2, .int x2), (3, .int x3)] [] s) : ∀ (f : Nat) (c : Sg × Int32), Ok (loopM (mX4_clear_L25 n a0 x2 x3) f c) K → match c with | (s0, x4) => BW G tX4_clear E 0 0 25 [(0, .ref a0), (2, .int x2), (3, .int x3), (4, .int x4)] [] s0 := by
  intro f
  induction f with
  | zero => intro c h; exact (Ok.no h).elim
  | succ f ih =>
    intro c h
    obtain ⟨s0, x4⟩ := c
    exact bX4_clear_L25 (P := loopP (mX4_clear_L25 n a0 x2 x3) f K) hRm (fun s c4 h => ih (s, c4) h) hE (loopM_ok h)
def mX4_clear_L14 (n : Nat) (a0 : Nat) (x2 : Int32) : (Sg × Int32) → Option ((Sg × Int32) ⊕ (Sg))
  | (s0, x3) =>
    (toI (gV 4 s0 a0 1)).bind fun v2 =>
    if v2 ≤ x3 then (
      some (.inr s0)
    ) else (
      (loopM (mX4_clear_L25 n a0 x2 x3) n (s0, (0 : Int32))).bind fun s6 =>
      some (.inl (s6, (x3 + (1 : Int32))))
    )
theorem bX4_clear_L14 {G : Cx} {E : Ev} {n : Nat} (hRm : 1 ≤ E.1.frames ∧ 21 ≤ E.1.locals) {a0 : Nat} {x2 : Int32} {P : (Sg × Int32) ⊕ (Sg) → Prop} (hC : ∀ (s : Sg) (c3 : Int32), P (.inl (s, c3)) → BW G tX4_clear E 0 0 14 [(0, .ref a0), (2, .int x2), (3, .int c3)] [] s) (hE : ∀ (s : Sg), P (.inr s) → BW G tX4_clear E 0 0 74 [] [] s) {s0 : Sg} {x3 : Int32} (h : Ok (mX4_clear_L14 n a0 x2 (s0, x3)) P) : BW G tX4_clear E 0 0 14 [(0, .ref a0), (2, .int x2), (3, .int x3)] [] s0 := by
  unfold mX4_clear_L14 at h
  refine BW.run [.iload_n 3, .aload_n 0] (pc' := 16) (lv' := [(0, .ref a0), (2, .int x2), (3, .int x3)]) (st' := [.ref a0, .int x3]) (by decide +kernel) rfl rfl ?_
  obtain ⟨v2, ev2, h⟩ := Ok.bind h
  refine BW.get (by decide +kernel : decode tX4_clear.2.1 16 = .ok (.getfield 15, 3)) ciX4 (k := 1) (by decide) lkF_X4_15 (toI_V ev2) ?_
  refine BW.icmp_ge 74 (by decide +kernel : decode tX4_clear.2.1 19 = .ok (.if_icmp .ge 55, 3)) (by decide) (fun hc => ?_) (fun hc => ?_)
  · have h := (Ok.ite h).1 hc
    refine BW.sub [] rfl ?_
    exact hE _ (Ok.some h)
  · have h := (Ok.ite h).2 hc
    refine BW.run [.iconst 0, .istore 4] (pc' := 25) (lv' := [(0, .ref a0), (2, .int x2), (3, .int x3), (4, .int (0 : Int32))]) (st' := []) (by decide +kernel) rfl rfl ?_
    refine bX4_clear_W25 hRm (a0 := a0) (x2 := x2) (x3 := x3) (fun s6 h => ?_) n (s0, (0 : Int32)) (Ok.bindK h)
    refine BW.run [.iinc 3 1] (pc' := 71) (lv' := [(0, .ref a0), (2, .int x2), (3, .int (x3 + (1 : Int32)))]) (st' := []) (by decide +kernel) rfl rfl ?_
    refine BW.goto 14 (by decide +kernel : decode tX4_clear.2.1 71 = .ok (.goto (-57), 3)) (by decide) ?_
    exact hC _ _ (Ok.some h)
theorem bX4_clear_W14 {G : Cx} {E : Ev} {n : Nat} (hRm : 1 ≤ E.1.frames ∧ 21 ≤ E.1.locals) {a0 : Nat} {x2 : Int32} {K : (Sg) → Prop} (hE : ∀ (s : Sg), K s → BW G tX4_clear E 0 0 74 [] [] s) : ∀ (f : Nat) (c : Sg × Int32), Ok (loopM (mX4_clear_L14 n a0 x2) f c) K → match c with | (s0, x3) => BW G tX4_clear E 0 0 14 [(0, .ref a0), (2, .int x2), (3, .int x3)] [] s0 := by
  intro f
  induction f with
  | zero => intro c h; exact (Ok.no h).elim
  | succ f ih =>
    intro c h
    obtain ⟨s0, x3⟩ := c
    exact bX4_clear_L14 (P := loopP (mX4_clear_L14 n a0 x2) f K) hRm (fun s c3 h => ih (s, c3) h) hE (loopM_ok h)
def mX4_clear (n : Nat) (s0 : Sg) (a0 : Nat) (x1 : Int32) (x2 : Int32) : Option (Sg) :=
  (isO 4 s0 a0).bind fun _ =>
  (pV 4 s0 a0 1 (.int (jmin (x1 + (1 : Int32)) (9 : Int32)))).bind fun s1 =>
  (loopM (mX4_clear_L14 n a0 x2) n (s1, (0 : Int32))).bind fun s8 =>
  some s8
theorem bX4_clear {G : Cx} {E : Ev} {n : Nat} (hRm : 1 ≤ E.1.frames ∧ 21 ≤ E.1.locals) {P : Sg → Prop} (hQ : ∀ s, P s → E.2.2.2.2 none s) {s0 : Sg} {a0 : Nat} {x1 : Int32} {x2 : Int32} (h : Ok (mX4_clear n s0 a0 x1 x2) P) : BW G tX4_clear E 0 0 0 [(0, .ref a0), (1, .int x1), (2, .int x2)] [] s0 := by
  unfold mX4_clear at h
  obtain ⟨_, _, h⟩ := Ok.bind h
  refine BW.run [.aload_n 0, .iload_n 1, .iconst 1, .iadd, .bipush 9] (pc' := 6) (lv' := [(0, .ref a0), (1, .int x1), (2, .int x2)]) (st' := [.int (9 : Int32), .int (x1 + (1 : Int32)), .ref a0]) (by decide +kernel) rfl rfl ?_
  refine BW.mmin (by decide +kernel : decode tX4_clear.2.1 6 = .ok (.invokestatic 19, 3)) lkM_X4_19 (Nat.le_of_ble_eq_true rfl) ⟨Nat.le_trans (by decide) hRm.1, Nat.le_trans (by decide) hRm.2⟩ ⟨Nat.zero_le _, Nat.zero_le _⟩ ?_
  obtain ⟨s1, es1, h⟩ := Ok.bind h
  refine BW.put (by decide +kernel : decode tX4_clear.2.1 9 = .ok (.putfield 15, 3)) ciX4 (k := 1) (by decide) lkF_X4_15 rfl rfl rfl es1 ?_
  refine BW.run [.iconst 0, .istore_n 3] (pc' := 14) (lv' := [(0, .ref a0), (1, .int x1), (2, .int x2), (3, .int (0 : Int32))]) (st' := []) (by decide +kernel) rfl rfl ?_
  refine BW.sub [0, 2, 3] rfl ?_
  refine bX4_clear_W14 hRm (a0 := a0) (x2 := x2) (fun s8 h => ?_) n (s1, (0 : Int32)) (Ok.bindK h)
  exact BW.vret (by decide +kernel : decode tX4_clear.2.1 74 = .ok (.return_, 1)) rfl (Nat.zero_le _) (Nat.zero_le _) (hQ _ (Ok.some h))
theorem oX4_clear {n : Nat} {P : Sg → Prop} {s0 : Sg} {a0 : Nat} {x1 : Int32} {x2 : Int32} (h : Ok (mX4_clear n s0 a0 x1 x2) P) : ∃ n0, s0.2.1 a0 = some (4, n0) := by
  unfold mX4_clear at h
  exact Ok.isO h
theorem DX4_clear {G : Cx} {n : Nat} {P : Sg → Prop} {s0 : Sg} {a0 : Nat} {x1 : Int32} {x2 : Int32} (h : Ok (mX4_clear n s0 a0 x1 x2) P) : BM G tX4_clear 1 21 0 0 [.ref a0, .int x1, .int x2] s0 (fun v s => v = none ∧ P s) := by
  refine BM.of (by decide +kernel) (Nat.le_of_ble_eq_true rfl) ?_
  exact bX4_clear (E := (({ frames := 1, cells := 0, slots := 0, locals := 21 }), Aof s0, 0, 0, (fun v s => v = none ∧ P s))) ⟨Nat.le_refl _, Nat.le_refl _⟩ (fun s hp => ⟨rfl, hp⟩) h
def mX4_firstOf (n : Nat) (s0 : Sg) (a0 : Nat) (x1 : Int32) : Option (Int32 × Sg) :=
  (isO 4 s0 a0).bind fun _ =>
  (mX9_pointOf n s0 x1).bind fun (v2, s1) =>
  (mX4_least n s1 a0 (0 : Int32) v2).bind fun (v5, s4) =>
  some (v5, s4)
theorem bX4_firstOf {G : Cx} {E : Ev} {n : Nat} (hRm : 2 ≤ E.1.frames ∧ 43 ≤ E.1.locals) {P : Int32 × Sg → Prop} (hQ : ∀ r s, P (r, s) → E.2.2.2.2 (some (.int r)) s) {s0 : Sg} {a0 : Nat} {x1 : Int32} (h : Ok (mX4_firstOf n s0 a0 x1) P) : BW G tX4_firstOf E 0 0 0 [(0, .ref a0), (1, .int x1)] [] s0 := by
  unfold mX4_firstOf at h
  obtain ⟨_, _, h⟩ := Ok.bind h
  refine BW.run [.aload_n 0, .iconst 0, .iload_n 1] (pc' := 3) (lv' := [(0, .ref a0), (1, .int x1)]) (st' := [.int x1, .int (0 : Int32), .ref a0]) (by decide +kernel) rfl rfl ?_
  refine BW.callSN (As := [.int x1]) (st := [.int (0 : Int32), .ref a0]) (by decide +kernel : decode tX4_firstOf.2.1 3 = .ok (.invokestatic 63, 3)) (DX9_pointOf (Ok.bindK h)) mfX9_pointOf lkM_X4_63 smX9_pointOf rfl rfl (Nat.le_of_ble_eq_true rfl) ⟨Nat.le_trans (by decide) hRm.1, Nat.le_trans (by decide) hRm.2⟩ ⟨Nat.zero_le _, Nat.zero_le _⟩ ?_
  rintro _ s1 ⟨v2, rfl, h⟩
  show BW G tX4_firstOf E 0 0 6 [(0, .ref a0), (1, .int x1)] [.int v2, .int (0 : Int32), .ref a0] s1
  refine BW.callV (As := [.int (0 : Int32), .int v2]) (st := []) (by decide +kernel : decode tX4_firstOf.2.1 6 = .ok (.invokevirtual 57, 3)) (DX4_least (Ok.bindK h)) mfX4_least lkM_X4_57 imX4_least selX4_least ciX4 (oX4_least (Ok.bindK h)).choose_spec rfl rfl (Nat.le_of_ble_eq_true rfl) ⟨Nat.le_trans (by decide) hRm.1, Nat.le_trans (by decide) hRm.2⟩ ⟨Nat.zero_le _, Nat.zero_le _⟩ ?_
  rintro _ s4 ⟨v5, rfl, h⟩
  show BW G tX4_firstOf E 0 0 9 [(0, .ref a0), (1, .int x1)] [.int v5] s4
  exact BW.iret (by decide +kernel : decode tX4_firstOf.2.1 9 = .ok (.ireturn, 1)) rfl (Nat.zero_le _) (Nat.zero_le _) (hQ _ _ (Ok.some h))
theorem oX4_firstOf {n : Nat} {P : Int32 × Sg → Prop} {s0 : Sg} {a0 : Nat} {x1 : Int32} (h : Ok (mX4_firstOf n s0 a0 x1) P) : ∃ n0, s0.2.1 a0 = some (4, n0) := by
  unfold mX4_firstOf at h
  exact Ok.isO h
theorem DX4_firstOf {G : Cx} {n : Nat} {P : Int32 × Sg → Prop} {s0 : Sg} {a0 : Nat} {x1 : Int32} (h : Ok (mX4_firstOf n s0 a0 x1) P) : BM G tX4_firstOf 2 43 0 0 [.ref a0, .int x1] s0 (fun v s => ∃ r, v = some (.int r) ∧ P (r, s)) := by
  refine BM.of (by decide +kernel) (Nat.le_of_ble_eq_true rfl) ?_
  exact bX4_firstOf (E := (({ frames := 2, cells := 0, slots := 0, locals := 43 }), Aof s0, 0, 0, (fun v s => ∃ r, v = some (.int r) ∧ P (r, s)))) ⟨Nat.le_refl _, Nat.le_refl _⟩ (fun r s hp => ⟨r, rfl, hp⟩) h
def mX4_greatestGap (n : Nat) (s0 : Sg) (a0 : Nat) (x1 : Int32) (x2 : Int32) : Option (Int32 × Sg) :=
  (isO 4 s0 a0).bind fun _ =>
  (mX9_pointOf n s0 x2).bind fun (v2, s1) =>
  (mX9_pointOf n s1 x1).bind fun (v5, s4) =>
  (mX4_least n s4 a0 v2 v5).bind fun (v8, s7) =>
  some ((-v8), s7)
theorem bX4_greatestGap {G : Cx} {E : Ev} {n : Nat} (hRm : 2 ≤ E.1.frames ∧ 43 ≤ E.1.locals) {P : Int32 × Sg → Prop} (hQ : ∀ r s, P (r, s) → E.2.2.2.2 (some (.int r)) s) {s0 : Sg} {a0 : Nat} {x1 : Int32} {x2 : Int32} (h : Ok (mX4_greatestGap n s0 a0 x1 x2) P) : BW G tX4_greatestGap E 0 0 0 [(0, .ref a0), (1, .int x1), (2, .int x2)] [] s0 := by
  unfold mX4_greatestGap at h
  obtain ⟨_, _, h⟩ := Ok.bind h
  refine BW.run [.aload_n 0, .iload_n 2] (pc' := 2) (lv' := [(0, .ref a0), (1, .int x1), (2, .int x2)]) (st' := [.int x2, .ref a0]) (by decide +kernel) rfl rfl ?_
  refine BW.callSN (As := [.int x2]) (st := [.ref a0]) (by decide +kernel : decode tX4_greatestGap.2.1 2 = .ok (.invokestatic 63, 3)) (DX9_pointOf (Ok.bindK h)) mfX9_pointOf lkM_X4_63 smX9_pointOf rfl rfl (Nat.le_of_ble_eq_true rfl) ⟨Nat.le_trans (by decide) hRm.1, Nat.le_trans (by decide) hRm.2⟩ ⟨Nat.zero_le _, Nat.zero_le _⟩ ?_
  rintro _ s1 ⟨v2, rfl, h⟩
  show BW G tX4_greatestGap E 0 0 5 [(0, .ref a0), (1, .int x1), (2, .int x2)] [.int v2, .ref a0] s1
  refine BW.run [.iload_n 1] (pc' := 6) (lv' := [(0, .ref a0), (1, .int x1), (2, .int x2)]) (st' := [.int x1, .int v2, .ref a0]) (by decide +kernel) rfl rfl ?_
  refine BW.callSN (As := [.int x1]) (st := [.int v2, .ref a0]) (by decide +kernel : decode tX4_greatestGap.2.1 6 = .ok (.invokestatic 63, 3)) (DX9_pointOf (Ok.bindK h)) mfX9_pointOf lkM_X4_63 smX9_pointOf rfl rfl (Nat.le_of_ble_eq_true rfl) ⟨Nat.le_trans (by decide) hRm.1, Nat.le_trans (by decide) hRm.2⟩ ⟨Nat.zero_le _, Nat.zero_le _⟩ ?_
  rintro _ s4 ⟨v5, rfl, h⟩
  show BW G tX4_greatestGap E 0 0 9 [(0, .ref a0), (1, .int x1), (2, .int x2)] [.int v5, .int v2, .ref a0] s4
  refine BW.callV (As := [.int v2, .int v5]) (st := []) (by decide +kernel : decode tX4_greatestGap.2.1 9 = .ok (.invokevirtual 57, 3)) (DX4_least (Ok.bindK h)) mfX4_least lkM_X4_57 imX4_least selX4_least ciX4 (oX4_least (Ok.bindK h)).choose_spec rfl rfl (Nat.le_of_ble_eq_true rfl) ⟨Nat.le_trans (by decide) hRm.1, Nat.le_trans (by decide) hRm.2⟩ ⟨Nat.zero_le _, Nat.zero_le _⟩ ?_
  rintro _ s7 ⟨v8, rfl, h⟩
  show BW G tX4_greatestGap E 0 0 12 [(0, .ref a0), (1, .int x1), (2, .int x2)] [.int v8] s7
  refine BW.run [.ineg] (pc' := 13) (lv' := [(0, .ref a0), (1, .int x1), (2, .int x2)]) (st' := [.int (-v8)]) (by decide +kernel) rfl rfl ?_
  exact BW.iret (by decide +kernel : decode tX4_greatestGap.2.1 13 = .ok (.ireturn, 1)) rfl (Nat.zero_le _) (Nat.zero_le _) (hQ _ _ (Ok.some h))
theorem oX4_greatestGap {n : Nat} {P : Int32 × Sg → Prop} {s0 : Sg} {a0 : Nat} {x1 : Int32} {x2 : Int32} (h : Ok (mX4_greatestGap n s0 a0 x1 x2) P) : ∃ n0, s0.2.1 a0 = some (4, n0) := by
  unfold mX4_greatestGap at h
  exact Ok.isO h
theorem DX4_greatestGap {G : Cx} {n : Nat} {P : Int32 × Sg → Prop} {s0 : Sg} {a0 : Nat} {x1 : Int32} {x2 : Int32} (h : Ok (mX4_greatestGap n s0 a0 x1 x2) P) : BM G tX4_greatestGap 2 43 0 0 [.ref a0, .int x1, .int x2] s0 (fun v s => ∃ r, v = some (.int r) ∧ P (r, s)) := by
  refine BM.of (by decide +kernel) (Nat.le_of_ble_eq_true rfl) ?_
  exact bX4_greatestGap (E := (({ frames := 2, cells := 0, slots := 0, locals := 43 }), Aof s0, 0, 0, (fun v s => ∃ r, v = some (.int r) ∧ P (r, s)))) ⟨Nat.le_refl _, Nat.le_refl _⟩ (fun r s hp => ⟨r, rfl, hp⟩) h
def mX4_lastOf (n : Nat) (s0 : Sg) (a0 : Nat) (x1 : Int32) : Option (Int32 × Sg) :=
  (isO 4 s0 a0).bind fun _ =>
  (mX9_pointOf n s0 x1).bind fun (v2, s1) =>
  (mX4_least n s1 a0 v2 (0 : Int32)).bind fun (v5, s4) =>
  some ((-v5), s4)
theorem bX4_lastOf {G : Cx} {E : Ev} {n : Nat} (hRm : 2 ≤ E.1.frames ∧ 43 ≤ E.1.locals) {P : Int32 × Sg → Prop} (hQ : ∀ r s, P (r, s) → E.2.2.2.2 (some (.int r)) s) {s0 : Sg} {a0 : Nat} {x1 : Int32} (h : Ok (mX4_lastOf n s0 a0 x1) P) : BW G tX4_lastOf E 0 0 0 [(0, .ref a0), (1, .int x1)] [] s0 := by
  unfold mX4_lastOf at h
  obtain ⟨_, _, h⟩ := Ok.bind h
  refine BW.run [.aload_n 0, .iload_n 1] (pc' := 2) (lv' := [(0, .ref a0), (1, .int x1)]) (st' := [.int x1, .ref a0]) (by decide +kernel) rfl rfl ?_
  refine BW.callSN (As := [.int x1]) (st := [.ref a0]) (by decide +kernel : decode tX4_lastOf.2.1 2 = .ok (.invokestatic 63, 3)) (DX9_pointOf (Ok.bindK h)) mfX9_pointOf lkM_X4_63 smX9_pointOf rfl rfl (Nat.le_of_ble_eq_true rfl) ⟨Nat.le_trans (by decide) hRm.1, Nat.le_trans (by decide) hRm.2⟩ ⟨Nat.zero_le _, Nat.zero_le _⟩ ?_
  rintro _ s1 ⟨v2, rfl, h⟩
  show BW G tX4_lastOf E 0 0 5 [(0, .ref a0), (1, .int x1)] [.int v2, .ref a0] s1
  refine BW.run [.iconst 0] (pc' := 6) (lv' := [(0, .ref a0), (1, .int x1)]) (st' := [.int (0 : Int32), .int v2, .ref a0]) (by decide +kernel) rfl rfl ?_
  refine BW.callV (As := [.int v2, .int (0 : Int32)]) (st := []) (by decide +kernel : decode tX4_lastOf.2.1 6 = .ok (.invokevirtual 57, 3)) (DX4_least (Ok.bindK h)) mfX4_least lkM_X4_57 imX4_least selX4_least ciX4 (oX4_least (Ok.bindK h)).choose_spec rfl rfl (Nat.le_of_ble_eq_true rfl) ⟨Nat.le_trans (by decide) hRm.1, Nat.le_trans (by decide) hRm.2⟩ ⟨Nat.zero_le _, Nat.zero_le _⟩ ?_
  rintro _ s4 ⟨v5, rfl, h⟩
  show BW G tX4_lastOf E 0 0 9 [(0, .ref a0), (1, .int x1)] [.int v5] s4
  refine BW.run [.ineg] (pc' := 10) (lv' := [(0, .ref a0), (1, .int x1)]) (st' := [.int (-v5)]) (by decide +kernel) rfl rfl ?_
  exact BW.iret (by decide +kernel : decode tX4_lastOf.2.1 10 = .ok (.ireturn, 1)) rfl (Nat.zero_le _) (Nat.zero_le _) (hQ _ _ (Ok.some h))
theorem oX4_lastOf {n : Nat} {P : Int32 × Sg → Prop} {s0 : Sg} {a0 : Nat} {x1 : Int32} (h : Ok (mX4_lastOf n s0 a0 x1) P) : ∃ n0, s0.2.1 a0 = some (4, n0) := by
  unfold mX4_lastOf at h
  exact Ok.isO h
theorem DX4_lastOf {G : Cx} {n : Nat} {P : Int32 × Sg → Prop} {s0 : Sg} {a0 : Nat} {x1 : Int32} (h : Ok (mX4_lastOf n s0 a0 x1) P) : BM G tX4_lastOf 2 43 0 0 [.ref a0, .int x1] s0 (fun v s => ∃ r, v = some (.int r) ∧ P (r, s)) := by
  refine BM.of (by decide +kernel) (Nat.le_of_ble_eq_true rfl) ?_
  exact bX4_lastOf (E := (({ frames := 2, cells := 0, slots := 0, locals := 43 }), Aof s0, 0, 0, (fun v s => ∃ r, v = some (.int r) ∧ P (r, s)))) ⟨Nat.le_refl _, Nat.le_refl _⟩ (fun r s hp => ⟨r, rfl, hp⟩) h
def mX4_leastGap (n : Nat) (s0 : Sg) (a0 : Nat) (x1 : Int32) (x2 : Int32) : Option (Int32 × Sg) :=
  (isO 4 s0 a0).bind fun _ =>
  (mX9_pointOf n s0 x1).bind fun (v2, s1) =>
  (mX9_pointOf n s1 x2).bind fun (v5, s4) =>
  (mX4_least n s4 a0 v2 v5).bind fun (v8, s7) =>
  some (v8, s7)
theorem bX4_leastGap {G : Cx} {E : Ev} {n : Nat} (hRm : 2 ≤ E.1.frames ∧ 43 ≤ E.1.locals) {P : Int32 × Sg → Prop} (hQ : ∀ r s, P (r, s) → E.2.2.2.2 (some (.int r)) s) {s0 : Sg} {a0 : Nat} {x1 : Int32} {x2 : Int32} (h : Ok (mX4_leastGap n s0 a0 x1 x2) P) : BW G tX4_leastGap E 0 0 0 [(0, .ref a0), (1, .int x1), (2, .int x2)] [] s0 := by
  unfold mX4_leastGap at h
  obtain ⟨_, _, h⟩ := Ok.bind h
  refine BW.run [.aload_n 0, .iload_n 1] (pc' := 2) (lv' := [(0, .ref a0), (1, .int x1), (2, .int x2)]) (st' := [.int x1, .ref a0]) (by decide +kernel) rfl rfl ?_
  refine BW.callSN (As := [.int x1]) (st := [.ref a0]) (by decide +kernel : decode tX4_leastGap.2.1 2 = .ok (.invokestatic 63, 3)) (DX9_pointOf (Ok.bindK h)) mfX9_pointOf lkM_X4_63 smX9_pointOf rfl rfl (Nat.le_of_ble_eq_true rfl) ⟨Nat.le_trans (by decide) hRm.1, Nat.le_trans (by decide) hRm.2⟩ ⟨Nat.zero_le _, Nat.zero_le _⟩ ?_
  rintro _ s1 ⟨v2, rfl, h⟩
  show BW G tX4_leastGap E 0 0 5 [(0, .ref a0), (1, .int x1), (2, .int x2)] [.int v2, .ref a0] s1
  refine BW.run [.iload_n 2] (pc' := 6) (lv' := [(0, .ref a0), (1, .int x1), (2, .int x2)]) (st' := [.int x2, .int v2, .ref a0]) (by decide +kernel) rfl rfl ?_
  refine BW.callSN (As := [.int x2]) (st := [.int v2, .ref a0]) (by decide +kernel : decode tX4_leastGap.2.1 6 = .ok (.invokestatic 63, 3)) (DX9_pointOf (Ok.bindK h)) mfX9_pointOf lkM_X4_63 smX9_pointOf rfl rfl (Nat.le_of_ble_eq_true rfl) ⟨Nat.le_trans (by decide) hRm.1, Nat.le_trans (by decide) hRm.2⟩ ⟨Nat.zero_le _, Nat.zero_le _⟩ ?_
  rintro _ s4 ⟨v5, rfl, h⟩
  show BW G tX4_leastGap E 0 0 9 [(0, .ref a0), (1, .int x1), (2, .int x2)] [.int v5, .int v2, .ref a0] s4
  refine BW.callV (As := [.int v2, .int v5]) (st := []) (by decide +kernel : decode tX4_leastGap.2.1 9 = .ok (.invokevirtual 57, 3)) (DX4_least (Ok.bindK h)) mfX4_least lkM_X4_57 imX4_least selX4_least ciX4 (oX4_least (Ok.bindK h)).choose_spec rfl rfl (Nat.le_of_ble_eq_true rfl) ⟨Nat.le_trans (by decide) hRm.1, Nat.le_trans (by decide) hRm.2⟩ ⟨Nat.zero_le _, Nat.zero_le _⟩ ?_
  rintro _ s7 ⟨v8, rfl, h⟩
  show BW G tX4_leastGap E 0 0 12 [(0, .ref a0), (1, .int x1), (2, .int x2)] [.int v8] s7
  exact BW.iret (by decide +kernel : decode tX4_leastGap.2.1 12 = .ok (.ireturn, 1)) rfl (Nat.zero_le _) (Nat.zero_le _) (hQ _ _ (Ok.some h))
theorem oX4_leastGap {n : Nat} {P : Int32 × Sg → Prop} {s0 : Sg} {a0 : Nat} {x1 : Int32} {x2 : Int32} (h : Ok (mX4_leastGap n s0 a0 x1 x2) P) : ∃ n0, s0.2.1 a0 = some (4, n0) := by
  unfold mX4_leastGap at h
  exact Ok.isO h
theorem DX4_leastGap {G : Cx} {n : Nat} {P : Int32 × Sg → Prop} {s0 : Sg} {a0 : Nat} {x1 : Int32} {x2 : Int32} (h : Ok (mX4_leastGap n s0 a0 x1 x2) P) : BM G tX4_leastGap 2 43 0 0 [.ref a0, .int x1, .int x2] s0 (fun v s => ∃ r, v = some (.int r) ∧ P (r, s)) := by
  refine BM.of (by decide +kernel) (Nat.le_of_ble_eq_true rfl) ?_
  exact bX4_leastGap (E := (({ frames := 2, cells := 0, slots := 0, locals := 43 }), Aof s0, 0, 0, (fun v s => ∃ r, v = some (.int r) ∧ P (r, s)))) ⟨Nat.le_refl _, Nat.le_refl _⟩ (fun r s hp => ⟨r, rfl, hp⟩) h
def mX4_spanWith_146 (n : Nat) (s0 : Sg) (t0 : Int32) (t1 : Int32) (a0 : Nat) (x2 : Int32) (x4 : Int32) (x5 : Int32) (x6 : Int32) (x8 : Int32) : Option ((Sg × Int32 × Int32) ⊕ (Sg × Int32)) :=
  nm (t1 - t0) fun v26 =>
  some (.inl (s0, v26, (x8 + (1 : Int32))))
theorem bX4_spanWith_146 {G : Cx} {E : Ev} {n : Nat} (hRm : 2 ≤ E.1.frames ∧ 44 ≤ E.1.locals) {s0 : Sg} {t0 : Int32} {t1 : Int32} {a0 : Nat} {x2 : Int32} {x4 : Int32} {x5 : Int32} {x6 : Int32} {x8 : Int32} {P : (Sg × Int32 × Int32) ⊕ (Sg × Int32) → Prop} (hC : ∀ (s : Sg) (c7 : Int32) (c8 : Int32), P (.inl (s, c7, c8)) → BW G tX4_spanWith E 0 0 44 [(0, .ref a0), (2, .int x2), (4, .int x4), (5, .int x5), (6, .int x6), (7, .int c7), (8, .int c8)] [] s) (hE : ∀ (s : Sg) (c7 : Int32), P (.inr (s, c7)) → BW G tX4_spanWith E 0 0 155 [(7, .int c7)] [] s)  (h : Ok (mX4_spanWith_146 n s0 t0 t1 a0 x2 x4 x5 x6 x8) P) : BW G tX4_spanWith E 0 0 146 [(0, .ref a0), (2, .int x2), (4, .int x4), (5, .int x5), (6, .int x6), (8, .int x8)] [.int t0, .int t1] s0 := by
  unfold mX4_spanWith_146 at h
  refine BW.run [.isub] (pc' := 147) (lv' := [(0, .ref a0), (2, .int x2), (4, .int x4), (5, .int x5), (6, .int x6), (8, .int x8)]) (st' := [.int (t1 - t0)]) (by decide +kernel) rfl rfl ?_
  obtain ⟨v26, wv26, h⟩ := Ok.nm h
  refine BW.nm wv26 ?_
  refine BW.run [.istore 7, .iinc 8 1] (pc' := 152) (lv' := [(0, .ref a0), (2, .int x2), (4, .int x4), (5, .int x5), (6, .int x6), (7, .int v26), (8, .int (x8 + (1 : Int32)))]) (st' := []) (by decide +kernel) rfl rfl ?_
  refine BW.goto 44 (by decide +kernel : decode tX4_spanWith.2.1 152 = .ok (.goto (-108), 3)) (by decide) ?_
  exact hC _ _ _ (Ok.some h)
def mX4_spanWith_102 (n : Nat) (s0 : Sg) (t0 : Int32) (t1 : Int32) (a0 : Nat) (x2 : Int32) (x4 : Int32) (x5 : Int32) (x6 : Int32) (x8 : Int32) (x9 : Int32) : Option ((Sg × Int32 × Int32) ⊕ (Sg × Int32)) :=
  nm (t1 - t0) fun v20 =>
  (toR (gV 4 s0 a0 0)).bind fun b21 =>
  (toI (aV 11 s0 b21 (x9 + x2))).bind fun v22 =>
  nm (v22 + x5) fun v23 =>
  (toR (gV 4 s0 a0 0)).bind fun b24 =>
  (toI (aV 11 s0 b24 (x9 + (0 : Int32)))).bind fun v25 =>
  if v23 ≤ v25 then (
    mX4_spanWith_146 n s0 v25 v20 a0 x2 x4 x5 x6 x8
  ) else (
    mX4_spanWith_146 n s0 v23 v20 a0 x2 x4 x5 x6 x8
  )
theorem bX4_spanWith_102 {G : Cx} {E : Ev} {n : Nat} (hRm : 2 ≤ E.1.frames ∧ 44 ≤ E.1.locals) {s0 : Sg} {t0 : Int32} {t1 : Int32} {a0 : Nat} {x2 : Int32} {x4 : Int32} {x5 : Int32} {x6 : Int32} {x8 : Int32} {x9 : Int32} {P : (Sg × Int32 × Int32) ⊕ (Sg × Int32) → Prop} (hC : ∀ (s : Sg) (c7 : Int32) (c8 : Int32), P (.inl (s, c7, c8)) → BW G tX4_spanWith E 0 0 44 [(0, .ref a0), (2, .int x2), (4, .int x4), (5, .int x5), (6, .int x6), (7, .int c7), (8, .int c8)] [] s) (hE : ∀ (s : Sg) (c7 : Int32), P (.inr (s, c7)) → BW G tX4_spanWith E 0 0 155 [(7, .int c7)] [] s)  (h : Ok (mX4_spanWith_102 n s0 t0 t1 a0 x2 x4 x5 x6 x8 x9) P) : BW G tX4_spanWith E 0 0 102 [(0, .ref a0), (2, .int x2), (4, .int x4), (5, .int x5), (6, .int x6), (8, .int x8), (9, .int x9)] [.int t0, .int t1] s0 := by
  unfold mX4_spanWith_102 at h
  refine BW.run [.isub] (pc' := 103) (lv' := [(0, .ref a0), (2, .int x2), (4, .int x4), (5, .int x5), (6, .int x6), (8, .int x8), (9, .int x9)]) (st' := [.int (t1 - t0)]) (by decide +kernel) rfl rfl ?_
  obtain ⟨v20, wv20, h⟩ := Ok.nm h
  refine BW.nm wv20 ?_
  refine BW.run [.istore 7, .aload_n 0] (pc' := 106) (lv' := [(0, .ref a0), (2, .int x2), (4, .int x4), (5, .int x5), (6, .int x6), (7, .int v20), (8, .int x8), (9, .int x9)]) (st' := [.ref a0]) (by decide +kernel) rfl rfl ?_
  obtain ⟨b21, eb21, h⟩ := Ok.bind h
  refine BW.get (by decide +kernel : decode tX4_spanWith.2.1 106 = .ok (.getfield 9, 3)) ciX4 (k := 0) (by decide) lkF_X4_9 (toR_V eb21) ?_
  refine BW.run [.iload 9, .iload_n 2, .iadd] (pc' := 113) (lv' := [(0, .ref a0), (2, .int x2), (4, .int x4), (5, .int x5), (6, .int x6), (7, .int v20), (8, .int x8), (9, .int x9)]) (st' := [.int (x9 + x2), .ref b21]) (by decide +kernel) rfl rfl ?_
  obtain ⟨v22, ev22, h⟩ := Ok.bind h
  refine BW.iald (by decide +kernel : decode tX4_spanWith.2.1 113 = .ok (.iaload, 1)) (toI_V ev22) ?_
  refine BW.run [.iload 5, .iadd] (pc' := 117) (lv' := [(0, .ref a0), (2, .int x2), (4, .int x4), (5, .int x5), (6, .int x6), (7, .int v20), (8, .int x8), (9, .int x9)]) (st' := [.int (v22 + x5)]) (by decide +kernel) rfl rfl ?_
  obtain ⟨v23, wv23, h⟩ := Ok.nm h
  refine BW.nm wv23 ?_
  refine BW.run [.istore 12, .aload_n 0] (pc' := 120) (lv' := [(0, .ref a0), (2, .int x2), (4, .int x4), (5, .int x5), (6, .int x6), (7, .int v20), (8, .int x8), (9, .int x9), (12, .int v23)]) (st' := [.ref a0]) (by decide +kernel) rfl rfl ?_
  obtain ⟨b24, eb24, h⟩ := Ok.bind h
  refine BW.get (by decide +kernel : decode tX4_spanWith.2.1 120 = .ok (.getfield 9, 3)) ciX4 (k := 0) (by decide) lkF_X4_9 (toR_V eb24) ?_
  refine BW.run [.iload 9, .iconst 0, .iadd] (pc' := 127) (lv' := [(0, .ref a0), (2, .int x2), (4, .int x4), (5, .int x5), (6, .int x6), (7, .int v20), (8, .int x8), (9, .int x9), (12, .int v23)]) (st' := [.int (x9 + (0 : Int32)), .ref b24]) (by decide +kernel) rfl rfl ?_
  obtain ⟨v25, ev25, h⟩ := Ok.bind h
  refine BW.iald (by decide +kernel : decode tX4_spanWith.2.1 127 = .ok (.iaload, 1)) (toI_V ev25) ?_
  refine BW.run [.istore 11, .iload 7, .iload 12, .iload 11] (pc' := 136) (lv' := [(0, .ref a0), (2, .int x2), (4, .int x4), (5, .int x5), (6, .int x6), (7, .int v20), (8, .int x8), (9, .int x9), (11, .int v25), (12, .int v23)]) (st' := [.int v25, .int v23, .int v20]) (by decide +kernel) rfl rfl ?_
  refine BW.icmp_le 144 (by decide +kernel : decode tX4_spanWith.2.1 136 = .ok (.if_icmp .le 8, 3)) (by decide) (fun hc => ?_) (fun hc => ?_)
  · have h := (Ok.ite h).1 hc
    refine BW.run [.iload 11] (pc' := 146) (lv' := [(0, .ref a0), (2, .int x2), (4, .int x4), (5, .int x5), (6, .int x6), (7, .int v20), (8, .int x8), (9, .int x9), (11, .int v25), (12, .int v23)]) (st' := [.int v25, .int v20]) (by decide +kernel) rfl rfl ?_
    refine BW.sub [0, 1, 2, 3, 4, 6] rfl ?_
    exact bX4_spanWith_146 hRm hC hE h
  · have h := (Ok.ite h).2 hc
    refine BW.run [.iload 12] (pc' := 141) (lv' := [(0, .ref a0), (2, .int x2), (4, .int x4), (5, .int x5), (6, .int x6), (7, .int v20), (8, .int x8), (9, .int x9), (11, .int v25), (12, .int v23)]) (st' := [.int v23, .int v20]) (by decide +kernel) rfl rfl ?_
    refine BW.goto 146 (by decide +kernel : decode tX4_spanWith.2.1 141 = .ok (.goto 5, 3)) (by decide) ?_
    refine BW.sub [0, 1, 2, 3, 4, 6] rfl ?_
    exact bX4_spanWith_146 hRm hC hE h
def mX4_spanWith_L44 (n : Nat) (a0 : Nat) (x2 : Int32) (x4 : Int32) (x5 : Int32) (x6 : Int32) : (Sg × Int32 × Int32) → Option ((Sg × Int32 × Int32) ⊕ (Sg × Int32))
  | (s0, x7, x8) =>
    (toI (gV 4 s0 a0 1)).bind fun v13 =>
    if v13 ≤ x8 then (
      some (.inr (s0, x7))
    ) else (
      nm (x8 * (9 : Int32)) fun v14 =>
      (toR (gV 4 s0 a0 0)).bind fun b15 =>
      (toI (aV 11 s0 b15 (x6 + x8))).bind fun v16 =>
      nm (x4 + v16) fun v17 =>
      (toR (gV 4 s0 a0 0)).bind fun b18 =>
      (toI (aV 11 s0 b18 ((0 : Int32) + x8))).bind fun v19 =>
      if v17 ≤ v19 then (
        mX4_spanWith_102 n s0 v19 x7 a0 x2 x4 x5 x6 x8 v14
      ) else (
        mX4_spanWith_102 n s0 v17 x7 a0 x2 x4 x5 x6 x8 v14
      )
    )
theorem bX4_spanWith_L44 {G : Cx} {E : Ev} {n : Nat} (hRm : 2 ≤ E.1.frames ∧ 44 ≤ E.1.locals) {a0 : Nat} {x2 : Int32} {x4 : Int32} {x5 : Int32} {x6 : Int32} {P : (Sg × Int32 × Int32) ⊕ (Sg × Int32) → Prop} (hC : ∀ (s : Sg) (c7 : Int32) (c8 : Int32), P (.inl (s, c7, c8)) → BW G tX4_spanWith E 0 0 44 [(0, .ref a0), (2, .int x2), (4, .int x4), (5, .int x5), (6, .int x6), (7, .int c7), (8, .int c8)] [] s) (hE : ∀ (s : Sg) (c7 : Int32), P (.inr (s, c7)) → BW G tX4_spanWith E 0 0 155 [(7, .int c7)] [] s) {s0 : Sg} {x7 : Int32} {x8 : Int32} (h : Ok (mX4_spanWith_L44 n a0 x2 x4 x5 x6 (s0, x7, x8)) P) : BW G tX4_spanWith E 0 0 44 [(0, .ref a0), (2, .int x2), (4, .int x4), (5, .int x5), (6, .int x6), (7, .int x7), (8, .int x8)] [] s0 := by
  unfold mX4_spanWith_L44 at h
  refine BW.run [.iload 8, .aload_n 0] (pc' := 47) (lv' := [(0, .ref a0), (2, .int x2), (4, .int x4), (5, .int x5), (6, .int x6), (7, .int x7), (8, .int x8)]) (st' := [.ref a0, .int x8]) (by decide +kernel) rfl rfl ?_
  obtain ⟨v13, ev13, h⟩ := Ok.bind h
  refine BW.get (by decide +kernel : decode tX4_spanWith.2.1 47 = .ok (.getfield 15, 3)) ciX4 (k := 1) (by decide) lkF_X4_15 (toI_V ev13) ?_
  refine BW.icmp_ge 155 (by decide +kernel : decode tX4_spanWith.2.1 50 = .ok (.if_icmp .ge 105, 3)) (by decide) (fun hc => ?_) (fun hc => ?_)
  · have h := (Ok.ite h).1 hc
    refine BW.sub [5] rfl ?_
    exact hE _ _ (Ok.some h)
  · have h := (Ok.ite h).2 hc
    refine BW.run [.iload 8, .bipush 9, .imul] (pc' := 58) (lv' := [(0, .ref a0), (2, .int x2), (4, .int x4), (5, .int x5), (6, .int x6), (7, .int x7), (8, .int x8)]) (st' := [.int (x8 * (9 : Int32))]) (by decide +kernel) rfl rfl ?_
    obtain ⟨v14, wv14, h⟩ := Ok.nm h
    refine BW.nm wv14 ?_
    refine BW.run [.istore 9, .iload 4, .aload_n 0] (pc' := 63) (lv' := [(0, .ref a0), (2, .int x2), (4, .int x4), (5, .int x5), (6, .int x6), (7, .int x7), (8, .int x8), (9, .int v14)]) (st' := [.ref a0, .int x4]) (by decide +kernel) rfl rfl ?_
    obtain ⟨b15, eb15, h⟩ := Ok.bind h
    refine BW.get (by decide +kernel : decode tX4_spanWith.2.1 63 = .ok (.getfield 9, 3)) ciX4 (k := 0) (by decide) lkF_X4_9 (toR_V eb15) ?_
    refine BW.run [.iload 6, .iload 8, .iadd] (pc' := 71) (lv' := [(0, .ref a0), (2, .int x2), (4, .int x4), (5, .int x5), (6, .int x6), (7, .int x7), (8, .int x8), (9, .int v14)]) (st' := [.int (x6 + x8), .ref b15, .int x4]) (by decide +kernel) rfl rfl ?_
    obtain ⟨v16, ev16, h⟩ := Ok.bind h
    refine BW.iald (by decide +kernel : decode tX4_spanWith.2.1 71 = .ok (.iaload, 1)) (toI_V ev16) ?_
    refine BW.run [.iadd] (pc' := 73) (lv' := [(0, .ref a0), (2, .int x2), (4, .int x4), (5, .int x5), (6, .int x6), (7, .int x7), (8, .int x8), (9, .int v14)]) (st' := [.int (x4 + v16)]) (by decide +kernel) rfl rfl ?_
    obtain ⟨v17, wv17, h⟩ := Ok.nm h
    refine BW.nm wv17 ?_
    refine BW.run [.istore 10, .aload_n 0] (pc' := 76) (lv' := [(0, .ref a0), (2, .int x2), (4, .int x4), (5, .int x5), (6, .int x6), (7, .int x7), (8, .int x8), (9, .int v14), (10, .int v17)]) (st' := [.ref a0]) (by decide +kernel) rfl rfl ?_
    obtain ⟨b18, eb18, h⟩ := Ok.bind h
    refine BW.get (by decide +kernel : decode tX4_spanWith.2.1 76 = .ok (.getfield 9, 3)) ciX4 (k := 0) (by decide) lkF_X4_9 (toR_V eb18) ?_
    refine BW.run [.iconst 0, .iload 8, .iadd] (pc' := 83) (lv' := [(0, .ref a0), (2, .int x2), (4, .int x4), (5, .int x5), (6, .int x6), (7, .int x7), (8, .int x8), (9, .int v14), (10, .int v17)]) (st' := [.int ((0 : Int32) + x8), .ref b18]) (by decide +kernel) rfl rfl ?_
    obtain ⟨v19, ev19, h⟩ := Ok.bind h
    refine BW.iald (by decide +kernel : decode tX4_spanWith.2.1 83 = .ok (.iaload, 1)) (toI_V ev19) ?_
    refine BW.run [.istore 11, .iload 7, .iload 10, .iload 11] (pc' := 92) (lv' := [(0, .ref a0), (2, .int x2), (4, .int x4), (5, .int x5), (6, .int x6), (7, .int x7), (8, .int x8), (9, .int v14), (10, .int v17), (11, .int v19)]) (st' := [.int v19, .int v17, .int x7]) (by decide +kernel) rfl rfl ?_
    refine BW.icmp_le 100 (by decide +kernel : decode tX4_spanWith.2.1 92 = .ok (.if_icmp .le 8, 3)) (by decide) (fun hc => ?_) (fun hc => ?_)
    · have h := (Ok.ite h).1 hc
      refine BW.run [.iload 11] (pc' := 102) (lv' := [(0, .ref a0), (2, .int x2), (4, .int x4), (5, .int x5), (6, .int x6), (7, .int x7), (8, .int x8), (9, .int v14), (10, .int v17), (11, .int v19)]) (st' := [.int v19, .int x7]) (by decide +kernel) rfl rfl ?_
      refine BW.sub [0, 1, 2, 3, 4, 6, 7] rfl ?_
      exact bX4_spanWith_102 hRm hC hE h
    · have h := (Ok.ite h).2 hc
      refine BW.run [.iload 10] (pc' := 97) (lv' := [(0, .ref a0), (2, .int x2), (4, .int x4), (5, .int x5), (6, .int x6), (7, .int x7), (8, .int x8), (9, .int v14), (10, .int v17), (11, .int v19)]) (st' := [.int v17, .int x7]) (by decide +kernel) rfl rfl ?_
      refine BW.goto 102 (by decide +kernel : decode tX4_spanWith.2.1 97 = .ok (.goto 5, 3)) (by decide) ?_
      refine BW.sub [0, 1, 2, 3, 4, 6, 7] rfl ?_
      exact bX4_spanWith_102 hRm hC hE h
theorem bX4_spanWith_W44 {G : Cx} {E : Ev} {n : Nat} (hRm : 2 ≤ E.1.frames ∧ 44 ≤ E.1.locals) {a0 : Nat} {x2 : Int32} {x4 : Int32} {x5 : Int32} {x6 : Int32} {K : (Sg × Int32) → Prop} (hE : ∀ (s : Sg) (c7 : Int32), K (s, c7) → BW G tX4_spanWith E 0 0 155 [(7, .int c7)] [] s) : ∀ (f : Nat) (c : Sg × Int32 × Int32), Ok (loopM (mX4_spanWith_L44 n a0 x2 x4 x5 x6) f c) K → match c with | (s0, x7, x8) => BW G tX4_spanWith E 0 0 44 [(0, .ref a0), (2, .int x2), (4, .int x4), (5, .int x5), (6, .int x6), (7, .int x7), (8, .int x8)] [] s0 := by
  intro f
  induction f with
  | zero => intro c h; exact (Ok.no h).elim
  | succ f ih =>
    intro c h
    obtain ⟨s0, x7, x8⟩ := c
    exact bX4_spanWith_L44 (P := loopP (mX4_spanWith_L44 n a0 x2 x4 x5 x6) f K) hRm (fun s c7 c8 h => ih (s, c7, c8) h) hE (loopM_ok h)
def mX4_spanWith (n : Nat) (s0 : Sg) (a0 : Nat) (x1 : Int32) (x2 : Int32) (x3 : Int32) : Option (Int32 × Sg) :=
  (isO 4 s0 a0).bind fun _ =>
  (mX4_fits n s0 a0 x1 x2 x3).bind fun (v2, s1) =>
  if v2 = 0 then (
    some ((0 : Int32), s1)
  ) else (
    (mX4_least n s1 a0 (0 : Int32) x2).bind fun (v5, s4) =>
    nm (v5 + x3) fun v7 =>
    (mX4_least n s4 a0 x1 (0 : Int32)).bind fun (v9, s8) =>
    nm (x3 + v9) fun v11 =>
    nm (x1 * (9 : Int32)) fun v12 =>
    (loopM (mX4_spanWith_L44 n a0 x2 v7 v11 v12) n (s8, (0 : Int32), (1 : Int32))).bind fun (s27, v28) =>
    some (v28, s27)
  )
theorem bX4_spanWith {G : Cx} {E : Ev} {n : Nat} (hRm : 2 ≤ E.1.frames ∧ 44 ≤ E.1.locals) {P : Int32 × Sg → Prop} (hQ : ∀ r s, P (r, s) → E.2.2.2.2 (some (.int r)) s) {s0 : Sg} {a0 : Nat} {x1 : Int32} {x2 : Int32} {x3 : Int32} (h : Ok (mX4_spanWith n s0 a0 x1 x2 x3) P) : BW G tX4_spanWith E 0 0 0 [(0, .ref a0), (1, .int x1), (2, .int x2), (3, .int x3)] [] s0 := by
  unfold mX4_spanWith at h
  obtain ⟨_, _, h⟩ := Ok.bind h
  refine BW.run [.aload_n 0, .iload_n 1, .iload_n 2, .iload_n 3] (pc' := 4) (lv' := [(0, .ref a0), (1, .int x1), (2, .int x2), (3, .int x3)]) (st' := [.int x3, .int x2, .int x1, .ref a0]) (by decide +kernel) rfl rfl ?_
  refine BW.callV (As := [.int x1, .int x2, .int x3]) (st := []) (by decide +kernel : decode tX4_spanWith.2.1 4 = .ok (.invokevirtual 54, 3)) (DX4_fits (Ok.bindK h)) mfX4_fits lkM_X4_54 imX4_fits selX4_fits ciX4 (oX4_fits (Ok.bindK h)).choose_spec rfl rfl (Nat.le_of_ble_eq_true rfl) ⟨Nat.le_trans (by decide) hRm.1, Nat.le_trans (by decide) hRm.2⟩ ⟨Nat.zero_le _, Nat.zero_le _⟩ ?_
  rintro _ s1 ⟨v2, rfl, h⟩
  show BW G tX4_spanWith E 0 0 7 [(0, .ref a0), (1, .int x1), (2, .int x2), (3, .int x3)] [.int v2] s1
  refine BW.if_ne 12 (by decide +kernel : decode tX4_spanWith.2.1 7 = .ok (.ifCond .ne 5, 3)) (by decide) (fun hc => ?_) (fun hc => ?_)
  · have h := (Ok.ite h).2 hc
    refine BW.run [.aload_n 0, .iconst 0, .iload_n 2] (pc' := 15) (lv' := [(0, .ref a0), (1, .int x1), (2, .int x2), (3, .int x3)]) (st' := [.int x2, .int (0 : Int32), .ref a0]) (by decide +kernel) rfl rfl ?_
    refine BW.callV (As := [.int (0 : Int32), .int x2]) (st := []) (by decide +kernel : decode tX4_spanWith.2.1 15 = .ok (.invokevirtual 57, 3)) (DX4_least (Ok.bindK h)) mfX4_least lkM_X4_57 imX4_least selX4_least ciX4 (oX4_least (Ok.bindK h)).choose_spec rfl rfl (Nat.le_of_ble_eq_true rfl) ⟨Nat.le_trans (by decide) hRm.1, Nat.le_trans (by decide) hRm.2⟩ ⟨Nat.zero_le _, Nat.zero_le _⟩ ?_
    rintro _ s4 ⟨v5, rfl, h⟩
    show BW G tX4_spanWith E 0 0 18 [(0, .ref a0), (1, .int x1), (2, .int x2), (3, .int x3)] [.int v5] s4
    refine BW.run [.iload_n 3, .iadd] (pc' := 20) (lv' := [(0, .ref a0), (1, .int x1), (2, .int x2), (3, .int x3)]) (st' := [.int (v5 + x3)]) (by decide +kernel) rfl rfl ?_
    obtain ⟨v7, wv7, h⟩ := Ok.nm h
    refine BW.nm wv7 ?_
    refine BW.run [.istore 4, .iload_n 3, .aload_n 0, .iload_n 1, .iconst 0] (pc' := 26) (lv' := [(0, .ref a0), (1, .int x1), (2, .int x2), (3, .int x3), (4, .int v7)]) (st' := [.int (0 : Int32), .int x1, .ref a0, .int x3]) (by decide +kernel) rfl rfl ?_
    refine BW.callV (As := [.int x1, .int (0 : Int32)]) (st := [.int x3]) (by decide +kernel : decode tX4_spanWith.2.1 26 = .ok (.invokevirtual 57, 3)) (DX4_least (Ok.bindK h)) mfX4_least lkM_X4_57 imX4_least selX4_least ciX4 (oX4_least (Ok.bindK h)).choose_spec rfl rfl (Nat.le_of_ble_eq_true rfl) ⟨Nat.le_trans (by decide) hRm.1, Nat.le_trans (by decide) hRm.2⟩ ⟨Nat.zero_le _, Nat.zero_le _⟩ ?_
    rintro _ s8 ⟨v9, rfl, h⟩
    show BW G tX4_spanWith E 0 0 29 [(0, .ref a0), (1, .int x1), (2, .int x2), (3, .int x3), (4, .int v7)] [.int v9, .int x3] s8
    refine BW.run [.iadd] (pc' := 30) (lv' := [(0, .ref a0), (1, .int x1), (2, .int x2), (3, .int x3), (4, .int v7)]) (st' := [.int (x3 + v9)]) (by decide +kernel) rfl rfl ?_
    obtain ⟨v11, wv11, h⟩ := Ok.nm h
    refine BW.nm wv11 ?_
    refine BW.run [.istore 5, .iload_n 1, .bipush 9, .imul] (pc' := 36) (lv' := [(0, .ref a0), (1, .int x1), (2, .int x2), (3, .int x3), (4, .int v7), (5, .int v11)]) (st' := [.int (x1 * (9 : Int32))]) (by decide +kernel) rfl rfl ?_
    obtain ⟨v12, wv12, h⟩ := Ok.nm h
    refine BW.nm wv12 ?_
    refine BW.run [.istore 6, .iconst 0, .istore 7, .iconst 1, .istore 8] (pc' := 44) (lv' := [(0, .ref a0), (1, .int x1), (2, .int x2), (3, .int x3), (4, .int v7), (5, .int v11), (6, .int v12), (7, .int (0 : Int32)), (8, .int (1 : Int32))]) (st' := []) (by decide +kernel) rfl rfl ?_
    refine BW.sub [0, 2, 4, 5, 6, 7, 8] rfl ?_
    refine bX4_spanWith_W44 hRm (a0 := a0) (x2 := x2) (x4 := v7) (x5 := v11) (x6 := v12) (fun s27 v28 h => ?_) n (s8, (0 : Int32), (1 : Int32)) (Ok.bindK h)
    refine BW.run [.iload 7] (pc' := 157) (lv' := [(7, .int v28)]) (st' := [.int v28]) (by decide +kernel) rfl rfl ?_
    exact BW.iret (by decide +kernel : decode tX4_spanWith.2.1 157 = .ok (.ireturn, 1)) rfl (Nat.zero_le _) (Nat.zero_le _) (hQ _ _ (Ok.some h))
  · have h := (Ok.ite h).1 hc
    refine BW.run [.iconst 0] (pc' := 11) (lv' := [(0, .ref a0), (1, .int x1), (2, .int x2), (3, .int x3)]) (st' := [.int (0 : Int32)]) (by decide +kernel) rfl rfl ?_
    exact BW.iret (by decide +kernel : decode tX4_spanWith.2.1 11 = .ok (.ireturn, 1)) rfl (Nat.zero_le _) (Nat.zero_le _) (hQ _ _ (Ok.some h))
theorem oX4_spanWith {n : Nat} {P : Int32 × Sg → Prop} {s0 : Sg} {a0 : Nat} {x1 : Int32} {x2 : Int32} {x3 : Int32} (h : Ok (mX4_spanWith n s0 a0 x1 x2 x3) P) : ∃ n0, s0.2.1 a0 = some (4, n0) := by
  unfold mX4_spanWith at h
  exact Ok.isO h
theorem DX4_spanWith {G : Cx} {n : Nat} {P : Int32 × Sg → Prop} {s0 : Sg} {a0 : Nat} {x1 : Int32} {x2 : Int32} {x3 : Int32} (h : Ok (mX4_spanWith n s0 a0 x1 x2 x3) P) : BM G tX4_spanWith 2 44 0 0 [.ref a0, .int x1, .int x2, .int x3] s0 (fun v s => ∃ r, v = some (.int r) ∧ P (r, s)) := by
  refine BM.of (by decide +kernel) (Nat.le_of_ble_eq_true rfl) ?_
  exact bX4_spanWith (E := (({ frames := 2, cells := 0, slots := 0, locals := 44 }), Aof s0, 0, 0, (fun v s => ∃ r, v = some (.int r) ∧ P (r, s)))) ⟨Nat.le_refl _, Nat.le_refl _⟩ (fun r s hp => ⟨r, rfl, hp⟩) h
def mX4_takes (n : Nat) (s0 : Sg) (a0 : Nat) (a1 : Nat) : Option (Int32 × Sg) :=
  (isO 4 s0 a0).bind fun _ =>
  (toI (gV 2 s0 a1 1)).bind fun v1 =>
  (toI (gV 2 s0 a1 2)).bind fun v2 =>
  (toI (gV 2 s0 a1 3)).bind fun v3 =>
  (mX4_takesGap n s0 a0 v1 v2 v3).bind fun (v5, s4) =>
  if v5 = 0 then (
    some ((0 : Int32), s4)
  ) else (
    (toI (gV 2 s4 a1 2)).bind fun v7 =>
    (toI (gV 2 s4 a1 1)).bind fun v8 =>
    (toI (gV 2 s4 a1 4)).bind fun v9 =>
    (mX4_takesGap n s4 a0 v7 v8 (-v9)).bind fun (v11, s10) =>
    if v11 = 0 then (
      some ((0 : Int32), s10)
    ) else (
      some ((1 : Int32), s10)
    )
  )
theorem bX4_takes {G : Cx} {E : Ev} {n : Nat} (hRm : 3 ≤ E.1.frames ∧ 69 ≤ E.1.locals) {P : Int32 × Sg → Prop} (hQ : ∀ r s, P (r, s) → E.2.2.2.2 (some (.int r)) s) {s0 : Sg} {a0 : Nat} {a1 : Nat} (h : Ok (mX4_takes n s0 a0 a1) P) : BW G tX4_takes E 0 0 0 [(0, .ref a0), (1, .ref a1)] [] s0 := by
  unfold mX4_takes at h
  obtain ⟨_, _, h⟩ := Ok.bind h
  refine BW.run [.aload_n 0, .aload_n 1] (pc' := 2) (lv' := [(0, .ref a0), (1, .ref a1)]) (st' := [.ref a1, .ref a0]) (by decide +kernel) rfl rfl ?_
  obtain ⟨v1, ev1, h⟩ := Ok.bind h
  refine BW.getN (by decide +kernel : decode tX4_takes.2.1 2 = .ok (.getfield 36, 3)) ciX2 (k := 1) (by decide) lkF_X4_36 (toI_V ev1) ?_
  refine BW.run [.aload_n 1] (pc' := 6) (lv' := [(0, .ref a0), (1, .ref a1)]) (st' := [.ref a1, .int v1, .ref a0]) (by decide +kernel) rfl rfl ?_
  obtain ⟨v2, ev2, h⟩ := Ok.bind h
  refine BW.getN (by decide +kernel : decode tX4_takes.2.1 6 = .ok (.getfield 41, 3)) ciX2 (k := 2) (by decide) lkF_X4_41 (toI_V ev2) ?_
  refine BW.run [.aload_n 1] (pc' := 10) (lv' := [(0, .ref a0), (1, .ref a1)]) (st' := [.ref a1, .int v2, .int v1, .ref a0]) (by decide +kernel) rfl rfl ?_
  obtain ⟨v3, ev3, h⟩ := Ok.bind h
  refine BW.getN (by decide +kernel : decode tX4_takes.2.1 10 = .ok (.getfield 44, 3)) ciX2 (k := 3) (by decide) lkF_X4_44 (toI_V ev3) ?_
  refine BW.callV (As := [.int v1, .int v2, .int v3]) (st := []) (by decide +kernel : decode tX4_takes.2.1 13 = .ok (.invokevirtual 47, 3)) (DX4_takesGap (Ok.bindK h)) mfX4_takesGap lkM_X4_47 imX4_takesGap selX4_takesGap ciX4 (oX4_takesGap (Ok.bindK h)).choose_spec rfl rfl (Nat.le_of_ble_eq_true rfl) ⟨Nat.le_trans (by decide) hRm.1, Nat.le_trans (by decide) hRm.2⟩ ⟨Nat.zero_le _, Nat.zero_le _⟩ ?_
  rintro _ s4 ⟨v5, rfl, h⟩
  show BW G tX4_takes E 0 0 16 [(0, .ref a0), (1, .ref a1)] [.int v5] s4
  refine BW.if_eq 43 (by decide +kernel : decode tX4_takes.2.1 16 = .ok (.ifCond .eq 27, 3)) (by decide) (fun hc => ?_) (fun hc => ?_)
  · have h := (Ok.ite h).1 hc
    refine BW.run [.iconst 0] (pc' := 44) (lv' := [(0, .ref a0), (1, .ref a1)]) (st' := [.int (0 : Int32)]) (by decide +kernel) rfl rfl ?_
    exact BW.zret (by decide +kernel : decode tX4_takes.2.1 44 = .ok (.ireturn, 1)) rfl (Or.inl rfl) (Nat.zero_le _) (Nat.zero_le _) (hQ _ _ (Ok.some h))
  · have h := (Ok.ite h).2 hc
    refine BW.run [.aload_n 0, .aload_n 1] (pc' := 21) (lv' := [(0, .ref a0), (1, .ref a1)]) (st' := [.ref a1, .ref a0]) (by decide +kernel) rfl rfl ?_
    obtain ⟨v7, ev7, h⟩ := Ok.bind h
    refine BW.getN (by decide +kernel : decode tX4_takes.2.1 21 = .ok (.getfield 41, 3)) ciX2 (k := 2) (by decide) lkF_X4_41 (toI_V ev7) ?_
    refine BW.run [.aload_n 1] (pc' := 25) (lv' := [(0, .ref a0), (1, .ref a1)]) (st' := [.ref a1, .int v7, .ref a0]) (by decide +kernel) rfl rfl ?_
    obtain ⟨v8, ev8, h⟩ := Ok.bind h
    refine BW.getN (by decide +kernel : decode tX4_takes.2.1 25 = .ok (.getfield 36, 3)) ciX2 (k := 1) (by decide) lkF_X4_36 (toI_V ev8) ?_
    refine BW.run [.aload_n 1] (pc' := 29) (lv' := [(0, .ref a0), (1, .ref a1)]) (st' := [.ref a1, .int v8, .int v7, .ref a0]) (by decide +kernel) rfl rfl ?_
    obtain ⟨v9, ev9, h⟩ := Ok.bind h
    refine BW.getN (by decide +kernel : decode tX4_takes.2.1 29 = .ok (.getfield 51, 3)) ciX2 (k := 4) (by decide) lkF_X4_51 (toI_V ev9) ?_
    refine BW.run [.ineg] (pc' := 33) (lv' := [(0, .ref a0), (1, .ref a1)]) (st' := [.int (-v9), .int v8, .int v7, .ref a0]) (by decide +kernel) rfl rfl ?_
    refine BW.callV (As := [.int v7, .int v8, .int (-v9)]) (st := []) (by decide +kernel : decode tX4_takes.2.1 33 = .ok (.invokevirtual 47, 3)) (DX4_takesGap (Ok.bindK h)) mfX4_takesGap lkM_X4_47 imX4_takesGap selX4_takesGap ciX4 (oX4_takesGap (Ok.bindK h)).choose_spec rfl rfl (Nat.le_of_ble_eq_true rfl) ⟨Nat.le_trans (by decide) hRm.1, Nat.le_trans (by decide) hRm.2⟩ ⟨Nat.zero_le _, Nat.zero_le _⟩ ?_
    rintro _ s10 ⟨v11, rfl, h⟩
    show BW G tX4_takes E 0 0 36 [(0, .ref a0), (1, .ref a1)] [.int v11] s10
    refine BW.if_eq 43 (by decide +kernel : decode tX4_takes.2.1 36 = .ok (.ifCond .eq 7, 3)) (by decide) (fun hc => ?_) (fun hc => ?_)
    · have h := (Ok.ite h).1 hc
      refine BW.run [.iconst 0] (pc' := 44) (lv' := [(0, .ref a0), (1, .ref a1)]) (st' := [.int (0 : Int32)]) (by decide +kernel) rfl rfl ?_
      exact BW.zret (by decide +kernel : decode tX4_takes.2.1 44 = .ok (.ireturn, 1)) rfl (Or.inl rfl) (Nat.zero_le _) (Nat.zero_le _) (hQ _ _ (Ok.some h))
    · have h := (Ok.ite h).2 hc
      refine BW.run [.iconst 1] (pc' := 40) (lv' := [(0, .ref a0), (1, .ref a1)]) (st' := [.int (1 : Int32)]) (by decide +kernel) rfl rfl ?_
      refine BW.goto 44 (by decide +kernel : decode tX4_takes.2.1 40 = .ok (.goto 4, 3)) (by decide) ?_
      exact BW.zret (by decide +kernel : decode tX4_takes.2.1 44 = .ok (.ireturn, 1)) rfl (Or.inr rfl) (Nat.zero_le _) (Nat.zero_le _) (hQ _ _ (Ok.some h))
theorem oX4_takes {n : Nat} {P : Int32 × Sg → Prop} {s0 : Sg} {a0 : Nat} {a1 : Nat} (h : Ok (mX4_takes n s0 a0 a1) P) : ∃ n0, s0.2.1 a0 = some (4, n0) := by
  unfold mX4_takes at h
  exact Ok.isO h
theorem DX4_takes {G : Cx} {n : Nat} {P : Int32 × Sg → Prop} {s0 : Sg} {a0 : Nat} {a1 : Nat} (h : Ok (mX4_takes n s0 a0 a1) P) : BM G tX4_takes 3 69 0 0 [.ref a0, .ref a1] s0 (fun v s => ∃ r, v = some (.int r) ∧ P (r, s)) := by
  refine BM.of (by decide +kernel) (Nat.le_of_ble_eq_true rfl) ?_
  exact bX4_takes (E := (({ frames := 3, cells := 0, slots := 0, locals := 69 }), Aof s0, 0, 0, (fun v s => ∃ r, v = some (.int r) ∧ P (r, s)))) ⟨Nat.le_refl _, Nat.le_refl _⟩ (fun r s hp => ⟨r, rfl, hp⟩) h
def mX4_wholeSpan_L4 (n : Nat) (a0 : Nat) : (Sg × Int32 × Int32) → Option ((Sg × Int32 × Int32) ⊕ (Sg × Int32))
  | (s0, x1, x2) =>
    (toI (gV 4 s0 a0 1)).bind fun v1 =>
    if v1 ≤ x2 then (
      some (.inr (s0, x1))
    ) else (
      (mX4_least n s0 a0 x2 (0 : Int32)).bind fun (v3, s2) =>
      (mX4_least n s2 a0 (0 : Int32) x2).bind fun (v6, s5) =>
      nm (x1 - (v3 + v6)) fun v8 =>
      some (.inl (s5, v8, (x2 + (1 : Int32))))
    )
theorem bX4_wholeSpan_L4 {G : Cx} {E : Ev} {n : Nat} (hRm : 2 ≤ E.1.frames ∧ 43 ≤ E.1.locals) {a0 : Nat} {P : (Sg × Int32 × Int32) ⊕ (Sg × Int32) → Prop} (hC : ∀ (s : Sg) (c1 : Int32) (c2 : Int32), P (.inl (s, c1, c2)) → BW G tX4_wholeSpan E 0 0 4 [(0, .ref a0), (1, .int c1), (2, .int c2)] [] s) (hE : ∀ (s : Sg) (c1 : Int32), P (.inr (s, c1)) → BW G tX4_wholeSpan E 0 0 34 [(1, .int c1)] [] s) {s0 : Sg} {x1 : Int32} {x2 : Int32} (h : Ok (mX4_wholeSpan_L4 n a0 (s0, x1, x2)) P) : BW G tX4_wholeSpan E 0 0 4 [(0, .ref a0), (1, .int x1), (2, .int x2)] [] s0 := by
  unfold mX4_wholeSpan_L4 at h
  refine BW.run [.iload_n 2, .aload_n 0] (pc' := 6) (lv' := [(0, .ref a0), (1, .int x1), (2, .int x2)]) (st' := [.ref a0, .int x2]) (by decide +kernel) rfl rfl ?_
  obtain ⟨v1, ev1, h⟩ := Ok.bind h
  refine BW.get (by decide +kernel : decode tX4_wholeSpan.2.1 6 = .ok (.getfield 15, 3)) ciX4 (k := 1) (by decide) lkF_X4_15 (toI_V ev1) ?_
  refine BW.icmp_ge 34 (by decide +kernel : decode tX4_wholeSpan.2.1 9 = .ok (.if_icmp .ge 25, 3)) (by decide) (fun hc => ?_) (fun hc => ?_)
  · have h := (Ok.ite h).1 hc
    refine BW.sub [1] rfl ?_
    exact hE _ _ (Ok.some h)
  · have h := (Ok.ite h).2 hc
    refine BW.run [.iload_n 1, .aload_n 0, .iload_n 2, .iconst 0] (pc' := 16) (lv' := [(0, .ref a0), (1, .int x1), (2, .int x2)]) (st' := [.int (0 : Int32), .int x2, .ref a0, .int x1]) (by decide +kernel) rfl rfl ?_
    refine BW.callV (As := [.int x2, .int (0 : Int32)]) (st := [.int x1]) (by decide +kernel : decode tX4_wholeSpan.2.1 16 = .ok (.invokevirtual 57, 3)) (DX4_least (Ok.bindK h)) mfX4_least lkM_X4_57 imX4_least selX4_least ciX4 (oX4_least (Ok.bindK h)).choose_spec rfl rfl (Nat.le_of_ble_eq_true rfl) ⟨Nat.le_trans (by decide) hRm.1, Nat.le_trans (by decide) hRm.2⟩ ⟨Nat.zero_le _, Nat.zero_le _⟩ ?_
    rintro _ s2 ⟨v3, rfl, h⟩
    show BW G tX4_wholeSpan E 0 0 19 [(0, .ref a0), (1, .int x1), (2, .int x2)] [.int v3, .int x1] s2
    refine BW.run [.aload_n 0, .iconst 0, .iload_n 2] (pc' := 22) (lv' := [(0, .ref a0), (1, .int x1), (2, .int x2)]) (st' := [.int x2, .int (0 : Int32), .ref a0, .int v3, .int x1]) (by decide +kernel) rfl rfl ?_
    refine BW.callV (As := [.int (0 : Int32), .int x2]) (st := [.int v3, .int x1]) (by decide +kernel : decode tX4_wholeSpan.2.1 22 = .ok (.invokevirtual 57, 3)) (DX4_least (Ok.bindK h)) mfX4_least lkM_X4_57 imX4_least selX4_least ciX4 (oX4_least (Ok.bindK h)).choose_spec rfl rfl (Nat.le_of_ble_eq_true rfl) ⟨Nat.le_trans (by decide) hRm.1, Nat.le_trans (by decide) hRm.2⟩ ⟨Nat.zero_le _, Nat.zero_le _⟩ ?_
    rintro _ s5 ⟨v6, rfl, h⟩
    show BW G tX4_wholeSpan E 0 0 25 [(0, .ref a0), (1, .int x1), (2, .int x2)] [.int v6, .int v3, .int x1] s5
    refine BW.run [.iadd, .isub] (pc' := 27) (lv' := [(0, .ref a0), (1, .int x1), (2, .int x2)]) (st' := [.int (x1 - (v3 + v6))]) (by decide +kernel) rfl rfl ?_
    obtain ⟨v8, wv8, h⟩ := Ok.nm h
    refine BW.nm wv8 ?_
    refine BW.run [.istore_n 1, .iinc 2 1] (pc' := 31) (lv' := [(0, .ref a0), (1, .int v8), (2, .int (x2 + (1 : Int32)))]) (st' := []) (by decide +kernel) rfl rfl ?_
    refine BW.goto 4 (by decide +kernel : decode tX4_wholeSpan.2.1 31 = .ok (.goto (-27), 3)) (by decide) ?_
    exact hC _ _ _ (Ok.some h)
theorem bX4_wholeSpan_W4 {G : Cx} {E : Ev} {n : Nat} (hRm : 2 ≤ E.1.frames ∧ 43 ≤ E.1.locals) {a0 : Nat} {K : (Sg × Int32) → Prop} (hE : ∀ (s : Sg) (c1 : Int32), K (s, c1) → BW G tX4_wholeSpan E 0 0 34 [(1, .int c1)] [] s) : ∀ (f : Nat) (c : Sg × Int32 × Int32), Ok (loopM (mX4_wholeSpan_L4 n a0) f c) K → match c with | (s0, x1, x2) => BW G tX4_wholeSpan E 0 0 4 [(0, .ref a0), (1, .int x1), (2, .int x2)] [] s0 := by
  intro f
  induction f with
  | zero => intro c h; exact (Ok.no h).elim
  | succ f ih =>
    intro c h
    obtain ⟨s0, x1, x2⟩ := c
    exact bX4_wholeSpan_L4 (P := loopP (mX4_wholeSpan_L4 n a0) f K) hRm (fun s c1 c2 h => ih (s, c1, c2) h) hE (loopM_ok h)
def mX4_wholeSpan (n : Nat) (s0 : Sg) (a0 : Nat) : Option (Int32 × Sg) :=
  (isO 4 s0 a0).bind fun _ =>
  (loopM (mX4_wholeSpan_L4 n a0) n (s0, (0 : Int32), (1 : Int32))).bind fun (s9, v10) =>
  some (v10, s9)
theorem bX4_wholeSpan {G : Cx} {E : Ev} {n : Nat} (hRm : 2 ≤ E.1.frames ∧ 43 ≤ E.1.locals) {P : Int32 × Sg → Prop} (hQ : ∀ r s, P (r, s) → E.2.2.2.2 (some (.int r)) s) {s0 : Sg} {a0 : Nat} (h : Ok (mX4_wholeSpan n s0 a0) P) : BW G tX4_wholeSpan E 0 0 0 [(0, .ref a0)] [] s0 := by
  unfold mX4_wholeSpan at h
  obtain ⟨_, _, h⟩ := Ok.bind h
  refine BW.run [.iconst 0, .istore_n 1, .iconst 1, .istore_n 2] (pc' := 4) (lv' := [(0, .ref a0), (1, .int (0 : Int32)), (2, .int (1 : Int32))]) (st' := []) (by decide +kernel) rfl rfl ?_
  refine bX4_wholeSpan_W4 hRm (a0 := a0) (fun s9 v10 h => ?_) n (s0, (0 : Int32), (1 : Int32)) (Ok.bindK h)
  refine BW.run [.iload_n 1] (pc' := 35) (lv' := [(1, .int v10)]) (st' := [.int v10]) (by decide +kernel) rfl rfl ?_
  exact BW.iret (by decide +kernel : decode tX4_wholeSpan.2.1 35 = .ok (.ireturn, 1)) rfl (Nat.zero_le _) (Nat.zero_le _) (hQ _ _ (Ok.some h))
theorem oX4_wholeSpan {n : Nat} {P : Int32 × Sg → Prop} {s0 : Sg} {a0 : Nat} (h : Ok (mX4_wholeSpan n s0 a0) P) : ∃ n0, s0.2.1 a0 = some (4, n0) := by
  unfold mX4_wholeSpan at h
  exact Ok.isO h
theorem DX4_wholeSpan {G : Cx} {n : Nat} {P : Int32 × Sg → Prop} {s0 : Sg} {a0 : Nat} (h : Ok (mX4_wholeSpan n s0 a0) P) : BM G tX4_wholeSpan 2 43 0 0 [.ref a0] s0 (fun v s => ∃ r, v = some (.int r) ∧ P (r, s)) := by
  refine BM.of (by decide +kernel) (Nat.le_of_ble_eq_true rfl) ?_
  exact bX4_wholeSpan (E := (({ frames := 2, cells := 0, slots := 0, locals := 43 }), Aof s0, 0, 0, (fun v s => ∃ r, v = some (.int r) ∧ P (r, s)))) ⟨Nat.le_refl _, Nat.le_refl _⟩ (fun r s hp => ⟨r, rfl, hp⟩) h
