def mX9_walkOf (n : Nat) (s0 : Sg) (a0 : Nat) (x1 : Int32) : Option (Option Nat × Sg) :=
  (isO 9 s0 a0).bind fun _ =>
  if x1 < 0 then (
    some (none, s0)
  ) else (
    (toI (gV 9 s0 a0 6)).bind fun v1 =>
    if v1 ≤ x1 then (
      some (none, s0)
    ) else (
      (toR (gV 9 s0 a0 5)).bind fun b2 =>
      (toQ (aV 13 s0 b2 x1)).bind fun q3 => match q3 with
      | none => (
        some (none, s0)
      )
      | some b4 => (
        some (some b4, s0)
      )
    )
  )
theorem bX9_walkOf {G : Cx} {E : Ev} {n : Nat} (hRm : 0 ≤ E.1.frames ∧ 0 ≤ E.1.locals) {P : Option Nat × Sg → Prop} (hQ : ∀ r s, P (r, s) → E.2.2.2.2 (some (va_rf r)) s) {s0 : Sg} {a0 : Nat} {x1 : Int32} (h : Ok (mX9_walkOf n s0 a0 x1) P) : BW G tX9_walkOf E 0 0 0 [(0, .ref a0), (1, .int x1)] [] s0 := by
  unfold mX9_walkOf at h
  obtain ⟨_, _, h⟩ := Ok.bind h
  refine BW.run [.iload_n 1] (pc' := 1) (lv' := [(0, .ref a0), (1, .int x1)]) (st' := [.int x1]) (by decide +kernel) rfl rfl ?_
  refine BW.if_lt 21 (by decide +kernel : decode tX9_walkOf.2.1 1 = .ok (.ifCond .lt 20, 3)) (by decide) (fun hc => ?_) (fun hc => ?_)
  · have h := (Ok.ite h).1 hc
    refine BW.run [.aconst_null] (pc' := 22) (lv' := [(0, .ref a0), (1, .int x1)]) (st' := [.null]) (by decide +kernel) rfl rfl ?_
    exact BW.aret (q := none) (by decide +kernel : decode tX9_walkOf.2.1 22 = .ok (.areturn, 1)) rfl (Nat.zero_le _) (Nat.zero_le _) (hQ _ _ (Ok.some h))
  · have h := (Ok.ite h).2 hc
    refine BW.run [.iload_n 1, .aload_n 0] (pc' := 6) (lv' := [(0, .ref a0), (1, .int x1)]) (st' := [.ref a0, .int x1]) (by decide +kernel) rfl rfl ?_
    obtain ⟨v1, ev1, h⟩ := Ok.bind h
    refine BW.get (by decide +kernel : decode tX9_walkOf.2.1 6 = .ok (.getfield 22, 3)) ciX9 (k := 6) (by decide) lkF_X9_22 (toI_V ev1) ?_
    refine BW.icmp_ge 21 (by decide +kernel : decode tX9_walkOf.2.1 9 = .ok (.if_icmp .ge 12, 3)) (by decide) (fun hc => ?_) (fun hc => ?_)
    · have h := (Ok.ite h).1 hc
      refine BW.run [.aconst_null] (pc' := 22) (lv' := [(0, .ref a0), (1, .int x1)]) (st' := [.null]) (by decide +kernel) rfl rfl ?_
      exact BW.aret (q := none) (by decide +kernel : decode tX9_walkOf.2.1 22 = .ok (.areturn, 1)) rfl (Nat.zero_le _) (Nat.zero_le _) (hQ _ _ (Ok.some h))
    · have h := (Ok.ite h).2 hc
      refine BW.run [.aload_n 0] (pc' := 13) (lv' := [(0, .ref a0), (1, .int x1)]) (st' := [.ref a0]) (by decide +kernel) rfl rfl ?_
      obtain ⟨b2, eb2, h⟩ := Ok.bind h
      refine BW.get (by decide +kernel : decode tX9_walkOf.2.1 13 = .ok (.getfield 18, 3)) ciX9 (k := 5) (by decide) lkF_X9_18 (toR_V eb2) ?_
      refine BW.run [.iload_n 1] (pc' := 17) (lv' := [(0, .ref a0), (1, .int x1)]) (st' := [.int x1, .ref b2]) (by decide +kernel) rfl rfl ?_
      obtain ⟨q3, eq3, h⟩ := Ok.bind h
      refine BW.aald (by decide +kernel : decode tX9_walkOf.2.1 17 = .ok (.aaload, 1)) (by decide) (toQ_V eq3) ?_
      cases q3 with
      | none =>
        show BW G tX9_walkOf E 0 0 18 [(0, .ref a0), (1, .int x1)] (.null :: []) s0
        refine BW.goto 22 (by decide +kernel : decode tX9_walkOf.2.1 18 = .ok (.goto 4, 3)) (by decide) ?_
        exact BW.aret (q := none) (by decide +kernel : decode tX9_walkOf.2.1 22 = .ok (.areturn, 1)) rfl (Nat.zero_le _) (Nat.zero_le _) (hQ _ _ (Ok.some h))
      | some b4 =>
        show BW G tX9_walkOf E 0 0 18 [(0, .ref a0), (1, .int x1)] (.ref b4 :: []) s0
        refine BW.goto 22 (by decide +kernel : decode tX9_walkOf.2.1 18 = .ok (.goto 4, 3)) (by decide) ?_
        exact BW.aret (q := some b4) (by decide +kernel : decode tX9_walkOf.2.1 22 = .ok (.areturn, 1)) rfl (Nat.zero_le _) (Nat.zero_le _) (hQ _ _ (Ok.some h))
theorem oX9_walkOf {n : Nat} {P : Option Nat × Sg → Prop} {s0 : Sg} {a0 : Nat} {x1 : Int32} (h : Ok (mX9_walkOf n s0 a0 x1) P) : ∃ n0, s0.2.1 a0 = some (9, n0) := by
  unfold mX9_walkOf at h
  exact Ok.isO h
theorem DX9_walkOf {G : Cx} {n : Nat} {P : Option Nat × Sg → Prop} {s0 : Sg} {a0 : Nat} {x1 : Int32} (h : Ok (mX9_walkOf n s0 a0 x1) P) : BM G tX9_walkOf 0 0 0 0 [.ref a0, .int x1] s0 (fun v s => ∃ r, v = some (va_rf r) ∧ P (r, s)) := by
  refine BM.of (by decide +kernel) (Nat.le_of_ble_eq_true rfl) ?_
  exact bX9_walkOf (E := (({ frames := 0, cells := 0, slots := 0, locals := 0 }), Aof s0, 0, 0, (fun v s => ∃ r, v = some (va_rf r) ∧ P (r, s)))) ⟨Nat.le_refl _, Nat.le_refl _⟩ (fun r s hp => ⟨r, rfl, hp⟩) h
def mX9_drawNet_51 (n : Nat) (s0 : Sg) (a0 : Nat) (x1 : Int32) (x2 : Int32) : Option ((Sg × Int32) ⊕ ((Sg) ⊕ (Int32 × Sg))) :=
  some (.inl (s0, (x2 + (1 : Int32))))
theorem bX9_drawNet_51 {G : Cx} {E : Ev} {n : Nat} (hRm : 4 ≤ E.1.frames ∧ 90 ≤ E.1.locals) {s0 : Sg} {a0 : Nat} {x1 : Int32} {x2 : Int32} {P : (Sg × Int32) ⊕ ((Sg) ⊕ (Int32 × Sg)) → Prop} (hC : ∀ (s : Sg) (c2 : Int32), P (.inl (s, c2)) → BW G tX9_drawNet E 0 0 17 [(0, .ref a0), (1, .int x1), (2, .int c2)] [] s) (hE : ∀ (s : Sg), P (.inr (.inl s)) → BW G tX9_drawNet E 0 0 57 [] [] s) (hQ : ∀ r s, P (.inr (.inr (r, s))) → E.2.2.2.2 (some (.int r)) s)  (h : Ok (mX9_drawNet_51 n s0 a0 x1 x2) P) : BW G tX9_drawNet E 0 0 51 [(0, .ref a0), (1, .int x1), (2, .int x2)] [] s0 := by
  unfold mX9_drawNet_51 at h
  refine BW.run [.iinc 2 1] (pc' := 54) (lv' := [(0, .ref a0), (1, .int x1), (2, .int (x2 + (1 : Int32)))]) (st' := []) (by decide +kernel) rfl rfl ?_
  refine BW.goto 17 (by decide +kernel : decode tX9_drawNet.2.1 54 = .ok (.goto (-37), 3)) (by decide) ?_
  exact hC _ _ (Ok.some h)
def mX9_drawNet_L17 (n : Nat) (a0 : Nat) (x1 : Int32) : (Sg × Int32) → Option ((Sg × Int32) ⊕ ((Sg) ⊕ (Int32 × Sg)))
  | (s0, x2) =>
    (toI (gV 9 s0 a0 8)).bind fun v5 =>
    if v5 ≤ x2 then (
      some (.inr (.inl s0))
    ) else (
      (mX9_isIn n s0 x1 x2).bind fun (v7, s6) =>
      if v7 = 0 then (
        mX9_drawNet_51 n s6 a0 x1 x2
      ) else (
        (toR (gV 9 s6 a0 11)).bind fun b9 =>
        (toR (gV 9 s6 a0 7)).bind fun b10 =>
        (toQ (aV 14 s6 b10 x2)).bind fun q11 => match q11 with
        | none => (
          none
        )
        | some b12 => (
          (mX4_takes n s6 b9 b12).bind fun (v14, s13) =>
          if v14 = 0 then (
            some (.inr (.inr (x2, s13)))
          ) else (
            mX9_drawNet_51 n s13 a0 x1 x2
          )
        )
      )
    )
theorem bX9_drawNet_L17 {G : Cx} {E : Ev} {n : Nat} (hRm : 4 ≤ E.1.frames ∧ 90 ≤ E.1.locals) {a0 : Nat} {x1 : Int32} {P : (Sg × Int32) ⊕ ((Sg) ⊕ (Int32 × Sg)) → Prop} (hC : ∀ (s : Sg) (c2 : Int32), P (.inl (s, c2)) → BW G tX9_drawNet E 0 0 17 [(0, .ref a0), (1, .int x1), (2, .int c2)] [] s) (hE : ∀ (s : Sg), P (.inr (.inl s)) → BW G tX9_drawNet E 0 0 57 [] [] s) (hQ : ∀ r s, P (.inr (.inr (r, s))) → E.2.2.2.2 (some (.int r)) s) {s0 : Sg} {x2 : Int32} (h : Ok (mX9_drawNet_L17 n a0 x1 (s0, x2)) P) : BW G tX9_drawNet E 0 0 17 [(0, .ref a0), (1, .int x1), (2, .int x2)] [] s0 := by
  unfold mX9_drawNet_L17 at h
  refine BW.run [.iload_n 2, .aload_n 0] (pc' := 19) (lv' := [(0, .ref a0), (1, .int x1), (2, .int x2)]) (st' := [.ref a0, .int x2]) (by decide +kernel) rfl rfl ?_
  obtain ⟨v5, ev5, h⟩ := Ok.bind h
  refine BW.get (by decide +kernel : decode tX9_drawNet.2.1 19 = .ok (.getfield 32, 3)) ciX9 (k := 8) (by decide) lkF_X9_32 (toI_V ev5) ?_
  refine BW.icmp_ge 57 (by decide +kernel : decode tX9_drawNet.2.1 22 = .ok (.if_icmp .ge 35, 3)) (by decide) (fun hc => ?_) (fun hc => ?_)
  · have h := (Ok.ite h).1 hc
    refine BW.sub [] rfl ?_
    exact hE _ (Ok.some h)
  · have h := (Ok.ite h).2 hc
    refine BW.run [.iload_n 1, .iload_n 2] (pc' := 27) (lv' := [(0, .ref a0), (1, .int x1), (2, .int x2)]) (st' := [.int x2, .int x1]) (by decide +kernel) rfl rfl ?_
    refine BW.callS (As := [.int x1, .int x2]) (st := []) (by decide +kernel : decode tX9_drawNet.2.1 27 = .ok (.invokestatic 284, 3)) (DX9_isIn (Ok.bindK h)) mfX9_isIn lkM_X9_284 smX9_isIn rfl rfl (Nat.le_of_ble_eq_true rfl) ⟨Nat.le_trans (by decide) hRm.1, Nat.le_trans (by decide) hRm.2⟩ ⟨Nat.zero_le _, Nat.zero_le _⟩ ?_
    rintro _ s6 ⟨v7, rfl, h⟩
    show BW G tX9_drawNet E 0 0 30 [(0, .ref a0), (1, .int x1), (2, .int x2)] [.int v7] s6
    refine BW.if_eq 51 (by decide +kernel : decode tX9_drawNet.2.1 30 = .ok (.ifCond .eq 21, 3)) (by decide) (fun hc => ?_) (fun hc => ?_)
    · have h := (Ok.ite h).1 hc
      exact bX9_drawNet_51 hRm hC hE hQ h
    · have h := (Ok.ite h).2 hc
      refine BW.run [.aload_n 0] (pc' := 34) (lv' := [(0, .ref a0), (1, .int x1), (2, .int x2)]) (st' := [.ref a0]) (by decide +kernel) rfl rfl ?_
      obtain ⟨b9, eb9, h⟩ := Ok.bind h
      refine BW.get (by decide +kernel : decode tX9_drawNet.2.1 34 = .ok (.getfield 45, 3)) ciX9 (k := 11) (by decide) lkF_X9_45 (toR_V eb9) ?_
      refine BW.run [.aload_n 0] (pc' := 38) (lv' := [(0, .ref a0), (1, .int x1), (2, .int x2)]) (st' := [.ref a0, .ref b9]) (by decide +kernel) rfl rfl ?_
      obtain ⟨b10, eb10, h⟩ := Ok.bind h
      refine BW.get (by decide +kernel : decode tX9_drawNet.2.1 38 = .ok (.getfield 28, 3)) ciX9 (k := 7) (by decide) lkF_X9_28 (toR_V eb10) ?_
      refine BW.run [.iload_n 2] (pc' := 42) (lv' := [(0, .ref a0), (1, .int x1), (2, .int x2)]) (st' := [.int x2, .ref b10, .ref b9]) (by decide +kernel) rfl rfl ?_
      obtain ⟨q11, eq11, h⟩ := Ok.bind h
      refine BW.aald (by decide +kernel : decode tX9_drawNet.2.1 42 = .ok (.aaload, 1)) (by decide) (toQ_V eq11) ?_
      cases q11 with
      | none =>
        show BW G tX9_drawNet E 0 0 43 [(0, .ref a0), (1, .int x1), (2, .int x2)] (.null :: [.ref b9]) s6
        exact (Ok.no h).elim
      | some b12 =>
        show BW G tX9_drawNet E 0 0 43 [(0, .ref a0), (1, .int x1), (2, .int x2)] (.ref b12 :: [.ref b9]) s6
        refine BW.callV (As := [.ref b12]) (st := []) (by decide +kernel : decode tX9_drawNet.2.1 43 = .ok (.invokevirtual 337, 3)) (DX4_takes (Ok.bindK h)) mfX4_takes lkM_X9_337 imX4_takes selX4_takes ciX4 (oX4_takes (Ok.bindK h)).choose_spec rfl rfl (Nat.le_of_ble_eq_true rfl) ⟨Nat.le_trans (by decide) hRm.1, Nat.le_trans (by decide) hRm.2⟩ ⟨Nat.zero_le _, Nat.zero_le _⟩ ?_
        rintro _ s13 ⟨v14, rfl, h⟩
        show BW G tX9_drawNet E 0 0 46 [(0, .ref a0), (1, .int x1), (2, .int x2)] [.int v14] s13
        refine BW.if_ne 51 (by decide +kernel : decode tX9_drawNet.2.1 46 = .ok (.ifCond .ne 5, 3)) (by decide) (fun hc => ?_) (fun hc => ?_)
        · have h := (Ok.ite h).2 hc
          exact bX9_drawNet_51 hRm hC hE hQ h
        · have h := (Ok.ite h).1 hc
          refine BW.run [.iload_n 2] (pc' := 50) (lv' := [(0, .ref a0), (1, .int x1), (2, .int x2)]) (st' := [.int x2]) (by decide +kernel) rfl rfl ?_
          exact BW.iret (by decide +kernel : decode tX9_drawNet.2.1 50 = .ok (.ireturn, 1)) rfl (Nat.zero_le _) (Nat.zero_le _) (hQ _ _ (Ok.some h))
theorem bX9_drawNet_W17 {G : Cx} {E : Ev} {n : Nat} (hRm : 4 ≤ E.1.frames ∧ 90 ≤ E.1.locals) {a0 : Nat} {x1 : Int32} {K : ((Sg) ⊕ (Int32 × Sg)) → Prop} (hE : ∀ (s : Sg), K (.inl s) → BW G tX9_drawNet E 0 0 57 [] [] s) (hQ : ∀ r s, K (.inr (r, s)) → E.2.2.2.2 (some (.int r)) s) : ∀ (f : Nat) (c : Sg × Int32), Ok (loopM (mX9_drawNet_L17 n a0 x1) f c) K → match c with | (s0, x2) => BW G tX9_drawNet E 0 0 17 [(0, .ref a0), (1, .int x1), (2, .int x2)] [] s0 := by
  intro f
  induction f with
  | zero => intro c h; exact (Ok.no h).elim
  | succ f ih =>
    intro c h
    obtain ⟨s0, x2⟩ := c
    exact bX9_drawNet_L17 (P := loopP (mX9_drawNet_L17 n a0 x1) f K) hRm (fun s c2 h => ih (s, c2) h) hE hQ (loopM_ok h)
def mX9_drawNet (n : Nat) (s0 : Sg) (a0 : Nat) (x1 : Int32) : Option (Int32 × Sg) :=
  (isO 9 s0 a0).bind fun _ =>
  (toR (gV 9 s0 a0 11)).bind fun b1 =>
  (toI (gV 9 s0 a0 6)).bind fun v2 =>
  (toI (gV 9 s0 a0 2)).bind fun v3 =>
  (mX4_clear n s0 b1 v2 v3).bind fun s4 =>
  (loopM (mX9_drawNet_L17 n a0 x1) n (s4, (0 : Int32))).bind fun q17 => match q17 with
  | .inl s16 => (
    some ((-1 : Int32), s16)
  )
  | .inr (r, s) => some (r, s)
theorem bX9_drawNet {G : Cx} {E : Ev} {n : Nat} (hRm : 4 ≤ E.1.frames ∧ 90 ≤ E.1.locals) {P : Int32 × Sg → Prop} (hQ : ∀ r s, P (r, s) → E.2.2.2.2 (some (.int r)) s) {s0 : Sg} {a0 : Nat} {x1 : Int32} (h : Ok (mX9_drawNet n s0 a0 x1) P) : BW G tX9_drawNet E 0 0 0 [(0, .ref a0), (1, .int x1)] [] s0 := by
  unfold mX9_drawNet at h
  obtain ⟨_, _, h⟩ := Ok.bind h
  refine BW.run [.aload_n 0] (pc' := 1) (lv' := [(0, .ref a0), (1, .int x1)]) (st' := [.ref a0]) (by decide +kernel) rfl rfl ?_
  obtain ⟨b1, eb1, h⟩ := Ok.bind h
  refine BW.get (by decide +kernel : decode tX9_drawNet.2.1 1 = .ok (.getfield 45, 3)) ciX9 (k := 11) (by decide) lkF_X9_45 (toR_V eb1) ?_
  refine BW.run [.aload_n 0] (pc' := 5) (lv' := [(0, .ref a0), (1, .int x1)]) (st' := [.ref a0, .ref b1]) (by decide +kernel) rfl rfl ?_
  obtain ⟨v2, ev2, h⟩ := Ok.bind h
  refine BW.get (by decide +kernel : decode tX9_drawNet.2.1 5 = .ok (.getfield 22, 3)) ciX9 (k := 6) (by decide) lkF_X9_22 (toI_V ev2) ?_
  refine BW.run [.aload_n 0] (pc' := 9) (lv' := [(0, .ref a0), (1, .int x1)]) (st' := [.ref a0, .int v2, .ref b1]) (by decide +kernel) rfl rfl ?_
  obtain ⟨v3, ev3, h⟩ := Ok.bind h
  refine BW.get (by decide +kernel : decode tX9_drawNet.2.1 9 = .ok (.getfield 98, 3)) ciX9 (k := 2) (by decide) lkF_X9_98 (toI_V ev3) ?_
  refine BW.callV (As := [.int v2, .int v3]) (st := []) (by decide +kernel : decode tX9_drawNet.2.1 12 = .ok (.invokevirtual 207, 3)) (DX4_clear (Ok.bindK h)) mfX4_clear lkM_X9_207 imX4_clear selX4_clear ciX4 (oX4_clear (Ok.bindK h)).choose_spec rfl rfl (Nat.le_of_ble_eq_true rfl) ⟨Nat.le_trans (by decide) hRm.1, Nat.le_trans (by decide) hRm.2⟩ ⟨Nat.zero_le _, Nat.zero_le _⟩ ?_
  rintro _ s4 ⟨rfl, h⟩
  show BW G tX9_drawNet E 0 0 15 [(0, .ref a0), (1, .int x1)] [] s4
  refine BW.run [.iconst 0, .istore_n 2] (pc' := 17) (lv' := [(0, .ref a0), (1, .int x1), (2, .int (0 : Int32))]) (st' := []) (by decide +kernel) rfl rfl ?_
  refine bX9_drawNet_W17 hRm (a0 := a0) (x1 := x1) (fun s16 h => ?_) (fun r s h => ?_) n (s4, (0 : Int32)) (Ok.bindK h)
  · refine BW.run [.iconst (-1)] (pc' := 58) (lv' := []) (st' := [.int (-1 : Int32)]) (by decide +kernel) rfl rfl ?_
    exact BW.iret (by decide +kernel : decode tX9_drawNet.2.1 58 = .ok (.ireturn, 1)) rfl (Nat.zero_le _) (Nat.zero_le _) (hQ _ _ (Ok.some h))
  · exact hQ r s (Ok.some h)
theorem oX9_drawNet {n : Nat} {P : Int32 × Sg → Prop} {s0 : Sg} {a0 : Nat} {x1 : Int32} (h : Ok (mX9_drawNet n s0 a0 x1) P) : ∃ n0, s0.2.1 a0 = some (9, n0) := by
  unfold mX9_drawNet at h
  exact Ok.isO h
theorem DX9_drawNet {G : Cx} {n : Nat} {P : Int32 × Sg → Prop} {s0 : Sg} {a0 : Nat} {x1 : Int32} (h : Ok (mX9_drawNet n s0 a0 x1) P) : BM G tX9_drawNet 4 90 0 0 [.ref a0, .int x1] s0 (fun v s => ∃ r, v = some (.int r) ∧ P (r, s)) := by
  refine BM.of (by decide +kernel) (Nat.le_of_ble_eq_true rfl) ?_
  exact bX9_drawNet (E := (({ frames := 4, cells := 0, slots := 0, locals := 90 }), Aof s0, 0, 0, (fun v s => ∃ r, v = some (.int r) ∧ P (r, s)))) ⟨Nat.le_refl _, Nat.le_refl _⟩ (fun r s hp => ⟨r, rfl, hp⟩) h
def mX9_isSet (n : Nat) (s0 : Sg) (a0 : Nat) (x1 : Int32) : Option (Int32 × Sg) :=
  (isO 9 s0 a0).bind fun _ =>
  (toI (gV 9 s0 a0 8)).bind fun v1 =>
  if (x1.toUInt32 >>> (v1.toUInt32 &&& Int32.toUInt32 31)).toInt32 = 0 then (
    some ((1 : Int32), s0)
  ) else (
    some ((0 : Int32), s0)
  )
theorem bX9_isSet {G : Cx} {E : Ev} {n : Nat} (hRm : 0 ≤ E.1.frames ∧ 0 ≤ E.1.locals) {P : Int32 × Sg → Prop} (hQ : ∀ r s, P (r, s) → E.2.2.2.2 (some (.int r)) s) {s0 : Sg} {a0 : Nat} {x1 : Int32} (h : Ok (mX9_isSet n s0 a0 x1) P) : BW G tX9_isSet E 0 0 0 [(0, .ref a0), (1, .int x1)] [] s0 := by
  unfold mX9_isSet at h
  obtain ⟨_, _, h⟩ := Ok.bind h
  refine BW.run [.iload_n 1, .aload_n 0] (pc' := 2) (lv' := [(0, .ref a0), (1, .int x1)]) (st' := [.ref a0, .int x1]) (by decide +kernel) rfl rfl ?_
  obtain ⟨v1, ev1, h⟩ := Ok.bind h
  refine BW.get (by decide +kernel : decode tX9_isSet.2.1 2 = .ok (.getfield 32, 3)) ciX9 (k := 8) (by decide) lkF_X9_32 (toI_V ev1) ?_
  refine BW.run [.iushr] (pc' := 6) (lv' := [(0, .ref a0), (1, .int x1)]) (st' := [.int (x1.toUInt32 >>> (v1.toUInt32 &&& Int32.toUInt32 31)).toInt32]) (by decide +kernel) rfl rfl ?_
  refine BW.if_ne 13 (by decide +kernel : decode tX9_isSet.2.1 6 = .ok (.ifCond .ne 7, 3)) (by decide) (fun hc => ?_) (fun hc => ?_)
  · have h := (Ok.ite h).2 hc
    refine BW.run [.iconst 0] (pc' := 14) (lv' := [(0, .ref a0), (1, .int x1)]) (st' := [.int (0 : Int32)]) (by decide +kernel) rfl rfl ?_
    exact BW.zret (by decide +kernel : decode tX9_isSet.2.1 14 = .ok (.ireturn, 1)) rfl (Or.inl rfl) (Nat.zero_le _) (Nat.zero_le _) (hQ _ _ (Ok.some h))
  · have h := (Ok.ite h).1 hc
    refine BW.run [.iconst 1] (pc' := 10) (lv' := [(0, .ref a0), (1, .int x1)]) (st' := [.int (1 : Int32)]) (by decide +kernel) rfl rfl ?_
    refine BW.goto 14 (by decide +kernel : decode tX9_isSet.2.1 10 = .ok (.goto 4, 3)) (by decide) ?_
    exact BW.zret (by decide +kernel : decode tX9_isSet.2.1 14 = .ok (.ireturn, 1)) rfl (Or.inr rfl) (Nat.zero_le _) (Nat.zero_le _) (hQ _ _ (Ok.some h))
theorem oX9_isSet {n : Nat} {P : Int32 × Sg → Prop} {s0 : Sg} {a0 : Nat} {x1 : Int32} (h : Ok (mX9_isSet n s0 a0 x1) P) : ∃ n0, s0.2.1 a0 = some (9, n0) := by
  unfold mX9_isSet at h
  exact Ok.isO h
theorem DX9_isSet {G : Cx} {n : Nat} {P : Int32 × Sg → Prop} {s0 : Sg} {a0 : Nat} {x1 : Int32} (h : Ok (mX9_isSet n s0 a0 x1) P) : BM G tX9_isSet 0 0 0 0 [.ref a0, .int x1] s0 (fun v s => ∃ r, v = some (.int r) ∧ P (r, s)) := by
  refine BM.of (by decide +kernel) (Nat.le_of_ble_eq_true rfl) ?_
  exact bX9_isSet (E := (({ frames := 0, cells := 0, slots := 0, locals := 0 }), Aof s0, 0, 0, (fun v s => ∃ r, v = some (.int r) ∧ P (r, s)))) ⟨Nat.le_refl _, Nat.le_refl _⟩ (fun r s hp => ⟨r, rfl, hp⟩) h
def mX9_canBe (n : Nat) (s0 : Sg) (a0 : Nat) (x1 : Int32) : Option (Int32 × Sg) :=
  (isO 9 s0 a0).bind fun _ =>
  (mX9_isSet n s0 a0 x1).bind fun (v2, s1) =>
  if v2 = 0 then (
    some ((0 : Int32), s1)
  ) else (
    (mX9_drawNet n s1 a0 x1).bind fun (v5, s4) =>
    if v5 = (-1 : Int32) then (
      some ((1 : Int32), s4)
    ) else (
      some ((0 : Int32), s4)
    )
  )
theorem bX9_canBe {G : Cx} {E : Ev} {n : Nat} (hRm : 5 ≤ E.1.frames ∧ 112 ≤ E.1.locals) {P : Int32 × Sg → Prop} (hQ : ∀ r s, P (r, s) → E.2.2.2.2 (some (.int r)) s) {s0 : Sg} {a0 : Nat} {x1 : Int32} (h : Ok (mX9_canBe n s0 a0 x1) P) : BW G tX9_canBe E 0 0 0 [(0, .ref a0), (1, .int x1)] [] s0 := by
  unfold mX9_canBe at h
  obtain ⟨_, _, h⟩ := Ok.bind h
  refine BW.run [.aload_n 0, .iload_n 1] (pc' := 2) (lv' := [(0, .ref a0), (1, .int x1)]) (st' := [.int x1, .ref a0]) (by decide +kernel) rfl rfl ?_
  refine BW.callV (As := [.int x1]) (st := []) (by decide +kernel : decode tX9_canBe.2.1 2 = .ok (.invokevirtual 196, 3)) (DX9_isSet (Ok.bindK h)) mfX9_isSet lkM_X9_196 imX9_isSet selX9_isSet ciX9 (oX9_isSet (Ok.bindK h)).choose_spec rfl rfl (Nat.le_of_ble_eq_true rfl) ⟨Nat.le_trans (by decide) hRm.1, Nat.le_trans (by decide) hRm.2⟩ ⟨Nat.zero_le _, Nat.zero_le _⟩ ?_
  rintro _ s1 ⟨v2, rfl, h⟩
  show BW G tX9_canBe E 0 0 5 [(0, .ref a0), (1, .int x1)] [.int v2] s1
  refine BW.if_eq 21 (by decide +kernel : decode tX9_canBe.2.1 5 = .ok (.ifCond .eq 16, 3)) (by decide) (fun hc => ?_) (fun hc => ?_)
  · have h := (Ok.ite h).1 hc
    refine BW.run [.iconst 0] (pc' := 22) (lv' := [(0, .ref a0), (1, .int x1)]) (st' := [.int (0 : Int32)]) (by decide +kernel) rfl rfl ?_
    exact BW.zret (by decide +kernel : decode tX9_canBe.2.1 22 = .ok (.ireturn, 1)) rfl (Or.inl rfl) (Nat.zero_le _) (Nat.zero_le _) (hQ _ _ (Ok.some h))
  · have h := (Ok.ite h).2 hc
    refine BW.run [.aload_n 0, .iload_n 1] (pc' := 10) (lv' := [(0, .ref a0), (1, .int x1)]) (st' := [.int x1, .ref a0]) (by decide +kernel) rfl rfl ?_
    refine BW.callV (As := [.int x1]) (st := []) (by decide +kernel : decode tX9_canBe.2.1 10 = .ok (.invokevirtual 199, 3)) (DX9_drawNet (Ok.bindK h)) mfX9_drawNet lkM_X9_199 imX9_drawNet selX9_drawNet ciX9 (oX9_drawNet (Ok.bindK h)).choose_spec rfl rfl (Nat.le_of_ble_eq_true rfl) ⟨Nat.le_trans (by decide) hRm.1, Nat.le_trans (by decide) hRm.2⟩ ⟨Nat.zero_le _, Nat.zero_le _⟩ ?_
    rintro _ s4 ⟨v5, rfl, h⟩
    show BW G tX9_canBe E 0 0 13 [(0, .ref a0), (1, .int x1)] [.int v5] s4
    refine BW.run [.iconst (-1)] (pc' := 14) (lv' := [(0, .ref a0), (1, .int x1)]) (st' := [.int (-1 : Int32), .int v5]) (by decide +kernel) rfl rfl ?_
    refine BW.icmp_ne 21 (by decide +kernel : decode tX9_canBe.2.1 14 = .ok (.if_icmp .ne 7, 3)) (by decide) (fun hc => ?_) (fun hc => ?_)
    · have h := (Ok.ite h).2 hc
      refine BW.run [.iconst 0] (pc' := 22) (lv' := [(0, .ref a0), (1, .int x1)]) (st' := [.int (0 : Int32)]) (by decide +kernel) rfl rfl ?_
      exact BW.zret (by decide +kernel : decode tX9_canBe.2.1 22 = .ok (.ireturn, 1)) rfl (Or.inl rfl) (Nat.zero_le _) (Nat.zero_le _) (hQ _ _ (Ok.some h))
    · have h := (Ok.ite h).1 hc
      refine BW.run [.iconst 1] (pc' := 18) (lv' := [(0, .ref a0), (1, .int x1)]) (st' := [.int (1 : Int32)]) (by decide +kernel) rfl rfl ?_
      refine BW.goto 22 (by decide +kernel : decode tX9_canBe.2.1 18 = .ok (.goto 4, 3)) (by decide) ?_
      exact BW.zret (by decide +kernel : decode tX9_canBe.2.1 22 = .ok (.ireturn, 1)) rfl (Or.inr rfl) (Nat.zero_le _) (Nat.zero_le _) (hQ _ _ (Ok.some h))
theorem oX9_canBe {n : Nat} {P : Int32 × Sg → Prop} {s0 : Sg} {a0 : Nat} {x1 : Int32} (h : Ok (mX9_canBe n s0 a0 x1) P) : ∃ n0, s0.2.1 a0 = some (9, n0) := by
  unfold mX9_canBe at h
  exact Ok.isO h
theorem DX9_canBe {G : Cx} {n : Nat} {P : Int32 × Sg → Prop} {s0 : Sg} {a0 : Nat} {x1 : Int32} (h : Ok (mX9_canBe n s0 a0 x1) P) : BM G tX9_canBe 5 112 0 0 [.ref a0, .int x1] s0 (fun v s => ∃ r, v = some (.int r) ∧ P (r, s)) := by
  refine BM.of (by decide +kernel) (Nat.le_of_ble_eq_true rfl) ?_
  exact bX9_canBe (E := (({ frames := 5, cells := 0, slots := 0, locals := 112 }), Aof s0, 0, 0, (fun v s => ∃ r, v = some (.int r) ∧ P (r, s)))) ⟨Nat.le_refl _, Nat.le_refl _⟩ (fun r s hp => ⟨r, rfl, hp⟩) h
def mX9_verdict (n : Nat) (s0 : Sg) (a0 : Nat) (x1 : Int32) (x2 : Int32) (x3 : Int32) : Option (Int32 × Sg) :=
  (isO 9 s0 a0).bind fun _ =>
  (toR (gV 9 s0 a0 11)).bind fun b1 =>
  (mX4_leastGap n s0 b1 x2 x1).bind fun (v3, s2) =>
  if v3 < x3 then (
    (toR (gV 9 s2 a0 11)).bind fun b5 =>
    (mX4_greatestGap n s2 b5 x2 x1).bind fun (v7, s6) =>
    if x3 ≤ v7 then (
      some ((-1 : Int32), s6)
    ) else (
      some ((0 : Int32), s6)
    )
  ) else (
    some ((1 : Int32), s2)
  )
theorem bX9_verdict {G : Cx} {E : Ev} {n : Nat} (hRm : 3 ≤ E.1.frames ∧ 65 ≤ E.1.locals) {P : Int32 × Sg → Prop} (hQ : ∀ r s, P (r, s) → E.2.2.2.2 (some (.int r)) s) {s0 : Sg} {a0 : Nat} {x1 : Int32} {x2 : Int32} {x3 : Int32} (h : Ok (mX9_verdict n s0 a0 x1 x2 x3) P) : BW G tX9_verdict E 0 0 0 [(0, .ref a0), (1, .int x1), (2, .int x2), (3, .int x3)] [] s0 := by
  unfold mX9_verdict at h
  obtain ⟨_, _, h⟩ := Ok.bind h
  refine BW.run [.aload_n 0] (pc' := 1) (lv' := [(0, .ref a0), (1, .int x1), (2, .int x2), (3, .int x3)]) (st' := [.ref a0]) (by decide +kernel) rfl rfl ?_
  obtain ⟨b1, eb1, h⟩ := Ok.bind h
  refine BW.get (by decide +kernel : decode tX9_verdict.2.1 1 = .ok (.getfield 45, 3)) ciX9 (k := 11) (by decide) lkF_X9_45 (toR_V eb1) ?_
  refine BW.run [.iload_n 2, .iload_n 1] (pc' := 6) (lv' := [(0, .ref a0), (1, .int x1), (2, .int x2), (3, .int x3)]) (st' := [.int x1, .int x2, .ref b1]) (by decide +kernel) rfl rfl ?_
  refine BW.callV (As := [.int x2, .int x1]) (st := []) (by decide +kernel : decode tX9_verdict.2.1 6 = .ok (.invokevirtual 233, 3)) (DX4_leastGap (Ok.bindK h)) mfX4_leastGap lkM_X9_233 imX4_leastGap selX4_leastGap ciX4 (oX4_leastGap (Ok.bindK h)).choose_spec rfl rfl (Nat.le_of_ble_eq_true rfl) ⟨Nat.le_trans (by decide) hRm.1, Nat.le_trans (by decide) hRm.2⟩ ⟨Nat.zero_le _, Nat.zero_le _⟩ ?_
  rintro _ s2 ⟨v3, rfl, h⟩
  show BW G tX9_verdict E 0 0 9 [(0, .ref a0), (1, .int x1), (2, .int x2), (3, .int x3)] [.int v3] s2
  refine BW.run [.iload_n 3] (pc' := 10) (lv' := [(0, .ref a0), (1, .int x1), (2, .int x2), (3, .int x3)]) (st' := [.int x3, .int v3]) (by decide +kernel) rfl rfl ?_
  refine BW.icmp_lt 15 (by decide +kernel : decode tX9_verdict.2.1 10 = .ok (.if_icmp .lt 5, 3)) (by decide) (fun hc => ?_) (fun hc => ?_)
  · have h := (Ok.ite h).1 hc
    refine BW.run [.aload_n 0] (pc' := 16) (lv' := [(0, .ref a0), (1, .int x1), (2, .int x2), (3, .int x3)]) (st' := [.ref a0]) (by decide +kernel) rfl rfl ?_
    obtain ⟨b5, eb5, h⟩ := Ok.bind h
    refine BW.get (by decide +kernel : decode tX9_verdict.2.1 16 = .ok (.getfield 45, 3)) ciX9 (k := 11) (by decide) lkF_X9_45 (toR_V eb5) ?_
    refine BW.run [.iload_n 2, .iload_n 1] (pc' := 21) (lv' := [(0, .ref a0), (1, .int x1), (2, .int x2), (3, .int x3)]) (st' := [.int x1, .int x2, .ref b5]) (by decide +kernel) rfl rfl ?_
    refine BW.callV (As := [.int x2, .int x1]) (st := []) (by decide +kernel : decode tX9_verdict.2.1 21 = .ok (.invokevirtual 236, 3)) (DX4_greatestGap (Ok.bindK h)) mfX4_greatestGap lkM_X9_236 imX4_greatestGap selX4_greatestGap ciX4 (oX4_greatestGap (Ok.bindK h)).choose_spec rfl rfl (Nat.le_of_ble_eq_true rfl) ⟨Nat.le_trans (by decide) hRm.1, Nat.le_trans (by decide) hRm.2⟩ ⟨Nat.zero_le _, Nat.zero_le _⟩ ?_
    rintro _ s6 ⟨v7, rfl, h⟩
    show BW G tX9_verdict E 0 0 24 [(0, .ref a0), (1, .int x1), (2, .int x2), (3, .int x3)] [.int v7] s6
    refine BW.run [.iload_n 3] (pc' := 25) (lv' := [(0, .ref a0), (1, .int x1), (2, .int x2), (3, .int x3)]) (st' := [.int x3, .int v7]) (by decide +kernel) rfl rfl ?_
    refine BW.icmp_ge 32 (by decide +kernel : decode tX9_verdict.2.1 25 = .ok (.if_icmp .ge 7, 3)) (by decide) (fun hc => ?_) (fun hc => ?_)
    · have h := (Ok.ite h).1 hc
      refine BW.run [.iconst (-1)] (pc' := 33) (lv' := [(0, .ref a0), (1, .int x1), (2, .int x2), (3, .int x3)]) (st' := [.int (-1 : Int32)]) (by decide +kernel) rfl rfl ?_
      exact BW.iret (by decide +kernel : decode tX9_verdict.2.1 33 = .ok (.ireturn, 1)) rfl (Nat.zero_le _) (Nat.zero_le _) (hQ _ _ (Ok.some h))
    · have h := (Ok.ite h).2 hc
      refine BW.run [.iconst 0] (pc' := 29) (lv' := [(0, .ref a0), (1, .int x1), (2, .int x2), (3, .int x3)]) (st' := [.int (0 : Int32)]) (by decide +kernel) rfl rfl ?_
      refine BW.goto 33 (by decide +kernel : decode tX9_verdict.2.1 29 = .ok (.goto 4, 3)) (by decide) ?_
      exact BW.iret (by decide +kernel : decode tX9_verdict.2.1 33 = .ok (.ireturn, 1)) rfl (Nat.zero_le _) (Nat.zero_le _) (hQ _ _ (Ok.some h))
  · have h := (Ok.ite h).2 hc
    refine BW.run [.iconst 1] (pc' := 14) (lv' := [(0, .ref a0), (1, .int x1), (2, .int x2), (3, .int x3)]) (st' := [.int (1 : Int32)]) (by decide +kernel) rfl rfl ?_
    exact BW.iret (by decide +kernel : decode tX9_verdict.2.1 14 = .ok (.ireturn, 1)) rfl (Nat.zero_le _) (Nat.zero_le _) (hQ _ _ (Ok.some h))
theorem oX9_verdict {n : Nat} {P : Int32 × Sg → Prop} {s0 : Sg} {a0 : Nat} {x1 : Int32} {x2 : Int32} {x3 : Int32} (h : Ok (mX9_verdict n s0 a0 x1 x2 x3) P) : ∃ n0, s0.2.1 a0 = some (9, n0) := by
  unfold mX9_verdict at h
  exact Ok.isO h
theorem DX9_verdict {G : Cx} {n : Nat} {P : Int32 × Sg → Prop} {s0 : Sg} {a0 : Nat} {x1 : Int32} {x2 : Int32} {x3 : Int32} (h : Ok (mX9_verdict n s0 a0 x1 x2 x3) P) : BM G tX9_verdict 3 65 0 0 [.ref a0, .int x1, .int x2, .int x3] s0 (fun v s => ∃ r, v = some (.int r) ∧ P (r, s)) := by
  refine BM.of (by decide +kernel) (Nat.le_of_ble_eq_true rfl) ?_
  exact bX9_verdict (E := (({ frames := 3, cells := 0, slots := 0, locals := 65 }), Aof s0, 0, 0, (fun v s => ∃ r, v = some (.int r) ∧ P (r, s)))) ⟨Nat.le_refl _, Nat.le_refl _⟩ (fun r s hp => ⟨r, rfl, hp⟩) h
def mX9_ahead (n : Nat) (s0 : Sg) (a0 : Nat) (x1 : Int32) (x2 : Int32) (x3 : Int32) : Option (Int32 × Sg) :=
  (isO 9 s0 a0).bind fun _ =>
  (mX9_walkOf n s0 a0 x2).bind fun q3 => match q3 with
  | (none, s1) => (
    some ((-1 : Int32), s1)
  )
  | (some b2, s1) => (
    (mX9_walkOf n s1 a0 x3).bind fun q6 => match q6 with
    | (none, s4) => (
      some ((-1 : Int32), s4)
    )
    | (some b5, s4) => (
      (mX9_canBe n s4 a0 x1).bind fun (v8, s7) =>
      if v8 = 0 then (
        some ((-1 : Int32), s7)
      ) else (
        (mX9_verdict n s7 a0 x3 x2 (1 : Int32)).bind fun (v11, s10) =>
        some (v11, s10)
      )
    )
  )
theorem bX9_ahead {G : Cx} {E : Ev} {n : Nat} (hRm : 6 ≤ E.1.frames ∧ 133 ≤ E.1.locals) {P : Int32 × Sg → Prop} (hQ : ∀ r s, P (r, s) → E.2.2.2.2 (some (.int r)) s) {s0 : Sg} {a0 : Nat} {x1 : Int32} {x2 : Int32} {x3 : Int32} (h : Ok (mX9_ahead n s0 a0 x1 x2 x3) P) : BW G tX9_ahead E 0 0 0 [(0, .ref a0), (1, .int x1), (2, .int x2), (3, .int x3)] [] s0 := by
  unfold mX9_ahead at h
  obtain ⟨_, _, h⟩ := Ok.bind h
  refine BW.run [.aload_n 0, .iload_n 2] (pc' := 2) (lv' := [(0, .ref a0), (1, .int x1), (2, .int x2), (3, .int x3)]) (st' := [.int x2, .ref a0]) (by decide +kernel) rfl rfl ?_
  refine BW.callV (As := [.int x2]) (st := []) (by decide +kernel : decode tX9_ahead.2.1 2 = .ok (.invokevirtual 143, 3)) (DX9_walkOf (Ok.bindK h)) mfX9_walkOf lkM_X9_143 imX9_walkOf selX9_walkOf ciX9 (oX9_walkOf (Ok.bindK h)).choose_spec rfl rfl (Nat.le_of_ble_eq_true rfl) ⟨Nat.le_trans (by decide) hRm.1, Nat.le_trans (by decide) hRm.2⟩ ⟨Nat.zero_le _, Nat.zero_le _⟩ ?_
  rintro _ s1 ⟨_ | b2, rfl, h⟩
  · show BW G tX9_ahead E 0 0 5 [(0, .ref a0), (1, .int x1), (2, .int x2), (3, .int x3)] (.null :: []) s1
    refine BW.ifnullN 24 (by decide +kernel : decode tX9_ahead.2.1 5 = .ok (.ifnull 19, 3)) (by decide) ?_
    refine BW.run [.iconst (-1)] (pc' := 25) (lv' := [(0, .ref a0), (1, .int x1), (2, .int x2), (3, .int x3)]) (st' := [.int (-1 : Int32)]) (by decide +kernel) rfl rfl ?_
    exact BW.iret (by decide +kernel : decode tX9_ahead.2.1 25 = .ok (.ireturn, 1)) rfl (Nat.zero_le _) (Nat.zero_le _) (hQ _ _ (Ok.some h))
  · show BW G tX9_ahead E 0 0 5 [(0, .ref a0), (1, .int x1), (2, .int x2), (3, .int x3)] (.ref b2 :: []) s1
    refine BW.ifnull (by decide +kernel : decode tX9_ahead.2.1 5 = .ok (.ifnull 19, 3)) ?_
    refine BW.run [.aload_n 0, .iload_n 3] (pc' := 10) (lv' := [(0, .ref a0), (1, .int x1), (2, .int x2), (3, .int x3)]) (st' := [.int x3, .ref a0]) (by decide +kernel) rfl rfl ?_
    refine BW.callV (As := [.int x3]) (st := []) (by decide +kernel : decode tX9_ahead.2.1 10 = .ok (.invokevirtual 143, 3)) (DX9_walkOf (Ok.bindK h)) mfX9_walkOf lkM_X9_143 imX9_walkOf selX9_walkOf ciX9 (oX9_walkOf (Ok.bindK h)).choose_spec rfl rfl (Nat.le_of_ble_eq_true rfl) ⟨Nat.le_trans (by decide) hRm.1, Nat.le_trans (by decide) hRm.2⟩ ⟨Nat.zero_le _, Nat.zero_le _⟩ ?_
    rintro _ s4 ⟨_ | b5, rfl, h⟩
    · show BW G tX9_ahead E 0 0 13 [(0, .ref a0), (1, .int x1), (2, .int x2), (3, .int x3)] (.null :: []) s4
      refine BW.ifnullN 24 (by decide +kernel : decode tX9_ahead.2.1 13 = .ok (.ifnull 11, 3)) (by decide) ?_
      refine BW.run [.iconst (-1)] (pc' := 25) (lv' := [(0, .ref a0), (1, .int x1), (2, .int x2), (3, .int x3)]) (st' := [.int (-1 : Int32)]) (by decide +kernel) rfl rfl ?_
      exact BW.iret (by decide +kernel : decode tX9_ahead.2.1 25 = .ok (.ireturn, 1)) rfl (Nat.zero_le _) (Nat.zero_le _) (hQ _ _ (Ok.some h))
    · show BW G tX9_ahead E 0 0 13 [(0, .ref a0), (1, .int x1), (2, .int x2), (3, .int x3)] (.ref b5 :: []) s4
      refine BW.ifnull (by decide +kernel : decode tX9_ahead.2.1 13 = .ok (.ifnull 11, 3)) ?_
      refine BW.run [.aload_n 0, .iload_n 1] (pc' := 18) (lv' := [(0, .ref a0), (1, .int x1), (2, .int x2), (3, .int x3)]) (st' := [.int x1, .ref a0]) (by decide +kernel) rfl rfl ?_
      refine BW.callV (As := [.int x1]) (st := []) (by decide +kernel : decode tX9_ahead.2.1 18 = .ok (.invokevirtual 223, 3)) (DX9_canBe (Ok.bindK h)) mfX9_canBe lkM_X9_223 imX9_canBe selX9_canBe ciX9 (oX9_canBe (Ok.bindK h)).choose_spec rfl rfl (Nat.le_of_ble_eq_true rfl) ⟨Nat.le_trans (by decide) hRm.1, Nat.le_trans (by decide) hRm.2⟩ ⟨Nat.zero_le _, Nat.zero_le _⟩ ?_
      rintro _ s7 ⟨v8, rfl, h⟩
      show BW G tX9_ahead E 0 0 21 [(0, .ref a0), (1, .int x1), (2, .int x2), (3, .int x3)] [.int v8] s7
      refine BW.if_ne 26 (by decide +kernel : decode tX9_ahead.2.1 21 = .ok (.ifCond .ne 5, 3)) (by decide) (fun hc => ?_) (fun hc => ?_)
      · have h := (Ok.ite h).2 hc
        refine BW.run [.aload_n 0, .iload_n 3, .iload_n 2, .iconst 1] (pc' := 30) (lv' := [(0, .ref a0), (1, .int x1), (2, .int x2), (3, .int x3)]) (st' := [.int (1 : Int32), .int x2, .int x3, .ref a0]) (by decide +kernel) rfl rfl ?_
        refine BW.callV (As := [.int x3, .int x2, .int (1 : Int32)]) (st := []) (by decide +kernel : decode tX9_ahead.2.1 30 = .ok (.invokevirtual 253, 3)) (DX9_verdict (Ok.bindK h)) mfX9_verdict lkM_X9_253 imX9_verdict selX9_verdict ciX9 (oX9_verdict (Ok.bindK h)).choose_spec rfl rfl (Nat.le_of_ble_eq_true rfl) ⟨Nat.le_trans (by decide) hRm.1, Nat.le_trans (by decide) hRm.2⟩ ⟨Nat.zero_le _, Nat.zero_le _⟩ ?_
        rintro _ s10 ⟨v11, rfl, h⟩
        show BW G tX9_ahead E 0 0 33 [(0, .ref a0), (1, .int x1), (2, .int x2), (3, .int x3)] [.int v11] s10
        exact BW.iret (by decide +kernel : decode tX9_ahead.2.1 33 = .ok (.ireturn, 1)) rfl (Nat.zero_le _) (Nat.zero_le _) (hQ _ _ (Ok.some h))
      · have h := (Ok.ite h).1 hc
        refine BW.run [.iconst (-1)] (pc' := 25) (lv' := [(0, .ref a0), (1, .int x1), (2, .int x2), (3, .int x3)]) (st' := [.int (-1 : Int32)]) (by decide +kernel) rfl rfl ?_
        exact BW.iret (by decide +kernel : decode tX9_ahead.2.1 25 = .ok (.ireturn, 1)) rfl (Nat.zero_le _) (Nat.zero_le _) (hQ _ _ (Ok.some h))
theorem oX9_ahead {n : Nat} {P : Int32 × Sg → Prop} {s0 : Sg} {a0 : Nat} {x1 : Int32} {x2 : Int32} {x3 : Int32} (h : Ok (mX9_ahead n s0 a0 x1 x2 x3) P) : ∃ n0, s0.2.1 a0 = some (9, n0) := by
  unfold mX9_ahead at h
  exact Ok.isO h
theorem DX9_ahead {G : Cx} {n : Nat} {P : Int32 × Sg → Prop} {s0 : Sg} {a0 : Nat} {x1 : Int32} {x2 : Int32} {x3 : Int32} (h : Ok (mX9_ahead n s0 a0 x1 x2 x3) P) : BM G tX9_ahead 6 133 0 0 [.ref a0, .int x1, .int x2, .int x3] s0 (fun v s => ∃ r, v = some (.int r) ∧ P (r, s)) := by
  refine BM.of (by decide +kernel) (Nat.le_of_ble_eq_true rfl) ?_
  exact bX9_ahead (E := (({ frames := 6, cells := 0, slots := 0, locals := 133 }), Aof s0, 0, 0, (fun v s => ∃ r, v = some (.int r) ∧ P (r, s)))) ⟨Nat.le_refl _, Nat.le_refl _⟩ (fun r s hp => ⟨r, rfl, hp⟩) h
def mX9_bars (n : Nat) (s0 : Sg) (a0 : Nat) (x1 : Int32) : Option (Int32 × Sg) :=
  (isO 9 s0 a0).bind fun _ =>
  (mX9_isSet n s0 a0 x1).bind fun (v2, s1) =>
  if v2 = 0 then (
    some ((-1 : Int32), s1)
  ) else (
    (mX9_drawNet n s1 a0 x1).bind fun (v5, s4) =>
    some (v5, s4)
  )
theorem bX9_bars {G : Cx} {E : Ev} {n : Nat} (hRm : 5 ≤ E.1.frames ∧ 112 ≤ E.1.locals) {P : Int32 × Sg → Prop} (hQ : ∀ r s, P (r, s) → E.2.2.2.2 (some (.int r)) s) {s0 : Sg} {a0 : Nat} {x1 : Int32} (h : Ok (mX9_bars n s0 a0 x1) P) : BW G tX9_bars E 0 0 0 [(0, .ref a0), (1, .int x1)] [] s0 := by
  unfold mX9_bars at h
  obtain ⟨_, _, h⟩ := Ok.bind h
  refine BW.run [.aload_n 0, .iload_n 1] (pc' := 2) (lv' := [(0, .ref a0), (1, .int x1)]) (st' := [.int x1, .ref a0]) (by decide +kernel) rfl rfl ?_
  refine BW.callV (As := [.int x1]) (st := []) (by decide +kernel : decode tX9_bars.2.1 2 = .ok (.invokevirtual 196, 3)) (DX9_isSet (Ok.bindK h)) mfX9_isSet lkM_X9_196 imX9_isSet selX9_isSet ciX9 (oX9_isSet (Ok.bindK h)).choose_spec rfl rfl (Nat.le_of_ble_eq_true rfl) ⟨Nat.le_trans (by decide) hRm.1, Nat.le_trans (by decide) hRm.2⟩ ⟨Nat.zero_le _, Nat.zero_le _⟩ ?_
  rintro _ s1 ⟨v2, rfl, h⟩
  show BW G tX9_bars E 0 0 5 [(0, .ref a0), (1, .int x1)] [.int v2] s1
  refine BW.if_eq 16 (by decide +kernel : decode tX9_bars.2.1 5 = .ok (.ifCond .eq 11, 3)) (by decide) (fun hc => ?_) (fun hc => ?_)
  · have h := (Ok.ite h).1 hc
    refine BW.run [.iconst (-1)] (pc' := 17) (lv' := [(0, .ref a0), (1, .int x1)]) (st' := [.int (-1 : Int32)]) (by decide +kernel) rfl rfl ?_
    exact BW.iret (by decide +kernel : decode tX9_bars.2.1 17 = .ok (.ireturn, 1)) rfl (Nat.zero_le _) (Nat.zero_le _) (hQ _ _ (Ok.some h))
  · have h := (Ok.ite h).2 hc
    refine BW.run [.aload_n 0, .iload_n 1] (pc' := 10) (lv' := [(0, .ref a0), (1, .int x1)]) (st' := [.int x1, .ref a0]) (by decide +kernel) rfl rfl ?_
    refine BW.callV (As := [.int x1]) (st := []) (by decide +kernel : decode tX9_bars.2.1 10 = .ok (.invokevirtual 199, 3)) (DX9_drawNet (Ok.bindK h)) mfX9_drawNet lkM_X9_199 imX9_drawNet selX9_drawNet ciX9 (oX9_drawNet (Ok.bindK h)).choose_spec rfl rfl (Nat.le_of_ble_eq_true rfl) ⟨Nat.le_trans (by decide) hRm.1, Nat.le_trans (by decide) hRm.2⟩ ⟨Nat.zero_le _, Nat.zero_le _⟩ ?_
    rintro _ s4 ⟨v5, rfl, h⟩
    show BW G tX9_bars E 0 0 13 [(0, .ref a0), (1, .int x1)] [.int v5] s4
    refine BW.goto 17 (by decide +kernel : decode tX9_bars.2.1 13 = .ok (.goto 4, 3)) (by decide) ?_
    exact BW.iret (by decide +kernel : decode tX9_bars.2.1 17 = .ok (.ireturn, 1)) rfl (Nat.zero_le _) (Nat.zero_le _) (hQ _ _ (Ok.some h))
theorem oX9_bars {n : Nat} {P : Int32 × Sg → Prop} {s0 : Sg} {a0 : Nat} {x1 : Int32} (h : Ok (mX9_bars n s0 a0 x1) P) : ∃ n0, s0.2.1 a0 = some (9, n0) := by
  unfold mX9_bars at h
  exact Ok.isO h
theorem DX9_bars {G : Cx} {n : Nat} {P : Int32 × Sg → Prop} {s0 : Sg} {a0 : Nat} {x1 : Int32} (h : Ok (mX9_bars n s0 a0 x1) P) : BM G tX9_bars 5 112 0 0 [.ref a0, .int x1] s0 (fun v s => ∃ r, v = some (.int r) ∧ P (r, s)) := by
  refine BM.of (by decide +kernel) (Nat.le_of_ble_eq_true rfl) ?_
  exact bX9_bars (E := (({ frames := 5, cells := 0, slots := 0, locals := 112 }), Aof s0, 0, 0, (fun v s => ∃ r, v = some (.int r) ∧ P (r, s)))) ⟨Nat.le_refl _, Nat.le_refl _⟩ (fun r s hp => ⟨r, rfl, hp⟩) h
def mX9_begins (n : Nat) (s0 : Sg) (a0 : Nat) (x1 : Int32) (x2 : Int32) (x3 : Int32) : Option (Int32 × Sg) :=
  (isO 9 s0 a0).bind fun _ =>
  if x3 < 0 then (
    some ((-1 : Int32), s0)
  ) else (
    if (1 : Int32) < x3 then (
      some ((-1 : Int32), s0)
    ) else (
      (mX9_walkOf n s0 a0 x2).bind fun q3 => match q3 with
      | (none, s1) => (
        some ((-1 : Int32), s1)
      )
      | (some b2, s1) => (
        (mX9_canBe n s1 a0 x1).bind fun (v5, s4) =>
        if v5 = 0 then (
          some ((-1 : Int32), s4)
        ) else (
          if x3 = 0 then (
            (toR (gV 9 s4 a0 11)).bind fun b11 =>
            (mX4_firstOf n s4 b11 x2).bind fun (v13, s12) =>
            some (v13, s12)
          ) else (
            (toR (gV 9 s4 a0 11)).bind fun b7 =>
            (mX4_lastOf n s4 b7 x2).bind fun (v9, s8) =>
            some (v9, s8)
          )
        )
      )
    )
  )
theorem bX9_begins {G : Cx} {E : Ev} {n : Nat} (hRm : 6 ≤ E.1.frames ∧ 133 ≤ E.1.locals) {P : Int32 × Sg → Prop} (hQ : ∀ r s, P (r, s) → E.2.2.2.2 (some (.int r)) s) {s0 : Sg} {a0 : Nat} {x1 : Int32} {x2 : Int32} {x3 : Int32} (h : Ok (mX9_begins n s0 a0 x1 x2 x3) P) : BW G tX9_begins E 0 0 0 [(0, .ref a0), (1, .int x1), (2, .int x2), (3, .int x3)] [] s0 := by
  unfold mX9_begins at h
  obtain ⟨_, _, h⟩ := Ok.bind h
  refine BW.run [.iload_n 3] (pc' := 1) (lv' := [(0, .ref a0), (1, .int x1), (2, .int x2), (3, .int x3)]) (st' := [.int x3]) (by decide +kernel) rfl rfl ?_
  refine BW.if_lt 25 (by decide +kernel : decode tX9_begins.2.1 1 = .ok (.ifCond .lt 24, 3)) (by decide) (fun hc => ?_) (fun hc => ?_)
  · have h := (Ok.ite h).1 hc
    refine BW.run [.iconst (-1)] (pc' := 26) (lv' := [(0, .ref a0), (1, .int x1), (2, .int x2), (3, .int x3)]) (st' := [.int (-1 : Int32)]) (by decide +kernel) rfl rfl ?_
    exact BW.iret (by decide +kernel : decode tX9_begins.2.1 26 = .ok (.ireturn, 1)) rfl (Nat.zero_le _) (Nat.zero_le _) (hQ _ _ (Ok.some h))
  · have h := (Ok.ite h).2 hc
    refine BW.run [.iload_n 3, .iconst 1] (pc' := 6) (lv' := [(0, .ref a0), (1, .int x1), (2, .int x2), (3, .int x3)]) (st' := [.int (1 : Int32), .int x3]) (by decide +kernel) rfl rfl ?_
    refine BW.icmp_gt 25 (by decide +kernel : decode tX9_begins.2.1 6 = .ok (.if_icmp .gt 19, 3)) (by decide) (fun hc => ?_) (fun hc => ?_)
    · have h := (Ok.ite h).1 hc
      refine BW.run [.iconst (-1)] (pc' := 26) (lv' := [(0, .ref a0), (1, .int x1), (2, .int x2), (3, .int x3)]) (st' := [.int (-1 : Int32)]) (by decide +kernel) rfl rfl ?_
      exact BW.iret (by decide +kernel : decode tX9_begins.2.1 26 = .ok (.ireturn, 1)) rfl (Nat.zero_le _) (Nat.zero_le _) (hQ _ _ (Ok.some h))
    · have h := (Ok.ite h).2 hc
      refine BW.run [.aload_n 0, .iload_n 2] (pc' := 11) (lv' := [(0, .ref a0), (1, .int x1), (2, .int x2), (3, .int x3)]) (st' := [.int x2, .ref a0]) (by decide +kernel) rfl rfl ?_
      refine BW.callV (As := [.int x2]) (st := []) (by decide +kernel : decode tX9_begins.2.1 11 = .ok (.invokevirtual 143, 3)) (DX9_walkOf (Ok.bindK h)) mfX9_walkOf lkM_X9_143 imX9_walkOf selX9_walkOf ciX9 (oX9_walkOf (Ok.bindK h)).choose_spec rfl rfl (Nat.le_of_ble_eq_true rfl) ⟨Nat.le_trans (by decide) hRm.1, Nat.le_trans (by decide) hRm.2⟩ ⟨Nat.zero_le _, Nat.zero_le _⟩ ?_
      rintro _ s1 ⟨_ | b2, rfl, h⟩
      · show BW G tX9_begins E 0 0 14 [(0, .ref a0), (1, .int x1), (2, .int x2), (3, .int x3)] (.null :: []) s1
        refine BW.ifnullN 25 (by decide +kernel : decode tX9_begins.2.1 14 = .ok (.ifnull 11, 3)) (by decide) ?_
        refine BW.run [.iconst (-1)] (pc' := 26) (lv' := [(0, .ref a0), (1, .int x1), (2, .int x2), (3, .int x3)]) (st' := [.int (-1 : Int32)]) (by decide +kernel) rfl rfl ?_
        exact BW.iret (by decide +kernel : decode tX9_begins.2.1 26 = .ok (.ireturn, 1)) rfl (Nat.zero_le _) (Nat.zero_le _) (hQ _ _ (Ok.some h))
      · show BW G tX9_begins E 0 0 14 [(0, .ref a0), (1, .int x1), (2, .int x2), (3, .int x3)] (.ref b2 :: []) s1
        refine BW.ifnull (by decide +kernel : decode tX9_begins.2.1 14 = .ok (.ifnull 11, 3)) ?_
        refine BW.run [.aload_n 0, .iload_n 1] (pc' := 19) (lv' := [(0, .ref a0), (1, .int x1), (2, .int x2), (3, .int x3)]) (st' := [.int x1, .ref a0]) (by decide +kernel) rfl rfl ?_
        refine BW.callV (As := [.int x1]) (st := []) (by decide +kernel : decode tX9_begins.2.1 19 = .ok (.invokevirtual 223, 3)) (DX9_canBe (Ok.bindK h)) mfX9_canBe lkM_X9_223 imX9_canBe selX9_canBe ciX9 (oX9_canBe (Ok.bindK h)).choose_spec rfl rfl (Nat.le_of_ble_eq_true rfl) ⟨Nat.le_trans (by decide) hRm.1, Nat.le_trans (by decide) hRm.2⟩ ⟨Nat.zero_le _, Nat.zero_le _⟩ ?_
        rintro _ s4 ⟨v5, rfl, h⟩
        show BW G tX9_begins E 0 0 22 [(0, .ref a0), (1, .int x1), (2, .int x2), (3, .int x3)] [.int v5] s4
        refine BW.if_ne 27 (by decide +kernel : decode tX9_begins.2.1 22 = .ok (.ifCond .ne 5, 3)) (by decide) (fun hc => ?_) (fun hc => ?_)
        · have h := (Ok.ite h).2 hc
          refine BW.run [.iload_n 3] (pc' := 28) (lv' := [(0, .ref a0), (1, .int x1), (2, .int x2), (3, .int x3)]) (st' := [.int x3]) (by decide +kernel) rfl rfl ?_
          refine BW.if_ne 42 (by decide +kernel : decode tX9_begins.2.1 28 = .ok (.ifCond .ne 14, 3)) (by decide) (fun hc => ?_) (fun hc => ?_)
          · have h := (Ok.ite h).2 hc
            refine BW.run [.aload_n 0] (pc' := 43) (lv' := [(0, .ref a0), (1, .int x1), (2, .int x2), (3, .int x3)]) (st' := [.ref a0]) (by decide +kernel) rfl rfl ?_
            obtain ⟨b7, eb7, h⟩ := Ok.bind h
            refine BW.get (by decide +kernel : decode tX9_begins.2.1 43 = .ok (.getfield 45, 3)) ciX9 (k := 11) (by decide) lkF_X9_45 (toR_V eb7) ?_
            refine BW.run [.iload_n 2] (pc' := 47) (lv' := [(0, .ref a0), (1, .int x1), (2, .int x2), (3, .int x3)]) (st' := [.int x2, .ref b7]) (by decide +kernel) rfl rfl ?_
            refine BW.callV (As := [.int x2]) (st := []) (by decide +kernel : decode tX9_begins.2.1 47 = .ok (.invokevirtual 229, 3)) (DX4_lastOf (Ok.bindK h)) mfX4_lastOf lkM_X9_229 imX4_lastOf selX4_lastOf ciX4 (oX4_lastOf (Ok.bindK h)).choose_spec rfl rfl (Nat.le_of_ble_eq_true rfl) ⟨Nat.le_trans (by decide) hRm.1, Nat.le_trans (by decide) hRm.2⟩ ⟨Nat.zero_le _, Nat.zero_le _⟩ ?_
            rintro _ s8 ⟨v9, rfl, h⟩
            show BW G tX9_begins E 0 0 50 [(0, .ref a0), (1, .int x1), (2, .int x2), (3, .int x3)] [.int v9] s8
            exact BW.iret (by decide +kernel : decode tX9_begins.2.1 50 = .ok (.ireturn, 1)) rfl (Nat.zero_le _) (Nat.zero_le _) (hQ _ _ (Ok.some h))
          · have h := (Ok.ite h).1 hc
            refine BW.run [.aload_n 0] (pc' := 32) (lv' := [(0, .ref a0), (1, .int x1), (2, .int x2), (3, .int x3)]) (st' := [.ref a0]) (by decide +kernel) rfl rfl ?_
            obtain ⟨b11, eb11, h⟩ := Ok.bind h
            refine BW.get (by decide +kernel : decode tX9_begins.2.1 32 = .ok (.getfield 45, 3)) ciX9 (k := 11) (by decide) lkF_X9_45 (toR_V eb11) ?_
            refine BW.run [.iload_n 2] (pc' := 36) (lv' := [(0, .ref a0), (1, .int x1), (2, .int x2), (3, .int x3)]) (st' := [.int x2, .ref b11]) (by decide +kernel) rfl rfl ?_
            refine BW.callV (As := [.int x2]) (st := []) (by decide +kernel : decode tX9_begins.2.1 36 = .ok (.invokevirtual 226, 3)) (DX4_firstOf (Ok.bindK h)) mfX4_firstOf lkM_X9_226 imX4_firstOf selX4_firstOf ciX4 (oX4_firstOf (Ok.bindK h)).choose_spec rfl rfl (Nat.le_of_ble_eq_true rfl) ⟨Nat.le_trans (by decide) hRm.1, Nat.le_trans (by decide) hRm.2⟩ ⟨Nat.zero_le _, Nat.zero_le _⟩ ?_
            rintro _ s12 ⟨v13, rfl, h⟩
            show BW G tX9_begins E 0 0 39 [(0, .ref a0), (1, .int x1), (2, .int x2), (3, .int x3)] [.int v13] s12
            refine BW.goto 50 (by decide +kernel : decode tX9_begins.2.1 39 = .ok (.goto 11, 3)) (by decide) ?_
            exact BW.iret (by decide +kernel : decode tX9_begins.2.1 50 = .ok (.ireturn, 1)) rfl (Nat.zero_le _) (Nat.zero_le _) (hQ _ _ (Ok.some h))
        · have h := (Ok.ite h).1 hc
          refine BW.run [.iconst (-1)] (pc' := 26) (lv' := [(0, .ref a0), (1, .int x1), (2, .int x2), (3, .int x3)]) (st' := [.int (-1 : Int32)]) (by decide +kernel) rfl rfl ?_
          exact BW.iret (by decide +kernel : decode tX9_begins.2.1 26 = .ok (.ireturn, 1)) rfl (Nat.zero_le _) (Nat.zero_le _) (hQ _ _ (Ok.some h))
theorem oX9_begins {n : Nat} {P : Int32 × Sg → Prop} {s0 : Sg} {a0 : Nat} {x1 : Int32} {x2 : Int32} {x3 : Int32} (h : Ok (mX9_begins n s0 a0 x1 x2 x3) P) : ∃ n0, s0.2.1 a0 = some (9, n0) := by
  unfold mX9_begins at h
  exact Ok.isO h
theorem DX9_begins {G : Cx} {n : Nat} {P : Int32 × Sg → Prop} {s0 : Sg} {a0 : Nat} {x1 : Int32} {x2 : Int32} {x3 : Int32} (h : Ok (mX9_begins n s0 a0 x1 x2 x3) P) : BM G tX9_begins 6 133 0 0 [.ref a0, .int x1, .int x2, .int x3] s0 (fun v s => ∃ r, v = some (.int r) ∧ P (r, s)) := by
  refine BM.of (by decide +kernel) (Nat.le_of_ble_eq_true rfl) ?_
  exact bX9_begins (E := (({ frames := 6, cells := 0, slots := 0, locals := 133 }), Aof s0, 0, 0, (fun v s => ∃ r, v = some (.int r) ∧ P (r, s)))) ⟨Nat.le_refl _, Nat.le_refl _⟩ (fun r s hp => ⟨r, rfl, hp⟩) h
def mX9_can (n : Nat) (s0 : Sg) (a0 : Nat) (x1 : Int32) : Option (Int32 × Sg) :=
  (isO 9 s0 a0).bind fun _ =>
  (mX9_isSet n s0 a0 x1).bind fun (v2, s1) =>
  if v2 = 0 then (
    some ((-1 : Int32), s1)
  ) else (
    (mX9_drawNet n s1 a0 x1).bind fun (v5, s4) =>
    if v5 = (-1 : Int32) then (
      some ((1 : Int32), s4)
    ) else (
      some ((0 : Int32), s4)
    )
  )
theorem bX9_can {G : Cx} {E : Ev} {n : Nat} (hRm : 5 ≤ E.1.frames ∧ 112 ≤ E.1.locals) {P : Int32 × Sg → Prop} (hQ : ∀ r s, P (r, s) → E.2.2.2.2 (some (.int r)) s) {s0 : Sg} {a0 : Nat} {x1 : Int32} (h : Ok (mX9_can n s0 a0 x1) P) : BW G tX9_can E 0 0 0 [(0, .ref a0), (1, .int x1)] [] s0 := by
  unfold mX9_can at h
  obtain ⟨_, _, h⟩ := Ok.bind h
  refine BW.run [.aload_n 0, .iload_n 1] (pc' := 2) (lv' := [(0, .ref a0), (1, .int x1)]) (st' := [.int x1, .ref a0]) (by decide +kernel) rfl rfl ?_
  refine BW.callV (As := [.int x1]) (st := []) (by decide +kernel : decode tX9_can.2.1 2 = .ok (.invokevirtual 196, 3)) (DX9_isSet (Ok.bindK h)) mfX9_isSet lkM_X9_196 imX9_isSet selX9_isSet ciX9 (oX9_isSet (Ok.bindK h)).choose_spec rfl rfl (Nat.le_of_ble_eq_true rfl) ⟨Nat.le_trans (by decide) hRm.1, Nat.le_trans (by decide) hRm.2⟩ ⟨Nat.zero_le _, Nat.zero_le _⟩ ?_
  rintro _ s1 ⟨v2, rfl, h⟩
  show BW G tX9_can E 0 0 5 [(0, .ref a0), (1, .int x1)] [.int v2] s1
  refine BW.if_ne 10 (by decide +kernel : decode tX9_can.2.1 5 = .ok (.ifCond .ne 5, 3)) (by decide) (fun hc => ?_) (fun hc => ?_)
  · have h := (Ok.ite h).2 hc
    refine BW.run [.aload_n 0, .iload_n 1] (pc' := 12) (lv' := [(0, .ref a0), (1, .int x1)]) (st' := [.int x1, .ref a0]) (by decide +kernel) rfl rfl ?_
    refine BW.callV (As := [.int x1]) (st := []) (by decide +kernel : decode tX9_can.2.1 12 = .ok (.invokevirtual 199, 3)) (DX9_drawNet (Ok.bindK h)) mfX9_drawNet lkM_X9_199 imX9_drawNet selX9_drawNet ciX9 (oX9_drawNet (Ok.bindK h)).choose_spec rfl rfl (Nat.le_of_ble_eq_true rfl) ⟨Nat.le_trans (by decide) hRm.1, Nat.le_trans (by decide) hRm.2⟩ ⟨Nat.zero_le _, Nat.zero_le _⟩ ?_
    rintro _ s4 ⟨v5, rfl, h⟩
    show BW G tX9_can E 0 0 15 [(0, .ref a0), (1, .int x1)] [.int v5] s4
    refine BW.run [.iconst (-1)] (pc' := 16) (lv' := [(0, .ref a0), (1, .int x1)]) (st' := [.int (-1 : Int32), .int v5]) (by decide +kernel) rfl rfl ?_
    refine BW.icmp_ne 23 (by decide +kernel : decode tX9_can.2.1 16 = .ok (.if_icmp .ne 7, 3)) (by decide) (fun hc => ?_) (fun hc => ?_)
    · have h := (Ok.ite h).2 hc
      refine BW.run [.iconst 0] (pc' := 24) (lv' := [(0, .ref a0), (1, .int x1)]) (st' := [.int (0 : Int32)]) (by decide +kernel) rfl rfl ?_
      exact BW.iret (by decide +kernel : decode tX9_can.2.1 24 = .ok (.ireturn, 1)) rfl (Nat.zero_le _) (Nat.zero_le _) (hQ _ _ (Ok.some h))
    · have h := (Ok.ite h).1 hc
      refine BW.run [.iconst 1] (pc' := 20) (lv' := [(0, .ref a0), (1, .int x1)]) (st' := [.int (1 : Int32)]) (by decide +kernel) rfl rfl ?_
      refine BW.goto 24 (by decide +kernel : decode tX9_can.2.1 20 = .ok (.goto 4, 3)) (by decide) ?_
      exact BW.iret (by decide +kernel : decode tX9_can.2.1 24 = .ok (.ireturn, 1)) rfl (Nat.zero_le _) (Nat.zero_le _) (hQ _ _ (Ok.some h))
  · have h := (Ok.ite h).1 hc
    refine BW.run [.iconst (-1)] (pc' := 9) (lv' := [(0, .ref a0), (1, .int x1)]) (st' := [.int (-1 : Int32)]) (by decide +kernel) rfl rfl ?_
    exact BW.iret (by decide +kernel : decode tX9_can.2.1 9 = .ok (.ireturn, 1)) rfl (Nat.zero_le _) (Nat.zero_le _) (hQ _ _ (Ok.some h))
theorem oX9_can {n : Nat} {P : Int32 × Sg → Prop} {s0 : Sg} {a0 : Nat} {x1 : Int32} (h : Ok (mX9_can n s0 a0 x1) P) : ∃ n0, s0.2.1 a0 = some (9, n0) := by
  unfold mX9_can at h
  exact Ok.isO h
theorem DX9_can {G : Cx} {n : Nat} {P : Int32 × Sg → Prop} {s0 : Sg} {a0 : Nat} {x1 : Int32} (h : Ok (mX9_can n s0 a0 x1) P) : BM G tX9_can 5 112 0 0 [.ref a0, .int x1] s0 (fun v s => ∃ r, v = some (.int r) ∧ P (r, s)) := by
  refine BM.of (by decide +kernel) (Nat.le_of_ble_eq_true rfl) ?_
  exact bX9_can (E := (({ frames := 5, cells := 0, slots := 0, locals := 112 }), Aof s0, 0, 0, (fun v s => ∃ r, v = some (.int r) ∧ P (r, s)))) ⟨Nat.le_refl _, Nat.le_refl _⟩ (fun r s hp => ⟨r, rfl, hp⟩) h
def mX9_cellAt_29 (n : Nat) (s0 : Sg) (t0 : Int32) (x1 : Int32) (x2 : Int32) : Option (Int32 × Sg) :=
  if t0 = 0 then (
    some ((-1 : Int32), s0)
  ) else (
    some ((((16 : Int32) * x2) + x1), s0)
  )
theorem bX9_cellAt_29 {G : Cx} {E : Ev} {n : Nat} (hRm : 0 ≤ E.1.frames ∧ 0 ≤ E.1.locals) {s0 : Sg} {t0 : Int32} {x1 : Int32} {x2 : Int32} {P : Int32 × Sg → Prop} (hQ : ∀ r s, P (r, s) → E.2.2.2.2 (some (.int r)) s) (h : Ok (mX9_cellAt_29 n s0 t0 x1 x2) P) : BW G tX9_cellAt E 0 0 29 [(1, .int x1), (2, .int x2)] [.int t0] s0 := by
  unfold mX9_cellAt_29 at h
  refine BW.run [.istore_n 3, .iload_n 3] (pc' := 31) (lv' := [(1, .int x1), (2, .int x2), (3, .int t0)]) (st' := [.int t0]) (by decide +kernel) rfl rfl ?_
  refine BW.if_eq 43 (by decide +kernel : decode tX9_cellAt.2.1 31 = .ok (.ifCond .eq 12, 3)) (by decide) (fun hc => ?_) (fun hc => ?_)
  · have h := (Ok.ite h).1 hc
    refine BW.run [.iconst (-1)] (pc' := 44) (lv' := [(1, .int x1), (2, .int x2), (3, .int t0)]) (st' := [.int (-1 : Int32)]) (by decide +kernel) rfl rfl ?_
    exact BW.iret (by decide +kernel : decode tX9_cellAt.2.1 44 = .ok (.ireturn, 1)) rfl (Nat.zero_le _) (Nat.zero_le _) (hQ _ _ (Ok.some h))
  · have h := (Ok.ite h).2 hc
    refine BW.run [.bipush 16, .iload_n 2, .imul, .iload_n 1, .iadd] (pc' := 40) (lv' := [(1, .int x1), (2, .int x2), (3, .int t0)]) (st' := [.int (((16 : Int32) * x2) + x1)]) (by decide +kernel) rfl rfl ?_
    refine BW.goto 44 (by decide +kernel : decode tX9_cellAt.2.1 40 = .ok (.goto 4, 3)) (by decide) ?_
    exact BW.iret (by decide +kernel : decode tX9_cellAt.2.1 44 = .ok (.ireturn, 1)) rfl (Nat.zero_le _) (Nat.zero_le _) (hQ _ _ (Ok.some h))
def mX9_cellAt_28 (n : Nat) (s0 : Sg) (x1 : Int32) (x2 : Int32) : Option (Int32 × Sg) :=
  mX9_cellAt_29 n s0 (0 : Int32) x1 x2
theorem bX9_cellAt_28 {G : Cx} {E : Ev} {n : Nat} (hRm : 0 ≤ E.1.frames ∧ 0 ≤ E.1.locals) {s0 : Sg} {x1 : Int32} {x2 : Int32} {P : Int32 × Sg → Prop} (hQ : ∀ r s, P (r, s) → E.2.2.2.2 (some (.int r)) s) (h : Ok (mX9_cellAt_28 n s0 x1 x2) P) : BW G tX9_cellAt E 0 0 28 [(1, .int x1), (2, .int x2)] [] s0 := by
  unfold mX9_cellAt_28 at h
  refine BW.run [.iconst 0] (pc' := 29) (lv' := [(1, .int x1), (2, .int x2)]) (st' := [.int (0 : Int32)]) (by decide +kernel) rfl rfl ?_
  exact bX9_cellAt_29 hRm hQ h
def mX9_cellAt (n : Nat) (s0 : Sg) (a0 : Nat) (x1 : Int32) (x2 : Int32) : Option (Int32 × Sg) :=
  (isO 9 s0 a0).bind fun _ =>
  if x1 < 0 then (
    mX9_cellAt_28 n s0 x1 x2
  ) else (
    (toI (gV 9 s0 a0 0)).bind fun v1 =>
    if v1 ≤ x1 then (
      mX9_cellAt_28 n s0 x1 x2
    ) else (
      if x2 < 0 then (
        mX9_cellAt_28 n s0 x1 x2
      ) else (
        (toI (gV 9 s0 a0 1)).bind fun v2 =>
        if v2 ≤ x2 then (
          mX9_cellAt_28 n s0 x1 x2
        ) else (
          mX9_cellAt_29 n s0 (1 : Int32) x1 x2
        )
      )
    )
  )
theorem bX9_cellAt {G : Cx} {E : Ev} {n : Nat} (hRm : 0 ≤ E.1.frames ∧ 0 ≤ E.1.locals) {P : Int32 × Sg → Prop} (hQ : ∀ r s, P (r, s) → E.2.2.2.2 (some (.int r)) s) {s0 : Sg} {a0 : Nat} {x1 : Int32} {x2 : Int32} (h : Ok (mX9_cellAt n s0 a0 x1 x2) P) : BW G tX9_cellAt E 0 0 0 [(0, .ref a0), (1, .int x1), (2, .int x2)] [] s0 := by
  unfold mX9_cellAt at h
  obtain ⟨_, _, h⟩ := Ok.bind h
  refine BW.run [.iload_n 1] (pc' := 1) (lv' := [(0, .ref a0), (1, .int x1), (2, .int x2)]) (st' := [.int x1]) (by decide +kernel) rfl rfl ?_
  refine BW.if_lt 28 (by decide +kernel : decode tX9_cellAt.2.1 1 = .ok (.ifCond .lt 27, 3)) (by decide) (fun hc => ?_) (fun hc => ?_)
  · have h := (Ok.ite h).1 hc
    refine BW.sub [1, 2] rfl ?_
    exact bX9_cellAt_28 hRm hQ h
  · have h := (Ok.ite h).2 hc
    refine BW.run [.iload_n 1, .aload_n 0] (pc' := 6) (lv' := [(0, .ref a0), (1, .int x1), (2, .int x2)]) (st' := [.ref a0, .int x1]) (by decide +kernel) rfl rfl ?_
    obtain ⟨v1, ev1, h⟩ := Ok.bind h
    refine BW.get (by decide +kernel : decode tX9_cellAt.2.1 6 = .ok (.getfield 92, 3)) ciX9 (k := 0) (by decide) lkF_X9_92 (toI_V ev1) ?_
    refine BW.icmp_ge 28 (by decide +kernel : decode tX9_cellAt.2.1 9 = .ok (.if_icmp .ge 19, 3)) (by decide) (fun hc => ?_) (fun hc => ?_)
    · have h := (Ok.ite h).1 hc
      refine BW.sub [1, 2] rfl ?_
      exact bX9_cellAt_28 hRm hQ h
    · have h := (Ok.ite h).2 hc
      refine BW.run [.iload_n 2] (pc' := 13) (lv' := [(0, .ref a0), (1, .int x1), (2, .int x2)]) (st' := [.int x2]) (by decide +kernel) rfl rfl ?_
      refine BW.if_lt 28 (by decide +kernel : decode tX9_cellAt.2.1 13 = .ok (.ifCond .lt 15, 3)) (by decide) (fun hc => ?_) (fun hc => ?_)
      · have h := (Ok.ite h).1 hc
        refine BW.sub [1, 2] rfl ?_
        exact bX9_cellAt_28 hRm hQ h
      · have h := (Ok.ite h).2 hc
        refine BW.run [.iload_n 2, .aload_n 0] (pc' := 18) (lv' := [(0, .ref a0), (1, .int x1), (2, .int x2)]) (st' := [.ref a0, .int x2]) (by decide +kernel) rfl rfl ?_
        obtain ⟨v2, ev2, h⟩ := Ok.bind h
        refine BW.get (by decide +kernel : decode tX9_cellAt.2.1 18 = .ok (.getfield 95, 3)) ciX9 (k := 1) (by decide) lkF_X9_95 (toI_V ev2) ?_
        refine BW.icmp_ge 28 (by decide +kernel : decode tX9_cellAt.2.1 21 = .ok (.if_icmp .ge 7, 3)) (by decide) (fun hc => ?_) (fun hc => ?_)
        · have h := (Ok.ite h).1 hc
          refine BW.sub [1, 2] rfl ?_
          exact bX9_cellAt_28 hRm hQ h
        · have h := (Ok.ite h).2 hc
          refine BW.run [.iconst 1] (pc' := 25) (lv' := [(0, .ref a0), (1, .int x1), (2, .int x2)]) (st' := [.int (1 : Int32)]) (by decide +kernel) rfl rfl ?_
          refine BW.goto 29 (by decide +kernel : decode tX9_cellAt.2.1 25 = .ok (.goto 4, 3)) (by decide) ?_
          refine BW.sub [1, 2] rfl ?_
          exact bX9_cellAt_29 hRm hQ h
theorem oX9_cellAt {n : Nat} {P : Int32 × Sg → Prop} {s0 : Sg} {a0 : Nat} {x1 : Int32} {x2 : Int32} (h : Ok (mX9_cellAt n s0 a0 x1 x2) P) : ∃ n0, s0.2.1 a0 = some (9, n0) := by
  unfold mX9_cellAt at h
  exact Ok.isO h
theorem DX9_cellAt {G : Cx} {n : Nat} {P : Int32 × Sg → Prop} {s0 : Sg} {a0 : Nat} {x1 : Int32} {x2 : Int32} (h : Ok (mX9_cellAt n s0 a0 x1 x2) P) : BM G tX9_cellAt 0 0 0 0 [.ref a0, .int x1, .int x2] s0 (fun v s => ∃ r, v = some (.int r) ∧ P (r, s)) := by
  refine BM.of (by decide +kernel) (Nat.le_of_ble_eq_true rfl) ?_
  exact bX9_cellAt (E := (({ frames := 0, cells := 0, slots := 0, locals := 0 }), Aof s0, 0, 0, (fun v s => ∃ r, v = some (.int r) ∧ P (r, s)))) ⟨Nat.le_refl _, Nat.le_refl _⟩ (fun r s hp => ⟨r, rfl, hp⟩) h
def mX9_core (n : Nat) (s0 : Sg) (a0 : Nat) (x1 : Int32) : Option (Int32 × Sg) :=
  (isO 9 s0 a0).bind fun _ =>
  (mX9_isSet n s0 a0 x1).bind fun (v2, s1) =>
  if v2 = 0 then (
    some ((-1 : Int32), s1)
  ) else (
    (mJ_bitCount n s1 x1).bind fun (v5, s4) =>
    if (12 : Int32) < v5 then (
      some ((-1 : Int32), s4)
    ) else (
      (mX9_drawNet n s4 a0 x1).bind fun (v8, s7) =>
      if v8 = (-1 : Int32) then (
        some ((-1 : Int32), s7)
      ) else (
        (toR (gV 9 s7 a0 11)).bind fun b10 =>
        (toI (gV 9 s7 a0 6)).bind fun v11 =>
        (toI (gV 9 s7 a0 2)).bind fun v12 =>
        (mX4_clear n s7 b10 v11 v12).bind fun s13 =>
        (toR (gV 9 s13 a0 12)).bind fun b14 =>
        (toR (gV 9 s13 a0 11)).bind fun b15 =>
        (toR (gV 9 s13 a0 7)).bind fun b16 =>
        (toI (gV 9 s13 a0 8)).bind fun v17 =>
        (mX1_fewest n s13 b14 b15 b16 v17 x1).bind fun (v19, s18) =>
        some (v19, s18)
      )
    )
  )
theorem bX9_core {G : Cx} {E : Ev} {n : Nat} (hRm : 5 ≤ E.1.frames ∧ 112 ≤ E.1.locals) {P : Int32 × Sg → Prop} (hQ : ∀ r s, P (r, s) → E.2.2.2.2 (some (.int r)) s) {s0 : Sg} {a0 : Nat} {x1 : Int32} (h : Ok (mX9_core n s0 a0 x1) P) : BW G tX9_core E 0 0 0 [(0, .ref a0), (1, .int x1)] [] s0 := by
  unfold mX9_core at h
  obtain ⟨_, _, h⟩ := Ok.bind h
  refine BW.run [.aload_n 0, .iload_n 1] (pc' := 2) (lv' := [(0, .ref a0), (1, .int x1)]) (st' := [.int x1, .ref a0]) (by decide +kernel) rfl rfl ?_
  refine BW.callV (As := [.int x1]) (st := []) (by decide +kernel : decode tX9_core.2.1 2 = .ok (.invokevirtual 196, 3)) (DX9_isSet (Ok.bindK h)) mfX9_isSet lkM_X9_196 imX9_isSet selX9_isSet ciX9 (oX9_isSet (Ok.bindK h)).choose_spec rfl rfl (Nat.le_of_ble_eq_true rfl) ⟨Nat.le_trans (by decide) hRm.1, Nat.le_trans (by decide) hRm.2⟩ ⟨Nat.zero_le _, Nat.zero_le _⟩ ?_
  rintro _ s1 ⟨v2, rfl, h⟩
  show BW G tX9_core E 0 0 5 [(0, .ref a0), (1, .int x1)] [.int v2] s1
  refine BW.if_eq 26 (by decide +kernel : decode tX9_core.2.1 5 = .ok (.ifCond .eq 21, 3)) (by decide) (fun hc => ?_) (fun hc => ?_)
  · have h := (Ok.ite h).1 hc
    refine BW.run [.iconst (-1)] (pc' := 27) (lv' := [(0, .ref a0), (1, .int x1)]) (st' := [.int (-1 : Int32)]) (by decide +kernel) rfl rfl ?_
    exact BW.iret (by decide +kernel : decode tX9_core.2.1 27 = .ok (.ireturn, 1)) rfl (Nat.zero_le _) (Nat.zero_le _) (hQ _ _ (Ok.some h))
  · have h := (Ok.ite h).2 hc
    refine BW.run [.iload_n 1] (pc' := 9) (lv' := [(0, .ref a0), (1, .int x1)]) (st' := [.int x1]) (by decide +kernel) rfl rfl ?_
    refine BW.callS (As := [.int x1]) (st := []) (by decide +kernel : decode tX9_core.2.1 9 = .ok (.invokestatic 202, 3)) (DJ_bitCount (Ok.bindK h)) mfJ_bitCount lkM_X9_202 smJ_bitCount rfl rfl (Nat.le_of_ble_eq_true rfl) ⟨Nat.le_trans (by decide) hRm.1, Nat.le_trans (by decide) hRm.2⟩ ⟨Nat.zero_le _, Nat.zero_le _⟩ ?_
    rintro _ s4 ⟨v5, rfl, h⟩
    show BW G tX9_core E 0 0 12 [(0, .ref a0), (1, .int x1)] [.int v5] s4
    refine BW.run [.bipush 12] (pc' := 14) (lv' := [(0, .ref a0), (1, .int x1)]) (st' := [.int (12 : Int32), .int v5]) (by decide +kernel) rfl rfl ?_
    refine BW.icmp_gt 26 (by decide +kernel : decode tX9_core.2.1 14 = .ok (.if_icmp .gt 12, 3)) (by decide) (fun hc => ?_) (fun hc => ?_)
    · have h := (Ok.ite h).1 hc
      refine BW.run [.iconst (-1)] (pc' := 27) (lv' := [(0, .ref a0), (1, .int x1)]) (st' := [.int (-1 : Int32)]) (by decide +kernel) rfl rfl ?_
      exact BW.iret (by decide +kernel : decode tX9_core.2.1 27 = .ok (.ireturn, 1)) rfl (Nat.zero_le _) (Nat.zero_le _) (hQ _ _ (Ok.some h))
    · have h := (Ok.ite h).2 hc
      refine BW.run [.aload_n 0, .iload_n 1] (pc' := 19) (lv' := [(0, .ref a0), (1, .int x1)]) (st' := [.int x1, .ref a0]) (by decide +kernel) rfl rfl ?_
      refine BW.callV (As := [.int x1]) (st := []) (by decide +kernel : decode tX9_core.2.1 19 = .ok (.invokevirtual 199, 3)) (DX9_drawNet (Ok.bindK h)) mfX9_drawNet lkM_X9_199 imX9_drawNet selX9_drawNet ciX9 (oX9_drawNet (Ok.bindK h)).choose_spec rfl rfl (Nat.le_of_ble_eq_true rfl) ⟨Nat.le_trans (by decide) hRm.1, Nat.le_trans (by decide) hRm.2⟩ ⟨Nat.zero_le _, Nat.zero_le _⟩ ?_
      rintro _ s7 ⟨v8, rfl, h⟩
      show BW G tX9_core E 0 0 22 [(0, .ref a0), (1, .int x1)] [.int v8] s7
      refine BW.run [.iconst (-1)] (pc' := 23) (lv' := [(0, .ref a0), (1, .int x1)]) (st' := [.int (-1 : Int32), .int v8]) (by decide +kernel) rfl rfl ?_
      refine BW.icmp_ne 28 (by decide +kernel : decode tX9_core.2.1 23 = .ok (.if_icmp .ne 5, 3)) (by decide) (fun hc => ?_) (fun hc => ?_)
      · have h := (Ok.ite h).2 hc
        refine BW.run [.aload_n 0] (pc' := 29) (lv' := [(0, .ref a0), (1, .int x1)]) (st' := [.ref a0]) (by decide +kernel) rfl rfl ?_
        obtain ⟨b10, eb10, h⟩ := Ok.bind h
        refine BW.get (by decide +kernel : decode tX9_core.2.1 29 = .ok (.getfield 45, 3)) ciX9 (k := 11) (by decide) lkF_X9_45 (toR_V eb10) ?_
        refine BW.run [.aload_n 0] (pc' := 33) (lv' := [(0, .ref a0), (1, .int x1)]) (st' := [.ref a0, .ref b10]) (by decide +kernel) rfl rfl ?_
        obtain ⟨v11, ev11, h⟩ := Ok.bind h
        refine BW.get (by decide +kernel : decode tX9_core.2.1 33 = .ok (.getfield 22, 3)) ciX9 (k := 6) (by decide) lkF_X9_22 (toI_V ev11) ?_
        refine BW.run [.aload_n 0] (pc' := 37) (lv' := [(0, .ref a0), (1, .int x1)]) (st' := [.ref a0, .int v11, .ref b10]) (by decide +kernel) rfl rfl ?_
        obtain ⟨v12, ev12, h⟩ := Ok.bind h
        refine BW.get (by decide +kernel : decode tX9_core.2.1 37 = .ok (.getfield 98, 3)) ciX9 (k := 2) (by decide) lkF_X9_98 (toI_V ev12) ?_
        refine BW.callV (As := [.int v11, .int v12]) (st := []) (by decide +kernel : decode tX9_core.2.1 40 = .ok (.invokevirtual 207, 3)) (DX4_clear (Ok.bindK h)) mfX4_clear lkM_X9_207 imX4_clear selX4_clear ciX4 (oX4_clear (Ok.bindK h)).choose_spec rfl rfl (Nat.le_of_ble_eq_true rfl) ⟨Nat.le_trans (by decide) hRm.1, Nat.le_trans (by decide) hRm.2⟩ ⟨Nat.zero_le _, Nat.zero_le _⟩ ?_
        rintro _ s13 ⟨rfl, h⟩
        show BW G tX9_core E 0 0 43 [(0, .ref a0), (1, .int x1)] [] s13
        refine BW.run [.aload_n 0] (pc' := 44) (lv' := [(0, .ref a0), (1, .int x1)]) (st' := [.ref a0]) (by decide +kernel) rfl rfl ?_
        obtain ⟨b14, eb14, h⟩ := Ok.bind h
        refine BW.get (by decide +kernel : decode tX9_core.2.1 44 = .ok (.getfield 52, 3)) ciX9 (k := 12) (by decide) lkF_X9_52 (toR_V eb14) ?_
        refine BW.run [.aload_n 0] (pc' := 48) (lv' := [(0, .ref a0), (1, .int x1)]) (st' := [.ref a0, .ref b14]) (by decide +kernel) rfl rfl ?_
        obtain ⟨b15, eb15, h⟩ := Ok.bind h
        refine BW.get (by decide +kernel : decode tX9_core.2.1 48 = .ok (.getfield 45, 3)) ciX9 (k := 11) (by decide) lkF_X9_45 (toR_V eb15) ?_
        refine BW.run [.aload_n 0] (pc' := 52) (lv' := [(0, .ref a0), (1, .int x1)]) (st' := [.ref a0, .ref b15, .ref b14]) (by decide +kernel) rfl rfl ?_
        obtain ⟨b16, eb16, h⟩ := Ok.bind h
        refine BW.get (by decide +kernel : decode tX9_core.2.1 52 = .ok (.getfield 28, 3)) ciX9 (k := 7) (by decide) lkF_X9_28 (toR_V eb16) ?_
        refine BW.run [.aload_n 0] (pc' := 56) (lv' := [(0, .ref a0), (1, .int x1)]) (st' := [.ref a0, .ref b16, .ref b15, .ref b14]) (by decide +kernel) rfl rfl ?_
        obtain ⟨v17, ev17, h⟩ := Ok.bind h
        refine BW.get (by decide +kernel : decode tX9_core.2.1 56 = .ok (.getfield 32, 3)) ciX9 (k := 8) (by decide) lkF_X9_32 (toI_V ev17) ?_
        refine BW.run [.iload_n 1] (pc' := 60) (lv' := [(0, .ref a0), (1, .int x1)]) (st' := [.int x1, .int v17, .ref b16, .ref b15, .ref b14]) (by decide +kernel) rfl rfl ?_
        refine BW.callV (As := [.ref b15, .ref b16, .int v17, .int x1]) (st := []) (by decide +kernel : decode tX9_core.2.1 60 = .ok (.invokevirtual 210, 3)) (DX1_fewest (Ok.bindK h)) mfX1_fewest lkM_X9_210 imX1_fewest selX1_fewest ciX1 (oX1_fewest (Ok.bindK h)).choose_spec rfl rfl (Nat.le_of_ble_eq_true rfl) ⟨Nat.le_trans (by decide) hRm.1, Nat.le_trans (by decide) hRm.2⟩ ⟨Nat.zero_le _, Nat.zero_le _⟩ ?_
        rintro _ s18 ⟨v19, rfl, h⟩
        show BW G tX9_core E 0 0 63 [(0, .ref a0), (1, .int x1)] [.int v19] s18
        exact BW.iret (by decide +kernel : decode tX9_core.2.1 63 = .ok (.ireturn, 1)) rfl (Nat.zero_le _) (Nat.zero_le _) (hQ _ _ (Ok.some h))
      · have h := (Ok.ite h).1 hc
        refine BW.run [.iconst (-1)] (pc' := 27) (lv' := [(0, .ref a0), (1, .int x1)]) (st' := [.int (-1 : Int32)]) (by decide +kernel) rfl rfl ?_
        exact BW.iret (by decide +kernel : decode tX9_core.2.1 27 = .ok (.ireturn, 1)) rfl (Nat.zero_le _) (Nat.zero_le _) (hQ _ _ (Ok.some h))
theorem oX9_core {n : Nat} {P : Int32 × Sg → Prop} {s0 : Sg} {a0 : Nat} {x1 : Int32} (h : Ok (mX9_core n s0 a0 x1) P) : ∃ n0, s0.2.1 a0 = some (9, n0) := by
  unfold mX9_core at h
  exact Ok.isO h
theorem DX9_core {G : Cx} {n : Nat} {P : Int32 × Sg → Prop} {s0 : Sg} {a0 : Nat} {x1 : Int32} (h : Ok (mX9_core n s0 a0 x1) P) : BM G tX9_core 5 112 0 0 [.ref a0, .int x1] s0 (fun v s => ∃ r, v = some (.int r) ∧ P (r, s)) := by
  refine BM.of (by decide +kernel) (Nat.le_of_ble_eq_true rfl) ?_
  exact bX9_core (E := (({ frames := 5, cells := 0, slots := 0, locals := 112 }), Aof s0, 0, 0, (fun v s => ∃ r, v = some (.int r) ∧ P (r, s)))) ⟨Nat.le_refl _, Nat.le_refl _⟩ (fun r s hp => ⟨r, rfl, hp⟩) h
def mX9_count (n : Nat) (s0 : Sg) (a0 : Nat) (x1 : Int32) : Option (Int32 × Sg) :=
  (isO 9 s0 a0).bind fun _ =>
  if x1 = (0 : Int32) then (
    (toI (gV 9 s0 a0 6)).bind fun v1 =>
    some (v1, s0)
  ) else (
  if x1 = (1 : Int32) then (
    (toI (gV 9 s0 a0 8)).bind fun v2 =>
    some (v2, s0)
  ) else (
  if x1 = (2 : Int32) then (
    (toR (gV 9 s0 a0 3)).bind fun b3 =>
    (toI (gV 7 s0 b3 1)).bind fun v4 =>
    some (v4, s0)
  ) else (
  if x1 = (3 : Int32) then (
    (toI (gV 9 s0 a0 0)).bind fun v5 =>
    some (v5, s0)
  ) else (
  if x1 = (4 : Int32) then (
    (toI (gV 9 s0 a0 1)).bind fun v6 =>
    some (v6, s0)
  ) else (
  if x1 = (5 : Int32) then (
    (toI (gV 9 s0 a0 2)).bind fun v7 =>
    some (v7, s0)
  ) else (
  if x1 = (6 : Int32) then (
    (toI (gV 9 s0 a0 10)).bind fun v8 =>
    some (v8, s0)
  ) else (
    some ((-1 : Int32), s0)
  )))))))
theorem bX9_count {G : Cx} {E : Ev} {n : Nat} (hRm : 0 ≤ E.1.frames ∧ 0 ≤ E.1.locals) {P : Int32 × Sg → Prop} (hQ : ∀ r s, P (r, s) → E.2.2.2.2 (some (.int r)) s) {s0 : Sg} {a0 : Nat} {x1 : Int32} (h : Ok (mX9_count n s0 a0 x1) P) : BW G tX9_count E 0 0 0 [(0, .ref a0), (1, .int x1)] [] s0 := by
  unfold mX9_count at h
  obtain ⟨_, _, h⟩ := Ok.bind h
  refine BW.run [.iload_n 1] (pc' := 1) (lv' := [(0, .ref a0), (1, .int x1)]) (st' := [.int x1]) (by decide +kernel) rfl rfl ?_
  by_cases hc0 : x1 = (0 : Int32)
  · have h := (Ok.ite h).1 hc0
    refine BW.tblIn (off := 43) 44 (by decide +kernel : decode tX9_count.2.1 1 = .ok (.tableswitch 81 0 6 #[43, 48, 53, 61, 66, 71, 76], 43)) (by rw [hc0]; decide) (by rw [hc0]; decide) (by rw [hc0]; rfl) (by decide) ?_
    refine BW.run [.aload_n 0] (pc' := 45) (lv' := [(0, .ref a0), (1, .int x1)]) (st' := [.ref a0]) (by decide +kernel) rfl rfl ?_
    obtain ⟨v1, ev1, h⟩ := Ok.bind h
    refine BW.get (by decide +kernel : decode tX9_count.2.1 45 = .ok (.getfield 22, 3)) ciX9 (k := 6) (by decide) lkF_X9_22 (toI_V ev1) ?_
    exact BW.iret (by decide +kernel : decode tX9_count.2.1 48 = .ok (.ireturn, 1)) rfl (Nat.zero_le _) (Nat.zero_le _) (hQ _ _ (Ok.some h))
  · have h := (Ok.ite h).2 hc0
    by_cases hc1 : x1 = (1 : Int32)
    · have h := (Ok.ite h).1 hc1
      refine BW.tblIn (off := 48) 49 (by decide +kernel : decode tX9_count.2.1 1 = .ok (.tableswitch 81 0 6 #[43, 48, 53, 61, 66, 71, 76], 43)) (by rw [hc1]; decide) (by rw [hc1]; decide) (by rw [hc1]; rfl) (by decide) ?_
      refine BW.run [.aload_n 0] (pc' := 50) (lv' := [(0, .ref a0), (1, .int x1)]) (st' := [.ref a0]) (by decide +kernel) rfl rfl ?_
      obtain ⟨v2, ev2, h⟩ := Ok.bind h
      refine BW.get (by decide +kernel : decode tX9_count.2.1 50 = .ok (.getfield 32, 3)) ciX9 (k := 8) (by decide) lkF_X9_32 (toI_V ev2) ?_
      exact BW.iret (by decide +kernel : decode tX9_count.2.1 53 = .ok (.ireturn, 1)) rfl (Nat.zero_le _) (Nat.zero_le _) (hQ _ _ (Ok.some h))
    · have h := (Ok.ite h).2 hc1
      by_cases hc2 : x1 = (2 : Int32)
      · have h := (Ok.ite h).1 hc2
        refine BW.tblIn (off := 53) 54 (by decide +kernel : decode tX9_count.2.1 1 = .ok (.tableswitch 81 0 6 #[43, 48, 53, 61, 66, 71, 76], 43)) (by rw [hc2]; decide) (by rw [hc2]; decide) (by rw [hc2]; rfl) (by decide) ?_
        refine BW.run [.aload_n 0] (pc' := 55) (lv' := [(0, .ref a0), (1, .int x1)]) (st' := [.ref a0]) (by decide +kernel) rfl rfl ?_
        obtain ⟨b3, eb3, h⟩ := Ok.bind h
        refine BW.get (by decide +kernel : decode tX9_count.2.1 55 = .ok (.getfield 12, 3)) ciX9 (k := 3) (by decide) lkF_X9_12 (toR_V eb3) ?_
        obtain ⟨v4, ev4, h⟩ := Ok.bind h
        refine BW.getN (by decide +kernel : decode tX9_count.2.1 58 = .ok (.getfield 111, 3)) ciX7 (k := 1) (by decide) lkF_X9_111 (toI_V ev4) ?_
        exact BW.iret (by decide +kernel : decode tX9_count.2.1 61 = .ok (.ireturn, 1)) rfl (Nat.zero_le _) (Nat.zero_le _) (hQ _ _ (Ok.some h))
      · have h := (Ok.ite h).2 hc2
        by_cases hc3 : x1 = (3 : Int32)
        · have h := (Ok.ite h).1 hc3
          refine BW.tblIn (off := 61) 62 (by decide +kernel : decode tX9_count.2.1 1 = .ok (.tableswitch 81 0 6 #[43, 48, 53, 61, 66, 71, 76], 43)) (by rw [hc3]; decide) (by rw [hc3]; decide) (by rw [hc3]; rfl) (by decide) ?_
          refine BW.run [.aload_n 0] (pc' := 63) (lv' := [(0, .ref a0), (1, .int x1)]) (st' := [.ref a0]) (by decide +kernel) rfl rfl ?_
          obtain ⟨v5, ev5, h⟩ := Ok.bind h
          refine BW.get (by decide +kernel : decode tX9_count.2.1 63 = .ok (.getfield 92, 3)) ciX9 (k := 0) (by decide) lkF_X9_92 (toI_V ev5) ?_
          exact BW.iret (by decide +kernel : decode tX9_count.2.1 66 = .ok (.ireturn, 1)) rfl (Nat.zero_le _) (Nat.zero_le _) (hQ _ _ (Ok.some h))
        · have h := (Ok.ite h).2 hc3
          by_cases hc4 : x1 = (4 : Int32)
          · have h := (Ok.ite h).1 hc4
            refine BW.tblIn (off := 66) 67 (by decide +kernel : decode tX9_count.2.1 1 = .ok (.tableswitch 81 0 6 #[43, 48, 53, 61, 66, 71, 76], 43)) (by rw [hc4]; decide) (by rw [hc4]; decide) (by rw [hc4]; rfl) (by decide) ?_
            refine BW.run [.aload_n 0] (pc' := 68) (lv' := [(0, .ref a0), (1, .int x1)]) (st' := [.ref a0]) (by decide +kernel) rfl rfl ?_
            obtain ⟨v6, ev6, h⟩ := Ok.bind h
            refine BW.get (by decide +kernel : decode tX9_count.2.1 68 = .ok (.getfield 95, 3)) ciX9 (k := 1) (by decide) lkF_X9_95 (toI_V ev6) ?_
            exact BW.iret (by decide +kernel : decode tX9_count.2.1 71 = .ok (.ireturn, 1)) rfl (Nat.zero_le _) (Nat.zero_le _) (hQ _ _ (Ok.some h))
          · have h := (Ok.ite h).2 hc4
            by_cases hc5 : x1 = (5 : Int32)
            · have h := (Ok.ite h).1 hc5
              refine BW.tblIn (off := 71) 72 (by decide +kernel : decode tX9_count.2.1 1 = .ok (.tableswitch 81 0 6 #[43, 48, 53, 61, 66, 71, 76], 43)) (by rw [hc5]; decide) (by rw [hc5]; decide) (by rw [hc5]; rfl) (by decide) ?_
              refine BW.run [.aload_n 0] (pc' := 73) (lv' := [(0, .ref a0), (1, .int x1)]) (st' := [.ref a0]) (by decide +kernel) rfl rfl ?_
              obtain ⟨v7, ev7, h⟩ := Ok.bind h
              refine BW.get (by decide +kernel : decode tX9_count.2.1 73 = .ok (.getfield 98, 3)) ciX9 (k := 2) (by decide) lkF_X9_98 (toI_V ev7) ?_
              exact BW.iret (by decide +kernel : decode tX9_count.2.1 76 = .ok (.ireturn, 1)) rfl (Nat.zero_le _) (Nat.zero_le _) (hQ _ _ (Ok.some h))
            · have h := (Ok.ite h).2 hc5
              by_cases hc6 : x1 = (6 : Int32)
              · have h := (Ok.ite h).1 hc6
                refine BW.tblIn (off := 76) 77 (by decide +kernel : decode tX9_count.2.1 1 = .ok (.tableswitch 81 0 6 #[43, 48, 53, 61, 66, 71, 76], 43)) (by rw [hc6]; decide) (by rw [hc6]; decide) (by rw [hc6]; rfl) (by decide) ?_
                refine BW.run [.aload_n 0] (pc' := 78) (lv' := [(0, .ref a0), (1, .int x1)]) (st' := [.ref a0]) (by decide +kernel) rfl rfl ?_
                obtain ⟨v8, ev8, h⟩ := Ok.bind h
                refine BW.get (by decide +kernel : decode tX9_count.2.1 78 = .ok (.getfield 39, 3)) ciX9 (k := 10) (by decide) lkF_X9_39 (toI_V ev8) ?_
                exact BW.iret (by decide +kernel : decode tX9_count.2.1 81 = .ok (.ireturn, 1)) rfl (Nat.zero_le _) (Nat.zero_le _) (hQ _ _ (Ok.some h))
              · have h := (Ok.ite h).2 hc6
                refine BW.tblOut 82 (by decide +kernel : decode tX9_count.2.1 1 = .ok (.tableswitch 81 0 6 #[43, 48, 53, 61, 66, 71, 76], 43)) (by have z0 : x1.toInt ≠ 0 := Int32_nek hc0 (by decide); have z1 : x1.toInt ≠ 1 := Int32_nek hc1 (by decide); have z2 : x1.toInt ≠ 2 := Int32_nek hc2 (by decide); have z3 : x1.toInt ≠ 3 := Int32_nek hc3 (by decide); have z4 : x1.toInt ≠ 4 := Int32_nek hc4 (by decide); have z5 : x1.toInt ≠ 5 := Int32_nek hc5 (by decide); have z6 : x1.toInt ≠ 6 := Int32_nek hc6 (by decide); omega) (by decide) ?_
                refine BW.run [.iconst (-1)] (pc' := 83) (lv' := [(0, .ref a0), (1, .int x1)]) (st' := [.int (-1 : Int32)]) (by decide +kernel) rfl rfl ?_
                exact BW.iret (by decide +kernel : decode tX9_count.2.1 83 = .ok (.ireturn, 1)) rfl (Nat.zero_le _) (Nat.zero_le _) (hQ _ _ (Ok.some h))
theorem oX9_count {n : Nat} {P : Int32 × Sg → Prop} {s0 : Sg} {a0 : Nat} {x1 : Int32} (h : Ok (mX9_count n s0 a0 x1) P) : ∃ n0, s0.2.1 a0 = some (9, n0) := by
  unfold mX9_count at h
  exact Ok.isO h
theorem DX9_count {G : Cx} {n : Nat} {P : Int32 × Sg → Prop} {s0 : Sg} {a0 : Nat} {x1 : Int32} (h : Ok (mX9_count n s0 a0 x1) P) : BM G tX9_count 0 0 0 0 [.ref a0, .int x1] s0 (fun v s => ∃ r, v = some (.int r) ∧ P (r, s)) := by
  refine BM.of (by decide +kernel) (Nat.le_of_ble_eq_true rfl) ?_
  exact bX9_count (E := (({ frames := 0, cells := 0, slots := 0, locals := 0 }), Aof s0, 0, 0, (fun v s => ∃ r, v = some (.int r) ∧ P (r, s)))) ⟨Nat.le_refl _, Nat.le_refl _⟩ (fun r s hp => ⟨r, rfl, hp⟩) h
def mX9_crossings_87 (n : Nat) (s0 : Sg) (x3 : Int32) (a4 : Nat) (a5 : Nat) (x6 : Int32) (x7 : Int32) : Option ((Sg × Int32 × Int32) ⊕ ((Sg × Int32) ⊕ (Int32 × Sg))) :=
  some (.inl (s0, x6, (x7 + (1 : Int32))))
theorem bX9_crossings_87 {G : Cx} {E : Ev} {n : Nat} (hRm : 1 ≤ E.1.frames ∧ 21 ≤ E.1.locals) {s0 : Sg} {x3 : Int32} {a4 : Nat} {a5 : Nat} {x6 : Int32} {x7 : Int32} {P : (Sg × Int32 × Int32) ⊕ ((Sg × Int32) ⊕ (Int32 × Sg)) → Prop} (hC : ∀ (s : Sg) (c6 : Int32) (c7 : Int32), P (.inl (s, c6, c7)) → BW G tX9_crossings E 0 0 42 [(3, .int x3), (4, .ref a4), (5, .ref a5), (6, .int c6), (7, .int c7)] [] s) (hE : ∀ (s : Sg) (c6 : Int32), P (.inr (.inl (s, c6))) → BW G tX9_crossings E 0 0 93 [(3, .int x3), (6, .int c6)] [] s) (hQ : ∀ r s, P (.inr (.inr (r, s))) → E.2.2.2.2 (some (.int r)) s)  (h : Ok (mX9_crossings_87 n s0 x3 a4 a5 x6 x7) P) : BW G tX9_crossings E 0 0 87 [(3, .int x3), (4, .ref a4), (5, .ref a5), (6, .int x6), (7, .int x7)] [] s0 := by
  unfold mX9_crossings_87 at h
  refine BW.run [.iinc 7 1] (pc' := 90) (lv' := [(3, .int x3), (4, .ref a4), (5, .ref a5), (6, .int x6), (7, .int (x7 + (1 : Int32)))]) (st' := []) (by decide +kernel) rfl rfl ?_
  refine BW.goto 42 (by decide +kernel : decode tX9_crossings.2.1 90 = .ok (.goto (-48), 3)) (by decide) ?_
  exact hC _ _ _ (Ok.some h)
def mX9_crossings_L42 (n : Nat) (x3 : Int32) (a4 : Nat) (a5 : Nat) : (Sg × Int32 × Int32) → Option ((Sg × Int32 × Int32) ⊕ ((Sg × Int32) ⊕ (Int32 × Sg)))
  | (s0, x6, x7) =>
    (toI (gV 8 s0 a4 5)).bind fun v10 =>
    if v10 ≤ x7 then (
      some (.inr (.inl (s0, x6)))
    ) else (
      (toR (gV 8 s0 a4 4)).bind fun b11 =>
      (toI (aV 11 s0 b11 x7)).bind fun v12 =>
      (mX8_latestIn n s0 a5 v12).bind fun (v14, s13) =>
      if v14 = (-1 : Int32) then (
        mX9_crossings_87 n s13 x3 a4 a5 x6 x7
      ) else (
        if x6 = x3 then (
          (toR (gV 8 s13 a4 4)).bind fun b16 =>
          (toI (aV 11 s13 b16 x7)).bind fun v17 =>
          some (.inr (.inr (v17, s13)))
        ) else (
          mX9_crossings_87 n s13 x3 a4 a5 (x6 + (1 : Int32)) x7
        )
      )
    )
theorem bX9_crossings_L42 {G : Cx} {E : Ev} {n : Nat} (hRm : 1 ≤ E.1.frames ∧ 21 ≤ E.1.locals) {x3 : Int32} {a4 : Nat} {a5 : Nat} {P : (Sg × Int32 × Int32) ⊕ ((Sg × Int32) ⊕ (Int32 × Sg)) → Prop} (hC : ∀ (s : Sg) (c6 : Int32) (c7 : Int32), P (.inl (s, c6, c7)) → BW G tX9_crossings E 0 0 42 [(3, .int x3), (4, .ref a4), (5, .ref a5), (6, .int c6), (7, .int c7)] [] s) (hE : ∀ (s : Sg) (c6 : Int32), P (.inr (.inl (s, c6))) → BW G tX9_crossings E 0 0 93 [(3, .int x3), (6, .int c6)] [] s) (hQ : ∀ r s, P (.inr (.inr (r, s))) → E.2.2.2.2 (some (.int r)) s) {s0 : Sg} {x6 : Int32} {x7 : Int32} (h : Ok (mX9_crossings_L42 n x3 a4 a5 (s0, x6, x7)) P) : BW G tX9_crossings E 0 0 42 [(3, .int x3), (4, .ref a4), (5, .ref a5), (6, .int x6), (7, .int x7)] [] s0 := by
  unfold mX9_crossings_L42 at h
  refine BW.run [.iload 7, .aload 4] (pc' := 46) (lv' := [(3, .int x3), (4, .ref a4), (5, .ref a5), (6, .int x6), (7, .int x7)]) (st' := [.ref a4, .int x7]) (by decide +kernel) rfl rfl ?_
  obtain ⟨v10, ev10, h⟩ := Ok.bind h
  refine BW.getN (by decide +kernel : decode tX9_crossings.2.1 46 = .ok (.getfield 239, 3)) ciX8 (k := 5) (by decide) lkF_X9_239 (toI_V ev10) ?_
  refine BW.icmp_ge 93 (by decide +kernel : decode tX9_crossings.2.1 49 = .ok (.if_icmp .ge 44, 3)) (by decide) (fun hc => ?_) (fun hc => ?_)
  · have h := (Ok.ite h).1 hc
    refine BW.sub [0, 3] rfl ?_
    exact hE _ _ (Ok.some h)
  · have h := (Ok.ite h).2 hc
    refine BW.run [.aload 5, .aload 4] (pc' := 56) (lv' := [(3, .int x3), (4, .ref a4), (5, .ref a5), (6, .int x6), (7, .int x7)]) (st' := [.ref a4, .ref a5]) (by decide +kernel) rfl rfl ?_
    obtain ⟨b11, eb11, h⟩ := Ok.bind h
    refine BW.getN (by decide +kernel : decode tX9_crossings.2.1 56 = .ok (.getfield 242, 3)) ciX8 (k := 4) (by decide) lkF_X9_242 (toR_V eb11) ?_
    refine BW.run [.iload 7] (pc' := 61) (lv' := [(3, .int x3), (4, .ref a4), (5, .ref a5), (6, .int x6), (7, .int x7)]) (st' := [.int x7, .ref b11, .ref a5]) (by decide +kernel) rfl rfl ?_
    obtain ⟨v12, ev12, h⟩ := Ok.bind h
    refine BW.iald (by decide +kernel : decode tX9_crossings.2.1 61 = .ok (.iaload, 1)) (toI_V ev12) ?_
    refine BW.callV (As := [.int v12]) (st := []) (by decide +kernel : decode tX9_crossings.2.1 62 = .ok (.invokevirtual 169, 3)) (DX8_latestIn (Ok.bindK h)) mfX8_latestIn lkM_X9_169 imX8_latestIn selX8_latestIn ciX8 (oX8_latestIn (Ok.bindK h)).choose_spec rfl rfl (Nat.le_of_ble_eq_true rfl) ⟨Nat.le_trans (by decide) hRm.1, Nat.le_trans (by decide) hRm.2⟩ ⟨Nat.zero_le _, Nat.zero_le _⟩ ?_
    rintro _ s13 ⟨v14, rfl, h⟩
    show BW G tX9_crossings E 0 0 65 [(3, .int x3), (4, .ref a4), (5, .ref a5), (6, .int x6), (7, .int x7)] [.int v14] s13
    refine BW.run [.iconst (-1)] (pc' := 66) (lv' := [(3, .int x3), (4, .ref a4), (5, .ref a5), (6, .int x6), (7, .int x7)]) (st' := [.int (-1 : Int32), .int v14]) (by decide +kernel) rfl rfl ?_
    refine BW.icmp_eq 87 (by decide +kernel : decode tX9_crossings.2.1 66 = .ok (.if_icmp .eq 21, 3)) (by decide) (fun hc => ?_) (fun hc => ?_)
    · have h := (Ok.ite h).1 hc
      exact bX9_crossings_87 hRm hC hE hQ h
    · have h := (Ok.ite h).2 hc
      refine BW.run [.iload 6, .iload_n 3] (pc' := 72) (lv' := [(3, .int x3), (4, .ref a4), (5, .ref a5), (6, .int x6), (7, .int x7)]) (st' := [.int x3, .int x6]) (by decide +kernel) rfl rfl ?_
      refine BW.icmp_ne 84 (by decide +kernel : decode tX9_crossings.2.1 72 = .ok (.if_icmp .ne 12, 3)) (by decide) (fun hc => ?_) (fun hc => ?_)
      · have h := (Ok.ite h).2 hc
        refine BW.run [.iinc 6 1] (pc' := 87) (lv' := [(3, .int x3), (4, .ref a4), (5, .ref a5), (6, .int (x6 + (1 : Int32))), (7, .int x7)]) (st' := []) (by decide +kernel) rfl rfl ?_
        exact bX9_crossings_87 hRm hC hE hQ h
      · have h := (Ok.ite h).1 hc
        refine BW.run [.aload 4] (pc' := 77) (lv' := [(3, .int x3), (4, .ref a4), (5, .ref a5), (6, .int x6), (7, .int x7)]) (st' := [.ref a4]) (by decide +kernel) rfl rfl ?_
        obtain ⟨b16, eb16, h⟩ := Ok.bind h
        refine BW.getN (by decide +kernel : decode tX9_crossings.2.1 77 = .ok (.getfield 242, 3)) ciX8 (k := 4) (by decide) lkF_X9_242 (toR_V eb16) ?_
        refine BW.run [.iload 7] (pc' := 82) (lv' := [(3, .int x3), (4, .ref a4), (5, .ref a5), (6, .int x6), (7, .int x7)]) (st' := [.int x7, .ref b16]) (by decide +kernel) rfl rfl ?_
        obtain ⟨v17, ev17, h⟩ := Ok.bind h
        refine BW.iald (by decide +kernel : decode tX9_crossings.2.1 82 = .ok (.iaload, 1)) (toI_V ev17) ?_
        exact BW.iret (by decide +kernel : decode tX9_crossings.2.1 83 = .ok (.ireturn, 1)) rfl (Nat.zero_le _) (Nat.zero_le _) (hQ _ _ (Ok.some h))
theorem bX9_crossings_W42 {G : Cx} {E : Ev} {n : Nat} (hRm : 1 ≤ E.1.frames ∧ 21 ≤ E.1.locals) {x3 : Int32} {a4 : Nat} {a5 : Nat} {K : ((Sg × Int32) ⊕ (Int32 × Sg)) → Prop} (hE : ∀ (s : Sg) (c6 : Int32), K (.inl (s, c6)) → BW G tX9_crossings E 0 0 93 [(3, .int x3), (6, .int c6)] [] s) (hQ : ∀ r s, K (.inr (r, s)) → E.2.2.2.2 (some (.int r)) s) : ∀ (f : Nat) (c : Sg × Int32 × Int32), Ok (loopM (mX9_crossings_L42 n x3 a4 a5) f c) K → match c with | (s0, x6, x7) => BW G tX9_crossings E 0 0 42 [(3, .int x3), (4, .ref a4), (5, .ref a5), (6, .int x6), (7, .int x7)] [] s0 := by
  intro f
  induction f with
  | zero => intro c h; exact (Ok.no h).elim
  | succ f ih =>
    intro c h
    obtain ⟨s0, x6, x7⟩ := c
    exact bX9_crossings_L42 (P := loopP (mX9_crossings_L42 n x3 a4 a5) f K) hRm (fun s c6 c7 h => ih (s, c6, c7) h) hE hQ (loopM_ok h)
def mX9_crossings (n : Nat) (s0 : Sg) (a0 : Nat) (x1 : Int32) (x2 : Int32) (x3 : Int32) : Option (Int32 × Sg) :=
  (isO 9 s0 a0).bind fun _ =>
  (mX9_walkOf n s0 a0 x1).bind fun q3 => match q3 with
  | (none, s1) => (
    (mX9_walkOf n s1 a0 x2).bind fun q6 => match q6 with
    | (none, s4) => (
      some ((-1 : Int32), s4)
    )
    | (some b5, s4) => (
      some ((-1 : Int32), s4)
    )
  )
  | (some b2, s1) => (
    (mX9_walkOf n s1 a0 x2).bind fun q9 => match q9 with
    | (none, s7) => (
      some ((-1 : Int32), s7)
    )
    | (some b8, s7) => (
      if x1 = x2 then (
        some ((-1 : Int32), s7)
      ) else (
        if (-1 : Int32) ≤ x3 then (
          (loopM (mX9_crossings_L42 n x3 b2 b8) n (s7, (0 : Int32), (0 : Int32))).bind fun q20 => match q20 with
          | .inl (s18, v19) => (
            if x3 = (-1 : Int32) then (
              some (v19, s18)
            ) else (
              some ((-1 : Int32), s18)
            )
          )
          | .inr (r, s) => some (r, s)
        ) else (
          some ((-1 : Int32), s7)
        )
      )
    )
  )
theorem bX9_crossings {G : Cx} {E : Ev} {n : Nat} (hRm : 1 ≤ E.1.frames ∧ 21 ≤ E.1.locals) {P : Int32 × Sg → Prop} (hQ : ∀ r s, P (r, s) → E.2.2.2.2 (some (.int r)) s) {s0 : Sg} {a0 : Nat} {x1 : Int32} {x2 : Int32} {x3 : Int32} (h : Ok (mX9_crossings n s0 a0 x1 x2 x3) P) : BW G tX9_crossings E 0 0 0 [(0, .ref a0), (1, .int x1), (2, .int x2), (3, .int x3)] [] s0 := by
  unfold mX9_crossings at h
  obtain ⟨_, _, h⟩ := Ok.bind h
  refine BW.run [.aload_n 0, .iload_n 1] (pc' := 2) (lv' := [(0, .ref a0), (1, .int x1), (2, .int x2), (3, .int x3)]) (st' := [.int x1, .ref a0]) (by decide +kernel) rfl rfl ?_
  refine BW.callV (As := [.int x1]) (st := []) (by decide +kernel : decode tX9_crossings.2.1 2 = .ok (.invokevirtual 143, 3)) (DX9_walkOf (Ok.bindK h)) mfX9_walkOf lkM_X9_143 imX9_walkOf selX9_walkOf ciX9 (oX9_walkOf (Ok.bindK h)).choose_spec rfl rfl (Nat.le_of_ble_eq_true rfl) ⟨Nat.le_trans (by decide) hRm.1, Nat.le_trans (by decide) hRm.2⟩ ⟨Nat.zero_le _, Nat.zero_le _⟩ ?_
  rintro _ s1 ⟨_ | b2, rfl, h⟩
  · show BW G tX9_crossings E 0 0 5 [(0, .ref a0), (1, .int x1), (2, .int x2), (3, .int x3)] (.null :: []) s1
    refine BW.run [.astore 4, .aload_n 0, .iload_n 2] (pc' := 9) (lv' := [(0, .ref a0), (1, .int x1), (2, .int x2), (3, .int x3), (4, .null)]) (st' := [.int x2, .ref a0]) (by decide +kernel) rfl rfl ?_
    refine BW.callV (As := [.int x2]) (st := []) (by decide +kernel : decode tX9_crossings.2.1 9 = .ok (.invokevirtual 143, 3)) (DX9_walkOf (Ok.bindK h)) mfX9_walkOf lkM_X9_143 imX9_walkOf selX9_walkOf ciX9 (oX9_walkOf (Ok.bindK h)).choose_spec rfl rfl (Nat.le_of_ble_eq_true rfl) ⟨Nat.le_trans (by decide) hRm.1, Nat.le_trans (by decide) hRm.2⟩ ⟨Nat.zero_le _, Nat.zero_le _⟩ ?_
    rintro _ s4 ⟨_ | b5, rfl, h⟩
    · show BW G tX9_crossings E 0 0 12 [(0, .ref a0), (1, .int x1), (2, .int x2), (3, .int x3), (4, .null)] (.null :: []) s4
      refine BW.run [.astore 5, .aload 4] (pc' := 16) (lv' := [(0, .ref a0), (1, .int x1), (2, .int x2), (3, .int x3), (4, .null), (5, .null)]) (st' := [.null]) (by decide +kernel) rfl rfl ?_
      refine BW.ifnullN 34 (by decide +kernel : decode tX9_crossings.2.1 16 = .ok (.ifnull 18, 3)) (by decide) ?_
      refine BW.run [.iconst (-1)] (pc' := 35) (lv' := [(0, .ref a0), (1, .int x1), (2, .int x2), (3, .int x3), (4, .null), (5, .null)]) (st' := [.int (-1 : Int32)]) (by decide +kernel) rfl rfl ?_
      exact BW.iret (by decide +kernel : decode tX9_crossings.2.1 35 = .ok (.ireturn, 1)) rfl (Nat.zero_le _) (Nat.zero_le _) (hQ _ _ (Ok.some h))
    · show BW G tX9_crossings E 0 0 12 [(0, .ref a0), (1, .int x1), (2, .int x2), (3, .int x3), (4, .null)] (.ref b5 :: []) s4
      refine BW.run [.astore 5, .aload 4] (pc' := 16) (lv' := [(0, .ref a0), (1, .int x1), (2, .int x2), (3, .int x3), (4, .null), (5, .ref b5)]) (st' := [.null]) (by decide +kernel) rfl rfl ?_
      refine BW.ifnullN 34 (by decide +kernel : decode tX9_crossings.2.1 16 = .ok (.ifnull 18, 3)) (by decide) ?_
      refine BW.run [.iconst (-1)] (pc' := 35) (lv' := [(0, .ref a0), (1, .int x1), (2, .int x2), (3, .int x3), (4, .null), (5, .ref b5)]) (st' := [.int (-1 : Int32)]) (by decide +kernel) rfl rfl ?_
      exact BW.iret (by decide +kernel : decode tX9_crossings.2.1 35 = .ok (.ireturn, 1)) rfl (Nat.zero_le _) (Nat.zero_le _) (hQ _ _ (Ok.some h))
  · show BW G tX9_crossings E 0 0 5 [(0, .ref a0), (1, .int x1), (2, .int x2), (3, .int x3)] (.ref b2 :: []) s1
    refine BW.run [.astore 4, .aload_n 0, .iload_n 2] (pc' := 9) (lv' := [(0, .ref a0), (1, .int x1), (2, .int x2), (3, .int x3), (4, .ref b2)]) (st' := [.int x2, .ref a0]) (by decide +kernel) rfl rfl ?_
    refine BW.callV (As := [.int x2]) (st := []) (by decide +kernel : decode tX9_crossings.2.1 9 = .ok (.invokevirtual 143, 3)) (DX9_walkOf (Ok.bindK h)) mfX9_walkOf lkM_X9_143 imX9_walkOf selX9_walkOf ciX9 (oX9_walkOf (Ok.bindK h)).choose_spec rfl rfl (Nat.le_of_ble_eq_true rfl) ⟨Nat.le_trans (by decide) hRm.1, Nat.le_trans (by decide) hRm.2⟩ ⟨Nat.zero_le _, Nat.zero_le _⟩ ?_
    rintro _ s7 ⟨_ | b8, rfl, h⟩
    · show BW G tX9_crossings E 0 0 12 [(0, .ref a0), (1, .int x1), (2, .int x2), (3, .int x3), (4, .ref b2)] (.null :: []) s7
      refine BW.run [.astore 5, .aload 4] (pc' := 16) (lv' := [(0, .ref a0), (1, .int x1), (2, .int x2), (3, .int x3), (4, .ref b2), (5, .null)]) (st' := [.ref b2]) (by decide +kernel) rfl rfl ?_
      refine BW.ifnull (by decide +kernel : decode tX9_crossings.2.1 16 = .ok (.ifnull 18, 3)) ?_
      refine BW.run [.aload 5] (pc' := 21) (lv' := [(0, .ref a0), (1, .int x1), (2, .int x2), (3, .int x3), (4, .ref b2), (5, .null)]) (st' := [.null]) (by decide +kernel) rfl rfl ?_
      refine BW.ifnullN 34 (by decide +kernel : decode tX9_crossings.2.1 21 = .ok (.ifnull 13, 3)) (by decide) ?_
      refine BW.run [.iconst (-1)] (pc' := 35) (lv' := [(0, .ref a0), (1, .int x1), (2, .int x2), (3, .int x3), (4, .ref b2), (5, .null)]) (st' := [.int (-1 : Int32)]) (by decide +kernel) rfl rfl ?_
      exact BW.iret (by decide +kernel : decode tX9_crossings.2.1 35 = .ok (.ireturn, 1)) rfl (Nat.zero_le _) (Nat.zero_le _) (hQ _ _ (Ok.some h))
    · show BW G tX9_crossings E 0 0 12 [(0, .ref a0), (1, .int x1), (2, .int x2), (3, .int x3), (4, .ref b2)] (.ref b8 :: []) s7
      refine BW.run [.astore 5, .aload 4] (pc' := 16) (lv' := [(0, .ref a0), (1, .int x1), (2, .int x2), (3, .int x3), (4, .ref b2), (5, .ref b8)]) (st' := [.ref b2]) (by decide +kernel) rfl rfl ?_
      refine BW.ifnull (by decide +kernel : decode tX9_crossings.2.1 16 = .ok (.ifnull 18, 3)) ?_
      refine BW.run [.aload 5] (pc' := 21) (lv' := [(0, .ref a0), (1, .int x1), (2, .int x2), (3, .int x3), (4, .ref b2), (5, .ref b8)]) (st' := [.ref b8]) (by decide +kernel) rfl rfl ?_
      refine BW.ifnull (by decide +kernel : decode tX9_crossings.2.1 21 = .ok (.ifnull 13, 3)) ?_
      refine BW.run [.iload_n 1, .iload_n 2] (pc' := 26) (lv' := [(0, .ref a0), (1, .int x1), (2, .int x2), (3, .int x3), (4, .ref b2), (5, .ref b8)]) (st' := [.int x2, .int x1]) (by decide +kernel) rfl rfl ?_
      refine BW.icmp_eq 34 (by decide +kernel : decode tX9_crossings.2.1 26 = .ok (.if_icmp .eq 8, 3)) (by decide) (fun hc => ?_) (fun hc => ?_)
      · have h := (Ok.ite h).1 hc
        refine BW.run [.iconst (-1)] (pc' := 35) (lv' := [(0, .ref a0), (1, .int x1), (2, .int x2), (3, .int x3), (4, .ref b2), (5, .ref b8)]) (st' := [.int (-1 : Int32)]) (by decide +kernel) rfl rfl ?_
        exact BW.iret (by decide +kernel : decode tX9_crossings.2.1 35 = .ok (.ireturn, 1)) rfl (Nat.zero_le _) (Nat.zero_le _) (hQ _ _ (Ok.some h))
      · have h := (Ok.ite h).2 hc
        refine BW.run [.iload_n 3, .iconst (-1)] (pc' := 31) (lv' := [(0, .ref a0), (1, .int x1), (2, .int x2), (3, .int x3), (4, .ref b2), (5, .ref b8)]) (st' := [.int (-1 : Int32), .int x3]) (by decide +kernel) rfl rfl ?_
        refine BW.icmp_ge 36 (by decide +kernel : decode tX9_crossings.2.1 31 = .ok (.if_icmp .ge 5, 3)) (by decide) (fun hc => ?_) (fun hc => ?_)
        · have h := (Ok.ite h).1 hc
          refine BW.run [.iconst 0, .istore 6, .iconst 0, .istore 7] (pc' := 42) (lv' := [(0, .ref a0), (1, .int x1), (2, .int x2), (3, .int x3), (4, .ref b2), (5, .ref b8), (6, .int (0 : Int32)), (7, .int (0 : Int32))]) (st' := []) (by decide +kernel) rfl rfl ?_
          refine BW.sub [3, 4, 5, 6, 7] rfl ?_
          refine bX9_crossings_W42 hRm (x3 := x3) (a4 := b2) (a5 := b8) (fun s18 v19 h => ?_) (fun r s h => ?_) n (s7, (0 : Int32), (0 : Int32)) (Ok.bindK h)
          · refine BW.run [.iload_n 3, .iconst (-1)] (pc' := 95) (lv' := [(3, .int x3), (6, .int v19)]) (st' := [.int (-1 : Int32), .int x3]) (by decide +kernel) rfl rfl ?_
            refine BW.icmp_ne 103 (by decide +kernel : decode tX9_crossings.2.1 95 = .ok (.if_icmp .ne 8, 3)) (by decide) (fun hc => ?_) (fun hc => ?_)
            · have h := (Ok.ite h).2 hc
              refine BW.run [.iconst (-1)] (pc' := 104) (lv' := [(3, .int x3), (6, .int v19)]) (st' := [.int (-1 : Int32)]) (by decide +kernel) rfl rfl ?_
              exact BW.iret (by decide +kernel : decode tX9_crossings.2.1 104 = .ok (.ireturn, 1)) rfl (Nat.zero_le _) (Nat.zero_le _) (hQ _ _ (Ok.some h))
            · have h := (Ok.ite h).1 hc
              refine BW.run [.iload 6] (pc' := 100) (lv' := [(3, .int x3), (6, .int v19)]) (st' := [.int v19]) (by decide +kernel) rfl rfl ?_
              refine BW.goto 104 (by decide +kernel : decode tX9_crossings.2.1 100 = .ok (.goto 4, 3)) (by decide) ?_
              exact BW.iret (by decide +kernel : decode tX9_crossings.2.1 104 = .ok (.ireturn, 1)) rfl (Nat.zero_le _) (Nat.zero_le _) (hQ _ _ (Ok.some h))
          · exact hQ r s (Ok.some h)
        · have h := (Ok.ite h).2 hc
          refine BW.run [.iconst (-1)] (pc' := 35) (lv' := [(0, .ref a0), (1, .int x1), (2, .int x2), (3, .int x3), (4, .ref b2), (5, .ref b8)]) (st' := [.int (-1 : Int32)]) (by decide +kernel) rfl rfl ?_
          exact BW.iret (by decide +kernel : decode tX9_crossings.2.1 35 = .ok (.ireturn, 1)) rfl (Nat.zero_le _) (Nat.zero_le _) (hQ _ _ (Ok.some h))
theorem oX9_crossings {n : Nat} {P : Int32 × Sg → Prop} {s0 : Sg} {a0 : Nat} {x1 : Int32} {x2 : Int32} {x3 : Int32} (h : Ok (mX9_crossings n s0 a0 x1 x2 x3) P) : ∃ n0, s0.2.1 a0 = some (9, n0) := by
  unfold mX9_crossings at h
  exact Ok.isO h
theorem DX9_crossings {G : Cx} {n : Nat} {P : Int32 × Sg → Prop} {s0 : Sg} {a0 : Nat} {x1 : Int32} {x2 : Int32} {x3 : Int32} (h : Ok (mX9_crossings n s0 a0 x1 x2 x3) P) : BM G tX9_crossings 1 21 0 0 [.ref a0, .int x1, .int x2, .int x3] s0 (fun v s => ∃ r, v = some (.int r) ∧ P (r, s)) := by
  refine BM.of (by decide +kernel) (Nat.le_of_ble_eq_true rfl) ?_
  exact bX9_crossings (E := (({ frames := 1, cells := 0, slots := 0, locals := 21 }), Aof s0, 0, 0, (fun v s => ∃ r, v = some (.int r) ∧ P (r, s)))) ⟨Nat.le_refl _, Nat.le_refl _⟩ (fun r s hp => ⟨r, rfl, hp⟩) h
def mX9_end (n : Nat) (s0 : Sg) (a0 : Nat) (x1 : Int32) : Option (Int32 × Sg) :=
  (isO 9 s0 a0).bind fun _ =>
  (toR (gV 9 s0 a0 3)).bind fun b1 =>
  (mX7_cut n s0 b1 x1).bind fun (v3, s2) =>
  if v3 = 0 ∨ v3 = 1 then some (v3, s2) else none
theorem bX9_end {G : Cx} {E : Ev} {n : Nat} (hRm : 1 ≤ E.1.frames ∧ 21 ≤ E.1.locals) {P : Int32 × Sg → Prop} (hQ : ∀ r s, P (r, s) → E.2.2.2.2 (some (.int r)) s) {s0 : Sg} {a0 : Nat} {x1 : Int32} (h : Ok (mX9_end n s0 a0 x1) P) : BW G tX9_end E 0 0 0 [(0, .ref a0), (1, .int x1)] [] s0 := by
  unfold mX9_end at h
  obtain ⟨_, _, h⟩ := Ok.bind h
  refine BW.run [.aload_n 0] (pc' := 1) (lv' := [(0, .ref a0), (1, .int x1)]) (st' := [.ref a0]) (by decide +kernel) rfl rfl ?_
  obtain ⟨b1, eb1, h⟩ := Ok.bind h
  refine BW.get (by decide +kernel : decode tX9_end.2.1 1 = .ok (.getfield 12, 3)) ciX9 (k := 3) (by decide) lkF_X9_12 (toR_V eb1) ?_
  refine BW.run [.iload_n 1] (pc' := 5) (lv' := [(0, .ref a0), (1, .int x1)]) (st' := [.int x1, .ref b1]) (by decide +kernel) rfl rfl ?_
  refine BW.callV (As := [.int x1]) (st := []) (by decide +kernel : decode tX9_end.2.1 5 = .ok (.invokevirtual 118, 3)) (DX7_cut (Ok.bindK h)) mfX7_cut lkM_X9_118 imX7_cut selX7_cut ciX7 (oX7_cut (Ok.bindK h)).choose_spec rfl rfl (Nat.le_of_ble_eq_true rfl) ⟨Nat.le_trans (by decide) hRm.1, Nat.le_trans (by decide) hRm.2⟩ ⟨Nat.zero_le _, Nat.zero_le _⟩ ?_
  rintro _ s2 ⟨v3, rfl, h⟩
  show BW G tX9_end E 0 0 8 [(0, .ref a0), (1, .int x1)] [.int v3] s2
  obtain ⟨hz, h⟩ := Ok.guard h
  exact BW.zret (by decide +kernel : decode tX9_end.2.1 8 = .ok (.ireturn, 1)) rfl hz (Nat.zero_le _) (Nat.zero_le _) (hQ _ _ (Ok.some h))
theorem oX9_end {n : Nat} {P : Int32 × Sg → Prop} {s0 : Sg} {a0 : Nat} {x1 : Int32} (h : Ok (mX9_end n s0 a0 x1) P) : ∃ n0, s0.2.1 a0 = some (9, n0) := by
  unfold mX9_end at h
  exact Ok.isO h
theorem DX9_end {G : Cx} {n : Nat} {P : Int32 × Sg → Prop} {s0 : Sg} {a0 : Nat} {x1 : Int32} (h : Ok (mX9_end n s0 a0 x1) P) : BM G tX9_end 1 21 0 0 [.ref a0, .int x1] s0 (fun v s => ∃ r, v = some (.int r) ∧ P (r, s)) := by
  refine BM.of (by decide +kernel) (Nat.le_of_ble_eq_true rfl) ?_
  exact bX9_end (E := (({ frames := 1, cells := 0, slots := 0, locals := 21 }), Aof s0, 0, 0, (fun v s => ∃ r, v = some (.int r) ∧ P (r, s)))) ⟨Nat.le_refl _, Nat.le_refl _⟩ (fun r s hp => ⟨r, rfl, hp⟩) h
def mX9_isWho (n : Nat) (s0 : Sg) (x0 : Int32) : Option (Int32 × Sg) :=
  if x0 < (-1 : Int32) then (
    some ((0 : Int32), s0)
  ) else (
    if (6 : Int32) ≤ x0 then (
      some ((0 : Int32), s0)
    ) else (
      some ((1 : Int32), s0)
    )
  )
theorem bX9_isWho {G : Cx} {E : Ev} {n : Nat} (hRm : 0 ≤ E.1.frames ∧ 0 ≤ E.1.locals) {P : Int32 × Sg → Prop} (hQ : ∀ r s, P (r, s) → E.2.2.2.2 (some (.int r)) s) {s0 : Sg} {x0 : Int32} (h : Ok (mX9_isWho n s0 x0) P) : BW G tX9_isWho E 0 0 0 [(0, .int x0)] [] s0 := by
  unfold mX9_isWho at h
  refine BW.run [.iload_n 0, .iconst (-1)] (pc' := 2) (lv' := [(0, .int x0)]) (st' := [.int (-1 : Int32), .int x0]) (by decide +kernel) rfl rfl ?_
  refine BW.icmp_lt 15 (by decide +kernel : decode tX9_isWho.2.1 2 = .ok (.if_icmp .lt 13, 3)) (by decide) (fun hc => ?_) (fun hc => ?_)
  · have h := (Ok.ite h).1 hc
    refine BW.run [.iconst 0] (pc' := 16) (lv' := [(0, .int x0)]) (st' := [.int (0 : Int32)]) (by decide +kernel) rfl rfl ?_
    exact BW.zret (by decide +kernel : decode tX9_isWho.2.1 16 = .ok (.ireturn, 1)) rfl (Or.inl rfl) (Nat.zero_le _) (Nat.zero_le _) (hQ _ _ (Ok.some h))
  · have h := (Ok.ite h).2 hc
    refine BW.run [.iload_n 0, .bipush 6] (pc' := 8) (lv' := [(0, .int x0)]) (st' := [.int (6 : Int32), .int x0]) (by decide +kernel) rfl rfl ?_
    refine BW.icmp_ge 15 (by decide +kernel : decode tX9_isWho.2.1 8 = .ok (.if_icmp .ge 7, 3)) (by decide) (fun hc => ?_) (fun hc => ?_)
    · have h := (Ok.ite h).1 hc
      refine BW.run [.iconst 0] (pc' := 16) (lv' := [(0, .int x0)]) (st' := [.int (0 : Int32)]) (by decide +kernel) rfl rfl ?_
      exact BW.zret (by decide +kernel : decode tX9_isWho.2.1 16 = .ok (.ireturn, 1)) rfl (Or.inl rfl) (Nat.zero_le _) (Nat.zero_le _) (hQ _ _ (Ok.some h))
    · have h := (Ok.ite h).2 hc
      refine BW.run [.iconst 1] (pc' := 12) (lv' := [(0, .int x0)]) (st' := [.int (1 : Int32)]) (by decide +kernel) rfl rfl ?_
      refine BW.goto 16 (by decide +kernel : decode tX9_isWho.2.1 12 = .ok (.goto 4, 3)) (by decide) ?_
      exact BW.zret (by decide +kernel : decode tX9_isWho.2.1 16 = .ok (.ireturn, 1)) rfl (Or.inr rfl) (Nat.zero_le _) (Nat.zero_le _) (hQ _ _ (Ok.some h))
theorem DX9_isWho {G : Cx} {n : Nat} {P : Int32 × Sg → Prop} {s0 : Sg} {x0 : Int32} (h : Ok (mX9_isWho n s0 x0) P) : BM G tX9_isWho 0 0 0 0 [.int x0] s0 (fun v s => ∃ r, v = some (.int r) ∧ P (r, s)) := by
  refine BM.of (by decide +kernel) (Nat.le_of_ble_eq_true rfl) ?_
  exact bX9_isWho (E := (({ frames := 0, cells := 0, slots := 0, locals := 0 }), Aof s0, 0, 0, (fun v s => ∃ r, v = some (.int r) ∧ P (r, s)))) ⟨Nat.le_refl _, Nat.le_refl _⟩ (fun r s hp => ⟨r, rfl, hp⟩) h
def mX9_printsIn (n : Nat) (s0 : Sg) (a0 : Nat) (x1 : Int32) (x2 : Int32) : Option (Int32 × Sg) :=
  (isO 9 s0 a0).bind fun _ =>
  (mX9_walkOf n s0 a0 x1).bind fun q3 => match q3 with
  | (none, s1) => (
    some ((0 : Int32), s1)
  )
  | (some b2, s1) => (
    (mX8_latestIn n s1 b2 x2).bind fun (v5, s4) =>
    if v5 = (-1 : Int32) then (
      some ((0 : Int32), s4)
    ) else (
      some ((1 : Int32), s4)
    )
  )
theorem bX9_printsIn {G : Cx} {E : Ev} {n : Nat} (hRm : 1 ≤ E.1.frames ∧ 21 ≤ E.1.locals) {P : Int32 × Sg → Prop} (hQ : ∀ r s, P (r, s) → E.2.2.2.2 (some (.int r)) s) {s0 : Sg} {a0 : Nat} {x1 : Int32} {x2 : Int32} (h : Ok (mX9_printsIn n s0 a0 x1 x2) P) : BW G tX9_printsIn E 0 0 0 [(0, .ref a0), (1, .int x1), (2, .int x2)] [] s0 := by
  unfold mX9_printsIn at h
  obtain ⟨_, _, h⟩ := Ok.bind h
  refine BW.run [.aload_n 0, .iload_n 1] (pc' := 2) (lv' := [(0, .ref a0), (1, .int x1), (2, .int x2)]) (st' := [.int x1, .ref a0]) (by decide +kernel) rfl rfl ?_
  refine BW.callV (As := [.int x1]) (st := []) (by decide +kernel : decode tX9_printsIn.2.1 2 = .ok (.invokevirtual 143, 3)) (DX9_walkOf (Ok.bindK h)) mfX9_walkOf lkM_X9_143 imX9_walkOf selX9_walkOf ciX9 (oX9_walkOf (Ok.bindK h)).choose_spec rfl rfl (Nat.le_of_ble_eq_true rfl) ⟨Nat.le_trans (by decide) hRm.1, Nat.le_trans (by decide) hRm.2⟩ ⟨Nat.zero_le _, Nat.zero_le _⟩ ?_
  rintro _ s1 ⟨_ | b2, rfl, h⟩
  · show BW G tX9_printsIn E 0 0 5 [(0, .ref a0), (1, .int x1), (2, .int x2)] (.null :: []) s1
    refine BW.run [.astore_n 3, .aload_n 3] (pc' := 7) (lv' := [(0, .ref a0), (1, .int x1), (2, .int x2), (3, .null)]) (st' := [.null]) (by decide +kernel) rfl rfl ?_
    refine BW.ifnullN 23 (by decide +kernel : decode tX9_printsIn.2.1 7 = .ok (.ifnull 16, 3)) (by decide) ?_
    refine BW.run [.iconst 0] (pc' := 24) (lv' := [(0, .ref a0), (1, .int x1), (2, .int x2), (3, .null)]) (st' := [.int (0 : Int32)]) (by decide +kernel) rfl rfl ?_
    exact BW.zret (by decide +kernel : decode tX9_printsIn.2.1 24 = .ok (.ireturn, 1)) rfl (Or.inl rfl) (Nat.zero_le _) (Nat.zero_le _) (hQ _ _ (Ok.some h))
  · show BW G tX9_printsIn E 0 0 5 [(0, .ref a0), (1, .int x1), (2, .int x2)] (.ref b2 :: []) s1
    refine BW.run [.astore_n 3, .aload_n 3] (pc' := 7) (lv' := [(0, .ref a0), (1, .int x1), (2, .int x2), (3, .ref b2)]) (st' := [.ref b2]) (by decide +kernel) rfl rfl ?_
    refine BW.ifnull (by decide +kernel : decode tX9_printsIn.2.1 7 = .ok (.ifnull 16, 3)) ?_
    refine BW.run [.aload_n 3, .iload_n 2] (pc' := 12) (lv' := [(0, .ref a0), (1, .int x1), (2, .int x2), (3, .ref b2)]) (st' := [.int x2, .ref b2]) (by decide +kernel) rfl rfl ?_
    refine BW.callV (As := [.int x2]) (st := []) (by decide +kernel : decode tX9_printsIn.2.1 12 = .ok (.invokevirtual 169, 3)) (DX8_latestIn (Ok.bindK h)) mfX8_latestIn lkM_X9_169 imX8_latestIn selX8_latestIn ciX8 (oX8_latestIn (Ok.bindK h)).choose_spec rfl rfl (Nat.le_of_ble_eq_true rfl) ⟨Nat.le_trans (by decide) hRm.1, Nat.le_trans (by decide) hRm.2⟩ ⟨Nat.zero_le _, Nat.zero_le _⟩ ?_
    rintro _ s4 ⟨v5, rfl, h⟩
    show BW G tX9_printsIn E 0 0 15 [(0, .ref a0), (1, .int x1), (2, .int x2), (3, .ref b2)] [.int v5] s4
    refine BW.run [.iconst (-1)] (pc' := 16) (lv' := [(0, .ref a0), (1, .int x1), (2, .int x2), (3, .ref b2)]) (st' := [.int (-1 : Int32), .int v5]) (by decide +kernel) rfl rfl ?_
    refine BW.icmp_eq 23 (by decide +kernel : decode tX9_printsIn.2.1 16 = .ok (.if_icmp .eq 7, 3)) (by decide) (fun hc => ?_) (fun hc => ?_)
    · have h := (Ok.ite h).1 hc
      refine BW.run [.iconst 0] (pc' := 24) (lv' := [(0, .ref a0), (1, .int x1), (2, .int x2), (3, .ref b2)]) (st' := [.int (0 : Int32)]) (by decide +kernel) rfl rfl ?_
      exact BW.zret (by decide +kernel : decode tX9_printsIn.2.1 24 = .ok (.ireturn, 1)) rfl (Or.inl rfl) (Nat.zero_le _) (Nat.zero_le _) (hQ _ _ (Ok.some h))
    · have h := (Ok.ite h).2 hc
      refine BW.run [.iconst 1] (pc' := 20) (lv' := [(0, .ref a0), (1, .int x1), (2, .int x2), (3, .ref b2)]) (st' := [.int (1 : Int32)]) (by decide +kernel) rfl rfl ?_
      refine BW.goto 24 (by decide +kernel : decode tX9_printsIn.2.1 20 = .ok (.goto 4, 3)) (by decide) ?_
      exact BW.zret (by decide +kernel : decode tX9_printsIn.2.1 24 = .ok (.ireturn, 1)) rfl (Or.inr rfl) (Nat.zero_le _) (Nat.zero_le _) (hQ _ _ (Ok.some h))
theorem oX9_printsIn {n : Nat} {P : Int32 × Sg → Prop} {s0 : Sg} {a0 : Nat} {x1 : Int32} {x2 : Int32} (h : Ok (mX9_printsIn n s0 a0 x1 x2) P) : ∃ n0, s0.2.1 a0 = some (9, n0) := by
  unfold mX9_printsIn at h
  exact Ok.isO h
theorem DX9_printsIn {G : Cx} {n : Nat} {P : Int32 × Sg → Prop} {s0 : Sg} {a0 : Nat} {x1 : Int32} {x2 : Int32} (h : Ok (mX9_printsIn n s0 a0 x1 x2) P) : BM G tX9_printsIn 1 21 0 0 [.ref a0, .int x1, .int x2] s0 (fun v s => ∃ r, v = some (.int r) ∧ P (r, s)) := by
  refine BM.of (by decide +kernel) (Nat.le_of_ble_eq_true rfl) ?_
  exact bX9_printsIn (E := (({ frames := 1, cells := 0, slots := 0, locals := 21 }), Aof s0, 0, 0, (fun v s => ∃ r, v = some (.int r) ∧ P (r, s)))) ⟨Nat.le_refl _, Nat.le_refl _⟩ (fun r s hp => ⟨r, rfl, hp⟩) h
def mX9_isCrossing (n : Nat) (s0 : Sg) (a0 : Nat) (x1 : Int32) (x2 : Int32) (x3 : Int32) : Option (Int32 × Sg) :=
  (isO 9 s0 a0).bind fun _ =>
  if x1 = x2 then (
    some ((0 : Int32), s0)
  ) else (
    (mX9_printsIn n s0 a0 x1 x3).bind fun (v2, s1) =>
    if v2 = 0 then (
      some ((0 : Int32), s1)
    ) else (
      (mX9_printsIn n s1 a0 x2 x3).bind fun (v5, s4) =>
      if v5 = 0 then (
        some ((0 : Int32), s4)
      ) else (
        some ((1 : Int32), s4)
      )
    )
  )
theorem bX9_isCrossing {G : Cx} {E : Ev} {n : Nat} (hRm : 2 ≤ E.1.frames ∧ 44 ≤ E.1.locals) {P : Int32 × Sg → Prop} (hQ : ∀ r s, P (r, s) → E.2.2.2.2 (some (.int r)) s) {s0 : Sg} {a0 : Nat} {x1 : Int32} {x2 : Int32} {x3 : Int32} (h : Ok (mX9_isCrossing n s0 a0 x1 x2 x3) P) : BW G tX9_isCrossing E 0 0 0 [(0, .ref a0), (1, .int x1), (2, .int x2), (3, .int x3)] [] s0 := by
  unfold mX9_isCrossing at h
  obtain ⟨_, _, h⟩ := Ok.bind h
  refine BW.run [.iload_n 1, .iload_n 2] (pc' := 2) (lv' := [(0, .ref a0), (1, .int x1), (2, .int x2), (3, .int x3)]) (st' := [.int x2, .int x1]) (by decide +kernel) rfl rfl ?_
  refine BW.icmp_eq 27 (by decide +kernel : decode tX9_isCrossing.2.1 2 = .ok (.if_icmp .eq 25, 3)) (by decide) (fun hc => ?_) (fun hc => ?_)
  · have h := (Ok.ite h).1 hc
    refine BW.run [.iconst 0] (pc' := 28) (lv' := [(0, .ref a0), (1, .int x1), (2, .int x2), (3, .int x3)]) (st' := [.int (0 : Int32)]) (by decide +kernel) rfl rfl ?_
    exact BW.zret (by decide +kernel : decode tX9_isCrossing.2.1 28 = .ok (.ireturn, 1)) rfl (Or.inl rfl) (Nat.zero_le _) (Nat.zero_le _) (hQ _ _ (Ok.some h))
  · have h := (Ok.ite h).2 hc
    refine BW.run [.aload_n 0, .iload_n 1, .iload_n 3] (pc' := 8) (lv' := [(0, .ref a0), (1, .int x1), (2, .int x2), (3, .int x3)]) (st' := [.int x3, .int x1, .ref a0]) (by decide +kernel) rfl rfl ?_
    refine BW.callV (As := [.int x1, .int x3]) (st := []) (by decide +kernel : decode tX9_isCrossing.2.1 8 = .ok (.invokevirtual 172, 3)) (DX9_printsIn (Ok.bindK h)) mfX9_printsIn lkM_X9_172 imX9_printsIn selX9_printsIn ciX9 (oX9_printsIn (Ok.bindK h)).choose_spec rfl rfl (Nat.le_of_ble_eq_true rfl) ⟨Nat.le_trans (by decide) hRm.1, Nat.le_trans (by decide) hRm.2⟩ ⟨Nat.zero_le _, Nat.zero_le _⟩ ?_
    rintro _ s1 ⟨v2, rfl, h⟩
    show BW G tX9_isCrossing E 0 0 11 [(0, .ref a0), (1, .int x1), (2, .int x2), (3, .int x3)] [.int v2] s1
    refine BW.if_eq 27 (by decide +kernel : decode tX9_isCrossing.2.1 11 = .ok (.ifCond .eq 16, 3)) (by decide) (fun hc => ?_) (fun hc => ?_)
    · have h := (Ok.ite h).1 hc
      refine BW.run [.iconst 0] (pc' := 28) (lv' := [(0, .ref a0), (1, .int x1), (2, .int x2), (3, .int x3)]) (st' := [.int (0 : Int32)]) (by decide +kernel) rfl rfl ?_
      exact BW.zret (by decide +kernel : decode tX9_isCrossing.2.1 28 = .ok (.ireturn, 1)) rfl (Or.inl rfl) (Nat.zero_le _) (Nat.zero_le _) (hQ _ _ (Ok.some h))
    · have h := (Ok.ite h).2 hc
      refine BW.run [.aload_n 0, .iload_n 2, .iload_n 3] (pc' := 17) (lv' := [(0, .ref a0), (1, .int x1), (2, .int x2), (3, .int x3)]) (st' := [.int x3, .int x2, .ref a0]) (by decide +kernel) rfl rfl ?_
      refine BW.callV (As := [.int x2, .int x3]) (st := []) (by decide +kernel : decode tX9_isCrossing.2.1 17 = .ok (.invokevirtual 172, 3)) (DX9_printsIn (Ok.bindK h)) mfX9_printsIn lkM_X9_172 imX9_printsIn selX9_printsIn ciX9 (oX9_printsIn (Ok.bindK h)).choose_spec rfl rfl (Nat.le_of_ble_eq_true rfl) ⟨Nat.le_trans (by decide) hRm.1, Nat.le_trans (by decide) hRm.2⟩ ⟨Nat.zero_le _, Nat.zero_le _⟩ ?_
      rintro _ s4 ⟨v5, rfl, h⟩
      show BW G tX9_isCrossing E 0 0 20 [(0, .ref a0), (1, .int x1), (2, .int x2), (3, .int x3)] [.int v5] s4
      refine BW.if_eq 27 (by decide +kernel : decode tX9_isCrossing.2.1 20 = .ok (.ifCond .eq 7, 3)) (by decide) (fun hc => ?_) (fun hc => ?_)
      · have h := (Ok.ite h).1 hc
        refine BW.run [.iconst 0] (pc' := 28) (lv' := [(0, .ref a0), (1, .int x1), (2, .int x2), (3, .int x3)]) (st' := [.int (0 : Int32)]) (by decide +kernel) rfl rfl ?_
        exact BW.zret (by decide +kernel : decode tX9_isCrossing.2.1 28 = .ok (.ireturn, 1)) rfl (Or.inl rfl) (Nat.zero_le _) (Nat.zero_le _) (hQ _ _ (Ok.some h))
      · have h := (Ok.ite h).2 hc
        refine BW.run [.iconst 1] (pc' := 24) (lv' := [(0, .ref a0), (1, .int x1), (2, .int x2), (3, .int x3)]) (st' := [.int (1 : Int32)]) (by decide +kernel) rfl rfl ?_
        refine BW.goto 28 (by decide +kernel : decode tX9_isCrossing.2.1 24 = .ok (.goto 4, 3)) (by decide) ?_
        exact BW.zret (by decide +kernel : decode tX9_isCrossing.2.1 28 = .ok (.ireturn, 1)) rfl (Or.inr rfl) (Nat.zero_le _) (Nat.zero_le _) (hQ _ _ (Ok.some h))
theorem oX9_isCrossing {n : Nat} {P : Int32 × Sg → Prop} {s0 : Sg} {a0 : Nat} {x1 : Int32} {x2 : Int32} {x3 : Int32} (h : Ok (mX9_isCrossing n s0 a0 x1 x2 x3) P) : ∃ n0, s0.2.1 a0 = some (9, n0) := by
  unfold mX9_isCrossing at h
  exact Ok.isO h
theorem DX9_isCrossing {G : Cx} {n : Nat} {P : Int32 × Sg → Prop} {s0 : Sg} {a0 : Nat} {x1 : Int32} {x2 : Int32} {x3 : Int32} (h : Ok (mX9_isCrossing n s0 a0 x1 x2 x3) P) : BM G tX9_isCrossing 2 44 0 0 [.ref a0, .int x1, .int x2, .int x3] s0 (fun v s => ∃ r, v = some (.int r) ∧ P (r, s)) := by
  refine BM.of (by decide +kernel) (Nat.le_of_ble_eq_true rfl) ?_
  exact bX9_isCrossing (E := (({ frames := 2, cells := 0, slots := 0, locals := 44 }), Aof s0, 0, 0, (fun v s => ∃ r, v = some (.int r) ∧ P (r, s)))) ⟨Nat.le_refl _, Nat.le_refl _⟩ (fun r s hp => ⟨r, rfl, hp⟩) h
def mX9_keep (n : Nat) (s0 : Sg) (a0 : Nat) (x1 : Int32) (x2 : Int32) (x3 : Int32) (x4 : Int32) (x5 : Int32) : Option (Int32 × Sg) :=
  (isO 9 s0 a0).bind fun _ =>
  (toI (gV 9 s0 a0 8)).bind fun v1 =>
  if v1 < (20 : Int32) then (
    (toR (gV 9 s0 a0 7)).bind fun b2 =>
    (toI (gV 9 s0 a0 8)).bind fun v3 =>
    (toQ (aV 14 s0 b2 v3)).bind fun q4 => match q4 with
    | none => (
      none
    )
    | some b5 => (
      (mX2_tell n s0 b5 x1 x2 x3 x4 x5).bind fun s6 =>
      (toI (gV 9 s6 a0 8)).bind fun v7 =>
      (pV 9 s6 a0 8 (.int (v7 + (1 : Int32)))).bind fun s8 =>
      (toI (gV 9 s8 a0 8)).bind fun v9 =>
      some ((v9 - (1 : Int32)), s8)
    )
  ) else (
    some ((-1 : Int32), s0)
  )
theorem bX9_keep {G : Cx} {E : Ev} {n : Nat} (hRm : 1 ≤ E.1.frames ∧ 25 ≤ E.1.locals) {P : Int32 × Sg → Prop} (hQ : ∀ r s, P (r, s) → E.2.2.2.2 (some (.int r)) s) {s0 : Sg} {a0 : Nat} {x1 : Int32} {x2 : Int32} {x3 : Int32} {x4 : Int32} {x5 : Int32} (h : Ok (mX9_keep n s0 a0 x1 x2 x3 x4 x5) P) : BW G tX9_keep E 0 0 0 [(0, .ref a0), (1, .int x1), (2, .int x2), (3, .int x3), (4, .int x4), (5, .int x5)] [] s0 := by
  unfold mX9_keep at h
  obtain ⟨_, _, h⟩ := Ok.bind h
  refine BW.run [.aload_n 0] (pc' := 1) (lv' := [(0, .ref a0), (1, .int x1), (2, .int x2), (3, .int x3), (4, .int x4), (5, .int x5)]) (st' := [.ref a0]) (by decide +kernel) rfl rfl ?_
  obtain ⟨v1, ev1, h⟩ := Ok.bind h
  refine BW.get (by decide +kernel : decode tX9_keep.2.1 1 = .ok (.getfield 32, 3)) ciX9 (k := 8) (by decide) lkF_X9_32 (toI_V ev1) ?_
  refine BW.run [.bipush 20] (pc' := 6) (lv' := [(0, .ref a0), (1, .int x1), (2, .int x2), (3, .int x3), (4, .int x4), (5, .int x5)]) (st' := [.int (20 : Int32), .int v1]) (by decide +kernel) rfl rfl ?_
  refine BW.icmp_lt 11 (by decide +kernel : decode tX9_keep.2.1 6 = .ok (.if_icmp .lt 5, 3)) (by decide) (fun hc => ?_) (fun hc => ?_)
  · have h := (Ok.ite h).1 hc
    refine BW.run [.aload_n 0] (pc' := 12) (lv' := [(0, .ref a0), (1, .int x1), (2, .int x2), (3, .int x3), (4, .int x4), (5, .int x5)]) (st' := [.ref a0]) (by decide +kernel) rfl rfl ?_
    obtain ⟨b2, eb2, h⟩ := Ok.bind h
    refine BW.get (by decide +kernel : decode tX9_keep.2.1 12 = .ok (.getfield 28, 3)) ciX9 (k := 7) (by decide) lkF_X9_28 (toR_V eb2) ?_
    refine BW.run [.aload_n 0] (pc' := 16) (lv' := [(0, .ref a0), (1, .int x1), (2, .int x2), (3, .int x3), (4, .int x4), (5, .int x5)]) (st' := [.ref a0, .ref b2]) (by decide +kernel) rfl rfl ?_
    obtain ⟨v3, ev3, h⟩ := Ok.bind h
    refine BW.get (by decide +kernel : decode tX9_keep.2.1 16 = .ok (.getfield 32, 3)) ciX9 (k := 8) (by decide) lkF_X9_32 (toI_V ev3) ?_
    obtain ⟨q4, eq4, h⟩ := Ok.bind h
    refine BW.aald (by decide +kernel : decode tX9_keep.2.1 19 = .ok (.aaload, 1)) (by decide) (toQ_V eq4) ?_
    cases q4 with
    | none =>
      show BW G tX9_keep E 0 0 20 [(0, .ref a0), (1, .int x1), (2, .int x2), (3, .int x3), (4, .int x4), (5, .int x5)] (.null :: []) s0
      exact (Ok.no h).elim
    | some b5 =>
      show BW G tX9_keep E 0 0 20 [(0, .ref a0), (1, .int x1), (2, .int x2), (3, .int x3), (4, .int x4), (5, .int x5)] (.ref b5 :: []) s0
      refine BW.run [.iload_n 1, .iload_n 2, .iload_n 3, .iload 4, .iload 5] (pc' := 27) (lv' := [(0, .ref a0), (1, .int x1), (2, .int x2), (3, .int x3), (4, .int x4), (5, .int x5)]) (st' := [.int x5, .int x4, .int x3, .int x2, .int x1, .ref b5]) (by decide +kernel) rfl rfl ?_
      refine BW.callV (As := [.int x1, .int x2, .int x3, .int x4, .int x5]) (st := []) (by decide +kernel : decode tX9_keep.2.1 27 = .ok (.invokevirtual 333, 3)) (DX2_tell (Ok.bindK h)) mfX2_tell lkM_X9_333 imX2_tell selX2_tell ciX2 (oX2_tell (Ok.bindK h)).choose_spec rfl rfl (Nat.le_of_ble_eq_true rfl) ⟨Nat.le_trans (by decide) hRm.1, Nat.le_trans (by decide) hRm.2⟩ ⟨Nat.zero_le _, Nat.zero_le _⟩ ?_
      rintro _ s6 ⟨rfl, h⟩
      show BW G tX9_keep E 0 0 30 [(0, .ref a0), (1, .int x1), (2, .int x2), (3, .int x3), (4, .int x4), (5, .int x5)] [] s6
      refine BW.run [.aload_n 0, .dup] (pc' := 32) (lv' := [(0, .ref a0), (1, .int x1), (2, .int x2), (3, .int x3), (4, .int x4), (5, .int x5)]) (st' := [.ref a0, .ref a0]) (by decide +kernel) rfl rfl ?_
      obtain ⟨v7, ev7, h⟩ := Ok.bind h
      refine BW.get (by decide +kernel : decode tX9_keep.2.1 32 = .ok (.getfield 32, 3)) ciX9 (k := 8) (by decide) lkF_X9_32 (toI_V ev7) ?_
      refine BW.run [.iconst 1, .iadd] (pc' := 37) (lv' := [(0, .ref a0), (1, .int x1), (2, .int x2), (3, .int x3), (4, .int x4), (5, .int x5)]) (st' := [.int (v7 + (1 : Int32)), .ref a0]) (by decide +kernel) rfl rfl ?_
      obtain ⟨s8, es8, h⟩ := Ok.bind h
      refine BW.put (by decide +kernel : decode tX9_keep.2.1 37 = .ok (.putfield 32, 3)) ciX9 (k := 8) (by decide) lkF_X9_32 rfl rfl rfl es8 ?_
      refine BW.run [.aload_n 0] (pc' := 41) (lv' := [(0, .ref a0), (1, .int x1), (2, .int x2), (3, .int x3), (4, .int x4), (5, .int x5)]) (st' := [.ref a0]) (by decide +kernel) rfl rfl ?_
      obtain ⟨v9, ev9, h⟩ := Ok.bind h
      refine BW.get (by decide +kernel : decode tX9_keep.2.1 41 = .ok (.getfield 32, 3)) ciX9 (k := 8) (by decide) lkF_X9_32 (toI_V ev9) ?_
      refine BW.run [.iconst 1, .isub] (pc' := 46) (lv' := [(0, .ref a0), (1, .int x1), (2, .int x2), (3, .int x3), (4, .int x4), (5, .int x5)]) (st' := [.int (v9 - (1 : Int32))]) (by decide +kernel) rfl rfl ?_
      exact BW.iret (by decide +kernel : decode tX9_keep.2.1 46 = .ok (.ireturn, 1)) rfl (Nat.zero_le _) (Nat.zero_le _) (hQ _ _ (Ok.some h))
  · have h := (Ok.ite h).2 hc
    refine BW.run [.iconst (-1)] (pc' := 10) (lv' := [(0, .ref a0), (1, .int x1), (2, .int x2), (3, .int x3), (4, .int x4), (5, .int x5)]) (st' := [.int (-1 : Int32)]) (by decide +kernel) rfl rfl ?_
    exact BW.iret (by decide +kernel : decode tX9_keep.2.1 10 = .ok (.ireturn, 1)) rfl (Nat.zero_le _) (Nat.zero_le _) (hQ _ _ (Ok.some h))
theorem oX9_keep {n : Nat} {P : Int32 × Sg → Prop} {s0 : Sg} {a0 : Nat} {x1 : Int32} {x2 : Int32} {x3 : Int32} {x4 : Int32} {x5 : Int32} (h : Ok (mX9_keep n s0 a0 x1 x2 x3 x4 x5) P) : ∃ n0, s0.2.1 a0 = some (9, n0) := by
  unfold mX9_keep at h
  exact Ok.isO h
theorem DX9_keep {G : Cx} {n : Nat} {P : Int32 × Sg → Prop} {s0 : Sg} {a0 : Nat} {x1 : Int32} {x2 : Int32} {x3 : Int32} {x4 : Int32} {x5 : Int32} (h : Ok (mX9_keep n s0 a0 x1 x2 x3 x4 x5) P) : BM G tX9_keep 1 25 0 0 [.ref a0, .int x1, .int x2, .int x3, .int x4, .int x5] s0 (fun v s => ∃ r, v = some (.int r) ∧ P (r, s)) := by
  refine BM.of (by decide +kernel) (Nat.le_of_ble_eq_true rfl) ?_
  exact bX9_keep (E := (({ frames := 1, cells := 0, slots := 0, locals := 25 }), Aof s0, 0, 0, (fun v s => ∃ r, v = some (.int r) ∧ P (r, s)))) ⟨Nat.le_refl _, Nat.le_refl _⟩ (fun r s hp => ⟨r, rfl, hp⟩) h
def mX9_leadToLieAbove_24 (n : Nat) (s0 : Sg)  : Option (Int32 × Sg) :=
  some ((1000000 : Int32), s0)
theorem bX9_leadToLieAbove_24 {G : Cx} {E : Ev} {n : Nat} (hRm : 1 ≤ E.1.frames ∧ 21 ≤ E.1.locals) {s0 : Sg}  {P : Int32 × Sg → Prop} (hQ : ∀ r s, P (r, s) → E.2.2.2.2 (some (.int r)) s) (h : Ok (mX9_leadToLieAbove_24 n s0 ) P) : BW G tX9_leadToLieAbove E 0 0 24 [] [] s0 := by
  unfold mX9_leadToLieAbove_24 at h
  refine BW.ldcw (by decide +kernel : decode tX9_leadToLieAbove.2.1 24 = .ok (.ldc_w 328, 3)) (x := (1000000 : Int32)) lkK_X9_328 ?_
  exact BW.iret (by decide +kernel : decode tX9_leadToLieAbove.2.1 27 = .ok (.ireturn, 1)) rfl (Nat.zero_le _) (Nat.zero_le _) (hQ _ _ (Ok.some h))
def mX9_leadToLieAbove (n : Nat) (s0 : Sg) (a0 : Nat) (x1 : Int32) (x2 : Int32) (x3 : Int32) : Option (Int32 × Sg) :=
  (isO 9 s0 a0).bind fun _ =>
  (mX9_walkOf n s0 a0 x1).bind fun q3 => match q3 with
  | (none, s1) => (
    (mX9_walkOf n s1 a0 x2).bind fun q6 => match q6 with
    | (none, s4) => (
      mX9_leadToLieAbove_24 n s4 
    )
    | (some b5, s4) => (
      mX9_leadToLieAbove_24 n s4 
    )
  )
  | (some b2, s1) => (
    (mX9_walkOf n s1 a0 x2).bind fun q9 => match q9 with
    | (none, s7) => (
      mX9_leadToLieAbove_24 n s7 
    )
    | (some b8, s7) => (
      (toI (gV 8 s7 b8 0)).bind fun v10 =>
      (mX8_latestIn n s7 b8 x3).bind fun (v12, s11) =>
      (toI (gV 8 s11 b2 0)).bind fun v14 =>
      (mX8_latestIn n s11 b2 x3).bind fun (v16, s15) =>
      some ((((v10 * v12) - (v14 * v16)) + (1 : Int32)), s15)
    )
  )
theorem bX9_leadToLieAbove {G : Cx} {E : Ev} {n : Nat} (hRm : 1 ≤ E.1.frames ∧ 21 ≤ E.1.locals) {P : Int32 × Sg → Prop} (hQ : ∀ r s, P (r, s) → E.2.2.2.2 (some (.int r)) s) {s0 : Sg} {a0 : Nat} {x1 : Int32} {x2 : Int32} {x3 : Int32} (h : Ok (mX9_leadToLieAbove n s0 a0 x1 x2 x3) P) : BW G tX9_leadToLieAbove E 0 0 0 [(0, .ref a0), (1, .int x1), (2, .int x2), (3, .int x3)] [] s0 := by
  unfold mX9_leadToLieAbove at h
  obtain ⟨_, _, h⟩ := Ok.bind h
  refine BW.run [.aload_n 0, .iload_n 1] (pc' := 2) (lv' := [(0, .ref a0), (1, .int x1), (2, .int x2), (3, .int x3)]) (st' := [.int x1, .ref a0]) (by decide +kernel) rfl rfl ?_
  refine BW.callV (As := [.int x1]) (st := []) (by decide +kernel : decode tX9_leadToLieAbove.2.1 2 = .ok (.invokevirtual 143, 3)) (DX9_walkOf (Ok.bindK h)) mfX9_walkOf lkM_X9_143 imX9_walkOf selX9_walkOf ciX9 (oX9_walkOf (Ok.bindK h)).choose_spec rfl rfl (Nat.le_of_ble_eq_true rfl) ⟨Nat.le_trans (by decide) hRm.1, Nat.le_trans (by decide) hRm.2⟩ ⟨Nat.zero_le _, Nat.zero_le _⟩ ?_
  rintro _ s1 ⟨_ | b2, rfl, h⟩
  · show BW G tX9_leadToLieAbove E 0 0 5 [(0, .ref a0), (1, .int x1), (2, .int x2), (3, .int x3)] (.null :: []) s1
    refine BW.run [.astore 4, .aload_n 0, .iload_n 2] (pc' := 9) (lv' := [(0, .ref a0), (1, .int x1), (2, .int x2), (3, .int x3), (4, .null)]) (st' := [.int x2, .ref a0]) (by decide +kernel) rfl rfl ?_
    refine BW.callV (As := [.int x2]) (st := []) (by decide +kernel : decode tX9_leadToLieAbove.2.1 9 = .ok (.invokevirtual 143, 3)) (DX9_walkOf (Ok.bindK h)) mfX9_walkOf lkM_X9_143 imX9_walkOf selX9_walkOf ciX9 (oX9_walkOf (Ok.bindK h)).choose_spec rfl rfl (Nat.le_of_ble_eq_true rfl) ⟨Nat.le_trans (by decide) hRm.1, Nat.le_trans (by decide) hRm.2⟩ ⟨Nat.zero_le _, Nat.zero_le _⟩ ?_
    rintro _ s4 ⟨_ | b5, rfl, h⟩
    · show BW G tX9_leadToLieAbove E 0 0 12 [(0, .ref a0), (1, .int x1), (2, .int x2), (3, .int x3), (4, .null)] (.null :: []) s4
      refine BW.run [.astore 5, .aload 4] (pc' := 16) (lv' := [(0, .ref a0), (1, .int x1), (2, .int x2), (3, .int x3), (4, .null), (5, .null)]) (st' := [.null]) (by decide +kernel) rfl rfl ?_
      refine BW.ifnullN 24 (by decide +kernel : decode tX9_leadToLieAbove.2.1 16 = .ok (.ifnull 8, 3)) (by decide) ?_
      refine BW.sub [] rfl ?_
      exact bX9_leadToLieAbove_24 hRm hQ h
    · show BW G tX9_leadToLieAbove E 0 0 12 [(0, .ref a0), (1, .int x1), (2, .int x2), (3, .int x3), (4, .null)] (.ref b5 :: []) s4
      refine BW.run [.astore 5, .aload 4] (pc' := 16) (lv' := [(0, .ref a0), (1, .int x1), (2, .int x2), (3, .int x3), (4, .null), (5, .ref b5)]) (st' := [.null]) (by decide +kernel) rfl rfl ?_
      refine BW.ifnullN 24 (by decide +kernel : decode tX9_leadToLieAbove.2.1 16 = .ok (.ifnull 8, 3)) (by decide) ?_
      refine BW.sub [] rfl ?_
      exact bX9_leadToLieAbove_24 hRm hQ h
  · show BW G tX9_leadToLieAbove E 0 0 5 [(0, .ref a0), (1, .int x1), (2, .int x2), (3, .int x3)] (.ref b2 :: []) s1
    refine BW.run [.astore 4, .aload_n 0, .iload_n 2] (pc' := 9) (lv' := [(0, .ref a0), (1, .int x1), (2, .int x2), (3, .int x3), (4, .ref b2)]) (st' := [.int x2, .ref a0]) (by decide +kernel) rfl rfl ?_
    refine BW.callV (As := [.int x2]) (st := []) (by decide +kernel : decode tX9_leadToLieAbove.2.1 9 = .ok (.invokevirtual 143, 3)) (DX9_walkOf (Ok.bindK h)) mfX9_walkOf lkM_X9_143 imX9_walkOf selX9_walkOf ciX9 (oX9_walkOf (Ok.bindK h)).choose_spec rfl rfl (Nat.le_of_ble_eq_true rfl) ⟨Nat.le_trans (by decide) hRm.1, Nat.le_trans (by decide) hRm.2⟩ ⟨Nat.zero_le _, Nat.zero_le _⟩ ?_
    rintro _ s7 ⟨_ | b8, rfl, h⟩
    · show BW G tX9_leadToLieAbove E 0 0 12 [(0, .ref a0), (1, .int x1), (2, .int x2), (3, .int x3), (4, .ref b2)] (.null :: []) s7
      refine BW.run [.astore 5, .aload 4] (pc' := 16) (lv' := [(0, .ref a0), (1, .int x1), (2, .int x2), (3, .int x3), (4, .ref b2), (5, .null)]) (st' := [.ref b2]) (by decide +kernel) rfl rfl ?_
      refine BW.ifnull (by decide +kernel : decode tX9_leadToLieAbove.2.1 16 = .ok (.ifnull 8, 3)) ?_
      refine BW.run [.aload 5] (pc' := 21) (lv' := [(0, .ref a0), (1, .int x1), (2, .int x2), (3, .int x3), (4, .ref b2), (5, .null)]) (st' := [.null]) (by decide +kernel) rfl rfl ?_
      refine BW.ifnonnullN (by decide +kernel : decode tX9_leadToLieAbove.2.1 21 = .ok (.ifnonnull 7, 3)) ?_
      refine BW.sub [] rfl ?_
      exact bX9_leadToLieAbove_24 hRm hQ h
    · show BW G tX9_leadToLieAbove E 0 0 12 [(0, .ref a0), (1, .int x1), (2, .int x2), (3, .int x3), (4, .ref b2)] (.ref b8 :: []) s7
      refine BW.run [.astore 5, .aload 4] (pc' := 16) (lv' := [(0, .ref a0), (1, .int x1), (2, .int x2), (3, .int x3), (4, .ref b2), (5, .ref b8)]) (st' := [.ref b2]) (by decide +kernel) rfl rfl ?_
      refine BW.ifnull (by decide +kernel : decode tX9_leadToLieAbove.2.1 16 = .ok (.ifnull 8, 3)) ?_
      refine BW.run [.aload 5] (pc' := 21) (lv' := [(0, .ref a0), (1, .int x1), (2, .int x2), (3, .int x3), (4, .ref b2), (5, .ref b8)]) (st' := [.ref b8]) (by decide +kernel) rfl rfl ?_
      refine BW.ifnonnull 28 (by decide +kernel : decode tX9_leadToLieAbove.2.1 21 = .ok (.ifnonnull 7, 3)) (by decide) ?_
      refine BW.run [.aload 5] (pc' := 30) (lv' := [(0, .ref a0), (1, .int x1), (2, .int x2), (3, .int x3), (4, .ref b2), (5, .ref b8)]) (st' := [.ref b8]) (by decide +kernel) rfl rfl ?_
      obtain ⟨v10, ev10, h⟩ := Ok.bind h
      refine BW.getN (by decide +kernel : decode tX9_leadToLieAbove.2.1 30 = .ok (.getfield 153, 3)) ciX8 (k := 0) (by decide) lkF_X9_153 (toI_V ev10) ?_
      refine BW.run [.aload 5, .iload_n 3] (pc' := 36) (lv' := [(0, .ref a0), (1, .int x1), (2, .int x2), (3, .int x3), (4, .ref b2), (5, .ref b8)]) (st' := [.int x3, .ref b8, .int v10]) (by decide +kernel) rfl rfl ?_
      refine BW.callV (As := [.int x3]) (st := [.int v10]) (by decide +kernel : decode tX9_leadToLieAbove.2.1 36 = .ok (.invokevirtual 169, 3)) (DX8_latestIn (Ok.bindK h)) mfX8_latestIn lkM_X9_169 imX8_latestIn selX8_latestIn ciX8 (oX8_latestIn (Ok.bindK h)).choose_spec rfl rfl (Nat.le_of_ble_eq_true rfl) ⟨Nat.le_trans (by decide) hRm.1, Nat.le_trans (by decide) hRm.2⟩ ⟨Nat.zero_le _, Nat.zero_le _⟩ ?_
      rintro _ s11 ⟨v12, rfl, h⟩
      show BW G tX9_leadToLieAbove E 0 0 39 [(0, .ref a0), (1, .int x1), (2, .int x2), (3, .int x3), (4, .ref b2), (5, .ref b8)] [.int v12, .int v10] s11
      refine BW.run [.imul, .aload 4] (pc' := 42) (lv' := [(0, .ref a0), (1, .int x1), (2, .int x2), (3, .int x3), (4, .ref b2), (5, .ref b8)]) (st' := [.ref b2, .int (v10 * v12)]) (by decide +kernel) rfl rfl ?_
      obtain ⟨v14, ev14, h⟩ := Ok.bind h
      refine BW.getN (by decide +kernel : decode tX9_leadToLieAbove.2.1 42 = .ok (.getfield 153, 3)) ciX8 (k := 0) (by decide) lkF_X9_153 (toI_V ev14) ?_
      refine BW.run [.aload 4, .iload_n 3] (pc' := 48) (lv' := [(0, .ref a0), (1, .int x1), (2, .int x2), (3, .int x3), (4, .ref b2), (5, .ref b8)]) (st' := [.int x3, .ref b2, .int v14, .int (v10 * v12)]) (by decide +kernel) rfl rfl ?_
      refine BW.callV (As := [.int x3]) (st := [.int v14, .int (v10 * v12)]) (by decide +kernel : decode tX9_leadToLieAbove.2.1 48 = .ok (.invokevirtual 169, 3)) (DX8_latestIn (Ok.bindK h)) mfX8_latestIn lkM_X9_169 imX8_latestIn selX8_latestIn ciX8 (oX8_latestIn (Ok.bindK h)).choose_spec rfl rfl (Nat.le_of_ble_eq_true rfl) ⟨Nat.le_trans (by decide) hRm.1, Nat.le_trans (by decide) hRm.2⟩ ⟨Nat.zero_le _, Nat.zero_le _⟩ ?_
      rintro _ s15 ⟨v16, rfl, h⟩
      show BW G tX9_leadToLieAbove E 0 0 51 [(0, .ref a0), (1, .int x1), (2, .int x2), (3, .int x3), (4, .ref b2), (5, .ref b8)] [.int v16, .int v14, .int (v10 * v12)] s15
      refine BW.run [.imul, .isub, .iconst 1, .iadd] (pc' := 55) (lv' := [(0, .ref a0), (1, .int x1), (2, .int x2), (3, .int x3), (4, .ref b2), (5, .ref b8)]) (st' := [.int (((v10 * v12) - (v14 * v16)) + (1 : Int32))]) (by decide +kernel) rfl rfl ?_
      exact BW.iret (by decide +kernel : decode tX9_leadToLieAbove.2.1 55 = .ok (.ireturn, 1)) rfl (Nat.zero_le _) (Nat.zero_le _) (hQ _ _ (Ok.some h))
theorem oX9_leadToLieAbove {n : Nat} {P : Int32 × Sg → Prop} {s0 : Sg} {a0 : Nat} {x1 : Int32} {x2 : Int32} {x3 : Int32} (h : Ok (mX9_leadToLieAbove n s0 a0 x1 x2 x3) P) : ∃ n0, s0.2.1 a0 = some (9, n0) := by
  unfold mX9_leadToLieAbove at h
  exact Ok.isO h
theorem DX9_leadToLieAbove {G : Cx} {n : Nat} {P : Int32 × Sg → Prop} {s0 : Sg} {a0 : Nat} {x1 : Int32} {x2 : Int32} {x3 : Int32} (h : Ok (mX9_leadToLieAbove n s0 a0 x1 x2 x3) P) : BM G tX9_leadToLieAbove 1 21 0 0 [.ref a0, .int x1, .int x2, .int x3] s0 (fun v s => ∃ r, v = some (.int r) ∧ P (r, s)) := by
  refine BM.of (by decide +kernel) (Nat.le_of_ble_eq_true rfl) ?_
  exact bX9_leadToLieAbove (E := (({ frames := 1, cells := 0, slots := 0, locals := 21 }), Aof s0, 0, 0, (fun v s => ∃ r, v = some (.int r) ∧ P (r, s)))) ⟨Nat.le_refl _, Nat.le_refl _⟩ (fun r s hp => ⟨r, rfl, hp⟩) h
def mX9_tellAbove (n : Nat) (s0 : Sg) (a0 : Nat) (x1 : Int32) (x2 : Int32) (x3 : Int32) (x4 : Int32) : Option (Int32 × Sg) :=
  (isO 9 s0 a0).bind fun _ =>
  (mX9_isCrossing n s0 a0 x2 x3 x4).bind fun (v2, s1) =>
  if v2 = 0 then (
    some ((-1 : Int32), s1)
  ) else (
    (mX9_pointOf n s1 x2).bind fun (v5, s4) =>
    (mX9_pointOf n s4 x3).bind fun (v8, s7) =>
    (mX9_leadToLieAbove n s7 a0 x2 x3 x4).bind fun (v11, s10) =>
    (mX9_keep n s10 a0 x1 v5 v8 v11 (1000000 : Int32)).bind fun (v14, s13) =>
    some (v14, s13)
  )
theorem bX9_tellAbove {G : Cx} {E : Ev} {n : Nat} (hRm : 3 ≤ E.1.frames ∧ 67 ≤ E.1.locals) {P : Int32 × Sg → Prop} (hQ : ∀ r s, P (r, s) → E.2.2.2.2 (some (.int r)) s) {s0 : Sg} {a0 : Nat} {x1 : Int32} {x2 : Int32} {x3 : Int32} {x4 : Int32} (h : Ok (mX9_tellAbove n s0 a0 x1 x2 x3 x4) P) : BW G tX9_tellAbove E 0 0 0 [(0, .ref a0), (1, .int x1), (2, .int x2), (3, .int x3), (4, .int x4)] [] s0 := by
  unfold mX9_tellAbove at h
  obtain ⟨_, _, h⟩ := Ok.bind h
  refine BW.run [.aload_n 0, .iload_n 2, .iload_n 3, .iload 4] (pc' := 5) (lv' := [(0, .ref a0), (1, .int x1), (2, .int x2), (3, .int x3), (4, .int x4)]) (st' := [.int x4, .int x3, .int x2, .ref a0]) (by decide +kernel) rfl rfl ?_
  refine BW.callV (As := [.int x2, .int x3, .int x4]) (st := []) (by decide +kernel : decode tX9_tellAbove.2.1 5 = .ok (.invokevirtual 245, 3)) (DX9_isCrossing (Ok.bindK h)) mfX9_isCrossing lkM_X9_245 imX9_isCrossing selX9_isCrossing ciX9 (oX9_isCrossing (Ok.bindK h)).choose_spec rfl rfl (Nat.le_of_ble_eq_true rfl) ⟨Nat.le_trans (by decide) hRm.1, Nat.le_trans (by decide) hRm.2⟩ ⟨Nat.zero_le _, Nat.zero_le _⟩ ?_
  rintro _ s1 ⟨v2, rfl, h⟩
  show BW G tX9_tellAbove E 0 0 8 [(0, .ref a0), (1, .int x1), (2, .int x2), (3, .int x3), (4, .int x4)] [.int v2] s1
  refine BW.if_ne 13 (by decide +kernel : decode tX9_tellAbove.2.1 8 = .ok (.ifCond .ne 5, 3)) (by decide) (fun hc => ?_) (fun hc => ?_)
  · have h := (Ok.ite h).2 hc
    refine BW.run [.aload_n 0, .iload_n 1, .iload_n 2] (pc' := 16) (lv' := [(0, .ref a0), (1, .int x1), (2, .int x2), (3, .int x3), (4, .int x4)]) (st' := [.int x2, .int x1, .ref a0]) (by decide +kernel) rfl rfl ?_
    refine BW.callS (As := [.int x2]) (st := [.int x1, .ref a0]) (by decide +kernel : decode tX9_tellAbove.2.1 16 = .ok (.invokestatic 325, 3)) (DX9_pointOf (Ok.bindK h)) mfX9_pointOf lkM_X9_325 smX9_pointOf rfl rfl (Nat.le_of_ble_eq_true rfl) ⟨Nat.le_trans (by decide) hRm.1, Nat.le_trans (by decide) hRm.2⟩ ⟨Nat.zero_le _, Nat.zero_le _⟩ ?_
    rintro _ s4 ⟨v5, rfl, h⟩
    show BW G tX9_tellAbove E 0 0 19 [(0, .ref a0), (1, .int x1), (2, .int x2), (3, .int x3), (4, .int x4)] [.int v5, .int x1, .ref a0] s4
    refine BW.run [.iload_n 3] (pc' := 20) (lv' := [(0, .ref a0), (1, .int x1), (2, .int x2), (3, .int x3), (4, .int x4)]) (st' := [.int x3, .int v5, .int x1, .ref a0]) (by decide +kernel) rfl rfl ?_
    refine BW.callS (As := [.int x3]) (st := [.int v5, .int x1, .ref a0]) (by decide +kernel : decode tX9_tellAbove.2.1 20 = .ok (.invokestatic 325, 3)) (DX9_pointOf (Ok.bindK h)) mfX9_pointOf lkM_X9_325 smX9_pointOf rfl rfl (Nat.le_of_ble_eq_true rfl) ⟨Nat.le_trans (by decide) hRm.1, Nat.le_trans (by decide) hRm.2⟩ ⟨Nat.zero_le _, Nat.zero_le _⟩ ?_
    rintro _ s7 ⟨v8, rfl, h⟩
    show BW G tX9_tellAbove E 0 0 23 [(0, .ref a0), (1, .int x1), (2, .int x2), (3, .int x3), (4, .int x4)] [.int v8, .int v5, .int x1, .ref a0] s7
    refine BW.run [.aload_n 0, .iload_n 2, .iload_n 3, .iload 4] (pc' := 28) (lv' := [(0, .ref a0), (1, .int x1), (2, .int x2), (3, .int x3), (4, .int x4)]) (st' := [.int x4, .int x3, .int x2, .ref a0, .int v8, .int v5, .int x1, .ref a0]) (by decide +kernel) rfl rfl ?_
    refine BW.callV (As := [.int x2, .int x3, .int x4]) (st := [.int v8, .int v5, .int x1, .ref a0]) (by decide +kernel : decode tX9_tellAbove.2.1 28 = .ok (.invokevirtual 249, 3)) (DX9_leadToLieAbove (Ok.bindK h)) mfX9_leadToLieAbove lkM_X9_249 imX9_leadToLieAbove selX9_leadToLieAbove ciX9 (oX9_leadToLieAbove (Ok.bindK h)).choose_spec rfl rfl (Nat.le_of_ble_eq_true rfl) ⟨Nat.le_trans (by decide) hRm.1, Nat.le_trans (by decide) hRm.2⟩ ⟨Nat.zero_le _, Nat.zero_le _⟩ ?_
    rintro _ s10 ⟨v11, rfl, h⟩
    show BW G tX9_tellAbove E 0 0 31 [(0, .ref a0), (1, .int x1), (2, .int x2), (3, .int x3), (4, .int x4)] [.int v11, .int v8, .int v5, .int x1, .ref a0] s10
    refine BW.ldcw (by decide +kernel : decode tX9_tellAbove.2.1 31 = .ok (.ldc_w 328, 3)) (x := (1000000 : Int32)) lkK_X9_328 ?_
    refine BW.callV (As := [.int x1, .int v5, .int v8, .int v11, .int (1000000 : Int32)]) (st := []) (by decide +kernel : decode tX9_tellAbove.2.1 34 = .ok (.invokevirtual 329, 3)) (DX9_keep (Ok.bindK h)) mfX9_keep lkM_X9_329 imX9_keep selX9_keep ciX9 (oX9_keep (Ok.bindK h)).choose_spec rfl rfl (Nat.le_of_ble_eq_true rfl) ⟨Nat.le_trans (by decide) hRm.1, Nat.le_trans (by decide) hRm.2⟩ ⟨Nat.zero_le _, Nat.zero_le _⟩ ?_
    rintro _ s13 ⟨v14, rfl, h⟩
    show BW G tX9_tellAbove E 0 0 37 [(0, .ref a0), (1, .int x1), (2, .int x2), (3, .int x3), (4, .int x4)] [.int v14] s13
    exact BW.iret (by decide +kernel : decode tX9_tellAbove.2.1 37 = .ok (.ireturn, 1)) rfl (Nat.zero_le _) (Nat.zero_le _) (hQ _ _ (Ok.some h))
  · have h := (Ok.ite h).1 hc
    refine BW.run [.iconst (-1)] (pc' := 12) (lv' := [(0, .ref a0), (1, .int x1), (2, .int x2), (3, .int x3), (4, .int x4)]) (st' := [.int (-1 : Int32)]) (by decide +kernel) rfl rfl ?_
    exact BW.iret (by decide +kernel : decode tX9_tellAbove.2.1 12 = .ok (.ireturn, 1)) rfl (Nat.zero_le _) (Nat.zero_le _) (hQ _ _ (Ok.some h))
theorem oX9_tellAbove {n : Nat} {P : Int32 × Sg → Prop} {s0 : Sg} {a0 : Nat} {x1 : Int32} {x2 : Int32} {x3 : Int32} {x4 : Int32} (h : Ok (mX9_tellAbove n s0 a0 x1 x2 x3 x4) P) : ∃ n0, s0.2.1 a0 = some (9, n0) := by
  unfold mX9_tellAbove at h
  exact Ok.isO h
theorem DX9_tellAbove {G : Cx} {n : Nat} {P : Int32 × Sg → Prop} {s0 : Sg} {a0 : Nat} {x1 : Int32} {x2 : Int32} {x3 : Int32} {x4 : Int32} (h : Ok (mX9_tellAbove n s0 a0 x1 x2 x3 x4) P) : BM G tX9_tellAbove 3 67 0 0 [.ref a0, .int x1, .int x2, .int x3, .int x4] s0 (fun v s => ∃ r, v = some (.int r) ∧ P (r, s)) := by
  refine BM.of (by decide +kernel) (Nat.le_of_ble_eq_true rfl) ?_
  exact bX9_tellAbove (E := (({ frames := 3, cells := 0, slots := 0, locals := 67 }), Aof s0, 0, 0, (fun v s => ∃ r, v = some (.int r) ∧ P (r, s)))) ⟨Nat.le_refl _, Nat.le_refl _⟩ (fun r s hp => ⟨r, rfl, hp⟩) h
def mX9_tellBegan (n : Nat) (s0 : Sg) (a0 : Nat) (x1 : Int32) (x2 : Int32) (x3 : Int32) (x4 : Int32) : Option (Int32 × Sg) :=
  (isO 9 s0 a0).bind fun _ =>
  if x3 < 0 then (
    some ((-1 : Int32), s0)
  ) else (
    (toI (gV 9 s0 a0 2)).bind fun v1 =>
    if v1 < x4 then (
      some ((-1 : Int32), s0)
    ) else (
      if x3 ≤ x4 then (
        (mX9_pointOf n s0 x2).bind fun (v3, s2) =>
        (mX9_keep n s2 a0 x1 v3 (0 : Int32) x3 x4).bind fun (v6, s5) =>
        some (v6, s5)
      ) else (
        some ((-1 : Int32), s0)
      )
    )
  )
theorem bX9_tellBegan {G : Cx} {E : Ev} {n : Nat} (hRm : 2 ≤ E.1.frames ∧ 50 ≤ E.1.locals) {P : Int32 × Sg → Prop} (hQ : ∀ r s, P (r, s) → E.2.2.2.2 (some (.int r)) s) {s0 : Sg} {a0 : Nat} {x1 : Int32} {x2 : Int32} {x3 : Int32} {x4 : Int32} (h : Ok (mX9_tellBegan n s0 a0 x1 x2 x3 x4) P) : BW G tX9_tellBegan E 0 0 0 [(0, .ref a0), (1, .int x1), (2, .int x2), (3, .int x3), (4, .int x4)] [] s0 := by
  unfold mX9_tellBegan at h
  obtain ⟨_, _, h⟩ := Ok.bind h
  refine BW.run [.iload_n 3] (pc' := 1) (lv' := [(0, .ref a0), (1, .int x1), (2, .int x2), (3, .int x3), (4, .int x4)]) (st' := [.int x3]) (by decide +kernel) rfl rfl ?_
  refine BW.if_lt 19 (by decide +kernel : decode tX9_tellBegan.2.1 1 = .ok (.ifCond .lt 18, 3)) (by decide) (fun hc => ?_) (fun hc => ?_)
  · have h := (Ok.ite h).1 hc
    refine BW.run [.iconst (-1)] (pc' := 20) (lv' := [(0, .ref a0), (1, .int x1), (2, .int x2), (3, .int x3), (4, .int x4)]) (st' := [.int (-1 : Int32)]) (by decide +kernel) rfl rfl ?_
    exact BW.iret (by decide +kernel : decode tX9_tellBegan.2.1 20 = .ok (.ireturn, 1)) rfl (Nat.zero_le _) (Nat.zero_le _) (hQ _ _ (Ok.some h))
  · have h := (Ok.ite h).2 hc
    refine BW.run [.iload 4, .aload_n 0] (pc' := 7) (lv' := [(0, .ref a0), (1, .int x1), (2, .int x2), (3, .int x3), (4, .int x4)]) (st' := [.ref a0, .int x4]) (by decide +kernel) rfl rfl ?_
    obtain ⟨v1, ev1, h⟩ := Ok.bind h
    refine BW.get (by decide +kernel : decode tX9_tellBegan.2.1 7 = .ok (.getfield 98, 3)) ciX9 (k := 2) (by decide) lkF_X9_98 (toI_V ev1) ?_
    refine BW.icmp_gt 19 (by decide +kernel : decode tX9_tellBegan.2.1 10 = .ok (.if_icmp .gt 9, 3)) (by decide) (fun hc => ?_) (fun hc => ?_)
    · have h := (Ok.ite h).1 hc
      refine BW.run [.iconst (-1)] (pc' := 20) (lv' := [(0, .ref a0), (1, .int x1), (2, .int x2), (3, .int x3), (4, .int x4)]) (st' := [.int (-1 : Int32)]) (by decide +kernel) rfl rfl ?_
      exact BW.iret (by decide +kernel : decode tX9_tellBegan.2.1 20 = .ok (.ireturn, 1)) rfl (Nat.zero_le _) (Nat.zero_le _) (hQ _ _ (Ok.some h))
    · have h := (Ok.ite h).2 hc
      refine BW.run [.iload 4, .iload_n 3] (pc' := 16) (lv' := [(0, .ref a0), (1, .int x1), (2, .int x2), (3, .int x3), (4, .int x4)]) (st' := [.int x3, .int x4]) (by decide +kernel) rfl rfl ?_
      refine BW.icmp_ge 21 (by decide +kernel : decode tX9_tellBegan.2.1 16 = .ok (.if_icmp .ge 5, 3)) (by decide) (fun hc => ?_) (fun hc => ?_)
      · have h := (Ok.ite h).1 hc
        refine BW.run [.aload_n 0, .iload_n 1, .iload_n 2] (pc' := 24) (lv' := [(0, .ref a0), (1, .int x1), (2, .int x2), (3, .int x3), (4, .int x4)]) (st' := [.int x2, .int x1, .ref a0]) (by decide +kernel) rfl rfl ?_
        refine BW.callS (As := [.int x2]) (st := [.int x1, .ref a0]) (by decide +kernel : decode tX9_tellBegan.2.1 24 = .ok (.invokestatic 325, 3)) (DX9_pointOf (Ok.bindK h)) mfX9_pointOf lkM_X9_325 smX9_pointOf rfl rfl (Nat.le_of_ble_eq_true rfl) ⟨Nat.le_trans (by decide) hRm.1, Nat.le_trans (by decide) hRm.2⟩ ⟨Nat.zero_le _, Nat.zero_le _⟩ ?_
        rintro _ s2 ⟨v3, rfl, h⟩
        show BW G tX9_tellBegan E 0 0 27 [(0, .ref a0), (1, .int x1), (2, .int x2), (3, .int x3), (4, .int x4)] [.int v3, .int x1, .ref a0] s2
        refine BW.run [.iconst 0, .iload_n 3, .iload 4] (pc' := 31) (lv' := [(0, .ref a0), (1, .int x1), (2, .int x2), (3, .int x3), (4, .int x4)]) (st' := [.int x4, .int x3, .int (0 : Int32), .int v3, .int x1, .ref a0]) (by decide +kernel) rfl rfl ?_
        refine BW.callV (As := [.int x1, .int v3, .int (0 : Int32), .int x3, .int x4]) (st := []) (by decide +kernel : decode tX9_tellBegan.2.1 31 = .ok (.invokevirtual 329, 3)) (DX9_keep (Ok.bindK h)) mfX9_keep lkM_X9_329 imX9_keep selX9_keep ciX9 (oX9_keep (Ok.bindK h)).choose_spec rfl rfl (Nat.le_of_ble_eq_true rfl) ⟨Nat.le_trans (by decide) hRm.1, Nat.le_trans (by decide) hRm.2⟩ ⟨Nat.zero_le _, Nat.zero_le _⟩ ?_
        rintro _ s5 ⟨v6, rfl, h⟩
        show BW G tX9_tellBegan E 0 0 34 [(0, .ref a0), (1, .int x1), (2, .int x2), (3, .int x3), (4, .int x4)] [.int v6] s5
        exact BW.iret (by decide +kernel : decode tX9_tellBegan.2.1 34 = .ok (.ireturn, 1)) rfl (Nat.zero_le _) (Nat.zero_le _) (hQ _ _ (Ok.some h))
      · have h := (Ok.ite h).2 hc
        refine BW.run [.iconst (-1)] (pc' := 20) (lv' := [(0, .ref a0), (1, .int x1), (2, .int x2), (3, .int x3), (4, .int x4)]) (st' := [.int (-1 : Int32)]) (by decide +kernel) rfl rfl ?_
        exact BW.iret (by decide +kernel : decode tX9_tellBegan.2.1 20 = .ok (.ireturn, 1)) rfl (Nat.zero_le _) (Nat.zero_le _) (hQ _ _ (Ok.some h))
theorem oX9_tellBegan {n : Nat} {P : Int32 × Sg → Prop} {s0 : Sg} {a0 : Nat} {x1 : Int32} {x2 : Int32} {x3 : Int32} {x4 : Int32} (h : Ok (mX9_tellBegan n s0 a0 x1 x2 x3 x4) P) : ∃ n0, s0.2.1 a0 = some (9, n0) := by
  unfold mX9_tellBegan at h
  exact Ok.isO h
theorem DX9_tellBegan {G : Cx} {n : Nat} {P : Int32 × Sg → Prop} {s0 : Sg} {a0 : Nat} {x1 : Int32} {x2 : Int32} {x3 : Int32} {x4 : Int32} (h : Ok (mX9_tellBegan n s0 a0 x1 x2 x3 x4) P) : BM G tX9_tellBegan 2 50 0 0 [.ref a0, .int x1, .int x2, .int x3, .int x4] s0 (fun v s => ∃ r, v = some (.int r) ∧ P (r, s)) := by
  refine BM.of (by decide +kernel) (Nat.le_of_ble_eq_true rfl) ?_
  exact bX9_tellBegan (E := (({ frames := 2, cells := 0, slots := 0, locals := 50 }), Aof s0, 0, 0, (fun v s => ∃ r, v = some (.int r) ∧ P (r, s)))) ⟨Nat.le_refl _, Nat.le_refl _⟩ (fun r s hp => ⟨r, rfl, hp⟩) h
def mX9_tellBehind (n : Nat) (s0 : Sg) (a0 : Nat) (x1 : Int32) (x2 : Int32) (x3 : Int32) (x4 : Int32) : Option (Int32 × Sg) :=
  (isO 9 s0 a0).bind fun _ =>
  if x2 = x3 then (
    some ((-1 : Int32), s0)
  ) else (
    (mX9_walkOf n s0 a0 x3).bind fun q3 => match q3 with
    | (none, s1) => (
      some ((-1 : Int32), s1)
    )
    | (some b2, s1) => (
      if x4 < (-5000 : Int32) then (
        some ((-1 : Int32), s1)
      ) else (
        if x4 ≤ (5000 : Int32) then (
          (mX9_pointOf n s1 x2).bind fun (v5, s4) =>
          (mX9_pointOf n s4 x3).bind fun (v8, s7) =>
          (mX9_keep n s7 a0 x1 v5 v8 x4 (1000000 : Int32)).bind fun (v11, s10) =>
          some (v11, s10)
        ) else (
          some ((-1 : Int32), s1)
        )
      )
    )
  )
theorem bX9_tellBehind {G : Cx} {E : Ev} {n : Nat} (hRm : 2 ≤ E.1.frames ∧ 50 ≤ E.1.locals) {P : Int32 × Sg → Prop} (hQ : ∀ r s, P (r, s) → E.2.2.2.2 (some (.int r)) s) {s0 : Sg} {a0 : Nat} {x1 : Int32} {x2 : Int32} {x3 : Int32} {x4 : Int32} (h : Ok (mX9_tellBehind n s0 a0 x1 x2 x3 x4) P) : BW G tX9_tellBehind E 0 0 0 [(0, .ref a0), (1, .int x1), (2, .int x2), (3, .int x3), (4, .int x4)] [] s0 := by
  unfold mX9_tellBehind at h
  obtain ⟨_, _, h⟩ := Ok.bind h
  refine BW.run [.iload_n 2, .iload_n 3] (pc' := 2) (lv' := [(0, .ref a0), (1, .int x1), (2, .int x2), (3, .int x3), (4, .int x4)]) (st' := [.int x3, .int x2]) (by decide +kernel) rfl rfl ?_
  refine BW.icmp_eq 29 (by decide +kernel : decode tX9_tellBehind.2.1 2 = .ok (.if_icmp .eq 27, 3)) (by decide) (fun hc => ?_) (fun hc => ?_)
  · have h := (Ok.ite h).1 hc
    refine BW.run [.iconst (-1)] (pc' := 30) (lv' := [(0, .ref a0), (1, .int x1), (2, .int x2), (3, .int x3), (4, .int x4)]) (st' := [.int (-1 : Int32)]) (by decide +kernel) rfl rfl ?_
    exact BW.iret (by decide +kernel : decode tX9_tellBehind.2.1 30 = .ok (.ireturn, 1)) rfl (Nat.zero_le _) (Nat.zero_le _) (hQ _ _ (Ok.some h))
  · have h := (Ok.ite h).2 hc
    refine BW.run [.aload_n 0, .iload_n 3] (pc' := 7) (lv' := [(0, .ref a0), (1, .int x1), (2, .int x2), (3, .int x3), (4, .int x4)]) (st' := [.int x3, .ref a0]) (by decide +kernel) rfl rfl ?_
    refine BW.callV (As := [.int x3]) (st := []) (by decide +kernel : decode tX9_tellBehind.2.1 7 = .ok (.invokevirtual 143, 3)) (DX9_walkOf (Ok.bindK h)) mfX9_walkOf lkM_X9_143 imX9_walkOf selX9_walkOf ciX9 (oX9_walkOf (Ok.bindK h)).choose_spec rfl rfl (Nat.le_of_ble_eq_true rfl) ⟨Nat.le_trans (by decide) hRm.1, Nat.le_trans (by decide) hRm.2⟩ ⟨Nat.zero_le _, Nat.zero_le _⟩ ?_
    rintro _ s1 ⟨_ | b2, rfl, h⟩
    · show BW G tX9_tellBehind E 0 0 10 [(0, .ref a0), (1, .int x1), (2, .int x2), (3, .int x3), (4, .int x4)] (.null :: []) s1
      refine BW.ifnullN 29 (by decide +kernel : decode tX9_tellBehind.2.1 10 = .ok (.ifnull 19, 3)) (by decide) ?_
      refine BW.run [.iconst (-1)] (pc' := 30) (lv' := [(0, .ref a0), (1, .int x1), (2, .int x2), (3, .int x3), (4, .int x4)]) (st' := [.int (-1 : Int32)]) (by decide +kernel) rfl rfl ?_
      exact BW.iret (by decide +kernel : decode tX9_tellBehind.2.1 30 = .ok (.ireturn, 1)) rfl (Nat.zero_le _) (Nat.zero_le _) (hQ _ _ (Ok.some h))
    · show BW G tX9_tellBehind E 0 0 10 [(0, .ref a0), (1, .int x1), (2, .int x2), (3, .int x3), (4, .int x4)] (.ref b2 :: []) s1
      refine BW.ifnull (by decide +kernel : decode tX9_tellBehind.2.1 10 = .ok (.ifnull 19, 3)) ?_
      refine BW.run [.iload 4, .sipush (-5000)] (pc' := 18) (lv' := [(0, .ref a0), (1, .int x1), (2, .int x2), (3, .int x3), (4, .int x4)]) (st' := [.int (-5000 : Int32), .int x4]) (by decide +kernel) rfl rfl ?_
      refine BW.icmp_lt 29 (by decide +kernel : decode tX9_tellBehind.2.1 18 = .ok (.if_icmp .lt 11, 3)) (by decide) (fun hc => ?_) (fun hc => ?_)
      · have h := (Ok.ite h).1 hc
        refine BW.run [.iconst (-1)] (pc' := 30) (lv' := [(0, .ref a0), (1, .int x1), (2, .int x2), (3, .int x3), (4, .int x4)]) (st' := [.int (-1 : Int32)]) (by decide +kernel) rfl rfl ?_
        exact BW.iret (by decide +kernel : decode tX9_tellBehind.2.1 30 = .ok (.ireturn, 1)) rfl (Nat.zero_le _) (Nat.zero_le _) (hQ _ _ (Ok.some h))
      · have h := (Ok.ite h).2 hc
        refine BW.run [.iload 4, .sipush 5000] (pc' := 26) (lv' := [(0, .ref a0), (1, .int x1), (2, .int x2), (3, .int x3), (4, .int x4)]) (st' := [.int (5000 : Int32), .int x4]) (by decide +kernel) rfl rfl ?_
        refine BW.icmp_le 31 (by decide +kernel : decode tX9_tellBehind.2.1 26 = .ok (.if_icmp .le 5, 3)) (by decide) (fun hc => ?_) (fun hc => ?_)
        · have h := (Ok.ite h).1 hc
          refine BW.run [.aload_n 0, .iload_n 1, .iload_n 2] (pc' := 34) (lv' := [(0, .ref a0), (1, .int x1), (2, .int x2), (3, .int x3), (4, .int x4)]) (st' := [.int x2, .int x1, .ref a0]) (by decide +kernel) rfl rfl ?_
          refine BW.callS (As := [.int x2]) (st := [.int x1, .ref a0]) (by decide +kernel : decode tX9_tellBehind.2.1 34 = .ok (.invokestatic 325, 3)) (DX9_pointOf (Ok.bindK h)) mfX9_pointOf lkM_X9_325 smX9_pointOf rfl rfl (Nat.le_of_ble_eq_true rfl) ⟨Nat.le_trans (by decide) hRm.1, Nat.le_trans (by decide) hRm.2⟩ ⟨Nat.zero_le _, Nat.zero_le _⟩ ?_
          rintro _ s4 ⟨v5, rfl, h⟩
          show BW G tX9_tellBehind E 0 0 37 [(0, .ref a0), (1, .int x1), (2, .int x2), (3, .int x3), (4, .int x4)] [.int v5, .int x1, .ref a0] s4
          refine BW.run [.iload_n 3] (pc' := 38) (lv' := [(0, .ref a0), (1, .int x1), (2, .int x2), (3, .int x3), (4, .int x4)]) (st' := [.int x3, .int v5, .int x1, .ref a0]) (by decide +kernel) rfl rfl ?_
          refine BW.callS (As := [.int x3]) (st := [.int v5, .int x1, .ref a0]) (by decide +kernel : decode tX9_tellBehind.2.1 38 = .ok (.invokestatic 325, 3)) (DX9_pointOf (Ok.bindK h)) mfX9_pointOf lkM_X9_325 smX9_pointOf rfl rfl (Nat.le_of_ble_eq_true rfl) ⟨Nat.le_trans (by decide) hRm.1, Nat.le_trans (by decide) hRm.2⟩ ⟨Nat.zero_le _, Nat.zero_le _⟩ ?_
          rintro _ s7 ⟨v8, rfl, h⟩
          show BW G tX9_tellBehind E 0 0 41 [(0, .ref a0), (1, .int x1), (2, .int x2), (3, .int x3), (4, .int x4)] [.int v8, .int v5, .int x1, .ref a0] s7
          refine BW.run [.iload 4] (pc' := 43) (lv' := [(0, .ref a0), (1, .int x1), (2, .int x2), (3, .int x3), (4, .int x4)]) (st' := [.int x4, .int v8, .int v5, .int x1, .ref a0]) (by decide +kernel) rfl rfl ?_
          refine BW.ldcw (by decide +kernel : decode tX9_tellBehind.2.1 43 = .ok (.ldc_w 328, 3)) (x := (1000000 : Int32)) lkK_X9_328 ?_
          refine BW.callV (As := [.int x1, .int v5, .int v8, .int x4, .int (1000000 : Int32)]) (st := []) (by decide +kernel : decode tX9_tellBehind.2.1 46 = .ok (.invokevirtual 329, 3)) (DX9_keep (Ok.bindK h)) mfX9_keep lkM_X9_329 imX9_keep selX9_keep ciX9 (oX9_keep (Ok.bindK h)).choose_spec rfl rfl (Nat.le_of_ble_eq_true rfl) ⟨Nat.le_trans (by decide) hRm.1, Nat.le_trans (by decide) hRm.2⟩ ⟨Nat.zero_le _, Nat.zero_le _⟩ ?_
          rintro _ s10 ⟨v11, rfl, h⟩
          show BW G tX9_tellBehind E 0 0 49 [(0, .ref a0), (1, .int x1), (2, .int x2), (3, .int x3), (4, .int x4)] [.int v11] s10
          exact BW.iret (by decide +kernel : decode tX9_tellBehind.2.1 49 = .ok (.ireturn, 1)) rfl (Nat.zero_le _) (Nat.zero_le _) (hQ _ _ (Ok.some h))
        · have h := (Ok.ite h).2 hc
          refine BW.run [.iconst (-1)] (pc' := 30) (lv' := [(0, .ref a0), (1, .int x1), (2, .int x2), (3, .int x3), (4, .int x4)]) (st' := [.int (-1 : Int32)]) (by decide +kernel) rfl rfl ?_
          exact BW.iret (by decide +kernel : decode tX9_tellBehind.2.1 30 = .ok (.ireturn, 1)) rfl (Nat.zero_le _) (Nat.zero_le _) (hQ _ _ (Ok.some h))
theorem oX9_tellBehind {n : Nat} {P : Int32 × Sg → Prop} {s0 : Sg} {a0 : Nat} {x1 : Int32} {x2 : Int32} {x3 : Int32} {x4 : Int32} (h : Ok (mX9_tellBehind n s0 a0 x1 x2 x3 x4) P) : ∃ n0, s0.2.1 a0 = some (9, n0) := by
  unfold mX9_tellBehind at h
  exact Ok.isO h
theorem DX9_tellBehind {G : Cx} {n : Nat} {P : Int32 × Sg → Prop} {s0 : Sg} {a0 : Nat} {x1 : Int32} {x2 : Int32} {x3 : Int32} {x4 : Int32} (h : Ok (mX9_tellBehind n s0 a0 x1 x2 x3 x4) P) : BM G tX9_tellBehind 2 50 0 0 [.ref a0, .int x1, .int x2, .int x3, .int x4] s0 (fun v s => ∃ r, v = some (.int r) ∧ P (r, s)) := by
  refine BM.of (by decide +kernel) (Nat.le_of_ble_eq_true rfl) ?_
  exact bX9_tellBehind (E := (({ frames := 2, cells := 0, slots := 0, locals := 50 }), Aof s0, 0, 0, (fun v s => ∃ r, v = some (.int r) ∧ P (r, s)))) ⟨Nat.le_refl _, Nat.le_refl _⟩ (fun r s hp => ⟨r, rfl, hp⟩) h
def mX9_isTick (n : Nat) (s0 : Sg) (x0 : Int32) : Option (Int32 × Sg) :=
  if x0 < 0 then (
    some ((0 : Int32), s0)
  ) else (
    if (5000 : Int32) < x0 then (
      some ((0 : Int32), s0)
    ) else (
      some ((1 : Int32), s0)
    )
  )
theorem bX9_isTick {G : Cx} {E : Ev} {n : Nat} (hRm : 0 ≤ E.1.frames ∧ 0 ≤ E.1.locals) {P : Int32 × Sg → Prop} (hQ : ∀ r s, P (r, s) → E.2.2.2.2 (some (.int r)) s) {s0 : Sg} {x0 : Int32} (h : Ok (mX9_isTick n s0 x0) P) : BW G tX9_isTick E 0 0 0 [(0, .int x0)] [] s0 := by
  unfold mX9_isTick at h
  refine BW.run [.iload_n 0] (pc' := 1) (lv' := [(0, .int x0)]) (st' := [.int x0]) (by decide +kernel) rfl rfl ?_
  refine BW.if_lt 15 (by decide +kernel : decode tX9_isTick.2.1 1 = .ok (.ifCond .lt 14, 3)) (by decide) (fun hc => ?_) (fun hc => ?_)
  · have h := (Ok.ite h).1 hc
    refine BW.run [.iconst 0] (pc' := 16) (lv' := [(0, .int x0)]) (st' := [.int (0 : Int32)]) (by decide +kernel) rfl rfl ?_
    exact BW.zret (by decide +kernel : decode tX9_isTick.2.1 16 = .ok (.ireturn, 1)) rfl (Or.inl rfl) (Nat.zero_le _) (Nat.zero_le _) (hQ _ _ (Ok.some h))
  · have h := (Ok.ite h).2 hc
    refine BW.run [.iload_n 0, .sipush 5000] (pc' := 8) (lv' := [(0, .int x0)]) (st' := [.int (5000 : Int32), .int x0]) (by decide +kernel) rfl rfl ?_
    refine BW.icmp_gt 15 (by decide +kernel : decode tX9_isTick.2.1 8 = .ok (.if_icmp .gt 7, 3)) (by decide) (fun hc => ?_) (fun hc => ?_)
    · have h := (Ok.ite h).1 hc
      refine BW.run [.iconst 0] (pc' := 16) (lv' := [(0, .int x0)]) (st' := [.int (0 : Int32)]) (by decide +kernel) rfl rfl ?_
      exact BW.zret (by decide +kernel : decode tX9_isTick.2.1 16 = .ok (.ireturn, 1)) rfl (Or.inl rfl) (Nat.zero_le _) (Nat.zero_le _) (hQ _ _ (Ok.some h))
    · have h := (Ok.ite h).2 hc
      refine BW.run [.iconst 1] (pc' := 12) (lv' := [(0, .int x0)]) (st' := [.int (1 : Int32)]) (by decide +kernel) rfl rfl ?_
      refine BW.goto 16 (by decide +kernel : decode tX9_isTick.2.1 12 = .ok (.goto 4, 3)) (by decide) ?_
      exact BW.zret (by decide +kernel : decode tX9_isTick.2.1 16 = .ok (.ireturn, 1)) rfl (Or.inr rfl) (Nat.zero_le _) (Nat.zero_le _) (hQ _ _ (Ok.some h))
theorem DX9_isTick {G : Cx} {n : Nat} {P : Int32 × Sg → Prop} {s0 : Sg} {x0 : Int32} (h : Ok (mX9_isTick n s0 x0) P) : BM G tX9_isTick 0 0 0 0 [.int x0] s0 (fun v s => ∃ r, v = some (.int r) ∧ P (r, s)) := by
  refine BM.of (by decide +kernel) (Nat.le_of_ble_eq_true rfl) ?_
  exact bX9_isTick (E := (({ frames := 0, cells := 0, slots := 0, locals := 0 }), Aof s0, 0, 0, (fun v s => ∃ r, v = some (.int r) ∧ P (r, s)))) ⟨Nat.le_refl _, Nat.le_refl _⟩ (fun r s hp => ⟨r, rfl, hp⟩) h
def mX9_tellPrint (n : Nat) (s0 : Sg) (a0 : Nat) (x1 : Int32) (x2 : Int32) (x3 : Int32) (x4 : Int32) (x5 : Int32) : Option (Int32 × Sg) :=
  (isO 9 s0 a0).bind fun _ =>
  (mX9_walkOf n s0 a0 x3).bind fun q3 => match q3 with
  | (none, s1) => (
    some ((-1 : Int32), s1)
  )
  | (some b2, s1) => (
    (mX8_latestIn n s1 b2 x5).bind fun (v5, s4) =>
    if v5 = (-1 : Int32) then (
      some ((-1 : Int32), s4)
    ) else (
      (mX9_isTick n s4 x4).bind fun (v8, s7) =>
      if v8 = 0 then (
        some ((-1 : Int32), s7)
      ) else (
        (toI (gV 8 s7 b2 0)).bind fun v10 =>
        (mX8_latestIn n s7 b2 x5).bind fun (v12, s11) =>
        nm (x4 - (v10 * v12)) fun v14 =>
        if x2 = (1 : Int32) then (
          (mX9_pointOf n s11 x3).bind fun (v22, s21) =>
          (mX9_keep n s21 a0 x1 v22 (0 : Int32) (v14 + (1 : Int32)) (1000000 : Int32)).bind fun (v25, s24) =>
          some (v25, s24)
        ) else (
          (mX9_pointOf n s11 x3).bind fun (v16, s15) =>
          (mX9_keep n s15 a0 x1 v16 (0 : Int32) (-1000000 : Int32) v14).bind fun (v19, s18) =>
          some (v19, s18)
        )
      )
    )
  )
theorem bX9_tellPrint {G : Cx} {E : Ev} {n : Nat} (hRm : 2 ≤ E.1.frames ∧ 50 ≤ E.1.locals) {P : Int32 × Sg → Prop} (hQ : ∀ r s, P (r, s) → E.2.2.2.2 (some (.int r)) s) {s0 : Sg} {a0 : Nat} {x1 : Int32} {x2 : Int32} {x3 : Int32} {x4 : Int32} {x5 : Int32} (h : Ok (mX9_tellPrint n s0 a0 x1 x2 x3 x4 x5) P) : BW G tX9_tellPrint E 0 0 0 [(0, .ref a0), (1, .int x1), (2, .int x2), (3, .int x3), (4, .int x4), (5, .int x5)] [] s0 := by
  unfold mX9_tellPrint at h
  obtain ⟨_, _, h⟩ := Ok.bind h
  refine BW.run [.aload_n 0, .iload_n 3] (pc' := 2) (lv' := [(0, .ref a0), (1, .int x1), (2, .int x2), (3, .int x3), (4, .int x4), (5, .int x5)]) (st' := [.int x3, .ref a0]) (by decide +kernel) rfl rfl ?_
  refine BW.callV (As := [.int x3]) (st := []) (by decide +kernel : decode tX9_tellPrint.2.1 2 = .ok (.invokevirtual 143, 3)) (DX9_walkOf (Ok.bindK h)) mfX9_walkOf lkM_X9_143 imX9_walkOf selX9_walkOf ciX9 (oX9_walkOf (Ok.bindK h)).choose_spec rfl rfl (Nat.le_of_ble_eq_true rfl) ⟨Nat.le_trans (by decide) hRm.1, Nat.le_trans (by decide) hRm.2⟩ ⟨Nat.zero_le _, Nat.zero_le _⟩ ?_
  rintro _ s1 ⟨_ | b2, rfl, h⟩
  · show BW G tX9_tellPrint E 0 0 5 [(0, .ref a0), (1, .int x1), (2, .int x2), (3, .int x3), (4, .int x4), (5, .int x5)] (.null :: []) s1
    refine BW.run [.astore 6, .aload 6] (pc' := 9) (lv' := [(0, .ref a0), (1, .int x1), (2, .int x2), (3, .int x3), (4, .int x4), (5, .int x5), (6, .null)]) (st' := [.null]) (by decide +kernel) rfl rfl ?_
    refine BW.ifnullN 31 (by decide +kernel : decode tX9_tellPrint.2.1 9 = .ok (.ifnull 22, 3)) (by decide) ?_
    refine BW.run [.iconst (-1)] (pc' := 32) (lv' := [(0, .ref a0), (1, .int x1), (2, .int x2), (3, .int x3), (4, .int x4), (5, .int x5), (6, .null)]) (st' := [.int (-1 : Int32)]) (by decide +kernel) rfl rfl ?_
    exact BW.iret (by decide +kernel : decode tX9_tellPrint.2.1 32 = .ok (.ireturn, 1)) rfl (Nat.zero_le _) (Nat.zero_le _) (hQ _ _ (Ok.some h))
  · show BW G tX9_tellPrint E 0 0 5 [(0, .ref a0), (1, .int x1), (2, .int x2), (3, .int x3), (4, .int x4), (5, .int x5)] (.ref b2 :: []) s1
    refine BW.run [.astore 6, .aload 6] (pc' := 9) (lv' := [(0, .ref a0), (1, .int x1), (2, .int x2), (3, .int x3), (4, .int x4), (5, .int x5), (6, .ref b2)]) (st' := [.ref b2]) (by decide +kernel) rfl rfl ?_
    refine BW.ifnull (by decide +kernel : decode tX9_tellPrint.2.1 9 = .ok (.ifnull 22, 3)) ?_
    refine BW.run [.aload 6, .iload 5] (pc' := 16) (lv' := [(0, .ref a0), (1, .int x1), (2, .int x2), (3, .int x3), (4, .int x4), (5, .int x5), (6, .ref b2)]) (st' := [.int x5, .ref b2]) (by decide +kernel) rfl rfl ?_
    refine BW.callV (As := [.int x5]) (st := []) (by decide +kernel : decode tX9_tellPrint.2.1 16 = .ok (.invokevirtual 169, 3)) (DX8_latestIn (Ok.bindK h)) mfX8_latestIn lkM_X9_169 imX8_latestIn selX8_latestIn ciX8 (oX8_latestIn (Ok.bindK h)).choose_spec rfl rfl (Nat.le_of_ble_eq_true rfl) ⟨Nat.le_trans (by decide) hRm.1, Nat.le_trans (by decide) hRm.2⟩ ⟨Nat.zero_le _, Nat.zero_le _⟩ ?_
    rintro _ s4 ⟨v5, rfl, h⟩
    show BW G tX9_tellPrint E 0 0 19 [(0, .ref a0), (1, .int x1), (2, .int x2), (3, .int x3), (4, .int x4), (5, .int x5), (6, .ref b2)] [.int v5] s4
    refine BW.run [.iconst (-1)] (pc' := 20) (lv' := [(0, .ref a0), (1, .int x1), (2, .int x2), (3, .int x3), (4, .int x4), (5, .int x5), (6, .ref b2)]) (st' := [.int (-1 : Int32), .int v5]) (by decide +kernel) rfl rfl ?_
    refine BW.icmp_eq 31 (by decide +kernel : decode tX9_tellPrint.2.1 20 = .ok (.if_icmp .eq 11, 3)) (by decide) (fun hc => ?_) (fun hc => ?_)
    · have h := (Ok.ite h).1 hc
      refine BW.run [.iconst (-1)] (pc' := 32) (lv' := [(0, .ref a0), (1, .int x1), (2, .int x2), (3, .int x3), (4, .int x4), (5, .int x5), (6, .ref b2)]) (st' := [.int (-1 : Int32)]) (by decide +kernel) rfl rfl ?_
      exact BW.iret (by decide +kernel : decode tX9_tellPrint.2.1 32 = .ok (.ireturn, 1)) rfl (Nat.zero_le _) (Nat.zero_le _) (hQ _ _ (Ok.some h))
    · have h := (Ok.ite h).2 hc
      refine BW.run [.iload 4] (pc' := 25) (lv' := [(0, .ref a0), (1, .int x1), (2, .int x2), (3, .int x3), (4, .int x4), (5, .int x5), (6, .ref b2)]) (st' := [.int x4]) (by decide +kernel) rfl rfl ?_
      refine BW.callS (As := [.int x4]) (st := []) (by decide +kernel : decode tX9_tellPrint.2.1 25 = .ok (.invokestatic 305, 3)) (DX9_isTick (Ok.bindK h)) mfX9_isTick lkM_X9_305 smX9_isTick rfl rfl (Nat.le_of_ble_eq_true rfl) ⟨Nat.le_trans (by decide) hRm.1, Nat.le_trans (by decide) hRm.2⟩ ⟨Nat.zero_le _, Nat.zero_le _⟩ ?_
      rintro _ s7 ⟨v8, rfl, h⟩
      show BW G tX9_tellPrint E 0 0 28 [(0, .ref a0), (1, .int x1), (2, .int x2), (3, .int x3), (4, .int x4), (5, .int x5), (6, .ref b2)] [.int v8] s7
      refine BW.if_ne 33 (by decide +kernel : decode tX9_tellPrint.2.1 28 = .ok (.ifCond .ne 5, 3)) (by decide) (fun hc => ?_) (fun hc => ?_)
      · have h := (Ok.ite h).2 hc
        refine BW.run [.iload 4, .aload 6] (pc' := 37) (lv' := [(0, .ref a0), (1, .int x1), (2, .int x2), (3, .int x3), (4, .int x4), (5, .int x5), (6, .ref b2)]) (st' := [.ref b2, .int x4]) (by decide +kernel) rfl rfl ?_
        obtain ⟨v10, ev10, h⟩ := Ok.bind h
        refine BW.getN (by decide +kernel : decode tX9_tellPrint.2.1 37 = .ok (.getfield 153, 3)) ciX8 (k := 0) (by decide) lkF_X9_153 (toI_V ev10) ?_
        refine BW.run [.aload 6, .iload 5] (pc' := 44) (lv' := [(0, .ref a0), (1, .int x1), (2, .int x2), (3, .int x3), (4, .int x4), (5, .int x5), (6, .ref b2)]) (st' := [.int x5, .ref b2, .int v10, .int x4]) (by decide +kernel) rfl rfl ?_
        refine BW.callV (As := [.int x5]) (st := [.int v10, .int x4]) (by decide +kernel : decode tX9_tellPrint.2.1 44 = .ok (.invokevirtual 169, 3)) (DX8_latestIn (Ok.bindK h)) mfX8_latestIn lkM_X9_169 imX8_latestIn selX8_latestIn ciX8 (oX8_latestIn (Ok.bindK h)).choose_spec rfl rfl (Nat.le_of_ble_eq_true rfl) ⟨Nat.le_trans (by decide) hRm.1, Nat.le_trans (by decide) hRm.2⟩ ⟨Nat.zero_le _, Nat.zero_le _⟩ ?_
        rintro _ s11 ⟨v12, rfl, h⟩
        show BW G tX9_tellPrint E 0 0 47 [(0, .ref a0), (1, .int x1), (2, .int x2), (3, .int x3), (4, .int x4), (5, .int x5), (6, .ref b2)] [.int v12, .int v10, .int x4] s11
        refine BW.run [.imul, .isub] (pc' := 49) (lv' := [(0, .ref a0), (1, .int x1), (2, .int x2), (3, .int x3), (4, .int x4), (5, .int x5), (6, .ref b2)]) (st' := [.int (x4 - (v10 * v12))]) (by decide +kernel) rfl rfl ?_
        obtain ⟨v14, wv14, h⟩ := Ok.nm h
        refine BW.nm wv14 ?_
        refine BW.run [.istore 7, .iload_n 2, .iconst 1] (pc' := 53) (lv' := [(0, .ref a0), (1, .int x1), (2, .int x2), (3, .int x3), (4, .int x4), (5, .int x5), (6, .ref b2), (7, .int v14)]) (st' := [.int (1 : Int32), .int x2]) (by decide +kernel) rfl rfl ?_
        refine BW.icmp_ne 74 (by decide +kernel : decode tX9_tellPrint.2.1 53 = .ok (.if_icmp .ne 21, 3)) (by decide) (fun hc => ?_) (fun hc => ?_)
        · have h := (Ok.ite h).2 hc
          refine BW.run [.aload_n 0, .iload_n 1, .iload_n 3] (pc' := 77) (lv' := [(0, .ref a0), (1, .int x1), (2, .int x2), (3, .int x3), (4, .int x4), (5, .int x5), (6, .ref b2), (7, .int v14)]) (st' := [.int x3, .int x1, .ref a0]) (by decide +kernel) rfl rfl ?_
          refine BW.callS (As := [.int x3]) (st := [.int x1, .ref a0]) (by decide +kernel : decode tX9_tellPrint.2.1 77 = .ok (.invokestatic 325, 3)) (DX9_pointOf (Ok.bindK h)) mfX9_pointOf lkM_X9_325 smX9_pointOf rfl rfl (Nat.le_of_ble_eq_true rfl) ⟨Nat.le_trans (by decide) hRm.1, Nat.le_trans (by decide) hRm.2⟩ ⟨Nat.zero_le _, Nat.zero_le _⟩ ?_
          rintro _ s15 ⟨v16, rfl, h⟩
          show BW G tX9_tellPrint E 0 0 80 [(0, .ref a0), (1, .int x1), (2, .int x2), (3, .int x3), (4, .int x4), (5, .int x5), (6, .ref b2), (7, .int v14)] [.int v16, .int x1, .ref a0] s15
          refine BW.run [.iconst 0] (pc' := 81) (lv' := [(0, .ref a0), (1, .int x1), (2, .int x2), (3, .int x3), (4, .int x4), (5, .int x5), (6, .ref b2), (7, .int v14)]) (st' := [.int (0 : Int32), .int v16, .int x1, .ref a0]) (by decide +kernel) rfl rfl ?_
          refine BW.ldcw (by decide +kernel : decode tX9_tellPrint.2.1 81 = .ok (.ldc_w 332, 3)) (x := (-1000000 : Int32)) lkK_X9_332 ?_
          refine BW.run [.iload 7] (pc' := 86) (lv' := [(0, .ref a0), (1, .int x1), (2, .int x2), (3, .int x3), (4, .int x4), (5, .int x5), (6, .ref b2), (7, .int v14)]) (st' := [.int v14, .int (-1000000 : Int32), .int (0 : Int32), .int v16, .int x1, .ref a0]) (by decide +kernel) rfl rfl ?_
          refine BW.callV (As := [.int x1, .int v16, .int (0 : Int32), .int (-1000000 : Int32), .int v14]) (st := []) (by decide +kernel : decode tX9_tellPrint.2.1 86 = .ok (.invokevirtual 329, 3)) (DX9_keep (Ok.bindK h)) mfX9_keep lkM_X9_329 imX9_keep selX9_keep ciX9 (oX9_keep (Ok.bindK h)).choose_spec rfl rfl (Nat.le_of_ble_eq_true rfl) ⟨Nat.le_trans (by decide) hRm.1, Nat.le_trans (by decide) hRm.2⟩ ⟨Nat.zero_le _, Nat.zero_le _⟩ ?_
          rintro _ s18 ⟨v19, rfl, h⟩
          show BW G tX9_tellPrint E 0 0 89 [(0, .ref a0), (1, .int x1), (2, .int x2), (3, .int x3), (4, .int x4), (5, .int x5), (6, .ref b2), (7, .int v14)] [.int v19] s18
          exact BW.iret (by decide +kernel : decode tX9_tellPrint.2.1 89 = .ok (.ireturn, 1)) rfl (Nat.zero_le _) (Nat.zero_le _) (hQ _ _ (Ok.some h))
        · have h := (Ok.ite h).1 hc
          refine BW.run [.aload_n 0, .iload_n 1, .iload_n 3] (pc' := 59) (lv' := [(0, .ref a0), (1, .int x1), (2, .int x2), (3, .int x3), (4, .int x4), (5, .int x5), (6, .ref b2), (7, .int v14)]) (st' := [.int x3, .int x1, .ref a0]) (by decide +kernel) rfl rfl ?_
          refine BW.callS (As := [.int x3]) (st := [.int x1, .ref a0]) (by decide +kernel : decode tX9_tellPrint.2.1 59 = .ok (.invokestatic 325, 3)) (DX9_pointOf (Ok.bindK h)) mfX9_pointOf lkM_X9_325 smX9_pointOf rfl rfl (Nat.le_of_ble_eq_true rfl) ⟨Nat.le_trans (by decide) hRm.1, Nat.le_trans (by decide) hRm.2⟩ ⟨Nat.zero_le _, Nat.zero_le _⟩ ?_
          rintro _ s21 ⟨v22, rfl, h⟩
          show BW G tX9_tellPrint E 0 0 62 [(0, .ref a0), (1, .int x1), (2, .int x2), (3, .int x3), (4, .int x4), (5, .int x5), (6, .ref b2), (7, .int v14)] [.int v22, .int x1, .ref a0] s21
          refine BW.run [.iconst 0, .iload 7, .iconst 1, .iadd] (pc' := 67) (lv' := [(0, .ref a0), (1, .int x1), (2, .int x2), (3, .int x3), (4, .int x4), (5, .int x5), (6, .ref b2), (7, .int v14)]) (st' := [.int (v14 + (1 : Int32)), .int (0 : Int32), .int v22, .int x1, .ref a0]) (by decide +kernel) rfl rfl ?_
          refine BW.ldcw (by decide +kernel : decode tX9_tellPrint.2.1 67 = .ok (.ldc_w 328, 3)) (x := (1000000 : Int32)) lkK_X9_328 ?_
          refine BW.callV (As := [.int x1, .int v22, .int (0 : Int32), .int (v14 + (1 : Int32)), .int (1000000 : Int32)]) (st := []) (by decide +kernel : decode tX9_tellPrint.2.1 70 = .ok (.invokevirtual 329, 3)) (DX9_keep (Ok.bindK h)) mfX9_keep lkM_X9_329 imX9_keep selX9_keep ciX9 (oX9_keep (Ok.bindK h)).choose_spec rfl rfl (Nat.le_of_ble_eq_true rfl) ⟨Nat.le_trans (by decide) hRm.1, Nat.le_trans (by decide) hRm.2⟩ ⟨Nat.zero_le _, Nat.zero_le _⟩ ?_
          rintro _ s24 ⟨v25, rfl, h⟩
          show BW G tX9_tellPrint E 0 0 73 [(0, .ref a0), (1, .int x1), (2, .int x2), (3, .int x3), (4, .int x4), (5, .int x5), (6, .ref b2), (7, .int v14)] [.int v25] s24
          exact BW.iret (by decide +kernel : decode tX9_tellPrint.2.1 73 = .ok (.ireturn, 1)) rfl (Nat.zero_le _) (Nat.zero_le _) (hQ _ _ (Ok.some h))
      · have h := (Ok.ite h).1 hc
        refine BW.run [.iconst (-1)] (pc' := 32) (lv' := [(0, .ref a0), (1, .int x1), (2, .int x2), (3, .int x3), (4, .int x4), (5, .int x5), (6, .ref b2)]) (st' := [.int (-1 : Int32)]) (by decide +kernel) rfl rfl ?_
        exact BW.iret (by decide +kernel : decode tX9_tellPrint.2.1 32 = .ok (.ireturn, 1)) rfl (Nat.zero_le _) (Nat.zero_le _) (hQ _ _ (Ok.some h))
theorem oX9_tellPrint {n : Nat} {P : Int32 × Sg → Prop} {s0 : Sg} {a0 : Nat} {x1 : Int32} {x2 : Int32} {x3 : Int32} {x4 : Int32} {x5 : Int32} (h : Ok (mX9_tellPrint n s0 a0 x1 x2 x3 x4 x5) P) : ∃ n0, s0.2.1 a0 = some (9, n0) := by
  unfold mX9_tellPrint at h
  exact Ok.isO h
theorem DX9_tellPrint {G : Cx} {n : Nat} {P : Int32 × Sg → Prop} {s0 : Sg} {a0 : Nat} {x1 : Int32} {x2 : Int32} {x3 : Int32} {x4 : Int32} {x5 : Int32} (h : Ok (mX9_tellPrint n s0 a0 x1 x2 x3 x4 x5) P) : BM G tX9_tellPrint 2 50 0 0 [.ref a0, .int x1, .int x2, .int x3, .int x4, .int x5] s0 (fun v s => ∃ r, v = some (.int r) ∧ P (r, s)) := by
  refine BM.of (by decide +kernel) (Nat.le_of_ble_eq_true rfl) ?_
  exact bX9_tellPrint (E := (({ frames := 2, cells := 0, slots := 0, locals := 50 }), Aof s0, 0, 0, (fun v s => ∃ r, v = some (.int r) ∧ P (r, s)))) ⟨Nat.le_refl _, Nat.le_refl _⟩ (fun r s hp => ⟨r, rfl, hp⟩) h
def mX9_fact (n : Nat) (s0 : Sg) (a0 : Nat) (x1 : Int32) (x2 : Int32) (x3 : Int32) (x4 : Int32) (x5 : Int32) (x6 : Int32) : Option (Int32 × Sg) :=
  (isO 9 s0 a0).bind fun _ =>
  (mX9_isWho n s0 x1).bind fun (v2, s1) =>
  if v2 = 0 then (
    some ((-1 : Int32), s1)
  ) else (
    (mX9_walkOf n s1 a0 x3).bind fun q6 => match q6 with
    | (none, s4) => (
      some ((-1 : Int32), s4)
    )
    | (some b5, s4) => (
      (toI (gV 9 s4 a0 8)).bind fun v7 =>
      if v7 < (20 : Int32) then (
        if x2 = (0 : Int32) then (
          (mX9_cellAt n s4 a0 x5 x6).bind fun (v9, s8) =>
          (mX9_tellAbove n s8 a0 x1 x3 x4 v9).bind fun (v12, s11) =>
          some (v12, s11)
        ) else (
        if x2 = (1 : Int32) then (
          (mX9_cellAt n s4 a0 x5 x6).bind fun (v15, s14) =>
          (mX9_tellPrint n s14 a0 x1 x2 x3 x4 v15).bind fun (v18, s17) =>
          some (v18, s17)
        ) else (
        if x2 = (2 : Int32) then (
          (mX9_cellAt n s4 a0 x5 x6).bind fun (v21, s20) =>
          (mX9_tellPrint n s20 a0 x1 x2 x3 x4 v21).bind fun (v24, s23) =>
          some (v24, s23)
        ) else (
        if x2 = (3 : Int32) then (
          (mX9_tellBegan n s4 a0 x1 x3 x5 x6).bind fun (v27, s26) =>
          some (v27, s26)
        ) else (
        if x2 = (4 : Int32) then (
          (mX9_tellBehind n s4 a0 x1 x3 x4 x5).bind fun (v30, s29) =>
          some (v30, s29)
        ) else (
          some ((-1 : Int32), s4)
        )))))
      ) else (
        some ((-1 : Int32), s4)
      )
    )
  )
theorem bX9_fact {G : Cx} {E : Ev} {n : Nat} (hRm : 4 ≤ E.1.frames ∧ 91 ≤ E.1.locals) {P : Int32 × Sg → Prop} (hQ : ∀ r s, P (r, s) → E.2.2.2.2 (some (.int r)) s) {s0 : Sg} {a0 : Nat} {x1 : Int32} {x2 : Int32} {x3 : Int32} {x4 : Int32} {x5 : Int32} {x6 : Int32} (h : Ok (mX9_fact n s0 a0 x1 x2 x3 x4 x5 x6) P) : BW G tX9_fact E 0 0 0 [(0, .ref a0), (1, .int x1), (2, .int x2), (3, .int x3), (4, .int x4), (5, .int x5), (6, .int x6)] [] s0 := by
  unfold mX9_fact at h
  obtain ⟨_, _, h⟩ := Ok.bind h
  refine BW.run [.iload_n 1] (pc' := 1) (lv' := [(0, .ref a0), (1, .int x1), (2, .int x2), (3, .int x3), (4, .int x4), (5, .int x5), (6, .int x6)]) (st' := [.int x1]) (by decide +kernel) rfl rfl ?_
  refine BW.callS (As := [.int x1]) (st := []) (by decide +kernel : decode tX9_fact.2.1 1 = .ok (.invokestatic 176, 3)) (DX9_isWho (Ok.bindK h)) mfX9_isWho lkM_X9_176 smX9_isWho rfl rfl (Nat.le_of_ble_eq_true rfl) ⟨Nat.le_trans (by decide) hRm.1, Nat.le_trans (by decide) hRm.2⟩ ⟨Nat.zero_le _, Nat.zero_le _⟩ ?_
  rintro _ s1 ⟨v2, rfl, h⟩
  show BW G tX9_fact E 0 0 4 [(0, .ref a0), (1, .int x1), (2, .int x2), (3, .int x3), (4, .int x4), (5, .int x5), (6, .int x6)] [.int v2] s1
  refine BW.if_eq 24 (by decide +kernel : decode tX9_fact.2.1 4 = .ok (.ifCond .eq 20, 3)) (by decide) (fun hc => ?_) (fun hc => ?_)
  · have h := (Ok.ite h).1 hc
    refine BW.run [.iconst (-1)] (pc' := 25) (lv' := [(0, .ref a0), (1, .int x1), (2, .int x2), (3, .int x3), (4, .int x4), (5, .int x5), (6, .int x6)]) (st' := [.int (-1 : Int32)]) (by decide +kernel) rfl rfl ?_
    exact BW.iret (by decide +kernel : decode tX9_fact.2.1 25 = .ok (.ireturn, 1)) rfl (Nat.zero_le _) (Nat.zero_le _) (hQ _ _ (Ok.some h))
  · have h := (Ok.ite h).2 hc
    refine BW.run [.aload_n 0, .iload_n 3] (pc' := 9) (lv' := [(0, .ref a0), (1, .int x1), (2, .int x2), (3, .int x3), (4, .int x4), (5, .int x5), (6, .int x6)]) (st' := [.int x3, .ref a0]) (by decide +kernel) rfl rfl ?_
    refine BW.callV (As := [.int x3]) (st := []) (by decide +kernel : decode tX9_fact.2.1 9 = .ok (.invokevirtual 143, 3)) (DX9_walkOf (Ok.bindK h)) mfX9_walkOf lkM_X9_143 imX9_walkOf selX9_walkOf ciX9 (oX9_walkOf (Ok.bindK h)).choose_spec rfl rfl (Nat.le_of_ble_eq_true rfl) ⟨Nat.le_trans (by decide) hRm.1, Nat.le_trans (by decide) hRm.2⟩ ⟨Nat.zero_le _, Nat.zero_le _⟩ ?_
    rintro _ s4 ⟨_ | b5, rfl, h⟩
    · show BW G tX9_fact E 0 0 12 [(0, .ref a0), (1, .int x1), (2, .int x2), (3, .int x3), (4, .int x4), (5, .int x5), (6, .int x6)] (.null :: []) s4
      refine BW.ifnullN 24 (by decide +kernel : decode tX9_fact.2.1 12 = .ok (.ifnull 12, 3)) (by decide) ?_
      refine BW.run [.iconst (-1)] (pc' := 25) (lv' := [(0, .ref a0), (1, .int x1), (2, .int x2), (3, .int x3), (4, .int x4), (5, .int x5), (6, .int x6)]) (st' := [.int (-1 : Int32)]) (by decide +kernel) rfl rfl ?_
      exact BW.iret (by decide +kernel : decode tX9_fact.2.1 25 = .ok (.ireturn, 1)) rfl (Nat.zero_le _) (Nat.zero_le _) (hQ _ _ (Ok.some h))
    · show BW G tX9_fact E 0 0 12 [(0, .ref a0), (1, .int x1), (2, .int x2), (3, .int x3), (4, .int x4), (5, .int x5), (6, .int x6)] (.ref b5 :: []) s4
      refine BW.ifnull (by decide +kernel : decode tX9_fact.2.1 12 = .ok (.ifnull 12, 3)) ?_
      refine BW.run [.aload_n 0] (pc' := 16) (lv' := [(0, .ref a0), (1, .int x1), (2, .int x2), (3, .int x3), (4, .int x4), (5, .int x5), (6, .int x6)]) (st' := [.ref a0]) (by decide +kernel) rfl rfl ?_
      obtain ⟨v7, ev7, h⟩ := Ok.bind h
      refine BW.get (by decide +kernel : decode tX9_fact.2.1 16 = .ok (.getfield 32, 3)) ciX9 (k := 8) (by decide) lkF_X9_32 (toI_V ev7) ?_
      refine BW.run [.bipush 20] (pc' := 21) (lv' := [(0, .ref a0), (1, .int x1), (2, .int x2), (3, .int x3), (4, .int x4), (5, .int x5), (6, .int x6)]) (st' := [.int (20 : Int32), .int v7]) (by decide +kernel) rfl rfl ?_
      refine BW.icmp_lt 26 (by decide +kernel : decode tX9_fact.2.1 21 = .ok (.if_icmp .lt 5, 3)) (by decide) (fun hc => ?_) (fun hc => ?_)
      · have h := (Ok.ite h).1 hc
        refine BW.run [.iload_n 2] (pc' := 27) (lv' := [(0, .ref a0), (1, .int x1), (2, .int x2), (3, .int x3), (4, .int x4), (5, .int x5), (6, .int x6)]) (st' := [.int x2]) (by decide +kernel) rfl rfl ?_
        by_cases hc0 : x2 = (0 : Int32)
        · have h := (Ok.ite h).1 hc0
          refine BW.tblIn (off := 33) 60 (by decide +kernel : decode tX9_fact.2.1 27 = .ok (.tableswitch 90 0 4 #[33, 50, 50, 68, 79], 33)) (by rw [hc0]; decide) (by rw [hc0]; decide) (by rw [hc0]; rfl) (by decide) ?_
          refine BW.run [.aload_n 0, .iload_n 1, .iload_n 3, .iload 4, .aload_n 0, .iload 5, .iload 6] (pc' := 70) (lv' := [(0, .ref a0), (1, .int x1), (2, .int x2), (3, .int x3), (4, .int x4), (5, .int x5), (6, .int x6)]) (st' := [.int x6, .int x5, .ref a0, .int x4, .int x3, .int x1, .ref a0]) (by decide +kernel) rfl rfl ?_
          refine BW.callV (As := [.int x5, .int x6]) (st := [.int x4, .int x3, .int x1, .ref a0]) (by decide +kernel : decode tX9_fact.2.1 70 = .ok (.invokevirtual 130, 3)) (DX9_cellAt (Ok.bindK h)) mfX9_cellAt lkM_X9_130 imX9_cellAt selX9_cellAt ciX9 (oX9_cellAt (Ok.bindK h)).choose_spec rfl rfl (Nat.le_of_ble_eq_true rfl) ⟨Nat.le_trans (by decide) hRm.1, Nat.le_trans (by decide) hRm.2⟩ ⟨Nat.zero_le _, Nat.zero_le _⟩ ?_
          rintro _ s8 ⟨v9, rfl, h⟩
          show BW G tX9_fact E 0 0 73 [(0, .ref a0), (1, .int x1), (2, .int x2), (3, .int x3), (4, .int x4), (5, .int x5), (6, .int x6)] [.int v9, .int x4, .int x3, .int x1, .ref a0] s8
          refine BW.callV (As := [.int x1, .int x3, .int x4, .int v9]) (st := []) (by decide +kernel : decode tX9_fact.2.1 73 = .ok (.invokevirtual 179, 3)) (DX9_tellAbove (Ok.bindK h)) mfX9_tellAbove lkM_X9_179 imX9_tellAbove selX9_tellAbove ciX9 (oX9_tellAbove (Ok.bindK h)).choose_spec rfl rfl (Nat.le_of_ble_eq_true rfl) ⟨Nat.le_trans (by decide) hRm.1, Nat.le_trans (by decide) hRm.2⟩ ⟨Nat.zero_le _, Nat.zero_le _⟩ ?_
          rintro _ s11 ⟨v12, rfl, h⟩
          show BW G tX9_fact E 0 0 76 [(0, .ref a0), (1, .int x1), (2, .int x2), (3, .int x3), (4, .int x4), (5, .int x5), (6, .int x6)] [.int v12] s11
          exact BW.iret (by decide +kernel : decode tX9_fact.2.1 76 = .ok (.ireturn, 1)) rfl (Nat.zero_le _) (Nat.zero_le _) (hQ _ _ (Ok.some h))
        · have h := (Ok.ite h).2 hc0
          by_cases hc1 : x2 = (1 : Int32)
          · have h := (Ok.ite h).1 hc1
            refine BW.tblIn (off := 50) 77 (by decide +kernel : decode tX9_fact.2.1 27 = .ok (.tableswitch 90 0 4 #[33, 50, 50, 68, 79], 33)) (by rw [hc1]; decide) (by rw [hc1]; decide) (by rw [hc1]; rfl) (by decide) ?_
            refine BW.run [.aload_n 0, .iload_n 1, .iload_n 2, .iload_n 3, .iload 4, .aload_n 0, .iload 5, .iload 6] (pc' := 88) (lv' := [(0, .ref a0), (1, .int x1), (2, .int x2), (3, .int x3), (4, .int x4), (5, .int x5), (6, .int x6)]) (st' := [.int x6, .int x5, .ref a0, .int x4, .int x3, .int x2, .int x1, .ref a0]) (by decide +kernel) rfl rfl ?_
            refine BW.callV (As := [.int x5, .int x6]) (st := [.int x4, .int x3, .int x2, .int x1, .ref a0]) (by decide +kernel : decode tX9_fact.2.1 88 = .ok (.invokevirtual 130, 3)) (DX9_cellAt (Ok.bindK h)) mfX9_cellAt lkM_X9_130 imX9_cellAt selX9_cellAt ciX9 (oX9_cellAt (Ok.bindK h)).choose_spec rfl rfl (Nat.le_of_ble_eq_true rfl) ⟨Nat.le_trans (by decide) hRm.1, Nat.le_trans (by decide) hRm.2⟩ ⟨Nat.zero_le _, Nat.zero_le _⟩ ?_
            rintro _ s14 ⟨v15, rfl, h⟩
            show BW G tX9_fact E 0 0 91 [(0, .ref a0), (1, .int x1), (2, .int x2), (3, .int x3), (4, .int x4), (5, .int x5), (6, .int x6)] [.int v15, .int x4, .int x3, .int x2, .int x1, .ref a0] s14
            refine BW.callV (As := [.int x1, .int x2, .int x3, .int x4, .int v15]) (st := []) (by decide +kernel : decode tX9_fact.2.1 91 = .ok (.invokevirtual 183, 3)) (DX9_tellPrint (Ok.bindK h)) mfX9_tellPrint lkM_X9_183 imX9_tellPrint selX9_tellPrint ciX9 (oX9_tellPrint (Ok.bindK h)).choose_spec rfl rfl (Nat.le_of_ble_eq_true rfl) ⟨Nat.le_trans (by decide) hRm.1, Nat.le_trans (by decide) hRm.2⟩ ⟨Nat.zero_le _, Nat.zero_le _⟩ ?_
            rintro _ s17 ⟨v18, rfl, h⟩
            show BW G tX9_fact E 0 0 94 [(0, .ref a0), (1, .int x1), (2, .int x2), (3, .int x3), (4, .int x4), (5, .int x5), (6, .int x6)] [.int v18] s17
            exact BW.iret (by decide +kernel : decode tX9_fact.2.1 94 = .ok (.ireturn, 1)) rfl (Nat.zero_le _) (Nat.zero_le _) (hQ _ _ (Ok.some h))
          · have h := (Ok.ite h).2 hc1
            by_cases hc2 : x2 = (2 : Int32)
            · have h := (Ok.ite h).1 hc2
              refine BW.tblIn (off := 50) 77 (by decide +kernel : decode tX9_fact.2.1 27 = .ok (.tableswitch 90 0 4 #[33, 50, 50, 68, 79], 33)) (by rw [hc2]; decide) (by rw [hc2]; decide) (by rw [hc2]; rfl) (by decide) ?_
              refine BW.run [.aload_n 0, .iload_n 1, .iload_n 2, .iload_n 3, .iload 4, .aload_n 0, .iload 5, .iload 6] (pc' := 88) (lv' := [(0, .ref a0), (1, .int x1), (2, .int x2), (3, .int x3), (4, .int x4), (5, .int x5), (6, .int x6)]) (st' := [.int x6, .int x5, .ref a0, .int x4, .int x3, .int x2, .int x1, .ref a0]) (by decide +kernel) rfl rfl ?_
              refine BW.callV (As := [.int x5, .int x6]) (st := [.int x4, .int x3, .int x2, .int x1, .ref a0]) (by decide +kernel : decode tX9_fact.2.1 88 = .ok (.invokevirtual 130, 3)) (DX9_cellAt (Ok.bindK h)) mfX9_cellAt lkM_X9_130 imX9_cellAt selX9_cellAt ciX9 (oX9_cellAt (Ok.bindK h)).choose_spec rfl rfl (Nat.le_of_ble_eq_true rfl) ⟨Nat.le_trans (by decide) hRm.1, Nat.le_trans (by decide) hRm.2⟩ ⟨Nat.zero_le _, Nat.zero_le _⟩ ?_
              rintro _ s20 ⟨v21, rfl, h⟩
              show BW G tX9_fact E 0 0 91 [(0, .ref a0), (1, .int x1), (2, .int x2), (3, .int x3), (4, .int x4), (5, .int x5), (6, .int x6)] [.int v21, .int x4, .int x3, .int x2, .int x1, .ref a0] s20
              refine BW.callV (As := [.int x1, .int x2, .int x3, .int x4, .int v21]) (st := []) (by decide +kernel : decode tX9_fact.2.1 91 = .ok (.invokevirtual 183, 3)) (DX9_tellPrint (Ok.bindK h)) mfX9_tellPrint lkM_X9_183 imX9_tellPrint selX9_tellPrint ciX9 (oX9_tellPrint (Ok.bindK h)).choose_spec rfl rfl (Nat.le_of_ble_eq_true rfl) ⟨Nat.le_trans (by decide) hRm.1, Nat.le_trans (by decide) hRm.2⟩ ⟨Nat.zero_le _, Nat.zero_le _⟩ ?_
              rintro _ s23 ⟨v24, rfl, h⟩
              show BW G tX9_fact E 0 0 94 [(0, .ref a0), (1, .int x1), (2, .int x2), (3, .int x3), (4, .int x4), (5, .int x5), (6, .int x6)] [.int v24] s23
              exact BW.iret (by decide +kernel : decode tX9_fact.2.1 94 = .ok (.ireturn, 1)) rfl (Nat.zero_le _) (Nat.zero_le _) (hQ _ _ (Ok.some h))
            · have h := (Ok.ite h).2 hc2
              by_cases hc3 : x2 = (3 : Int32)
              · have h := (Ok.ite h).1 hc3
                refine BW.tblIn (off := 68) 95 (by decide +kernel : decode tX9_fact.2.1 27 = .ok (.tableswitch 90 0 4 #[33, 50, 50, 68, 79], 33)) (by rw [hc3]; decide) (by rw [hc3]; decide) (by rw [hc3]; rfl) (by decide) ?_
                refine BW.run [.aload_n 0, .iload_n 1, .iload_n 3, .iload 5, .iload 6] (pc' := 102) (lv' := [(0, .ref a0), (1, .int x1), (2, .int x2), (3, .int x3), (4, .int x4), (5, .int x5), (6, .int x6)]) (st' := [.int x6, .int x5, .int x3, .int x1, .ref a0]) (by decide +kernel) rfl rfl ?_
                refine BW.callV (As := [.int x1, .int x3, .int x5, .int x6]) (st := []) (by decide +kernel : decode tX9_fact.2.1 102 = .ok (.invokevirtual 187, 3)) (DX9_tellBegan (Ok.bindK h)) mfX9_tellBegan lkM_X9_187 imX9_tellBegan selX9_tellBegan ciX9 (oX9_tellBegan (Ok.bindK h)).choose_spec rfl rfl (Nat.le_of_ble_eq_true rfl) ⟨Nat.le_trans (by decide) hRm.1, Nat.le_trans (by decide) hRm.2⟩ ⟨Nat.zero_le _, Nat.zero_le _⟩ ?_
                rintro _ s26 ⟨v27, rfl, h⟩
                show BW G tX9_fact E 0 0 105 [(0, .ref a0), (1, .int x1), (2, .int x2), (3, .int x3), (4, .int x4), (5, .int x5), (6, .int x6)] [.int v27] s26
                exact BW.iret (by decide +kernel : decode tX9_fact.2.1 105 = .ok (.ireturn, 1)) rfl (Nat.zero_le _) (Nat.zero_le _) (hQ _ _ (Ok.some h))
              · have h := (Ok.ite h).2 hc3
                by_cases hc4 : x2 = (4 : Int32)
                · have h := (Ok.ite h).1 hc4
                  refine BW.tblIn (off := 79) 106 (by decide +kernel : decode tX9_fact.2.1 27 = .ok (.tableswitch 90 0 4 #[33, 50, 50, 68, 79], 33)) (by rw [hc4]; decide) (by rw [hc4]; decide) (by rw [hc4]; rfl) (by decide) ?_
                  refine BW.run [.aload_n 0, .iload_n 1, .iload_n 3, .iload 4, .iload 5] (pc' := 113) (lv' := [(0, .ref a0), (1, .int x1), (2, .int x2), (3, .int x3), (4, .int x4), (5, .int x5), (6, .int x6)]) (st' := [.int x5, .int x4, .int x3, .int x1, .ref a0]) (by decide +kernel) rfl rfl ?_
                  refine BW.callV (As := [.int x1, .int x3, .int x4, .int x5]) (st := []) (by decide +kernel : decode tX9_fact.2.1 113 = .ok (.invokevirtual 190, 3)) (DX9_tellBehind (Ok.bindK h)) mfX9_tellBehind lkM_X9_190 imX9_tellBehind selX9_tellBehind ciX9 (oX9_tellBehind (Ok.bindK h)).choose_spec rfl rfl (Nat.le_of_ble_eq_true rfl) ⟨Nat.le_trans (by decide) hRm.1, Nat.le_trans (by decide) hRm.2⟩ ⟨Nat.zero_le _, Nat.zero_le _⟩ ?_
                  rintro _ s29 ⟨v30, rfl, h⟩
                  show BW G tX9_fact E 0 0 116 [(0, .ref a0), (1, .int x1), (2, .int x2), (3, .int x3), (4, .int x4), (5, .int x5), (6, .int x6)] [.int v30] s29
                  exact BW.iret (by decide +kernel : decode tX9_fact.2.1 116 = .ok (.ireturn, 1)) rfl (Nat.zero_le _) (Nat.zero_le _) (hQ _ _ (Ok.some h))
                · have h := (Ok.ite h).2 hc4
                  refine BW.tblOut 117 (by decide +kernel : decode tX9_fact.2.1 27 = .ok (.tableswitch 90 0 4 #[33, 50, 50, 68, 79], 33)) (by have z0 : x2.toInt ≠ 0 := Int32_nek hc0 (by decide); have z1 : x2.toInt ≠ 1 := Int32_nek hc1 (by decide); have z2 : x2.toInt ≠ 2 := Int32_nek hc2 (by decide); have z3 : x2.toInt ≠ 3 := Int32_nek hc3 (by decide); have z4 : x2.toInt ≠ 4 := Int32_nek hc4 (by decide); omega) (by decide) ?_
                  refine BW.run [.iconst (-1)] (pc' := 118) (lv' := [(0, .ref a0), (1, .int x1), (2, .int x2), (3, .int x3), (4, .int x4), (5, .int x5), (6, .int x6)]) (st' := [.int (-1 : Int32)]) (by decide +kernel) rfl rfl ?_
                  exact BW.iret (by decide +kernel : decode tX9_fact.2.1 118 = .ok (.ireturn, 1)) rfl (Nat.zero_le _) (Nat.zero_le _) (hQ _ _ (Ok.some h))
      · have h := (Ok.ite h).2 hc
        refine BW.run [.iconst (-1)] (pc' := 25) (lv' := [(0, .ref a0), (1, .int x1), (2, .int x2), (3, .int x3), (4, .int x4), (5, .int x5), (6, .int x6)]) (st' := [.int (-1 : Int32)]) (by decide +kernel) rfl rfl ?_
        exact BW.iret (by decide +kernel : decode tX9_fact.2.1 25 = .ok (.ireturn, 1)) rfl (Nat.zero_le _) (Nat.zero_le _) (hQ _ _ (Ok.some h))
theorem oX9_fact {n : Nat} {P : Int32 × Sg → Prop} {s0 : Sg} {a0 : Nat} {x1 : Int32} {x2 : Int32} {x3 : Int32} {x4 : Int32} {x5 : Int32} {x6 : Int32} (h : Ok (mX9_fact n s0 a0 x1 x2 x3 x4 x5 x6) P) : ∃ n0, s0.2.1 a0 = some (9, n0) := by
  unfold mX9_fact at h
  exact Ok.isO h
theorem DX9_fact {G : Cx} {n : Nat} {P : Int32 × Sg → Prop} {s0 : Sg} {a0 : Nat} {x1 : Int32} {x2 : Int32} {x3 : Int32} {x4 : Int32} {x5 : Int32} {x6 : Int32} (h : Ok (mX9_fact n s0 a0 x1 x2 x3 x4 x5 x6) P) : BM G tX9_fact 4 91 0 0 [.ref a0, .int x1, .int x2, .int x3, .int x4, .int x5, .int x6] s0 (fun v s => ∃ r, v = some (.int r) ∧ P (r, s)) := by
  refine BM.of (by decide +kernel) (Nat.le_of_ble_eq_true rfl) ?_
  exact bX9_fact (E := (({ frames := 4, cells := 0, slots := 0, locals := 91 }), Aof s0, 0, 0, (fun v s => ∃ r, v = some (.int r) ∧ P (r, s)))) ⟨Nat.le_refl _, Nat.le_refl _⟩ (fun r s hp => ⟨r, rfl, hp⟩) h
def mX9_fault (n : Nat) (s0 : Sg) (a0 : Nat) : Option (Int32 × Sg) :=
  (isO 9 s0 a0).bind fun _ =>
  (toR (gV 9 s0 a0 3)).bind fun b1 =>
  (toI (gV 9 s0 a0 0)).bind fun v2 =>
  (toI (gV 9 s0 a0 1)).bind fun v3 =>
  (mX7_wrongAt n s0 b1 v2 v3).bind fun (v5, s4) =>
  some (v5, s4)
theorem bX9_fault {G : Cx} {E : Ev} {n : Nat} (hRm : 4 ≤ E.1.frames ∧ 84 ≤ E.1.locals) {P : Int32 × Sg → Prop} (hQ : ∀ r s, P (r, s) → E.2.2.2.2 (some (.int r)) s) {s0 : Sg} {a0 : Nat} (h : Ok (mX9_fault n s0 a0) P) : BW G tX9_fault E 0 0 0 [(0, .ref a0)] [] s0 := by
  unfold mX9_fault at h
  obtain ⟨_, _, h⟩ := Ok.bind h
  refine BW.run [.aload_n 0] (pc' := 1) (lv' := [(0, .ref a0)]) (st' := [.ref a0]) (by decide +kernel) rfl rfl ?_
  obtain ⟨b1, eb1, h⟩ := Ok.bind h
  refine BW.get (by decide +kernel : decode tX9_fault.2.1 1 = .ok (.getfield 12, 3)) ciX9 (k := 3) (by decide) lkF_X9_12 (toR_V eb1) ?_
  refine BW.run [.aload_n 0] (pc' := 5) (lv' := [(0, .ref a0)]) (st' := [.ref a0, .ref b1]) (by decide +kernel) rfl rfl ?_
  obtain ⟨v2, ev2, h⟩ := Ok.bind h
  refine BW.get (by decide +kernel : decode tX9_fault.2.1 5 = .ok (.getfield 92, 3)) ciX9 (k := 0) (by decide) lkF_X9_92 (toI_V ev2) ?_
  refine BW.run [.aload_n 0] (pc' := 9) (lv' := [(0, .ref a0)]) (st' := [.ref a0, .int v2, .ref b1]) (by decide +kernel) rfl rfl ?_
  obtain ⟨v3, ev3, h⟩ := Ok.bind h
  refine BW.get (by decide +kernel : decode tX9_fault.2.1 9 = .ok (.getfield 95, 3)) ciX9 (k := 1) (by decide) lkF_X9_95 (toI_V ev3) ?_
  refine BW.callV (As := [.int v2, .int v3]) (st := []) (by decide +kernel : decode tX9_fault.2.1 12 = .ok (.invokevirtual 121, 3)) (DX7_wrongAt (Ok.bindK h)) mfX7_wrongAt lkM_X9_121 imX7_wrongAt selX7_wrongAt ciX7 (oX7_wrongAt (Ok.bindK h)).choose_spec rfl rfl (Nat.le_of_ble_eq_true rfl) ⟨Nat.le_trans (by decide) hRm.1, Nat.le_trans (by decide) hRm.2⟩ ⟨Nat.zero_le _, Nat.zero_le _⟩ ?_
  rintro _ s4 ⟨v5, rfl, h⟩
  show BW G tX9_fault E 0 0 15 [(0, .ref a0)] [.int v5] s4
  exact BW.iret (by decide +kernel : decode tX9_fault.2.1 15 = .ok (.ireturn, 1)) rfl (Nat.zero_le _) (Nat.zero_le _) (hQ _ _ (Ok.some h))
theorem oX9_fault {n : Nat} {P : Int32 × Sg → Prop} {s0 : Sg} {a0 : Nat} (h : Ok (mX9_fault n s0 a0) P) : ∃ n0, s0.2.1 a0 = some (9, n0) := by
  unfold mX9_fault at h
  exact Ok.isO h
theorem DX9_fault {G : Cx} {n : Nat} {P : Int32 × Sg → Prop} {s0 : Sg} {a0 : Nat} (h : Ok (mX9_fault n s0 a0) P) : BM G tX9_fault 4 84 0 0 [.ref a0] s0 (fun v s => ∃ r, v = some (.int r) ∧ P (r, s)) := by
  refine BM.of (by decide +kernel) (Nat.le_of_ble_eq_true rfl) ?_
  exact bX9_fault (E := (({ frames := 4, cells := 0, slots := 0, locals := 84 }), Aof s0, 0, 0, (fun v s => ∃ r, v = some (.int r) ∧ P (r, s)))) ⟨Nat.le_refl _, Nat.le_refl _⟩ (fun r s hp => ⟨r, rfl, hp⟩) h
def mX9_feed_71 (n : Nat) (s0 : Sg) (t0 : Int32) (a0 : Nat) (x6 : Int32) : Option (Int32 × Sg) :=
  if t0 = 0 then (
    (toR (gV 9 s0 a0 3)).bind fun b9 =>
    (mX7_cut n s0 b9 x6).bind fun (v11, s10) =>
    some ((-1 : Int32), s10)
  ) else (
    (toR (gV 9 s0 a0 3)).bind fun b7 =>
    (toI (gV 7 s0 b7 1)).bind fun v8 =>
    some (v8, s0)
  )
theorem bX9_feed_71 {G : Cx} {E : Ev} {n : Nat} (hRm : 1 ≤ E.1.frames ∧ 23 ≤ E.1.locals) {s0 : Sg} {t0 : Int32} {a0 : Nat} {x6 : Int32} {P : Int32 × Sg → Prop} (hQ : ∀ r s, P (r, s) → E.2.2.2.2 (some (.int r)) s) (h : Ok (mX9_feed_71 n s0 t0 a0 x6) P) : BW G tX9_feed E 0 0 71 [(0, .ref a0), (6, .int x6)] [.int t0] s0 := by
  unfold mX9_feed_71 at h
  refine BW.run [.istore 7, .iload 7] (pc' := 75) (lv' := [(0, .ref a0), (6, .int x6), (7, .int t0)]) (st' := [.int t0]) (by decide +kernel) rfl rfl ?_
  refine BW.if_ne 90 (by decide +kernel : decode tX9_feed.2.1 75 = .ok (.ifCond .ne 15, 3)) (by decide) (fun hc => ?_) (fun hc => ?_)
  · have h := (Ok.ite h).2 hc
    refine BW.run [.aload_n 0] (pc' := 91) (lv' := [(0, .ref a0), (6, .int x6), (7, .int t0)]) (st' := [.ref a0]) (by decide +kernel) rfl rfl ?_
    obtain ⟨b7, eb7, h⟩ := Ok.bind h
    refine BW.get (by decide +kernel : decode tX9_feed.2.1 91 = .ok (.getfield 12, 3)) ciX9 (k := 3) (by decide) lkF_X9_12 (toR_V eb7) ?_
    obtain ⟨v8, ev8, h⟩ := Ok.bind h
    refine BW.getN (by decide +kernel : decode tX9_feed.2.1 94 = .ok (.getfield 111, 3)) ciX7 (k := 1) (by decide) lkF_X9_111 (toI_V ev8) ?_
    exact BW.iret (by decide +kernel : decode tX9_feed.2.1 97 = .ok (.ireturn, 1)) rfl (Nat.zero_le _) (Nat.zero_le _) (hQ _ _ (Ok.some h))
  · have h := (Ok.ite h).1 hc
    refine BW.run [.aload_n 0] (pc' := 79) (lv' := [(0, .ref a0), (6, .int x6), (7, .int t0)]) (st' := [.ref a0]) (by decide +kernel) rfl rfl ?_
    obtain ⟨b9, eb9, h⟩ := Ok.bind h
    refine BW.get (by decide +kernel : decode tX9_feed.2.1 79 = .ok (.getfield 12, 3)) ciX9 (k := 3) (by decide) lkF_X9_12 (toR_V eb9) ?_
    refine BW.run [.iload 6] (pc' := 84) (lv' := [(0, .ref a0), (6, .int x6), (7, .int t0)]) (st' := [.int x6, .ref b9]) (by decide +kernel) rfl rfl ?_
    refine BW.callV (As := [.int x6]) (st := []) (by decide +kernel : decode tX9_feed.2.1 84 = .ok (.invokevirtual 118, 3)) (DX7_cut (Ok.bindK h)) mfX7_cut lkM_X9_118 imX7_cut selX7_cut ciX7 (oX7_cut (Ok.bindK h)).choose_spec rfl rfl (Nat.le_of_ble_eq_true rfl) ⟨Nat.le_trans (by decide) hRm.1, Nat.le_trans (by decide) hRm.2⟩ ⟨Nat.zero_le _, Nat.zero_le _⟩ ?_
    rintro _ s10 ⟨v11, rfl, h⟩
    show BW G tX9_feed E 0 0 87 [(0, .ref a0), (6, .int x6), (7, .int t0)] [.int v11] s10
    refine BW.run [.pop, .iconst (-1)] (pc' := 89) (lv' := [(0, .ref a0), (6, .int x6), (7, .int t0)]) (st' := [.int (-1 : Int32)]) (by decide +kernel) rfl rfl ?_
    exact BW.iret (by decide +kernel : decode tX9_feed.2.1 89 = .ok (.ireturn, 1)) rfl (Nat.zero_le _) (Nat.zero_le _) (hQ _ _ (Ok.some h))
def mX9_feed_70 (n : Nat) (s0 : Sg) (a0 : Nat) (x6 : Int32) : Option (Int32 × Sg) :=
  mX9_feed_71 n s0 (0 : Int32) a0 x6
theorem bX9_feed_70 {G : Cx} {E : Ev} {n : Nat} (hRm : 1 ≤ E.1.frames ∧ 23 ≤ E.1.locals) {s0 : Sg} {a0 : Nat} {x6 : Int32} {P : Int32 × Sg → Prop} (hQ : ∀ r s, P (r, s) → E.2.2.2.2 (some (.int r)) s) (h : Ok (mX9_feed_70 n s0 a0 x6) P) : BW G tX9_feed E 0 0 70 [(0, .ref a0), (6, .int x6)] [] s0 := by
  unfold mX9_feed_70 at h
  refine BW.run [.iconst 0] (pc' := 71) (lv' := [(0, .ref a0), (6, .int x6)]) (st' := [.int (0 : Int32)]) (by decide +kernel) rfl rfl ?_
  exact bX9_feed_71 hRm hQ h
def mX9_feed (n : Nat) (s0 : Sg) (a0 : Nat) (x1 : Int32) (x2 : Int32) (x3 : Int32) (x4 : Int32) (x5 : Int32) : Option (Int32 × Sg) :=
  (isO 9 s0 a0).bind fun _ =>
  (toR (gV 9 s0 a0 3)).bind fun b1 =>
  (toI (gV 7 s0 b1 1)).bind fun v2 =>
  (toR (gV 9 s0 a0 3)).bind fun b3 =>
  (mX7_append n s0 b3 x1).bind fun (v5, s4) =>
  if v5 = 0 then (
    mX9_feed_70 n s4 a0 v2
  ) else (
    (toR (gV 9 s4 a0 3)).bind fun b13 =>
    (mX7_append n s4 b13 x2).bind fun (v15, s14) =>
    if v15 = 0 then (
      mX9_feed_70 n s14 a0 v2
    ) else (
      (toR (gV 9 s14 a0 3)).bind fun b17 =>
      (mX7_append n s14 b17 x3).bind fun (v19, s18) =>
      if v19 = 0 then (
        mX9_feed_70 n s18 a0 v2
      ) else (
        (toR (gV 9 s18 a0 3)).bind fun b21 =>
        (mX7_append n s18 b21 x4).bind fun (v23, s22) =>
        if v23 = 0 then (
          mX9_feed_70 n s22 a0 v2
        ) else (
          (toR (gV 9 s22 a0 3)).bind fun b25 =>
          (mX7_append n s22 b25 x5).bind fun (v27, s26) =>
          if v27 = 0 then (
            mX9_feed_70 n s26 a0 v2
          ) else (
            mX9_feed_71 n s26 (1 : Int32) a0 v2
          )
        )
      )
    )
  )
theorem bX9_feed {G : Cx} {E : Ev} {n : Nat} (hRm : 1 ≤ E.1.frames ∧ 23 ≤ E.1.locals) {P : Int32 × Sg → Prop} (hQ : ∀ r s, P (r, s) → E.2.2.2.2 (some (.int r)) s) {s0 : Sg} {a0 : Nat} {x1 : Int32} {x2 : Int32} {x3 : Int32} {x4 : Int32} {x5 : Int32} (h : Ok (mX9_feed n s0 a0 x1 x2 x3 x4 x5) P) : BW G tX9_feed E 0 0 0 [(0, .ref a0), (1, .int x1), (2, .int x2), (3, .int x3), (4, .int x4), (5, .int x5)] [] s0 := by
  unfold mX9_feed at h
  obtain ⟨_, _, h⟩ := Ok.bind h
  refine BW.run [.aload_n 0] (pc' := 1) (lv' := [(0, .ref a0), (1, .int x1), (2, .int x2), (3, .int x3), (4, .int x4), (5, .int x5)]) (st' := [.ref a0]) (by decide +kernel) rfl rfl ?_
  obtain ⟨b1, eb1, h⟩ := Ok.bind h
  refine BW.get (by decide +kernel : decode tX9_feed.2.1 1 = .ok (.getfield 12, 3)) ciX9 (k := 3) (by decide) lkF_X9_12 (toR_V eb1) ?_
  obtain ⟨v2, ev2, h⟩ := Ok.bind h
  refine BW.getN (by decide +kernel : decode tX9_feed.2.1 4 = .ok (.getfield 111, 3)) ciX7 (k := 1) (by decide) lkF_X9_111 (toI_V ev2) ?_
  refine BW.run [.istore 6, .aload_n 0] (pc' := 10) (lv' := [(0, .ref a0), (1, .int x1), (2, .int x2), (3, .int x3), (4, .int x4), (5, .int x5), (6, .int v2)]) (st' := [.ref a0]) (by decide +kernel) rfl rfl ?_
  obtain ⟨b3, eb3, h⟩ := Ok.bind h
  refine BW.get (by decide +kernel : decode tX9_feed.2.1 10 = .ok (.getfield 12, 3)) ciX9 (k := 3) (by decide) lkF_X9_12 (toR_V eb3) ?_
  refine BW.run [.iload_n 1] (pc' := 14) (lv' := [(0, .ref a0), (1, .int x1), (2, .int x2), (3, .int x3), (4, .int x4), (5, .int x5), (6, .int v2)]) (st' := [.int x1, .ref b3]) (by decide +kernel) rfl rfl ?_
  refine BW.callV (As := [.int x1]) (st := []) (by decide +kernel : decode tX9_feed.2.1 14 = .ok (.invokevirtual 114, 3)) (DX7_append (Ok.bindK h)) mfX7_append lkM_X9_114 imX7_append selX7_append ciX7 (oX7_append (Ok.bindK h)).choose_spec rfl rfl (Nat.le_of_ble_eq_true rfl) ⟨Nat.le_trans (by decide) hRm.1, Nat.le_trans (by decide) hRm.2⟩ ⟨Nat.zero_le _, Nat.zero_le _⟩ ?_
  rintro _ s4 ⟨v5, rfl, h⟩
  show BW G tX9_feed E 0 0 17 [(0, .ref a0), (1, .int x1), (2, .int x2), (3, .int x3), (4, .int x4), (5, .int x5), (6, .int v2)] [.int v5] s4
  refine BW.if_eq 70 (by decide +kernel : decode tX9_feed.2.1 17 = .ok (.ifCond .eq 53, 3)) (by decide) (fun hc => ?_) (fun hc => ?_)
  · have h := (Ok.ite h).1 hc
    refine BW.sub [0, 6] rfl ?_
    exact bX9_feed_70 hRm hQ h
  · have h := (Ok.ite h).2 hc
    refine BW.run [.aload_n 0] (pc' := 21) (lv' := [(0, .ref a0), (1, .int x1), (2, .int x2), (3, .int x3), (4, .int x4), (5, .int x5), (6, .int v2)]) (st' := [.ref a0]) (by decide +kernel) rfl rfl ?_
    obtain ⟨b13, eb13, h⟩ := Ok.bind h
    refine BW.get (by decide +kernel : decode tX9_feed.2.1 21 = .ok (.getfield 12, 3)) ciX9 (k := 3) (by decide) lkF_X9_12 (toR_V eb13) ?_
    refine BW.run [.iload_n 2] (pc' := 25) (lv' := [(0, .ref a0), (1, .int x1), (2, .int x2), (3, .int x3), (4, .int x4), (5, .int x5), (6, .int v2)]) (st' := [.int x2, .ref b13]) (by decide +kernel) rfl rfl ?_
    refine BW.callV (As := [.int x2]) (st := []) (by decide +kernel : decode tX9_feed.2.1 25 = .ok (.invokevirtual 114, 3)) (DX7_append (Ok.bindK h)) mfX7_append lkM_X9_114 imX7_append selX7_append ciX7 (oX7_append (Ok.bindK h)).choose_spec rfl rfl (Nat.le_of_ble_eq_true rfl) ⟨Nat.le_trans (by decide) hRm.1, Nat.le_trans (by decide) hRm.2⟩ ⟨Nat.zero_le _, Nat.zero_le _⟩ ?_
    rintro _ s14 ⟨v15, rfl, h⟩
    show BW G tX9_feed E 0 0 28 [(0, .ref a0), (1, .int x1), (2, .int x2), (3, .int x3), (4, .int x4), (5, .int x5), (6, .int v2)] [.int v15] s14
    refine BW.if_eq 70 (by decide +kernel : decode tX9_feed.2.1 28 = .ok (.ifCond .eq 42, 3)) (by decide) (fun hc => ?_) (fun hc => ?_)
    · have h := (Ok.ite h).1 hc
      refine BW.sub [0, 6] rfl ?_
      exact bX9_feed_70 hRm hQ h
    · have h := (Ok.ite h).2 hc
      refine BW.run [.aload_n 0] (pc' := 32) (lv' := [(0, .ref a0), (1, .int x1), (2, .int x2), (3, .int x3), (4, .int x4), (5, .int x5), (6, .int v2)]) (st' := [.ref a0]) (by decide +kernel) rfl rfl ?_
      obtain ⟨b17, eb17, h⟩ := Ok.bind h
      refine BW.get (by decide +kernel : decode tX9_feed.2.1 32 = .ok (.getfield 12, 3)) ciX9 (k := 3) (by decide) lkF_X9_12 (toR_V eb17) ?_
      refine BW.run [.iload_n 3] (pc' := 36) (lv' := [(0, .ref a0), (1, .int x1), (2, .int x2), (3, .int x3), (4, .int x4), (5, .int x5), (6, .int v2)]) (st' := [.int x3, .ref b17]) (by decide +kernel) rfl rfl ?_
      refine BW.callV (As := [.int x3]) (st := []) (by decide +kernel : decode tX9_feed.2.1 36 = .ok (.invokevirtual 114, 3)) (DX7_append (Ok.bindK h)) mfX7_append lkM_X9_114 imX7_append selX7_append ciX7 (oX7_append (Ok.bindK h)).choose_spec rfl rfl (Nat.le_of_ble_eq_true rfl) ⟨Nat.le_trans (by decide) hRm.1, Nat.le_trans (by decide) hRm.2⟩ ⟨Nat.zero_le _, Nat.zero_le _⟩ ?_
      rintro _ s18 ⟨v19, rfl, h⟩
      show BW G tX9_feed E 0 0 39 [(0, .ref a0), (1, .int x1), (2, .int x2), (3, .int x3), (4, .int x4), (5, .int x5), (6, .int v2)] [.int v19] s18
      refine BW.if_eq 70 (by decide +kernel : decode tX9_feed.2.1 39 = .ok (.ifCond .eq 31, 3)) (by decide) (fun hc => ?_) (fun hc => ?_)
      · have h := (Ok.ite h).1 hc
        refine BW.sub [0, 6] rfl ?_
        exact bX9_feed_70 hRm hQ h
      · have h := (Ok.ite h).2 hc
        refine BW.run [.aload_n 0] (pc' := 43) (lv' := [(0, .ref a0), (1, .int x1), (2, .int x2), (3, .int x3), (4, .int x4), (5, .int x5), (6, .int v2)]) (st' := [.ref a0]) (by decide +kernel) rfl rfl ?_
        obtain ⟨b21, eb21, h⟩ := Ok.bind h
        refine BW.get (by decide +kernel : decode tX9_feed.2.1 43 = .ok (.getfield 12, 3)) ciX9 (k := 3) (by decide) lkF_X9_12 (toR_V eb21) ?_
        refine BW.run [.iload 4] (pc' := 48) (lv' := [(0, .ref a0), (1, .int x1), (2, .int x2), (3, .int x3), (4, .int x4), (5, .int x5), (6, .int v2)]) (st' := [.int x4, .ref b21]) (by decide +kernel) rfl rfl ?_
        refine BW.callV (As := [.int x4]) (st := []) (by decide +kernel : decode tX9_feed.2.1 48 = .ok (.invokevirtual 114, 3)) (DX7_append (Ok.bindK h)) mfX7_append lkM_X9_114 imX7_append selX7_append ciX7 (oX7_append (Ok.bindK h)).choose_spec rfl rfl (Nat.le_of_ble_eq_true rfl) ⟨Nat.le_trans (by decide) hRm.1, Nat.le_trans (by decide) hRm.2⟩ ⟨Nat.zero_le _, Nat.zero_le _⟩ ?_
        rintro _ s22 ⟨v23, rfl, h⟩
        show BW G tX9_feed E 0 0 51 [(0, .ref a0), (1, .int x1), (2, .int x2), (3, .int x3), (4, .int x4), (5, .int x5), (6, .int v2)] [.int v23] s22
        refine BW.if_eq 70 (by decide +kernel : decode tX9_feed.2.1 51 = .ok (.ifCond .eq 19, 3)) (by decide) (fun hc => ?_) (fun hc => ?_)
        · have h := (Ok.ite h).1 hc
          refine BW.sub [0, 6] rfl ?_
          exact bX9_feed_70 hRm hQ h
        · have h := (Ok.ite h).2 hc
          refine BW.run [.aload_n 0] (pc' := 55) (lv' := [(0, .ref a0), (1, .int x1), (2, .int x2), (3, .int x3), (4, .int x4), (5, .int x5), (6, .int v2)]) (st' := [.ref a0]) (by decide +kernel) rfl rfl ?_
          obtain ⟨b25, eb25, h⟩ := Ok.bind h
          refine BW.get (by decide +kernel : decode tX9_feed.2.1 55 = .ok (.getfield 12, 3)) ciX9 (k := 3) (by decide) lkF_X9_12 (toR_V eb25) ?_
          refine BW.run [.iload 5] (pc' := 60) (lv' := [(0, .ref a0), (1, .int x1), (2, .int x2), (3, .int x3), (4, .int x4), (5, .int x5), (6, .int v2)]) (st' := [.int x5, .ref b25]) (by decide +kernel) rfl rfl ?_
          refine BW.callV (As := [.int x5]) (st := []) (by decide +kernel : decode tX9_feed.2.1 60 = .ok (.invokevirtual 114, 3)) (DX7_append (Ok.bindK h)) mfX7_append lkM_X9_114 imX7_append selX7_append ciX7 (oX7_append (Ok.bindK h)).choose_spec rfl rfl (Nat.le_of_ble_eq_true rfl) ⟨Nat.le_trans (by decide) hRm.1, Nat.le_trans (by decide) hRm.2⟩ ⟨Nat.zero_le _, Nat.zero_le _⟩ ?_
          rintro _ s26 ⟨v27, rfl, h⟩
          show BW G tX9_feed E 0 0 63 [(0, .ref a0), (1, .int x1), (2, .int x2), (3, .int x3), (4, .int x4), (5, .int x5), (6, .int v2)] [.int v27] s26
          refine BW.if_eq 70 (by decide +kernel : decode tX9_feed.2.1 63 = .ok (.ifCond .eq 7, 3)) (by decide) (fun hc => ?_) (fun hc => ?_)
          · have h := (Ok.ite h).1 hc
            refine BW.sub [0, 6] rfl ?_
            exact bX9_feed_70 hRm hQ h
          · have h := (Ok.ite h).2 hc
            refine BW.run [.iconst 1] (pc' := 67) (lv' := [(0, .ref a0), (1, .int x1), (2, .int x2), (3, .int x3), (4, .int x4), (5, .int x5), (6, .int v2)]) (st' := [.int (1 : Int32)]) (by decide +kernel) rfl rfl ?_
            refine BW.goto 71 (by decide +kernel : decode tX9_feed.2.1 67 = .ok (.goto 4, 3)) (by decide) ?_
            refine BW.sub [0, 6] rfl ?_
            exact bX9_feed_71 hRm hQ h
theorem oX9_feed {n : Nat} {P : Int32 × Sg → Prop} {s0 : Sg} {a0 : Nat} {x1 : Int32} {x2 : Int32} {x3 : Int32} {x4 : Int32} {x5 : Int32} (h : Ok (mX9_feed n s0 a0 x1 x2 x3 x4 x5) P) : ∃ n0, s0.2.1 a0 = some (9, n0) := by
  unfold mX9_feed at h
  exact Ok.isO h
theorem DX9_feed {G : Cx} {n : Nat} {P : Int32 × Sg → Prop} {s0 : Sg} {a0 : Nat} {x1 : Int32} {x2 : Int32} {x3 : Int32} {x4 : Int32} {x5 : Int32} (h : Ok (mX9_feed n s0 a0 x1 x2 x3 x4 x5) P) : BM G tX9_feed 1 23 0 0 [.ref a0, .int x1, .int x2, .int x3, .int x4, .int x5] s0 (fun v s => ∃ r, v = some (.int r) ∧ P (r, s)) := by
  refine BM.of (by decide +kernel) (Nat.le_of_ble_eq_true rfl) ?_
  exact bX9_feed (E := (({ frames := 1, cells := 0, slots := 0, locals := 23 }), Aof s0, 0, 0, (fun v s => ∃ r, v = some (.int r) ∧ P (r, s)))) ⟨Nat.le_refl _, Nat.le_refl _⟩ (fun r s hp => ⟨r, rfl, hp⟩) h
def mX9_gap_47 (n : Nat) (s0 : Sg)  : Option (Int32 × Sg) :=
  some ((-100000 : Int32), s0)
theorem bX9_gap_47 {G : Cx} {E : Ev} {n : Nat} (hRm : 6 ≤ E.1.frames ∧ 133 ≤ E.1.locals) {s0 : Sg}  {P : Int32 × Sg → Prop} (hQ : ∀ r s, P (r, s) → E.2.2.2.2 (some (.int r)) s) (h : Ok (mX9_gap_47 n s0 ) P) : BW G tX9_gap E 0 0 47 [] [] s0 := by
  unfold mX9_gap_47 at h
  refine BW.ldc (by decide +kernel : decode tX9_gap.2.1 47 = .ok (.ldc 232, 2)) (x := (-100000 : Int32)) lkK_X9_232 ?_
  exact BW.iret (by decide +kernel : decode tX9_gap.2.1 49 = .ok (.ireturn, 1)) rfl (Nat.zero_le _) (Nat.zero_le _) (hQ _ _ (Ok.some h))
def mX9_gap_32 (n : Nat) (s0 : Sg) (t0 : Int32) (a0 : Nat) (x1 : Int32) (x2 : Int32) (x3 : Int32) (x4 : Int32) : Option (Int32 × Sg) :=
  if t0 = 0 then (
    mX9_gap_47 n s0 
  ) else (
    (mX9_canBe n s0 a0 x1).bind fun (v2, s1) =>
    if v2 = 0 then (
      mX9_gap_47 n s1 
    ) else (
      if x4 = 0 then (
        (toR (gV 9 s1 a0 11)).bind fun b8 =>
        (mX4_leastGap n s1 b8 x2 x3).bind fun (v10, s9) =>
        some (v10, s9)
      ) else (
        (toR (gV 9 s1 a0 11)).bind fun b4 =>
        (mX4_greatestGap n s1 b4 x2 x3).bind fun (v6, s5) =>
        some (v6, s5)
      )
    )
  )
theorem bX9_gap_32 {G : Cx} {E : Ev} {n : Nat} (hRm : 6 ≤ E.1.frames ∧ 133 ≤ E.1.locals) {s0 : Sg} {t0 : Int32} {a0 : Nat} {x1 : Int32} {x2 : Int32} {x3 : Int32} {x4 : Int32} {P : Int32 × Sg → Prop} (hQ : ∀ r s, P (r, s) → E.2.2.2.2 (some (.int r)) s) (h : Ok (mX9_gap_32 n s0 t0 a0 x1 x2 x3 x4) P) : BW G tX9_gap E 0 0 32 [(0, .ref a0), (1, .int x1), (2, .int x2), (3, .int x3), (4, .int x4)] [.int t0] s0 := by
  unfold mX9_gap_32 at h
  refine BW.run [.istore 5, .iload 5] (pc' := 36) (lv' := [(0, .ref a0), (1, .int x1), (2, .int x2), (3, .int x3), (4, .int x4), (5, .int t0)]) (st' := [.int t0]) (by decide +kernel) rfl rfl ?_
  refine BW.if_eq 47 (by decide +kernel : decode tX9_gap.2.1 36 = .ok (.ifCond .eq 11, 3)) (by decide) (fun hc => ?_) (fun hc => ?_)
  · have h := (Ok.ite h).1 hc
    refine BW.sub [] rfl ?_
    exact bX9_gap_47 hRm hQ h
  · have h := (Ok.ite h).2 hc
    refine BW.run [.aload_n 0, .iload_n 1] (pc' := 41) (lv' := [(0, .ref a0), (1, .int x1), (2, .int x2), (3, .int x3), (4, .int x4), (5, .int t0)]) (st' := [.int x1, .ref a0]) (by decide +kernel) rfl rfl ?_
    refine BW.callV (As := [.int x1]) (st := []) (by decide +kernel : decode tX9_gap.2.1 41 = .ok (.invokevirtual 223, 3)) (DX9_canBe (Ok.bindK h)) mfX9_canBe lkM_X9_223 imX9_canBe selX9_canBe ciX9 (oX9_canBe (Ok.bindK h)).choose_spec rfl rfl (Nat.le_of_ble_eq_true rfl) ⟨Nat.le_trans (by decide) hRm.1, Nat.le_trans (by decide) hRm.2⟩ ⟨Nat.zero_le _, Nat.zero_le _⟩ ?_
    rintro _ s1 ⟨v2, rfl, h⟩
    show BW G tX9_gap E 0 0 44 [(0, .ref a0), (1, .int x1), (2, .int x2), (3, .int x3), (4, .int x4), (5, .int t0)] [.int v2] s1
    refine BW.if_ne 50 (by decide +kernel : decode tX9_gap.2.1 44 = .ok (.ifCond .ne 6, 3)) (by decide) (fun hc => ?_) (fun hc => ?_)
    · have h := (Ok.ite h).2 hc
      refine BW.run [.iload 4] (pc' := 52) (lv' := [(0, .ref a0), (1, .int x1), (2, .int x2), (3, .int x3), (4, .int x4), (5, .int t0)]) (st' := [.int x4]) (by decide +kernel) rfl rfl ?_
      refine BW.if_ne 67 (by decide +kernel : decode tX9_gap.2.1 52 = .ok (.ifCond .ne 15, 3)) (by decide) (fun hc => ?_) (fun hc => ?_)
      · have h := (Ok.ite h).2 hc
        refine BW.run [.aload_n 0] (pc' := 68) (lv' := [(0, .ref a0), (1, .int x1), (2, .int x2), (3, .int x3), (4, .int x4), (5, .int t0)]) (st' := [.ref a0]) (by decide +kernel) rfl rfl ?_
        obtain ⟨b4, eb4, h⟩ := Ok.bind h
        refine BW.get (by decide +kernel : decode tX9_gap.2.1 68 = .ok (.getfield 45, 3)) ciX9 (k := 11) (by decide) lkF_X9_45 (toR_V eb4) ?_
        refine BW.run [.iload_n 2, .iload_n 3] (pc' := 73) (lv' := [(0, .ref a0), (1, .int x1), (2, .int x2), (3, .int x3), (4, .int x4), (5, .int t0)]) (st' := [.int x3, .int x2, .ref b4]) (by decide +kernel) rfl rfl ?_
        refine BW.callV (As := [.int x2, .int x3]) (st := []) (by decide +kernel : decode tX9_gap.2.1 73 = .ok (.invokevirtual 236, 3)) (DX4_greatestGap (Ok.bindK h)) mfX4_greatestGap lkM_X9_236 imX4_greatestGap selX4_greatestGap ciX4 (oX4_greatestGap (Ok.bindK h)).choose_spec rfl rfl (Nat.le_of_ble_eq_true rfl) ⟨Nat.le_trans (by decide) hRm.1, Nat.le_trans (by decide) hRm.2⟩ ⟨Nat.zero_le _, Nat.zero_le _⟩ ?_
        rintro _ s5 ⟨v6, rfl, h⟩
        show BW G tX9_gap E 0 0 76 [(0, .ref a0), (1, .int x1), (2, .int x2), (3, .int x3), (4, .int x4), (5, .int t0)] [.int v6] s5
        exact BW.iret (by decide +kernel : decode tX9_gap.2.1 76 = .ok (.ireturn, 1)) rfl (Nat.zero_le _) (Nat.zero_le _) (hQ _ _ (Ok.some h))
      · have h := (Ok.ite h).1 hc
        refine BW.run [.aload_n 0] (pc' := 56) (lv' := [(0, .ref a0), (1, .int x1), (2, .int x2), (3, .int x3), (4, .int x4), (5, .int t0)]) (st' := [.ref a0]) (by decide +kernel) rfl rfl ?_
        obtain ⟨b8, eb8, h⟩ := Ok.bind h
        refine BW.get (by decide +kernel : decode tX9_gap.2.1 56 = .ok (.getfield 45, 3)) ciX9 (k := 11) (by decide) lkF_X9_45 (toR_V eb8) ?_
        refine BW.run [.iload_n 2, .iload_n 3] (pc' := 61) (lv' := [(0, .ref a0), (1, .int x1), (2, .int x2), (3, .int x3), (4, .int x4), (5, .int t0)]) (st' := [.int x3, .int x2, .ref b8]) (by decide +kernel) rfl rfl ?_
        refine BW.callV (As := [.int x2, .int x3]) (st := []) (by decide +kernel : decode tX9_gap.2.1 61 = .ok (.invokevirtual 233, 3)) (DX4_leastGap (Ok.bindK h)) mfX4_leastGap lkM_X9_233 imX4_leastGap selX4_leastGap ciX4 (oX4_leastGap (Ok.bindK h)).choose_spec rfl rfl (Nat.le_of_ble_eq_true rfl) ⟨Nat.le_trans (by decide) hRm.1, Nat.le_trans (by decide) hRm.2⟩ ⟨Nat.zero_le _, Nat.zero_le _⟩ ?_
        rintro _ s9 ⟨v10, rfl, h⟩
        show BW G tX9_gap E 0 0 64 [(0, .ref a0), (1, .int x1), (2, .int x2), (3, .int x3), (4, .int x4), (5, .int t0)] [.int v10] s9
        refine BW.goto 76 (by decide +kernel : decode tX9_gap.2.1 64 = .ok (.goto 12, 3)) (by decide) ?_
        exact BW.iret (by decide +kernel : decode tX9_gap.2.1 76 = .ok (.ireturn, 1)) rfl (Nat.zero_le _) (Nat.zero_le _) (hQ _ _ (Ok.some h))
    · have h := (Ok.ite h).1 hc
      refine BW.sub [] rfl ?_
      exact bX9_gap_47 hRm hQ h
def mX9_gap_31 (n : Nat) (s0 : Sg) (a0 : Nat) (x1 : Int32) (x2 : Int32) (x3 : Int32) (x4 : Int32) : Option (Int32 × Sg) :=
  mX9_gap_32 n s0 (0 : Int32) a0 x1 x2 x3 x4
theorem bX9_gap_31 {G : Cx} {E : Ev} {n : Nat} (hRm : 6 ≤ E.1.frames ∧ 133 ≤ E.1.locals) {s0 : Sg} {a0 : Nat} {x1 : Int32} {x2 : Int32} {x3 : Int32} {x4 : Int32} {P : Int32 × Sg → Prop} (hQ : ∀ r s, P (r, s) → E.2.2.2.2 (some (.int r)) s) (h : Ok (mX9_gap_31 n s0 a0 x1 x2 x3 x4) P) : BW G tX9_gap E 0 0 31 [(0, .ref a0), (1, .int x1), (2, .int x2), (3, .int x3), (4, .int x4)] [] s0 := by
  unfold mX9_gap_31 at h
  refine BW.run [.iconst 0] (pc' := 32) (lv' := [(0, .ref a0), (1, .int x1), (2, .int x2), (3, .int x3), (4, .int x4)]) (st' := [.int (0 : Int32)]) (by decide +kernel) rfl rfl ?_
  exact bX9_gap_32 hRm hQ h
def mX9_gap (n : Nat) (s0 : Sg) (a0 : Nat) (x1 : Int32) (x2 : Int32) (x3 : Int32) (x4 : Int32) : Option (Int32 × Sg) :=
  (isO 9 s0 a0).bind fun _ =>
  if x4 < 0 then (
    mX9_gap_31 n s0 a0 x1 x2 x3 x4
  ) else (
    if (1 : Int32) < x4 then (
      mX9_gap_31 n s0 a0 x1 x2 x3 x4
    ) else (
      (mX9_walkOf n s0 a0 x2).bind fun q14 => match q14 with
      | (none, s12) => (
        mX9_gap_31 n s12 a0 x1 x2 x3 x4
      )
      | (some b13, s12) => (
        (mX9_walkOf n s12 a0 x3).bind fun q17 => match q17 with
        | (none, s15) => (
          mX9_gap_31 n s15 a0 x1 x2 x3 x4
        )
        | (some b16, s15) => (
          mX9_gap_32 n s15 (1 : Int32) a0 x1 x2 x3 x4
        )
      )
    )
  )
theorem bX9_gap {G : Cx} {E : Ev} {n : Nat} (hRm : 6 ≤ E.1.frames ∧ 133 ≤ E.1.locals) {P : Int32 × Sg → Prop} (hQ : ∀ r s, P (r, s) → E.2.2.2.2 (some (.int r)) s) {s0 : Sg} {a0 : Nat} {x1 : Int32} {x2 : Int32} {x3 : Int32} {x4 : Int32} (h : Ok (mX9_gap n s0 a0 x1 x2 x3 x4) P) : BW G tX9_gap E 0 0 0 [(0, .ref a0), (1, .int x1), (2, .int x2), (3, .int x3), (4, .int x4)] [] s0 := by
  unfold mX9_gap at h
  obtain ⟨_, _, h⟩ := Ok.bind h
  refine BW.run [.iload 4] (pc' := 2) (lv' := [(0, .ref a0), (1, .int x1), (2, .int x2), (3, .int x3), (4, .int x4)]) (st' := [.int x4]) (by decide +kernel) rfl rfl ?_
  refine BW.if_lt 31 (by decide +kernel : decode tX9_gap.2.1 2 = .ok (.ifCond .lt 29, 3)) (by decide) (fun hc => ?_) (fun hc => ?_)
  · have h := (Ok.ite h).1 hc
    exact bX9_gap_31 hRm hQ h
  · have h := (Ok.ite h).2 hc
    refine BW.run [.iload 4, .iconst 1] (pc' := 8) (lv' := [(0, .ref a0), (1, .int x1), (2, .int x2), (3, .int x3), (4, .int x4)]) (st' := [.int (1 : Int32), .int x4]) (by decide +kernel) rfl rfl ?_
    refine BW.icmp_gt 31 (by decide +kernel : decode tX9_gap.2.1 8 = .ok (.if_icmp .gt 23, 3)) (by decide) (fun hc => ?_) (fun hc => ?_)
    · have h := (Ok.ite h).1 hc
      exact bX9_gap_31 hRm hQ h
    · have h := (Ok.ite h).2 hc
      refine BW.run [.aload_n 0, .iload_n 2] (pc' := 13) (lv' := [(0, .ref a0), (1, .int x1), (2, .int x2), (3, .int x3), (4, .int x4)]) (st' := [.int x2, .ref a0]) (by decide +kernel) rfl rfl ?_
      refine BW.callV (As := [.int x2]) (st := []) (by decide +kernel : decode tX9_gap.2.1 13 = .ok (.invokevirtual 143, 3)) (DX9_walkOf (Ok.bindK h)) mfX9_walkOf lkM_X9_143 imX9_walkOf selX9_walkOf ciX9 (oX9_walkOf (Ok.bindK h)).choose_spec rfl rfl (Nat.le_of_ble_eq_true rfl) ⟨Nat.le_trans (by decide) hRm.1, Nat.le_trans (by decide) hRm.2⟩ ⟨Nat.zero_le _, Nat.zero_le _⟩ ?_
      rintro _ s12 ⟨_ | b13, rfl, h⟩
      · show BW G tX9_gap E 0 0 16 [(0, .ref a0), (1, .int x1), (2, .int x2), (3, .int x3), (4, .int x4)] (.null :: []) s12
        refine BW.ifnullN 31 (by decide +kernel : decode tX9_gap.2.1 16 = .ok (.ifnull 15, 3)) (by decide) ?_
        exact bX9_gap_31 hRm hQ h
      · show BW G tX9_gap E 0 0 16 [(0, .ref a0), (1, .int x1), (2, .int x2), (3, .int x3), (4, .int x4)] (.ref b13 :: []) s12
        refine BW.ifnull (by decide +kernel : decode tX9_gap.2.1 16 = .ok (.ifnull 15, 3)) ?_
        refine BW.run [.aload_n 0, .iload_n 3] (pc' := 21) (lv' := [(0, .ref a0), (1, .int x1), (2, .int x2), (3, .int x3), (4, .int x4)]) (st' := [.int x3, .ref a0]) (by decide +kernel) rfl rfl ?_
        refine BW.callV (As := [.int x3]) (st := []) (by decide +kernel : decode tX9_gap.2.1 21 = .ok (.invokevirtual 143, 3)) (DX9_walkOf (Ok.bindK h)) mfX9_walkOf lkM_X9_143 imX9_walkOf selX9_walkOf ciX9 (oX9_walkOf (Ok.bindK h)).choose_spec rfl rfl (Nat.le_of_ble_eq_true rfl) ⟨Nat.le_trans (by decide) hRm.1, Nat.le_trans (by decide) hRm.2⟩ ⟨Nat.zero_le _, Nat.zero_le _⟩ ?_
        rintro _ s15 ⟨_ | b16, rfl, h⟩
        · show BW G tX9_gap E 0 0 24 [(0, .ref a0), (1, .int x1), (2, .int x2), (3, .int x3), (4, .int x4)] (.null :: []) s15
          refine BW.ifnullN 31 (by decide +kernel : decode tX9_gap.2.1 24 = .ok (.ifnull 7, 3)) (by decide) ?_
          exact bX9_gap_31 hRm hQ h
        · show BW G tX9_gap E 0 0 24 [(0, .ref a0), (1, .int x1), (2, .int x2), (3, .int x3), (4, .int x4)] (.ref b16 :: []) s15
          refine BW.ifnull (by decide +kernel : decode tX9_gap.2.1 24 = .ok (.ifnull 7, 3)) ?_
          refine BW.run [.iconst 1] (pc' := 28) (lv' := [(0, .ref a0), (1, .int x1), (2, .int x2), (3, .int x3), (4, .int x4)]) (st' := [.int (1 : Int32)]) (by decide +kernel) rfl rfl ?_
          refine BW.goto 32 (by decide +kernel : decode tX9_gap.2.1 28 = .ok (.goto 4, 3)) (by decide) ?_
          exact bX9_gap_32 hRm hQ h
theorem oX9_gap {n : Nat} {P : Int32 × Sg → Prop} {s0 : Sg} {a0 : Nat} {x1 : Int32} {x2 : Int32} {x3 : Int32} {x4 : Int32} (h : Ok (mX9_gap n s0 a0 x1 x2 x3 x4) P) : ∃ n0, s0.2.1 a0 = some (9, n0) := by
  unfold mX9_gap at h
  exact Ok.isO h
theorem DX9_gap {G : Cx} {n : Nat} {P : Int32 × Sg → Prop} {s0 : Sg} {a0 : Nat} {x1 : Int32} {x2 : Int32} {x3 : Int32} {x4 : Int32} (h : Ok (mX9_gap n s0 a0 x1 x2 x3 x4) P) : BM G tX9_gap 6 133 0 0 [.ref a0, .int x1, .int x2, .int x3, .int x4] s0 (fun v s => ∃ r, v = some (.int r) ∧ P (r, s)) := by
  refine BM.of (by decide +kernel) (Nat.le_of_ble_eq_true rfl) ?_
  exact bX9_gap (E := (({ frames := 6, cells := 0, slots := 0, locals := 133 }), Aof s0, 0, 0, (fun v s => ∃ r, v = some (.int r) ∧ P (r, s)))) ⟨Nat.le_refl _, Nat.le_refl _⟩ (fun r s hp => ⟨r, rfl, hp⟩) h
