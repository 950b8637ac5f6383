def mX9_isBlamedBefore_35 (n : Nat) (s0 : Sg)  : Option (Int32 × Sg) :=
  some ((1 : Int32), s0)
theorem bX9_isBlamedBefore_35 {G : Cx} {E : Ev} {n : Nat} (hRm : 1 ≤ E.1.frames ∧ 20 ≤ E.1.locals) {s0 : Sg}  {P : Int32 × Sg → Prop} (hQ : ∀ r s, P (r, s) → E.2.2.2.2 (some (.int r)) s) (h : Ok (mX9_isBlamedBefore_35 n s0 ) P) : BW G tX9_isBlamedBefore E 0 0 35 [] [] s0 := by
  unfold mX9_isBlamedBefore_35 at h
  refine BW.run [.iconst 1] (pc' := 36) (lv' := []) (st' := [.int (1 : Int32)]) (by decide +kernel) rfl rfl ?_
  refine BW.goto 40 (by decide +kernel : decode tX9_isBlamedBefore.2.1 36 = .ok (.goto 4, 3)) (by decide) ?_
  exact BW.zret (by decide +kernel : decode tX9_isBlamedBefore.2.1 40 = .ok (.ireturn, 1)) rfl (Or.inr rfl) (Nat.zero_le _) (Nat.zero_le _) (hQ _ _ (Ok.some h))
def mX9_isBlamedBefore (n : Nat) (s0 : Sg) (x0 : Int32) (x1 : Int32) : Option (Int32 × Sg) :=
  (mJ_bitCount n s0 x0).bind fun (v2, s1) =>
  (mJ_bitCount n s1 x1).bind fun (v5, s4) =>
  nm (v2 - v5) fun v7 =>
  nm (x0 ^^^ x1) fun v8 =>
  nm (v8 &&& (-v8)) fun v9 =>
  if v7 < 0 then (
    mX9_isBlamedBefore_35 n s4 
  ) else (
    if v7 = 0 then (
      if (x0 &&& v9) = 0 then (
        some ((0 : Int32), s4)
      ) else (
        mX9_isBlamedBefore_35 n s4 
      )
    ) else (
      some ((0 : Int32), s4)
    )
  )
theorem bX9_isBlamedBefore {G : Cx} {E : Ev} {n : Nat} (hRm : 1 ≤ E.1.frames ∧ 20 ≤ E.1.locals) {P : Int32 × Sg → Prop} (hQ : ∀ r s, P (r, s) → E.2.2.2.2 (some (.int r)) s) {s0 : Sg} {x0 : Int32} {x1 : Int32} (h : Ok (mX9_isBlamedBefore n s0 x0 x1) P) : BW G tX9_isBlamedBefore E 0 0 0 [(0, .int x0), (1, .int x1)] [] s0 := by
  unfold mX9_isBlamedBefore at h
  refine BW.run [.iload_n 0] (pc' := 1) (lv' := [(0, .int x0), (1, .int x1)]) (st' := [.int x0]) (by decide +kernel) rfl rfl ?_
  refine BW.callS (As := [.int x0]) (st := []) (by decide +kernel : decode tX9_isBlamedBefore.2.1 1 = .ok (.invokestatic 202, 3)) (DJ_bitCount (Ok.bindK h)) mfJ_bitCount lkM_X9_202 smJ_bitCount rfl rfl (Nat.le_of_ble_eq_true rfl) ⟨Nat.le_trans (by decide) hRm.1, Nat.le_trans (by decide) hRm.2⟩ ⟨Nat.zero_le _, Nat.zero_le _⟩ ?_
  rintro _ s1 ⟨v2, rfl, h⟩
  show BW G tX9_isBlamedBefore E 0 0 4 [(0, .int x0), (1, .int x1)] [.int v2] s1
  refine BW.run [.iload_n 1] (pc' := 5) (lv' := [(0, .int x0), (1, .int x1)]) (st' := [.int x1, .int v2]) (by decide +kernel) rfl rfl ?_
  refine BW.callS (As := [.int x1]) (st := [.int v2]) (by decide +kernel : decode tX9_isBlamedBefore.2.1 5 = .ok (.invokestatic 202, 3)) (DJ_bitCount (Ok.bindK h)) mfJ_bitCount lkM_X9_202 smJ_bitCount rfl rfl (Nat.le_of_ble_eq_true rfl) ⟨Nat.le_trans (by decide) hRm.1, Nat.le_trans (by decide) hRm.2⟩ ⟨Nat.zero_le _, Nat.zero_le _⟩ ?_
  rintro _ s4 ⟨v5, rfl, h⟩
  show BW G tX9_isBlamedBefore E 0 0 8 [(0, .int x0), (1, .int x1)] [.int v5, .int v2] s4
  refine BW.run [.isub] (pc' := 9) (lv' := [(0, .int x0), (1, .int x1)]) (st' := [.int (v2 - v5)]) (by decide +kernel) rfl rfl ?_
  obtain ⟨v7, wv7, h⟩ := Ok.nm h
  refine BW.nm wv7 ?_
  refine BW.run [.istore_n 2, .iload_n 0, .iload_n 1, .ixor] (pc' := 13) (lv' := [(0, .int x0), (1, .int x1), (2, .int v7)]) (st' := [.int (x0 ^^^ x1)]) (by decide +kernel) rfl rfl ?_
  obtain ⟨v8, wv8, h⟩ := Ok.nm h
  refine BW.nm wv8 ?_
  refine BW.run [.istore_n 3, .iload_n 3, .iload_n 3, .ineg, .iand] (pc' := 18) (lv' := [(0, .int x0), (1, .int x1), (2, .int v7), (3, .int v8)]) (st' := [.int (v8 &&& (-v8))]) (by decide +kernel) rfl rfl ?_
  obtain ⟨v9, wv9, h⟩ := Ok.nm h
  refine BW.nm wv9 ?_
  refine BW.run [.istore 4, .iload_n 2] (pc' := 21) (lv' := [(0, .int x0), (1, .int x1), (2, .int v7), (3, .int v8), (4, .int v9)]) (st' := [.int v7]) (by decide +kernel) rfl rfl ?_
  refine BW.if_lt 35 (by decide +kernel : decode tX9_isBlamedBefore.2.1 21 = .ok (.ifCond .lt 14, 3)) (by decide) (fun hc => ?_) (fun hc => ?_)
  · have h := (Ok.ite h).1 hc
    refine BW.sub [] rfl ?_
    exact bX9_isBlamedBefore_35 hRm hQ h
  · have h := (Ok.ite h).2 hc
    refine BW.run [.iload_n 2] (pc' := 25) (lv' := [(0, .int x0), (1, .int x1), (2, .int v7), (3, .int v8), (4, .int v9)]) (st' := [.int v7]) (by decide +kernel) rfl rfl ?_
    refine BW.if_ne 39 (by decide +kernel : decode tX9_isBlamedBefore.2.1 25 = .ok (.ifCond .ne 14, 3)) (by decide) (fun hc => ?_) (fun hc => ?_)
    · have h := (Ok.ite h).2 hc
      refine BW.run [.iconst 0] (pc' := 40) (lv' := [(0, .int x0), (1, .int x1), (2, .int v7), (3, .int v8), (4, .int v9)]) (st' := [.int (0 : Int32)]) (by decide +kernel) rfl rfl ?_
      exact BW.zret (by decide +kernel : decode tX9_isBlamedBefore.2.1 40 = .ok (.ireturn, 1)) rfl (Or.inl rfl) (Nat.zero_le _) (Nat.zero_le _) (hQ _ _ (Ok.some h))
    · have h := (Ok.ite h).1 hc
      refine BW.run [.iload_n 0, .iload 4, .iand] (pc' := 32) (lv' := [(0, .int x0), (1, .int x1), (2, .int v7), (3, .int v8), (4, .int v9)]) (st' := [.int (x0 &&& v9)]) (by decide +kernel) rfl rfl ?_
      refine BW.if_eq 39 (by decide +kernel : decode tX9_isBlamedBefore.2.1 32 = .ok (.ifCond .eq 7, 3)) (by decide) (fun hc => ?_) (fun hc => ?_)
      · have h := (Ok.ite h).1 hc
        refine BW.run [.iconst 0] (pc' := 40) (lv' := [(0, .int x0), (1, .int x1), (2, .int v7), (3, .int v8), (4, .int v9)]) (st' := [.int (0 : Int32)]) (by decide +kernel) rfl rfl ?_
        exact BW.zret (by decide +kernel : decode tX9_isBlamedBefore.2.1 40 = .ok (.ireturn, 1)) rfl (Or.inl rfl) (Nat.zero_le _) (Nat.zero_le _) (hQ _ _ (Ok.some h))
      · have h := (Ok.ite h).2 hc
        refine BW.sub [] rfl ?_
        exact bX9_isBlamedBefore_35 hRm hQ h
theorem DX9_isBlamedBefore {G : Cx} {n : Nat} {P : Int32 × Sg → Prop} {s0 : Sg} {x0 : Int32} {x1 : Int32} (h : Ok (mX9_isBlamedBefore n s0 x0 x1) P) : BM G tX9_isBlamedBefore 1 20 0 0 [.int x0, .int x1] s0 (fun v s => ∃ r, v = some (.int r) ∧ P (r, s)) := by
  refine BM.of (by decide +kernel) (Nat.le_of_ble_eq_true rfl) ?_
  exact bX9_isBlamedBefore (E := (({ frames := 1, cells := 0, slots := 0, locals := 20 }), Aof s0, 0, 0, (fun v s => ∃ r, v = some (.int r) ∧ P (r, s)))) ⟨Nat.le_refl _, Nat.le_refl _⟩ (fun r s hp => ⟨r, rfl, hp⟩) h
def mX9_startAt (n : Nat) (s0 : Sg) (a0 : Nat) (x1 : Int32) : Option (Int32 × Sg) :=
  (isO 9 s0 a0).bind fun _ =>
  (mX9_walkOf n s0 a0 (x1 - (1 : Int32))).bind fun q3 => match q3 with
  | (none, s1) => (
    some ((0 : Int32), s1)
  )
  | (some b2, s1) => (
    (toI (gV 8 s1 b2 8)).bind fun v4 =>
    some (v4, s1)
  )
theorem bX9_startAt {G : Cx} {E : Ev} {n : Nat} (hRm : 1 ≤ E.1.frames ∧ 21 ≤ E.1.locals) {P : Int32 × Sg → Prop} (hQ : ∀ r s, P (r, s) → E.2.2.2.2 (some (.int r)) s) {s0 : Sg} {a0 : Nat} {x1 : Int32} (h : Ok (mX9_startAt n s0 a0 x1) P) : BW G tX9_startAt E 0 0 0 [(0, .ref a0), (1, .int x1)] [] s0 := by
  unfold mX9_startAt at h
  obtain ⟨_, _, h⟩ := Ok.bind h
  refine BW.run [.aload_n 0, .iload_n 1, .iconst 1, .isub] (pc' := 4) (lv' := [(0, .ref a0), (1, .int x1)]) (st' := [.int (x1 - (1 : Int32)), .ref a0]) (by decide +kernel) rfl rfl ?_
  refine BW.callV (As := [.int (x1 - (1 : Int32))]) (st := []) (by decide +kernel : decode tX9_startAt.2.1 4 = .ok (.invokevirtual 143, 3)) (DX9_walkOf (Ok.bindK h)) mfX9_walkOf lkM_X9_143 imX9_walkOf selX9_walkOf ciX9 (oX9_walkOf (Ok.bindK h)).choose_spec rfl rfl (Nat.le_of_ble_eq_true rfl) ⟨Nat.le_trans (by decide) hRm.1, Nat.le_trans (by decide) hRm.2⟩ ⟨Nat.zero_le _, Nat.zero_le _⟩ ?_
  rintro _ s1 ⟨_ | b2, rfl, h⟩
  · show BW G tX9_startAt E 0 0 7 [(0, .ref a0), (1, .int x1)] (.null :: []) s1
    refine BW.run [.astore_n 2, .aload_n 2] (pc' := 9) (lv' := [(0, .ref a0), (1, .int x1), (2, .null)]) (st' := [.null]) (by decide +kernel) rfl rfl ?_
    refine BW.ifnonnullN (by decide +kernel : decode tX9_startAt.2.1 9 = .ok (.ifnonnull 7, 3)) ?_
    refine BW.run [.iconst 0] (pc' := 13) (lv' := [(0, .ref a0), (1, .int x1), (2, .null)]) (st' := [.int (0 : Int32)]) (by decide +kernel) rfl rfl ?_
    refine BW.goto 20 (by decide +kernel : decode tX9_startAt.2.1 13 = .ok (.goto 7, 3)) (by decide) ?_
    exact BW.iret (by decide +kernel : decode tX9_startAt.2.1 20 = .ok (.ireturn, 1)) rfl (Nat.zero_le _) (Nat.zero_le _) (hQ _ _ (Ok.some h))
  · show BW G tX9_startAt E 0 0 7 [(0, .ref a0), (1, .int x1)] (.ref b2 :: []) s1
    refine BW.run [.astore_n 2, .aload_n 2] (pc' := 9) (lv' := [(0, .ref a0), (1, .int x1), (2, .ref b2)]) (st' := [.ref b2]) (by decide +kernel) rfl rfl ?_
    refine BW.ifnonnull 16 (by decide +kernel : decode tX9_startAt.2.1 9 = .ok (.ifnonnull 7, 3)) (by decide) ?_
    refine BW.run [.aload_n 2] (pc' := 17) (lv' := [(0, .ref a0), (1, .int x1), (2, .ref b2)]) (st' := [.ref b2]) (by decide +kernel) rfl rfl ?_
    obtain ⟨v4, ev4, h⟩ := Ok.bind h
    refine BW.getN (by decide +kernel : decode tX9_startAt.2.1 17 = .ok (.getfield 162, 3)) ciX8 (k := 8) (by decide) lkF_X9_162 (toI_V ev4) ?_
    exact BW.iret (by decide +kernel : decode tX9_startAt.2.1 20 = .ok (.ireturn, 1)) rfl (Nat.zero_le _) (Nat.zero_le _) (hQ _ _ (Ok.some h))
theorem oX9_startAt {n : Nat} {P : Int32 × Sg → Prop} {s0 : Sg} {a0 : Nat} {x1 : Int32} (h : Ok (mX9_startAt n s0 a0 x1) P) : ∃ n0, s0.2.1 a0 = some (9, n0) := by
  unfold mX9_startAt at h
  exact Ok.isO h
theorem DX9_startAt {G : Cx} {n : Nat} {P : Int32 × Sg → Prop} {s0 : Sg} {a0 : Nat} {x1 : Int32} (h : Ok (mX9_startAt n s0 a0 x1) P) : BM G tX9_startAt 1 21 0 0 [.ref a0, .int x1] s0 (fun v s => ∃ r, v = some (.int r) ∧ P (r, s)) := by
  refine BM.of (by decide +kernel) (Nat.le_of_ble_eq_true rfl) ?_
  exact bX9_startAt (E := (({ frames := 1, cells := 0, slots := 0, locals := 21 }), Aof s0, 0, 0, (fun v s => ∃ r, v = some (.int r) ∧ P (r, s)))) ⟨Nat.le_refl _, Nat.le_refl _⟩ (fun r s hp => ⟨r, rfl, hp⟩) h
def mX9_judge_84 (n : Nat) (s0 : Sg) (a0 : Nat) (x1 : Int32) (x2 : Int32) : Option ((Sg × Int32) ⊕ ((Sg) ⊕ (Int32 × Sg))) :=
  some (.inl (s0, (x2 + (1 : Int32))))
theorem bX9_judge_84 {G : Cx} {E : Ev} {n : Nat} (hRm : 2 ≤ E.1.frames ∧ 43 ≤ E.1.locals) {s0 : Sg} {a0 : Nat} {x1 : Int32} {x2 : Int32} {P : (Sg × Int32) ⊕ ((Sg) ⊕ (Int32 × Sg)) → Prop} (hC : ∀ (s : Sg) (c2 : Int32), P (.inl (s, c2)) → BW G tX9_judge E 0 0 12 [(0, .ref a0), (1, .int x1), (2, .int c2)] [] s) (hE : ∀ (s : Sg), P (.inr (.inl s)) → BW G tX9_judge E 0 0 90 [] [] s) (hQ : ∀ r s, P (.inr (.inr (r, s))) → E.2.2.2.2 (some (.int r)) s)  (h : Ok (mX9_judge_84 n s0 a0 x1 x2) P) : BW G tX9_judge E 0 0 84 [(0, .ref a0), (1, .int x1), (2, .int x2)] [] s0 := by
  unfold mX9_judge_84 at h
  refine BW.run [.iinc 2 1] (pc' := 87) (lv' := [(0, .ref a0), (1, .int x1), (2, .int (x2 + (1 : Int32)))]) (st' := []) (by decide +kernel) rfl rfl ?_
  refine BW.goto 12 (by decide +kernel : decode tX9_judge.2.1 87 = .ok (.goto (-75), 3)) (by decide) ?_
  exact hC _ _ (Ok.some h)
def mX9_judge_L12 (n : Nat) (a0 : Nat) (x1 : Int32) : (Sg × Int32) → Option ((Sg × Int32) ⊕ ((Sg) ⊕ (Int32 × Sg)))
  | (s0, x2) =>
    (toI (gV 9 s0 a0 8)).bind fun v4 =>
    if v4 ≤ x2 then (
      some (.inr (.inl s0))
    ) else (
      (mX9_isIn n s0 x1 x2).bind fun (v6, s5) =>
      if v6 = 0 then (
        mX9_judge_84 n s5 a0 x1 x2
      ) else (
        (toR (gV 9 s5 a0 7)).bind fun b8 =>
        (toQ (aV 14 s5 b8 x2)).bind fun q9 => match q9 with
        | none => (
          none
        )
        | some b10 => (
          (toI (gV 2 s5 b10 1)).bind fun v11 =>
          (mX9_startAt n s5 a0 v11).bind fun (v13, s12) =>
          (toR (gV 9 s12 a0 7)).bind fun b15 =>
          (toQ (aV 14 s12 b15 x2)).bind fun q16 => match q16 with
          | none => (
            none
          )
          | some b17 => (
            (toI (gV 2 s12 b17 2)).bind fun v18 =>
            (mX9_startAt n s12 a0 v18).bind fun (v20, s19) =>
            nm (v13 - v20) fun v22 =>
            (toR (gV 9 s19 a0 7)).bind fun b23 =>
            (toQ (aV 14 s19 b23 x2)).bind fun q24 => match q24 with
            | none => (
              none
            )
            | some b25 => (
              (toI (gV 2 s19 b25 3)).bind fun v26 =>
              if v22 < v26 then (
                some (.inr (.inr (x2, s19)))
              ) else (
                (toR (gV 9 s19 a0 7)).bind fun b27 =>
                (toQ (aV 14 s19 b27 x2)).bind fun q28 => match q28 with
                | none => (
                  none
                )
                | some b29 => (
                  (toI (gV 2 s19 b29 4)).bind fun v30 =>
                  if v22 ≤ v30 then (
                    mX9_judge_84 n s19 a0 x1 x2
                  ) else (
                    some (.inr (.inr (x2, s19)))
                  )
                )
              )
            )
          )
        )
      )
    )
theorem bX9_judge_L12 {G : Cx} {E : Ev} {n : Nat} (hRm : 2 ≤ E.1.frames ∧ 43 ≤ E.1.locals) {a0 : Nat} {x1 : Int32} {P : (Sg × Int32) ⊕ ((Sg) ⊕ (Int32 × Sg)) → Prop} (hC : ∀ (s : Sg) (c2 : Int32), P (.inl (s, c2)) → BW G tX9_judge E 0 0 12 [(0, .ref a0), (1, .int x1), (2, .int c2)] [] s) (hE : ∀ (s : Sg), P (.inr (.inl s)) → BW G tX9_judge E 0 0 90 [] [] s) (hQ : ∀ r s, P (.inr (.inr (r, s))) → E.2.2.2.2 (some (.int r)) s) {s0 : Sg} {x2 : Int32} (h : Ok (mX9_judge_L12 n a0 x1 (s0, x2)) P) : BW G tX9_judge E 0 0 12 [(0, .ref a0), (1, .int x1), (2, .int x2)] [] s0 := by
  unfold mX9_judge_L12 at h
  refine BW.run [.iload_n 2, .aload_n 0] (pc' := 14) (lv' := [(0, .ref a0), (1, .int x1), (2, .int x2)]) (st' := [.ref a0, .int x2]) (by decide +kernel) rfl rfl ?_
  obtain ⟨v4, ev4, h⟩ := Ok.bind h
  refine BW.get (by decide +kernel : decode tX9_judge.2.1 14 = .ok (.getfield 32, 3)) ciX9 (k := 8) (by decide) lkF_X9_32 (toI_V ev4) ?_
  refine BW.icmp_ge 90 (by decide +kernel : decode tX9_judge.2.1 17 = .ok (.if_icmp .ge 73, 3)) (by decide) (fun hc => ?_) (fun hc => ?_)
  · have h := (Ok.ite h).1 hc
    refine BW.sub [] rfl ?_
    exact hE _ (Ok.some h)
  · have h := (Ok.ite h).2 hc
    refine BW.run [.iload_n 1, .iload_n 2] (pc' := 22) (lv' := [(0, .ref a0), (1, .int x1), (2, .int x2)]) (st' := [.int x2, .int x1]) (by decide +kernel) rfl rfl ?_
    refine BW.callS (As := [.int x1, .int x2]) (st := []) (by decide +kernel : decode tX9_judge.2.1 22 = .ok (.invokestatic 284, 3)) (DX9_isIn (Ok.bindK h)) mfX9_isIn lkM_X9_284 smX9_isIn rfl rfl (Nat.le_of_ble_eq_true rfl) ⟨Nat.le_trans (by decide) hRm.1, Nat.le_trans (by decide) hRm.2⟩ ⟨Nat.zero_le _, Nat.zero_le _⟩ ?_
    rintro _ s5 ⟨v6, rfl, h⟩
    show BW G tX9_judge E 0 0 25 [(0, .ref a0), (1, .int x1), (2, .int x2)] [.int v6] s5
    refine BW.if_eq 84 (by decide +kernel : decode tX9_judge.2.1 25 = .ok (.ifCond .eq 59, 3)) (by decide) (fun hc => ?_) (fun hc => ?_)
    · have h := (Ok.ite h).1 hc
      exact bX9_judge_84 hRm hC hE hQ h
    · have h := (Ok.ite h).2 hc
      refine BW.run [.aload_n 0, .aload_n 0] (pc' := 30) (lv' := [(0, .ref a0), (1, .int x1), (2, .int x2)]) (st' := [.ref a0, .ref a0]) (by decide +kernel) rfl rfl ?_
      obtain ⟨b8, eb8, h⟩ := Ok.bind h
      refine BW.get (by decide +kernel : decode tX9_judge.2.1 30 = .ok (.getfield 28, 3)) ciX9 (k := 7) (by decide) lkF_X9_28 (toR_V eb8) ?_
      refine BW.run [.iload_n 2] (pc' := 34) (lv' := [(0, .ref a0), (1, .int x1), (2, .int x2)]) (st' := [.int x2, .ref b8, .ref a0]) (by decide +kernel) rfl rfl ?_
      obtain ⟨q9, eq9, h⟩ := Ok.bind h
      refine BW.aald (by decide +kernel : decode tX9_judge.2.1 34 = .ok (.aaload, 1)) (by decide) (toQ_V eq9) ?_
      cases q9 with
      | none =>
        show BW G tX9_judge E 0 0 35 [(0, .ref a0), (1, .int x1), (2, .int x2)] (.null :: [.ref a0]) s5
        exact (Ok.no h).elim
      | some b10 =>
        show BW G tX9_judge E 0 0 35 [(0, .ref a0), (1, .int x1), (2, .int x2)] (.ref b10 :: [.ref a0]) s5
        obtain ⟨v11, ev11, h⟩ := Ok.bind h
        refine BW.getN (by decide +kernel : decode tX9_judge.2.1 35 = .ok (.getfield 287, 3)) ciX2 (k := 1) (by decide) lkF_X9_287 (toI_V ev11) ?_
        refine BW.callV (As := [.int v11]) (st := []) (by decide +kernel : decode tX9_judge.2.1 38 = .ok (.invokevirtual 290, 3)) (DX9_startAt (Ok.bindK h)) mfX9_startAt lkM_X9_290 imX9_startAt selX9_startAt ciX9 (oX9_startAt (Ok.bindK h)).choose_spec rfl rfl (Nat.le_of_ble_eq_true rfl) ⟨Nat.le_trans (by decide) hRm.1, Nat.le_trans (by decide) hRm.2⟩ ⟨Nat.zero_le _, Nat.zero_le _⟩ ?_
        rintro _ s12 ⟨v13, rfl, h⟩
        show BW G tX9_judge E 0 0 41 [(0, .ref a0), (1, .int x1), (2, .int x2)] [.int v13] s12
        refine BW.run [.aload_n 0, .aload_n 0] (pc' := 43) (lv' := [(0, .ref a0), (1, .int x1), (2, .int x2)]) (st' := [.ref a0, .ref a0, .int v13]) (by decide +kernel) rfl rfl ?_
        obtain ⟨b15, eb15, h⟩ := Ok.bind h
        refine BW.get (by decide +kernel : decode tX9_judge.2.1 43 = .ok (.getfield 28, 3)) ciX9 (k := 7) (by decide) lkF_X9_28 (toR_V eb15) ?_
        refine BW.run [.iload_n 2] (pc' := 47) (lv' := [(0, .ref a0), (1, .int x1), (2, .int x2)]) (st' := [.int x2, .ref b15, .ref a0, .int v13]) (by decide +kernel) rfl rfl ?_
        obtain ⟨q16, eq16, h⟩ := Ok.bind h
        refine BW.aald (by decide +kernel : decode tX9_judge.2.1 47 = .ok (.aaload, 1)) (by decide) (toQ_V eq16) ?_
        cases q16 with
        | none =>
          show BW G tX9_judge E 0 0 48 [(0, .ref a0), (1, .int x1), (2, .int x2)] (.null :: [.ref a0, .int v13]) s12
          exact (Ok.no h).elim
        | some b17 =>
          show BW G tX9_judge E 0 0 48 [(0, .ref a0), (1, .int x1), (2, .int x2)] (.ref b17 :: [.ref a0, .int v13]) s12
          obtain ⟨v18, ev18, h⟩ := Ok.bind h
          refine BW.getN (by decide +kernel : decode tX9_judge.2.1 48 = .ok (.getfield 293, 3)) ciX2 (k := 2) (by decide) lkF_X9_293 (toI_V ev18) ?_
          refine BW.callV (As := [.int v18]) (st := [.int v13]) (by decide +kernel : decode tX9_judge.2.1 51 = .ok (.invokevirtual 290, 3)) (DX9_startAt (Ok.bindK h)) mfX9_startAt lkM_X9_290 imX9_startAt selX9_startAt ciX9 (oX9_startAt (Ok.bindK h)).choose_spec rfl rfl (Nat.le_of_ble_eq_true rfl) ⟨Nat.le_trans (by decide) hRm.1, Nat.le_trans (by decide) hRm.2⟩ ⟨Nat.zero_le _, Nat.zero_le _⟩ ?_
          rintro _ s19 ⟨v20, rfl, h⟩
          show BW G tX9_judge E 0 0 54 [(0, .ref a0), (1, .int x1), (2, .int x2)] [.int v20, .int v13] s19
          refine BW.run [.isub] (pc' := 55) (lv' := [(0, .ref a0), (1, .int x1), (2, .int x2)]) (st' := [.int (v13 - v20)]) (by decide +kernel) rfl rfl ?_
          obtain ⟨v22, wv22, h⟩ := Ok.nm h
          refine BW.nm wv22 ?_
          refine BW.run [.istore_n 3, .iload_n 3, .aload_n 0] (pc' := 58) (lv' := [(0, .ref a0), (1, .int x1), (2, .int x2), (3, .int v22)]) (st' := [.ref a0, .int v22]) (by decide +kernel) rfl rfl ?_
          obtain ⟨b23, eb23, h⟩ := Ok.bind h
          refine BW.get (by decide +kernel : decode tX9_judge.2.1 58 = .ok (.getfield 28, 3)) ciX9 (k := 7) (by decide) lkF_X9_28 (toR_V eb23) ?_
          refine BW.run [.iload_n 2] (pc' := 62) (lv' := [(0, .ref a0), (1, .int x1), (2, .int x2), (3, .int v22)]) (st' := [.int x2, .ref b23, .int v22]) (by decide +kernel) rfl rfl ?_
          obtain ⟨q24, eq24, h⟩ := Ok.bind h
          refine BW.aald (by decide +kernel : decode tX9_judge.2.1 62 = .ok (.aaload, 1)) (by decide) (toQ_V eq24) ?_
          cases q24 with
          | none =>
            show BW G tX9_judge E 0 0 63 [(0, .ref a0), (1, .int x1), (2, .int x2), (3, .int v22)] (.null :: [.int v22]) s19
            exact (Ok.no h).elim
          | some b25 =>
            show BW G tX9_judge E 0 0 63 [(0, .ref a0), (1, .int x1), (2, .int x2), (3, .int v22)] (.ref b25 :: [.int v22]) s19
            obtain ⟨v26, ev26, h⟩ := Ok.bind h
            refine BW.getN (by decide +kernel : decode tX9_judge.2.1 63 = .ok (.getfield 296, 3)) ciX2 (k := 3) (by decide) lkF_X9_296 (toI_V ev26) ?_
            refine BW.icmp_lt 82 (by decide +kernel : decode tX9_judge.2.1 66 = .ok (.if_icmp .lt 16, 3)) (by decide) (fun hc => ?_) (fun hc => ?_)
            · have h := (Ok.ite h).1 hc
              refine BW.run [.iload_n 2] (pc' := 83) (lv' := [(0, .ref a0), (1, .int x1), (2, .int x2), (3, .int v22)]) (st' := [.int x2]) (by decide +kernel) rfl rfl ?_
              exact BW.iret (by decide +kernel : decode tX9_judge.2.1 83 = .ok (.ireturn, 1)) rfl (Nat.zero_le _) (Nat.zero_le _) (hQ _ _ (Ok.some h))
            · have h := (Ok.ite h).2 hc
              refine BW.run [.iload_n 3, .aload_n 0] (pc' := 71) (lv' := [(0, .ref a0), (1, .int x1), (2, .int x2), (3, .int v22)]) (st' := [.ref a0, .int v22]) (by decide +kernel) rfl rfl ?_
              obtain ⟨b27, eb27, h⟩ := Ok.bind h
              refine BW.get (by decide +kernel : decode tX9_judge.2.1 71 = .ok (.getfield 28, 3)) ciX9 (k := 7) (by decide) lkF_X9_28 (toR_V eb27) ?_
              refine BW.run [.iload_n 2] (pc' := 75) (lv' := [(0, .ref a0), (1, .int x1), (2, .int x2), (3, .int v22)]) (st' := [.int x2, .ref b27, .int v22]) (by decide +kernel) rfl rfl ?_
              obtain ⟨q28, eq28, h⟩ := Ok.bind h
              refine BW.aald (by decide +kernel : decode tX9_judge.2.1 75 = .ok (.aaload, 1)) (by decide) (toQ_V eq28) ?_
              cases q28 with
              | none =>
                show BW G tX9_judge E 0 0 76 [(0, .ref a0), (1, .int x1), (2, .int x2), (3, .int v22)] (.null :: [.int v22]) s19
                exact (Ok.no h).elim
              | some b29 =>
                show BW G tX9_judge E 0 0 76 [(0, .ref a0), (1, .int x1), (2, .int x2), (3, .int v22)] (.ref b29 :: [.int v22]) s19
                obtain ⟨v30, ev30, h⟩ := Ok.bind h
                refine BW.getN (by decide +kernel : decode tX9_judge.2.1 76 = .ok (.getfield 299, 3)) ciX2 (k := 4) (by decide) lkF_X9_299 (toI_V ev30) ?_
                refine BW.icmp_le 84 (by decide +kernel : decode tX9_judge.2.1 79 = .ok (.if_icmp .le 5, 3)) (by decide) (fun hc => ?_) (fun hc => ?_)
                · have h := (Ok.ite h).1 hc
                  refine BW.sub [0, 1, 2] rfl ?_
                  exact bX9_judge_84 hRm hC hE hQ h
                · have h := (Ok.ite h).2 hc
                  refine BW.run [.iload_n 2] (pc' := 83) (lv' := [(0, .ref a0), (1, .int x1), (2, .int x2), (3, .int v22)]) (st' := [.int x2]) (by decide +kernel) rfl rfl ?_
                  exact BW.iret (by decide +kernel : decode tX9_judge.2.1 83 = .ok (.ireturn, 1)) rfl (Nat.zero_le _) (Nat.zero_le _) (hQ _ _ (Ok.some h))
theorem bX9_judge_W12 {G : Cx} {E : Ev} {n : Nat} (hRm : 2 ≤ E.1.frames ∧ 43 ≤ E.1.locals) {a0 : Nat} {x1 : Int32} {K : ((Sg) ⊕ (Int32 × Sg)) → Prop} (hE : ∀ (s : Sg), K (.inl s) → BW G tX9_judge E 0 0 90 [] [] s) (hQ : ∀ r s, K (.inr (r, s)) → E.2.2.2.2 (some (.int r)) s) : ∀ (f : Nat) (c : Sg × Int32), Ok (loopM (mX9_judge_L12 n a0 x1) f c) K → match c with | (s0, x2) => BW G tX9_judge E 0 0 12 [(0, .ref a0), (1, .int x1), (2, .int x2)] [] s0 := by
  intro f
  induction f with
  | zero => intro c h; exact (Ok.no h).elim
  | succ f ih =>
    intro c h
    obtain ⟨s0, x2⟩ := c
    exact bX9_judge_L12 (P := loopP (mX9_judge_L12 n a0 x1) f K) hRm (fun s c2 h => ih (s, c2) h) hE hQ (loopM_ok h)
def mX9_judge (n : Nat) (s0 : Sg) (a0 : Nat) (x1 : Int32) : Option (Int32 × Sg) :=
  (isO 9 s0 a0).bind fun _ =>
  (mX9_isSet n s0 a0 x1).bind fun (v2, s1) =>
  if v2 = 0 then (
    some ((-1 : Int32), s1)
  ) else (
    (loopM (mX9_judge_L12 n a0 x1) n (s1, (0 : Int32))).bind fun q32 => match q32 with
    | .inl s31 => (
      some ((-1 : Int32), s31)
    )
    | .inr (r, s) => some (r, s)
  )
theorem bX9_judge {G : Cx} {E : Ev} {n : Nat} (hRm : 2 ≤ E.1.frames ∧ 43 ≤ E.1.locals) {P : Int32 × Sg → Prop} (hQ : ∀ r s, P (r, s) → E.2.2.2.2 (some (.int r)) s) {s0 : Sg} {a0 : Nat} {x1 : Int32} (h : Ok (mX9_judge n s0 a0 x1) P) : BW G tX9_judge E 0 0 0 [(0, .ref a0), (1, .int x1)] [] s0 := by
  unfold mX9_judge at h
  obtain ⟨_, _, h⟩ := Ok.bind h
  refine BW.run [.aload_n 0, .iload_n 1] (pc' := 2) (lv' := [(0, .ref a0), (1, .int x1)]) (st' := [.int x1, .ref a0]) (by decide +kernel) rfl rfl ?_
  refine BW.callV (As := [.int x1]) (st := []) (by decide +kernel : decode tX9_judge.2.1 2 = .ok (.invokevirtual 196, 3)) (DX9_isSet (Ok.bindK h)) mfX9_isSet lkM_X9_196 imX9_isSet selX9_isSet ciX9 (oX9_isSet (Ok.bindK h)).choose_spec rfl rfl (Nat.le_of_ble_eq_true rfl) ⟨Nat.le_trans (by decide) hRm.1, Nat.le_trans (by decide) hRm.2⟩ ⟨Nat.zero_le _, Nat.zero_le _⟩ ?_
  rintro _ s1 ⟨v2, rfl, h⟩
  show BW G tX9_judge E 0 0 5 [(0, .ref a0), (1, .int x1)] [.int v2] s1
  refine BW.if_ne 10 (by decide +kernel : decode tX9_judge.2.1 5 = .ok (.ifCond .ne 5, 3)) (by decide) (fun hc => ?_) (fun hc => ?_)
  · have h := (Ok.ite h).2 hc
    refine BW.run [.iconst 0, .istore_n 2] (pc' := 12) (lv' := [(0, .ref a0), (1, .int x1), (2, .int (0 : Int32))]) (st' := []) (by decide +kernel) rfl rfl ?_
    refine bX9_judge_W12 hRm (a0 := a0) (x1 := x1) (fun s31 h => ?_) (fun r s h => ?_) n (s1, (0 : Int32)) (Ok.bindK h)
    · refine BW.run [.iconst (-1)] (pc' := 91) (lv' := []) (st' := [.int (-1 : Int32)]) (by decide +kernel) rfl rfl ?_
      exact BW.iret (by decide +kernel : decode tX9_judge.2.1 91 = .ok (.ireturn, 1)) rfl (Nat.zero_le _) (Nat.zero_le _) (hQ _ _ (Ok.some h))
    · exact hQ r s (Ok.some h)
  · have h := (Ok.ite h).1 hc
    refine BW.run [.iconst (-1)] (pc' := 9) (lv' := [(0, .ref a0), (1, .int x1)]) (st' := [.int (-1 : Int32)]) (by decide +kernel) rfl rfl ?_
    exact BW.iret (by decide +kernel : decode tX9_judge.2.1 9 = .ok (.ireturn, 1)) rfl (Nat.zero_le _) (Nat.zero_le _) (hQ _ _ (Ok.some h))
theorem oX9_judge {n : Nat} {P : Int32 × Sg → Prop} {s0 : Sg} {a0 : Nat} {x1 : Int32} (h : Ok (mX9_judge n s0 a0 x1) P) : ∃ n0, s0.2.1 a0 = some (9, n0) := by
  unfold mX9_judge at h
  exact Ok.isO h
theorem DX9_judge {G : Cx} {n : Nat} {P : Int32 × Sg → Prop} {s0 : Sg} {a0 : Nat} {x1 : Int32} (h : Ok (mX9_judge n s0 a0 x1) P) : BM G tX9_judge 2 43 0 0 [.ref a0, .int x1] s0 (fun v s => ∃ r, v = some (.int r) ∧ P (r, s)) := by
  refine BM.of (by decide +kernel) (Nat.le_of_ble_eq_true rfl) ?_
  exact bX9_judge (E := (({ frames := 2, cells := 0, slots := 0, locals := 43 }), Aof s0, 0, 0, (fun v s => ∃ r, v = some (.int r) ∧ P (r, s)))) ⟨Nat.le_refl _, Nat.le_refl _⟩ (fun r s hp => ⟨r, rfl, hp⟩) h
def mX9_latest (n : Nat) (s0 : Sg) (a0 : Nat) (x1 : Int32) (x2 : Int32) (x3 : Int32) : Option (Int32 × Sg) :=
  (isO 9 s0 a0).bind fun _ =>
  (mX9_walkOf n s0 a0 x1).bind fun q3 => match q3 with
  | (none, s1) => (
    some ((-1 : Int32), s1)
  )
  | (some b2, s1) => (
    (mX9_cellAt n s1 a0 x2 x3).bind fun (v5, s4) =>
    (mX8_latestIn n s4 b2 v5).bind fun (v8, s7) =>
    some (v8, s7)
  )
theorem bX9_latest {G : Cx} {E : Ev} {n : Nat} (hRm : 1 ≤ E.1.frames ∧ 23 ≤ E.1.locals) {P : Int32 × Sg → Prop} (hQ : ∀ r s, P (r, s) → E.2.2.2.2 (some (.int r)) s) {s0 : Sg} {a0 : Nat} {x1 : Int32} {x2 : Int32} {x3 : Int32} (h : Ok (mX9_latest n s0 a0 x1 x2 x3) P) : BW G tX9_latest E 0 0 0 [(0, .ref a0), (1, .int x1), (2, .int x2), (3, .int x3)] [] s0 := by
  unfold mX9_latest at h
  obtain ⟨_, _, h⟩ := Ok.bind h
  refine BW.run [.aload_n 0, .iload_n 1] (pc' := 2) (lv' := [(0, .ref a0), (1, .int x1), (2, .int x2), (3, .int x3)]) (st' := [.int x1, .ref a0]) (by decide +kernel) rfl rfl ?_
  refine BW.callV (As := [.int x1]) (st := []) (by decide +kernel : decode tX9_latest.2.1 2 = .ok (.invokevirtual 143, 3)) (DX9_walkOf (Ok.bindK h)) mfX9_walkOf lkM_X9_143 imX9_walkOf selX9_walkOf ciX9 (oX9_walkOf (Ok.bindK h)).choose_spec rfl rfl (Nat.le_of_ble_eq_true rfl) ⟨Nat.le_trans (by decide) hRm.1, Nat.le_trans (by decide) hRm.2⟩ ⟨Nat.zero_le _, Nat.zero_le _⟩ ?_
  rintro _ s1 ⟨_ | b2, rfl, h⟩
  · show BW G tX9_latest E 0 0 5 [(0, .ref a0), (1, .int x1), (2, .int x2), (3, .int x3)] (.null :: []) s1
    refine BW.run [.astore 4, .aload 4] (pc' := 9) (lv' := [(0, .ref a0), (1, .int x1), (2, .int x2), (3, .int x3), (4, .null)]) (st' := [.null]) (by decide +kernel) rfl rfl ?_
    refine BW.ifnonnullN (by decide +kernel : decode tX9_latest.2.1 9 = .ok (.ifnonnull 7, 3)) ?_
    refine BW.run [.iconst (-1)] (pc' := 13) (lv' := [(0, .ref a0), (1, .int x1), (2, .int x2), (3, .int x3), (4, .null)]) (st' := [.int (-1 : Int32)]) (by decide +kernel) rfl rfl ?_
    refine BW.goto 27 (by decide +kernel : decode tX9_latest.2.1 13 = .ok (.goto 14, 3)) (by decide) ?_
    exact BW.iret (by decide +kernel : decode tX9_latest.2.1 27 = .ok (.ireturn, 1)) rfl (Nat.zero_le _) (Nat.zero_le _) (hQ _ _ (Ok.some h))
  · show BW G tX9_latest E 0 0 5 [(0, .ref a0), (1, .int x1), (2, .int x2), (3, .int x3)] (.ref b2 :: []) s1
    refine BW.run [.astore 4, .aload 4] (pc' := 9) (lv' := [(0, .ref a0), (1, .int x1), (2, .int x2), (3, .int x3), (4, .ref b2)]) (st' := [.ref b2]) (by decide +kernel) rfl rfl ?_
    refine BW.ifnonnull 16 (by decide +kernel : decode tX9_latest.2.1 9 = .ok (.ifnonnull 7, 3)) (by decide) ?_
    refine BW.run [.aload 4, .aload_n 0, .iload_n 2, .iload_n 3] (pc' := 21) (lv' := [(0, .ref a0), (1, .int x1), (2, .int x2), (3, .int x3), (4, .ref b2)]) (st' := [.int x3, .int x2, .ref a0, .ref b2]) (by decide +kernel) rfl rfl ?_
    refine BW.callV (As := [.int x2, .int x3]) (st := [.ref b2]) (by decide +kernel : decode tX9_latest.2.1 21 = .ok (.invokevirtual 130, 3)) (DX9_cellAt (Ok.bindK h)) mfX9_cellAt lkM_X9_130 imX9_cellAt selX9_cellAt ciX9 (oX9_cellAt (Ok.bindK h)).choose_spec rfl rfl (Nat.le_of_ble_eq_true rfl) ⟨Nat.le_trans (by decide) hRm.1, Nat.le_trans (by decide) hRm.2⟩ ⟨Nat.zero_le _, Nat.zero_le _⟩ ?_
    rintro _ s4 ⟨v5, rfl, h⟩
    show BW G tX9_latest E 0 0 24 [(0, .ref a0), (1, .int x1), (2, .int x2), (3, .int x3), (4, .ref b2)] [.int v5, .ref b2] s4
    refine BW.callV (As := [.int v5]) (st := []) (by decide +kernel : decode tX9_latest.2.1 24 = .ok (.invokevirtual 169, 3)) (DX8_latestIn (Ok.bindK h)) mfX8_latestIn lkM_X9_169 imX8_latestIn selX8_latestIn ciX8 (oX8_latestIn (Ok.bindK h)).choose_spec rfl rfl (Nat.le_of_ble_eq_true rfl) ⟨Nat.le_trans (by decide) hRm.1, Nat.le_trans (by decide) hRm.2⟩ ⟨Nat.zero_le _, Nat.zero_le _⟩ ?_
    rintro _ s7 ⟨v8, rfl, h⟩
    show BW G tX9_latest E 0 0 27 [(0, .ref a0), (1, .int x1), (2, .int x2), (3, .int x3), (4, .ref b2)] [.int v8] s7
    exact BW.iret (by decide +kernel : decode tX9_latest.2.1 27 = .ok (.ireturn, 1)) rfl (Nat.zero_le _) (Nat.zero_le _) (hQ _ _ (Ok.some h))
theorem oX9_latest {n : Nat} {P : Int32 × Sg → Prop} {s0 : Sg} {a0 : Nat} {x1 : Int32} {x2 : Int32} {x3 : Int32} (h : Ok (mX9_latest n s0 a0 x1 x2 x3) P) : ∃ n0, s0.2.1 a0 = some (9, n0) := by
  unfold mX9_latest at h
  exact Ok.isO h
theorem DX9_latest {G : Cx} {n : Nat} {P : Int32 × Sg → Prop} {s0 : Sg} {a0 : Nat} {x1 : Int32} {x2 : Int32} {x3 : Int32} (h : Ok (mX9_latest n s0 a0 x1 x2 x3) P) : BM G tX9_latest 1 23 0 0 [.ref a0, .int x1, .int x2, .int x3] s0 (fun v s => ∃ r, v = some (.int r) ∧ P (r, s)) := by
  refine BM.of (by decide +kernel) (Nat.le_of_ble_eq_true rfl) ?_
  exact bX9_latest (E := (({ frames := 1, cells := 0, slots := 0, locals := 23 }), Aof s0, 0, 0, (fun v s => ∃ r, v = some (.int r) ∧ P (r, s)))) ⟨Nat.le_refl _, Nat.le_refl _⟩ (fun r s hp => ⟨r, rfl, hp⟩) h
def mX9_latestSnow_39 (n : Nat) (s0 : Sg) (a0 : Nat) (x1 : Int32) (x2 : Int32) (x3 : Int32) : Option ((Sg × Int32 × Int32) ⊕ (Sg × Int32)) :=
  some (.inl (s0, x2, (x3 + (1 : Int32))))
theorem bX9_latestSnow_39 {G : Cx} {E : Ev} {n : Nat} (hRm : 0 ≤ E.1.frames ∧ 0 ≤ E.1.locals) {s0 : Sg} {a0 : Nat} {x1 : Int32} {x2 : Int32} {x3 : Int32} {P : (Sg × Int32 × Int32) ⊕ (Sg × Int32) → Prop} (hC : ∀ (s : Sg) (c2 : Int32) (c3 : Int32), P (.inl (s, c2, c3)) → BW G tX9_latestSnow E 0 0 4 [(0, .ref a0), (1, .int x1), (2, .int c2), (3, .int c3)] [] s) (hE : ∀ (s : Sg) (c2 : Int32), P (.inr (s, c2)) → BW G tX9_latestSnow E 0 0 45 [(2, .int c2)] [] s)  (h : Ok (mX9_latestSnow_39 n s0 a0 x1 x2 x3) P) : BW G tX9_latestSnow E 0 0 39 [(0, .ref a0), (1, .int x1), (2, .int x2), (3, .int x3)] [] s0 := by
  unfold mX9_latestSnow_39 at h
  refine BW.run [.iinc 3 1] (pc' := 42) (lv' := [(0, .ref a0), (1, .int x1), (2, .int x2), (3, .int (x3 + (1 : Int32)))]) (st' := []) (by decide +kernel) rfl rfl ?_
  refine BW.goto 4 (by decide +kernel : decode tX9_latestSnow.2.1 42 = .ok (.goto (-38), 3)) (by decide) ?_
  exact hC _ _ _ (Ok.some h)
def mX9_latestSnow_L4 (n : Nat) (a0 : Nat) (x1 : Int32) : (Sg × Int32 × Int32) → Option ((Sg × Int32 × Int32) ⊕ (Sg × Int32))
  | (s0, x2, x3) =>
    (toI (gV 9 s0 a0 10)).bind fun v1 =>
    if v1 ≤ x3 then (
      some (.inr (s0, x2))
    ) else (
      (toR (gV 9 s0 a0 9)).bind fun b2 =>
      (toI (aV 11 s0 b2 x3)).bind fun v3 =>
      if x1 < v3 then (
        mX9_latestSnow_39 n s0 a0 x1 x2 x3
      ) else (
        (toR (gV 9 s0 a0 9)).bind fun b4 =>
        (toI (aV 11 s0 b4 x3)).bind fun v5 =>
        if v5 ≤ x2 then (
          mX9_latestSnow_39 n s0 a0 x1 x2 x3
        ) else (
          (toR (gV 9 s0 a0 9)).bind fun b6 =>
          (toI (aV 11 s0 b6 x3)).bind fun v7 =>
          mX9_latestSnow_39 n s0 a0 x1 v7 x3
        )
      )
    )
theorem bX9_latestSnow_L4 {G : Cx} {E : Ev} {n : Nat} (hRm : 0 ≤ E.1.frames ∧ 0 ≤ E.1.locals) {a0 : Nat} {x1 : Int32} {P : (Sg × Int32 × Int32) ⊕ (Sg × Int32) → Prop} (hC : ∀ (s : Sg) (c2 : Int32) (c3 : Int32), P (.inl (s, c2, c3)) → BW G tX9_latestSnow E 0 0 4 [(0, .ref a0), (1, .int x1), (2, .int c2), (3, .int c3)] [] s) (hE : ∀ (s : Sg) (c2 : Int32), P (.inr (s, c2)) → BW G tX9_latestSnow E 0 0 45 [(2, .int c2)] [] s) {s0 : Sg} {x2 : Int32} {x3 : Int32} (h : Ok (mX9_latestSnow_L4 n a0 x1 (s0, x2, x3)) P) : BW G tX9_latestSnow E 0 0 4 [(0, .ref a0), (1, .int x1), (2, .int x2), (3, .int x3)] [] s0 := by
  unfold mX9_latestSnow_L4 at h
  refine BW.run [.iload_n 3, .aload_n 0] (pc' := 6) (lv' := [(0, .ref a0), (1, .int x1), (2, .int x2), (3, .int x3)]) (st' := [.ref a0, .int x3]) (by decide +kernel) rfl rfl ?_
  obtain ⟨v1, ev1, h⟩ := Ok.bind h
  refine BW.get (by decide +kernel : decode tX9_latestSnow.2.1 6 = .ok (.getfield 39, 3)) ciX9 (k := 10) (by decide) lkF_X9_39 (toI_V ev1) ?_
  refine BW.icmp_ge 45 (by decide +kernel : decode tX9_latestSnow.2.1 9 = .ok (.if_icmp .ge 36, 3)) (by decide) (fun hc => ?_) (fun hc => ?_)
  · have h := (Ok.ite h).1 hc
    refine BW.sub [2] rfl ?_
    exact hE _ _ (Ok.some h)
  · have h := (Ok.ite h).2 hc
    refine BW.run [.aload_n 0] (pc' := 13) (lv' := [(0, .ref a0), (1, .int x1), (2, .int x2), (3, .int x3)]) (st' := [.ref a0]) (by decide +kernel) rfl rfl ?_
    obtain ⟨b2, eb2, h⟩ := Ok.bind h
    refine BW.get (by decide +kernel : decode tX9_latestSnow.2.1 13 = .ok (.getfield 35, 3)) ciX9 (k := 9) (by decide) lkF_X9_35 (toR_V eb2) ?_
    refine BW.run [.iload_n 3] (pc' := 17) (lv' := [(0, .ref a0), (1, .int x1), (2, .int x2), (3, .int x3)]) (st' := [.int x3, .ref b2]) (by decide +kernel) rfl rfl ?_
    obtain ⟨v3, ev3, h⟩ := Ok.bind h
    refine BW.iald (by decide +kernel : decode tX9_latestSnow.2.1 17 = .ok (.iaload, 1)) (toI_V ev3) ?_
    refine BW.run [.iload_n 1] (pc' := 19) (lv' := [(0, .ref a0), (1, .int x1), (2, .int x2), (3, .int x3)]) (st' := [.int x1, .int v3]) (by decide +kernel) rfl rfl ?_
    refine BW.icmp_gt 39 (by decide +kernel : decode tX9_latestSnow.2.1 19 = .ok (.if_icmp .gt 20, 3)) (by decide) (fun hc => ?_) (fun hc => ?_)
    · have h := (Ok.ite h).1 hc
      exact bX9_latestSnow_39 hRm hC hE h
    · have h := (Ok.ite h).2 hc
      refine BW.run [.aload_n 0] (pc' := 23) (lv' := [(0, .ref a0), (1, .int x1), (2, .int x2), (3, .int x3)]) (st' := [.ref a0]) (by decide +kernel) rfl rfl ?_
      obtain ⟨b4, eb4, h⟩ := Ok.bind h
      refine BW.get (by decide +kernel : decode tX9_latestSnow.2.1 23 = .ok (.getfield 35, 3)) ciX9 (k := 9) (by decide) lkF_X9_35 (toR_V eb4) ?_
      refine BW.run [.iload_n 3] (pc' := 27) (lv' := [(0, .ref a0), (1, .int x1), (2, .int x2), (3, .int x3)]) (st' := [.int x3, .ref b4]) (by decide +kernel) rfl rfl ?_
      obtain ⟨v5, ev5, h⟩ := Ok.bind h
      refine BW.iald (by decide +kernel : decode tX9_latestSnow.2.1 27 = .ok (.iaload, 1)) (toI_V ev5) ?_
      refine BW.run [.iload_n 2] (pc' := 29) (lv' := [(0, .ref a0), (1, .int x1), (2, .int x2), (3, .int x3)]) (st' := [.int x2, .int v5]) (by decide +kernel) rfl rfl ?_
      refine BW.icmp_le 39 (by decide +kernel : decode tX9_latestSnow.2.1 29 = .ok (.if_icmp .le 10, 3)) (by decide) (fun hc => ?_) (fun hc => ?_)
      · have h := (Ok.ite h).1 hc
        exact bX9_latestSnow_39 hRm hC hE h
      · have h := (Ok.ite h).2 hc
        refine BW.run [.aload_n 0] (pc' := 33) (lv' := [(0, .ref a0), (1, .int x1), (2, .int x2), (3, .int x3)]) (st' := [.ref a0]) (by decide +kernel) rfl rfl ?_
        obtain ⟨b6, eb6, h⟩ := Ok.bind h
        refine BW.get (by decide +kernel : decode tX9_latestSnow.2.1 33 = .ok (.getfield 35, 3)) ciX9 (k := 9) (by decide) lkF_X9_35 (toR_V eb6) ?_
        refine BW.run [.iload_n 3] (pc' := 37) (lv' := [(0, .ref a0), (1, .int x1), (2, .int x2), (3, .int x3)]) (st' := [.int x3, .ref b6]) (by decide +kernel) rfl rfl ?_
        obtain ⟨v7, ev7, h⟩ := Ok.bind h
        refine BW.iald (by decide +kernel : decode tX9_latestSnow.2.1 37 = .ok (.iaload, 1)) (toI_V ev7) ?_
        refine BW.run [.istore_n 2] (pc' := 39) (lv' := [(0, .ref a0), (1, .int x1), (2, .int v7), (3, .int x3)]) (st' := []) (by decide +kernel) rfl rfl ?_
        exact bX9_latestSnow_39 hRm hC hE h
theorem bX9_latestSnow_W4 {G : Cx} {E : Ev} {n : Nat} (hRm : 0 ≤ E.1.frames ∧ 0 ≤ E.1.locals) {a0 : Nat} {x1 : Int32} {K : (Sg × Int32) → Prop} (hE : ∀ (s : Sg) (c2 : Int32), K (s, c2) → BW G tX9_latestSnow E 0 0 45 [(2, .int c2)] [] s) : ∀ (f : Nat) (c : Sg × Int32 × Int32), Ok (loopM (mX9_latestSnow_L4 n a0 x1) f c) K → match c with | (s0, x2, x3) => BW G tX9_latestSnow E 0 0 4 [(0, .ref a0), (1, .int x1), (2, .int x2), (3, .int x3)] [] s0 := by
  intro f
  induction f with
  | zero => intro c h; exact (Ok.no h).elim
  | succ f ih =>
    intro c h
    obtain ⟨s0, x2, x3⟩ := c
    exact bX9_latestSnow_L4 (P := loopP (mX9_latestSnow_L4 n a0 x1) f K) hRm (fun s c2 c3 h => ih (s, c2, c3) h) hE (loopM_ok h)
def mX9_latestSnow (n : Nat) (s0 : Sg) (a0 : Nat) (x1 : Int32) : Option (Int32 × Sg) :=
  (isO 9 s0 a0).bind fun _ =>
  (loopM (mX9_latestSnow_L4 n a0 x1) n (s0, (-1 : Int32), (0 : Int32))).bind fun (s8, v9) =>
  some (v9, s8)
theorem bX9_latestSnow {G : Cx} {E : Ev} {n : Nat} (hRm : 0 ≤ E.1.frames ∧ 0 ≤ E.1.locals) {P : Int32 × Sg → Prop} (hQ : ∀ r s, P (r, s) → E.2.2.2.2 (some (.int r)) s) {s0 : Sg} {a0 : Nat} {x1 : Int32} (h : Ok (mX9_latestSnow n s0 a0 x1) P) : BW G tX9_latestSnow E 0 0 0 [(0, .ref a0), (1, .int x1)] [] s0 := by
  unfold mX9_latestSnow at h
  obtain ⟨_, _, h⟩ := Ok.bind h
  refine BW.run [.iconst (-1), .istore_n 2, .iconst 0, .istore_n 3] (pc' := 4) (lv' := [(0, .ref a0), (1, .int x1), (2, .int (-1 : Int32)), (3, .int (0 : Int32))]) (st' := []) (by decide +kernel) rfl rfl ?_
  refine bX9_latestSnow_W4 hRm (a0 := a0) (x1 := x1) (fun s8 v9 h => ?_) n (s0, (-1 : Int32), (0 : Int32)) (Ok.bindK h)
  refine BW.run [.iload_n 2] (pc' := 46) (lv' := [(2, .int v9)]) (st' := [.int v9]) (by decide +kernel) rfl rfl ?_
  exact BW.iret (by decide +kernel : decode tX9_latestSnow.2.1 46 = .ok (.ireturn, 1)) rfl (Nat.zero_le _) (Nat.zero_le _) (hQ _ _ (Ok.some h))
theorem oX9_latestSnow {n : Nat} {P : Int32 × Sg → Prop} {s0 : Sg} {a0 : Nat} {x1 : Int32} (h : Ok (mX9_latestSnow n s0 a0 x1) P) : ∃ n0, s0.2.1 a0 = some (9, n0) := by
  unfold mX9_latestSnow at h
  exact Ok.isO h
theorem DX9_latestSnow {G : Cx} {n : Nat} {P : Int32 × Sg → Prop} {s0 : Sg} {a0 : Nat} {x1 : Int32} (h : Ok (mX9_latestSnow n s0 a0 x1) P) : BM G tX9_latestSnow 0 0 0 0 [.ref a0, .int x1] s0 (fun v s => ∃ r, v = some (.int r) ∧ P (r, s)) := by
  refine BM.of (by decide +kernel) (Nat.le_of_ble_eq_true rfl) ?_
  exact bX9_latestSnow (E := (({ frames := 0, cells := 0, slots := 0, locals := 0 }), Aof s0, 0, 0, (fun v s => ∃ r, v = some (.int r) ∧ P (r, s)))) ⟨Nat.le_refl _, Nat.le_refl _⟩ (fun r s hp => ⟨r, rfl, hp⟩) h
def mX9_speakersOf_47 (n : Nat) (s0 : Sg) (a0 : Nat) (x1 : Int32) (x2 : Int32) (x3 : Int32) : Option ((Sg × Int32 × Int32) ⊕ (Sg × Int32)) :=
  some (.inl (s0, x2, (x3 + (1 : Int32))))
theorem bX9_speakersOf_47 {G : Cx} {E : Ev} {n : Nat} (hRm : 1 ≤ E.1.frames ∧ 21 ≤ E.1.locals) {s0 : Sg} {a0 : Nat} {x1 : Int32} {x2 : Int32} {x3 : Int32} {P : (Sg × Int32 × Int32) ⊕ (Sg × Int32) → Prop} (hC : ∀ (s : Sg) (c2 : Int32) (c3 : Int32), P (.inl (s, c2, c3)) → BW G tX9_speakersOf E 0 0 4 [(0, .ref a0), (1, .int x1), (2, .int c2), (3, .int c3)] [] s) (hE : ∀ (s : Sg) (c2 : Int32), P (.inr (s, c2)) → BW G tX9_speakersOf E 0 0 53 [(2, .int c2)] [] s)  (h : Ok (mX9_speakersOf_47 n s0 a0 x1 x2 x3) P) : BW G tX9_speakersOf E 0 0 47 [(0, .ref a0), (1, .int x1), (2, .int x2), (3, .int x3)] [] s0 := by
  unfold mX9_speakersOf_47 at h
  refine BW.run [.iinc 3 1] (pc' := 50) (lv' := [(0, .ref a0), (1, .int x1), (2, .int x2), (3, .int (x3 + (1 : Int32)))]) (st' := []) (by decide +kernel) rfl rfl ?_
  refine BW.goto 4 (by decide +kernel : decode tX9_speakersOf.2.1 50 = .ok (.goto (-46), 3)) (by decide) ?_
  exact hC _ _ _ (Ok.some h)
def mX9_speakersOf_L4 (n : Nat) (a0 : Nat) (x1 : Int32) : (Sg × Int32 × Int32) → Option ((Sg × Int32 × Int32) ⊕ (Sg × Int32))
  | (s0, x2, x3) =>
    (toI (gV 9 s0 a0 8)).bind fun v1 =>
    if v1 ≤ x3 then (
      some (.inr (s0, x2))
    ) else (
      (mX9_isIn n s0 x1 x3).bind fun (v3, s2) =>
      if v3 = 0 then (
        mX9_speakersOf_47 n s2 a0 x1 x2 x3
      ) else (
        (toR (gV 9 s2 a0 7)).bind fun b5 =>
        (toQ (aV 14 s2 b5 x3)).bind fun q6 => match q6 with
        | none => (
          none
        )
        | some b7 => (
          (toI (gV 2 s2 b7 0)).bind fun v8 =>
          if v8 = (-1 : Int32) then (
            mX9_speakersOf_47 n s2 a0 x1 x2 x3
          ) else (
            (toR (gV 9 s2 a0 7)).bind fun b9 =>
            (toQ (aV 14 s2 b9 x3)).bind fun q10 => match q10 with
            | none => (
              none
            )
            | some b11 => (
              (toI (gV 2 s2 b11 0)).bind fun v12 =>
              nm (x2 ||| ((1 : Int32) <<< (v12 &&& 31))) fun v13 =>
              mX9_speakersOf_47 n s2 a0 x1 v13 x3
            )
          )
        )
      )
    )
theorem bX9_speakersOf_L4 {G : Cx} {E : Ev} {n : Nat} (hRm : 1 ≤ E.1.frames ∧ 21 ≤ E.1.locals) {a0 : Nat} {x1 : Int32} {P : (Sg × Int32 × Int32) ⊕ (Sg × Int32) → Prop} (hC : ∀ (s : Sg) (c2 : Int32) (c3 : Int32), P (.inl (s, c2, c3)) → BW G tX9_speakersOf E 0 0 4 [(0, .ref a0), (1, .int x1), (2, .int c2), (3, .int c3)] [] s) (hE : ∀ (s : Sg) (c2 : Int32), P (.inr (s, c2)) → BW G tX9_speakersOf E 0 0 53 [(2, .int c2)] [] s) {s0 : Sg} {x2 : Int32} {x3 : Int32} (h : Ok (mX9_speakersOf_L4 n a0 x1 (s0, x2, x3)) P) : BW G tX9_speakersOf E 0 0 4 [(0, .ref a0), (1, .int x1), (2, .int x2), (3, .int x3)] [] s0 := by
  unfold mX9_speakersOf_L4 at h
  refine BW.run [.iload_n 3, .aload_n 0] (pc' := 6) (lv' := [(0, .ref a0), (1, .int x1), (2, .int x2), (3, .int x3)]) (st' := [.ref a0, .int x3]) (by decide +kernel) rfl rfl ?_
  obtain ⟨v1, ev1, h⟩ := Ok.bind h
  refine BW.get (by decide +kernel : decode tX9_speakersOf.2.1 6 = .ok (.getfield 32, 3)) ciX9 (k := 8) (by decide) lkF_X9_32 (toI_V ev1) ?_
  refine BW.icmp_ge 53 (by decide +kernel : decode tX9_speakersOf.2.1 9 = .ok (.if_icmp .ge 44, 3)) (by decide) (fun hc => ?_) (fun hc => ?_)
  · have h := (Ok.ite h).1 hc
    refine BW.sub [2] rfl ?_
    exact hE _ _ (Ok.some h)
  · have h := (Ok.ite h).2 hc
    refine BW.run [.iload_n 1, .iload_n 3] (pc' := 14) (lv' := [(0, .ref a0), (1, .int x1), (2, .int x2), (3, .int x3)]) (st' := [.int x3, .int x1]) (by decide +kernel) rfl rfl ?_
    refine BW.callS (As := [.int x1, .int x3]) (st := []) (by decide +kernel : decode tX9_speakersOf.2.1 14 = .ok (.invokestatic 284, 3)) (DX9_isIn (Ok.bindK h)) mfX9_isIn lkM_X9_284 smX9_isIn rfl rfl (Nat.le_of_ble_eq_true rfl) ⟨Nat.le_trans (by decide) hRm.1, Nat.le_trans (by decide) hRm.2⟩ ⟨Nat.zero_le _, Nat.zero_le _⟩ ?_
    rintro _ s2 ⟨v3, rfl, h⟩
    show BW G tX9_speakersOf E 0 0 17 [(0, .ref a0), (1, .int x1), (2, .int x2), (3, .int x3)] [.int v3] s2
    refine BW.if_eq 47 (by decide +kernel : decode tX9_speakersOf.2.1 17 = .ok (.ifCond .eq 30, 3)) (by decide) (fun hc => ?_) (fun hc => ?_)
    · have h := (Ok.ite h).1 hc
      exact bX9_speakersOf_47 hRm hC hE h
    · have h := (Ok.ite h).2 hc
      refine BW.run [.aload_n 0] (pc' := 21) (lv' := [(0, .ref a0), (1, .int x1), (2, .int x2), (3, .int x3)]) (st' := [.ref a0]) (by decide +kernel) rfl rfl ?_
      obtain ⟨b5, eb5, h⟩ := Ok.bind h
      refine BW.get (by decide +kernel : decode tX9_speakersOf.2.1 21 = .ok (.getfield 28, 3)) ciX9 (k := 7) (by decide) lkF_X9_28 (toR_V eb5) ?_
      refine BW.run [.iload_n 3] (pc' := 25) (lv' := [(0, .ref a0), (1, .int x1), (2, .int x2), (3, .int x3)]) (st' := [.int x3, .ref b5]) (by decide +kernel) rfl rfl ?_
      obtain ⟨q6, eq6, h⟩ := Ok.bind h
      refine BW.aald (by decide +kernel : decode tX9_speakersOf.2.1 25 = .ok (.aaload, 1)) (by decide) (toQ_V eq6) ?_
      cases q6 with
      | none =>
        show BW G tX9_speakersOf E 0 0 26 [(0, .ref a0), (1, .int x1), (2, .int x2), (3, .int x3)] (.null :: []) s2
        exact (Ok.no h).elim
      | some b7 =>
        show BW G tX9_speakersOf E 0 0 26 [(0, .ref a0), (1, .int x1), (2, .int x2), (3, .int x3)] (.ref b7 :: []) s2
        obtain ⟨v8, ev8, h⟩ := Ok.bind h
        refine BW.getN (by decide +kernel : decode tX9_speakersOf.2.1 26 = .ok (.getfield 193, 3)) ciX2 (k := 0) (by decide) lkF_X9_193 (toI_V ev8) ?_
        refine BW.run [.iconst (-1)] (pc' := 30) (lv' := [(0, .ref a0), (1, .int x1), (2, .int x2), (3, .int x3)]) (st' := [.int (-1 : Int32), .int v8]) (by decide +kernel) rfl rfl ?_
        refine BW.icmp_eq 47 (by decide +kernel : decode tX9_speakersOf.2.1 30 = .ok (.if_icmp .eq 17, 3)) (by decide) (fun hc => ?_) (fun hc => ?_)
        · have h := (Ok.ite h).1 hc
          exact bX9_speakersOf_47 hRm hC hE h
        · have h := (Ok.ite h).2 hc
          refine BW.run [.iload_n 2, .iconst 1, .aload_n 0] (pc' := 36) (lv' := [(0, .ref a0), (1, .int x1), (2, .int x2), (3, .int x3)]) (st' := [.ref a0, .int (1 : Int32), .int x2]) (by decide +kernel) rfl rfl ?_
          obtain ⟨b9, eb9, h⟩ := Ok.bind h
          refine BW.get (by decide +kernel : decode tX9_speakersOf.2.1 36 = .ok (.getfield 28, 3)) ciX9 (k := 7) (by decide) lkF_X9_28 (toR_V eb9) ?_
          refine BW.run [.iload_n 3] (pc' := 40) (lv' := [(0, .ref a0), (1, .int x1), (2, .int x2), (3, .int x3)]) (st' := [.int x3, .ref b9, .int (1 : Int32), .int x2]) (by decide +kernel) rfl rfl ?_
          obtain ⟨q10, eq10, h⟩ := Ok.bind h
          refine BW.aald (by decide +kernel : decode tX9_speakersOf.2.1 40 = .ok (.aaload, 1)) (by decide) (toQ_V eq10) ?_
          cases q10 with
          | none =>
            show BW G tX9_speakersOf E 0 0 41 [(0, .ref a0), (1, .int x1), (2, .int x2), (3, .int x3)] (.null :: [.int (1 : Int32), .int x2]) s2
            exact (Ok.no h).elim
          | some b11 =>
            show BW G tX9_speakersOf E 0 0 41 [(0, .ref a0), (1, .int x1), (2, .int x2), (3, .int x3)] (.ref b11 :: [.int (1 : Int32), .int x2]) s2
            obtain ⟨v12, ev12, h⟩ := Ok.bind h
            refine BW.getN (by decide +kernel : decode tX9_speakersOf.2.1 41 = .ok (.getfield 193, 3)) ciX2 (k := 0) (by decide) lkF_X9_193 (toI_V ev12) ?_
            refine BW.run [.ishl, .ior] (pc' := 46) (lv' := [(0, .ref a0), (1, .int x1), (2, .int x2), (3, .int x3)]) (st' := [.int (x2 ||| ((1 : Int32) <<< (v12 &&& 31)))]) (by decide +kernel) rfl rfl ?_
            obtain ⟨v13, wv13, h⟩ := Ok.nm h
            refine BW.nm wv13 ?_
            refine BW.run [.istore_n 2] (pc' := 47) (lv' := [(0, .ref a0), (1, .int x1), (2, .int v13), (3, .int x3)]) (st' := []) (by decide +kernel) rfl rfl ?_
            exact bX9_speakersOf_47 hRm hC hE h
theorem bX9_speakersOf_W4 {G : Cx} {E : Ev} {n : Nat} (hRm : 1 ≤ E.1.frames ∧ 21 ≤ E.1.locals) {a0 : Nat} {x1 : Int32} {K : (Sg × Int32) → Prop} (hE : ∀ (s : Sg) (c2 : Int32), K (s, c2) → BW G tX9_speakersOf E 0 0 53 [(2, .int c2)] [] s) : ∀ (f : Nat) (c : Sg × Int32 × Int32), Ok (loopM (mX9_speakersOf_L4 n a0 x1) f c) K → match c with | (s0, x2, x3) => BW G tX9_speakersOf E 0 0 4 [(0, .ref a0), (1, .int x1), (2, .int x2), (3, .int x3)] [] s0 := by
  intro f
  induction f with
  | zero => intro c h; exact (Ok.no h).elim
  | succ f ih =>
    intro c h
    obtain ⟨s0, x2, x3⟩ := c
    exact bX9_speakersOf_L4 (P := loopP (mX9_speakersOf_L4 n a0 x1) f K) hRm (fun s c2 c3 h => ih (s, c2, c3) h) hE (loopM_ok h)
def mX9_speakersOf (n : Nat) (s0 : Sg) (a0 : Nat) (x1 : Int32) : Option (Int32 × Sg) :=
  (isO 9 s0 a0).bind fun _ =>
  (loopM (mX9_speakersOf_L4 n a0 x1) n (s0, (0 : Int32), (0 : Int32))).bind fun (s14, v15) =>
  some (v15, s14)
theorem bX9_speakersOf {G : Cx} {E : Ev} {n : Nat} (hRm : 1 ≤ E.1.frames ∧ 21 ≤ E.1.locals) {P : Int32 × Sg → Prop} (hQ : ∀ r s, P (r, s) → E.2.2.2.2 (some (.int r)) s) {s0 : Sg} {a0 : Nat} {x1 : Int32} (h : Ok (mX9_speakersOf n s0 a0 x1) P) : BW G tX9_speakersOf E 0 0 0 [(0, .ref a0), (1, .int x1)] [] s0 := by
  unfold mX9_speakersOf at h
  obtain ⟨_, _, h⟩ := Ok.bind h
  refine BW.run [.iconst 0, .istore_n 2, .iconst 0, .istore_n 3] (pc' := 4) (lv' := [(0, .ref a0), (1, .int x1), (2, .int (0 : Int32)), (3, .int (0 : Int32))]) (st' := []) (by decide +kernel) rfl rfl ?_
  refine bX9_speakersOf_W4 hRm (a0 := a0) (x1 := x1) (fun s14 v15 h => ?_) n (s0, (0 : Int32), (0 : Int32)) (Ok.bindK h)
  refine BW.run [.iload_n 2] (pc' := 54) (lv' := [(2, .int v15)]) (st' := [.int v15]) (by decide +kernel) rfl rfl ?_
  exact BW.iret (by decide +kernel : decode tX9_speakersOf.2.1 54 = .ok (.ireturn, 1)) rfl (Nat.zero_le _) (Nat.zero_le _) (hQ _ _ (Ok.some h))
theorem oX9_speakersOf {n : Nat} {P : Int32 × Sg → Prop} {s0 : Sg} {a0 : Nat} {x1 : Int32} (h : Ok (mX9_speakersOf n s0 a0 x1) P) : ∃ n0, s0.2.1 a0 = some (9, n0) := by
  unfold mX9_speakersOf at h
  exact Ok.isO h
theorem DX9_speakersOf {G : Cx} {n : Nat} {P : Int32 × Sg → Prop} {s0 : Sg} {a0 : Nat} {x1 : Int32} (h : Ok (mX9_speakersOf n s0 a0 x1) P) : BM G tX9_speakersOf 1 21 0 0 [.ref a0, .int x1] s0 (fun v s => ∃ r, v = some (.int r) ∧ P (r, s)) := by
  refine BM.of (by decide +kernel) (Nat.le_of_ble_eq_true rfl) ?_
  exact bX9_speakersOf (E := (({ frames := 1, cells := 0, slots := 0, locals := 21 }), Aof s0, 0, 0, (fun v s => ∃ r, v = some (.int r) ∧ P (r, s)))) ⟨Nat.le_refl _, Nat.le_refl _⟩ (fun r s hp => ⟨r, rfl, hp⟩) h
def mX9_withoutWords_54 (n : Nat) (s0 : Sg) (a0 : Nat) (x2 : Int32) (x3 : Int32) (x4 : Int32) : Option ((Sg × Int32 × Int32) ⊕ (Sg × Int32)) :=
  some (.inl (s0, x3, (x4 + (1 : Int32))))
theorem bX9_withoutWords_54 {G : Cx} {E : Ev} {n : Nat} (hRm : 1 ≤ E.1.frames ∧ 21 ≤ E.1.locals) {s0 : Sg} {a0 : Nat} {x2 : Int32} {x3 : Int32} {x4 : Int32} {P : (Sg × Int32 × Int32) ⊕ (Sg × Int32) → Prop} (hC : ∀ (s : Sg) (c3 : Int32) (c4 : Int32), P (.inl (s, c3, c4)) → BW G tX9_withoutWords E 0 0 5 [(0, .ref a0), (2, .int x2), (3, .int c3), (4, .int c4)] [] s) (hE : ∀ (s : Sg) (c3 : Int32), P (.inr (s, c3)) → BW G tX9_withoutWords E 0 0 60 [(3, .int c3)] [] s)  (h : Ok (mX9_withoutWords_54 n s0 a0 x2 x3 x4) P) : BW G tX9_withoutWords E 0 0 54 [(0, .ref a0), (2, .int x2), (3, .int x3), (4, .int x4)] [] s0 := by
  unfold mX9_withoutWords_54 at h
  refine BW.run [.iinc 4 1] (pc' := 57) (lv' := [(0, .ref a0), (2, .int x2), (3, .int x3), (4, .int (x4 + (1 : Int32)))]) (st' := []) (by decide +kernel) rfl rfl ?_
  refine BW.goto 5 (by decide +kernel : decode tX9_withoutWords.2.1 57 = .ok (.goto (-52), 3)) (by decide) ?_
  exact hC _ _ _ (Ok.some h)
def mX9_withoutWords_L5 (n : Nat) (a0 : Nat) (x2 : Int32) : (Sg × Int32 × Int32) → Option ((Sg × Int32 × Int32) ⊕ (Sg × Int32))
  | (s0, x3, x4) =>
    (toI (gV 9 s0 a0 8)).bind fun v1 =>
    if v1 ≤ x4 then (
      some (.inr (s0, x3))
    ) else (
      (toR (gV 9 s0 a0 7)).bind fun b2 =>
      (toQ (aV 14 s0 b2 x4)).bind fun q3 => match q3 with
      | none => (
        none
      )
      | some b4 => (
        (toI (gV 2 s0 b4 0)).bind fun v5 =>
        if v5 = (-1 : Int32) then (
          mX9_withoutWords_54 n s0 a0 x2 x3 x4
        ) else (
          (toR (gV 9 s0 a0 7)).bind fun b6 =>
          (toQ (aV 14 s0 b6 x4)).bind fun q7 => match q7 with
          | none => (
            none
          )
          | some b8 => (
            (toI (gV 2 s0 b8 0)).bind fun v9 =>
            (mX9_isIn n s0 x2 v9).bind fun (v11, s10) =>
            if v11 = 0 then (
              mX9_withoutWords_54 n s10 a0 x2 x3 x4
            ) else (
              nm (x3 &&& (((1 : Int32) <<< (x4 &&& 31)) ^^^ (-1 : Int32))) fun v13 =>
              mX9_withoutWords_54 n s10 a0 x2 v13 x4
            )
          )
        )
      )
    )
theorem bX9_withoutWords_L5 {G : Cx} {E : Ev} {n : Nat} (hRm : 1 ≤ E.1.frames ∧ 21 ≤ E.1.locals) {a0 : Nat} {x2 : Int32} {P : (Sg × Int32 × Int32) ⊕ (Sg × Int32) → Prop} (hC : ∀ (s : Sg) (c3 : Int32) (c4 : Int32), P (.inl (s, c3, c4)) → BW G tX9_withoutWords E 0 0 5 [(0, .ref a0), (2, .int x2), (3, .int c3), (4, .int c4)] [] s) (hE : ∀ (s : Sg) (c3 : Int32), P (.inr (s, c3)) → BW G tX9_withoutWords E 0 0 60 [(3, .int c3)] [] s) {s0 : Sg} {x3 : Int32} {x4 : Int32} (h : Ok (mX9_withoutWords_L5 n a0 x2 (s0, x3, x4)) P) : BW G tX9_withoutWords E 0 0 5 [(0, .ref a0), (2, .int x2), (3, .int x3), (4, .int x4)] [] s0 := by
  unfold mX9_withoutWords_L5 at h
  refine BW.run [.iload 4, .aload_n 0] (pc' := 8) (lv' := [(0, .ref a0), (2, .int x2), (3, .int x3), (4, .int x4)]) (st' := [.ref a0, .int x4]) (by decide +kernel) rfl rfl ?_
  obtain ⟨v1, ev1, h⟩ := Ok.bind h
  refine BW.get (by decide +kernel : decode tX9_withoutWords.2.1 8 = .ok (.getfield 32, 3)) ciX9 (k := 8) (by decide) lkF_X9_32 (toI_V ev1) ?_
  refine BW.icmp_ge 60 (by decide +kernel : decode tX9_withoutWords.2.1 11 = .ok (.if_icmp .ge 49, 3)) (by decide) (fun hc => ?_) (fun hc => ?_)
  · have h := (Ok.ite h).1 hc
    refine BW.sub [2] rfl ?_
    exact hE _ _ (Ok.some h)
  · have h := (Ok.ite h).2 hc
    refine BW.run [.aload_n 0] (pc' := 15) (lv' := [(0, .ref a0), (2, .int x2), (3, .int x3), (4, .int x4)]) (st' := [.ref a0]) (by decide +kernel) rfl rfl ?_
    obtain ⟨b2, eb2, h⟩ := Ok.bind h
    refine BW.get (by decide +kernel : decode tX9_withoutWords.2.1 15 = .ok (.getfield 28, 3)) ciX9 (k := 7) (by decide) lkF_X9_28 (toR_V eb2) ?_
    refine BW.run [.iload 4] (pc' := 20) (lv' := [(0, .ref a0), (2, .int x2), (3, .int x3), (4, .int x4)]) (st' := [.int x4, .ref b2]) (by decide +kernel) rfl rfl ?_
    obtain ⟨q3, eq3, h⟩ := Ok.bind h
    refine BW.aald (by decide +kernel : decode tX9_withoutWords.2.1 20 = .ok (.aaload, 1)) (by decide) (toQ_V eq3) ?_
    cases q3 with
    | none =>
      show BW G tX9_withoutWords E 0 0 21 [(0, .ref a0), (2, .int x2), (3, .int x3), (4, .int x4)] (.null :: []) s0
      exact (Ok.no h).elim
    | some b4 =>
      show BW G tX9_withoutWords E 0 0 21 [(0, .ref a0), (2, .int x2), (3, .int x3), (4, .int x4)] (.ref b4 :: []) s0
      obtain ⟨v5, ev5, h⟩ := Ok.bind h
      refine BW.getN (by decide +kernel : decode tX9_withoutWords.2.1 21 = .ok (.getfield 193, 3)) ciX2 (k := 0) (by decide) lkF_X9_193 (toI_V ev5) ?_
      refine BW.run [.iconst (-1)] (pc' := 25) (lv' := [(0, .ref a0), (2, .int x2), (3, .int x3), (4, .int x4)]) (st' := [.int (-1 : Int32), .int v5]) (by decide +kernel) rfl rfl ?_
      refine BW.icmp_eq 54 (by decide +kernel : decode tX9_withoutWords.2.1 25 = .ok (.if_icmp .eq 29, 3)) (by decide) (fun hc => ?_) (fun hc => ?_)
      · have h := (Ok.ite h).1 hc
        exact bX9_withoutWords_54 hRm hC hE h
      · have h := (Ok.ite h).2 hc
        refine BW.run [.iload_n 2, .aload_n 0] (pc' := 30) (lv' := [(0, .ref a0), (2, .int x2), (3, .int x3), (4, .int x4)]) (st' := [.ref a0, .int x2]) (by decide +kernel) rfl rfl ?_
        obtain ⟨b6, eb6, h⟩ := Ok.bind h
        refine BW.get (by decide +kernel : decode tX9_withoutWords.2.1 30 = .ok (.getfield 28, 3)) ciX9 (k := 7) (by decide) lkF_X9_28 (toR_V eb6) ?_
        refine BW.run [.iload 4] (pc' := 35) (lv' := [(0, .ref a0), (2, .int x2), (3, .int x3), (4, .int x4)]) (st' := [.int x4, .ref b6, .int x2]) (by decide +kernel) rfl rfl ?_
        obtain ⟨q7, eq7, h⟩ := Ok.bind h
        refine BW.aald (by decide +kernel : decode tX9_withoutWords.2.1 35 = .ok (.aaload, 1)) (by decide) (toQ_V eq7) ?_
        cases q7 with
        | none =>
          show BW G tX9_withoutWords E 0 0 36 [(0, .ref a0), (2, .int x2), (3, .int x3), (4, .int x4)] (.null :: [.int x2]) s0
          exact (Ok.no h).elim
        | some b8 =>
          show BW G tX9_withoutWords E 0 0 36 [(0, .ref a0), (2, .int x2), (3, .int x3), (4, .int x4)] (.ref b8 :: [.int x2]) s0
          obtain ⟨v9, ev9, h⟩ := Ok.bind h
          refine BW.getN (by decide +kernel : decode tX9_withoutWords.2.1 36 = .ok (.getfield 193, 3)) ciX2 (k := 0) (by decide) lkF_X9_193 (toI_V ev9) ?_
          refine BW.callS (As := [.int x2, .int v9]) (st := []) (by decide +kernel : decode tX9_withoutWords.2.1 39 = .ok (.invokestatic 284, 3)) (DX9_isIn (Ok.bindK h)) mfX9_isIn lkM_X9_284 smX9_isIn rfl rfl (Nat.le_of_ble_eq_true rfl) ⟨Nat.le_trans (by decide) hRm.1, Nat.le_trans (by decide) hRm.2⟩ ⟨Nat.zero_le _, Nat.zero_le _⟩ ?_
          rintro _ s10 ⟨v11, rfl, h⟩
          show BW G tX9_withoutWords E 0 0 42 [(0, .ref a0), (2, .int x2), (3, .int x3), (4, .int x4)] [.int v11] s10
          refine BW.if_eq 54 (by decide +kernel : decode tX9_withoutWords.2.1 42 = .ok (.ifCond .eq 12, 3)) (by decide) (fun hc => ?_) (fun hc => ?_)
          · have h := (Ok.ite h).1 hc
            exact bX9_withoutWords_54 hRm hC hE h
          · have h := (Ok.ite h).2 hc
            refine BW.run [.iload_n 3, .iconst 1, .iload 4, .ishl, .iconst (-1), .ixor, .iand] (pc' := 53) (lv' := [(0, .ref a0), (2, .int x2), (3, .int x3), (4, .int x4)]) (st' := [.int (x3 &&& (((1 : Int32) <<< (x4 &&& 31)) ^^^ (-1 : Int32)))]) (by decide +kernel) rfl rfl ?_
            obtain ⟨v13, wv13, h⟩ := Ok.nm h
            refine BW.nm wv13 ?_
            refine BW.run [.istore_n 3] (pc' := 54) (lv' := [(0, .ref a0), (2, .int x2), (3, .int v13), (4, .int x4)]) (st' := []) (by decide +kernel) rfl rfl ?_
            exact bX9_withoutWords_54 hRm hC hE h
theorem bX9_withoutWords_W5 {G : Cx} {E : Ev} {n : Nat} (hRm : 1 ≤ E.1.frames ∧ 21 ≤ E.1.locals) {a0 : Nat} {x2 : Int32} {K : (Sg × Int32) → Prop} (hE : ∀ (s : Sg) (c3 : Int32), K (s, c3) → BW G tX9_withoutWords E 0 0 60 [(3, .int c3)] [] s) : ∀ (f : Nat) (c : Sg × Int32 × Int32), Ok (loopM (mX9_withoutWords_L5 n a0 x2) f c) K → match c with | (s0, x3, x4) => BW G tX9_withoutWords E 0 0 5 [(0, .ref a0), (2, .int x2), (3, .int x3), (4, .int x4)] [] s0 := by
  intro f
  induction f with
  | zero => intro c h; exact (Ok.no h).elim
  | succ f ih =>
    intro c h
    obtain ⟨s0, x3, x4⟩ := c
    exact bX9_withoutWords_L5 (P := loopP (mX9_withoutWords_L5 n a0 x2) f K) hRm (fun s c3 c4 h => ih (s, c3, c4) h) hE (loopM_ok h)
def mX9_withoutWords (n : Nat) (s0 : Sg) (a0 : Nat) (x1 : Int32) (x2 : Int32) : Option (Int32 × Sg) :=
  (isO 9 s0 a0).bind fun _ =>
  (loopM (mX9_withoutWords_L5 n a0 x2) n (s0, x1, (0 : Int32))).bind fun (s14, v15) =>
  some (v15, s14)
theorem bX9_withoutWords {G : Cx} {E : Ev} {n : Nat} (hRm : 1 ≤ E.1.frames ∧ 21 ≤ E.1.locals) {P : Int32 × Sg → Prop} (hQ : ∀ r s, P (r, s) → E.2.2.2.2 (some (.int r)) s) {s0 : Sg} {a0 : Nat} {x1 : Int32} {x2 : Int32} (h : Ok (mX9_withoutWords n s0 a0 x1 x2) P) : BW G tX9_withoutWords E 0 0 0 [(0, .ref a0), (1, .int x1), (2, .int x2)] [] s0 := by
  unfold mX9_withoutWords at h
  obtain ⟨_, _, h⟩ := Ok.bind h
  refine BW.run [.iload_n 1, .istore_n 3, .iconst 0, .istore 4] (pc' := 5) (lv' := [(0, .ref a0), (1, .int x1), (2, .int x2), (3, .int x1), (4, .int (0 : Int32))]) (st' := []) (by decide +kernel) rfl rfl ?_
  refine BW.sub [0, 2, 3, 4] rfl ?_
  refine bX9_withoutWords_W5 hRm (a0 := a0) (x2 := x2) (fun s14 v15 h => ?_) n (s0, x1, (0 : Int32)) (Ok.bindK h)
  refine BW.run [.iload_n 3] (pc' := 61) (lv' := [(3, .int v15)]) (st' := [.int v15]) (by decide +kernel) rfl rfl ?_
  exact BW.iret (by decide +kernel : decode tX9_withoutWords.2.1 61 = .ok (.ireturn, 1)) rfl (Nat.zero_le _) (Nat.zero_le _) (hQ _ _ (Ok.some h))
theorem oX9_withoutWords {n : Nat} {P : Int32 × Sg → Prop} {s0 : Sg} {a0 : Nat} {x1 : Int32} {x2 : Int32} (h : Ok (mX9_withoutWords n s0 a0 x1 x2) P) : ∃ n0, s0.2.1 a0 = some (9, n0) := by
  unfold mX9_withoutWords at h
  exact Ok.isO h
theorem DX9_withoutWords {G : Cx} {n : Nat} {P : Int32 × Sg → Prop} {s0 : Sg} {a0 : Nat} {x1 : Int32} {x2 : Int32} (h : Ok (mX9_withoutWords n s0 a0 x1 x2) P) : BM G tX9_withoutWords 1 21 0 0 [.ref a0, .int x1, .int x2] s0 (fun v s => ∃ r, v = some (.int r) ∧ P (r, s)) := by
  refine BM.of (by decide +kernel) (Nat.le_of_ble_eq_true rfl) ?_
  exact bX9_withoutWords (E := (({ frames := 1, cells := 0, slots := 0, locals := 21 }), Aof s0, 0, 0, (fun v s => ∃ r, v = some (.int r) ∧ P (r, s)))) ⟨Nat.le_refl _, Nat.le_refl _⟩ (fun r s hp => ⟨r, rfl, hp⟩) h
def mX9_liars_99 (n : Nat) (s0 : Sg) (a0 : Nat) (x1 : Int32) (x2 : Int32) (x3 : Int32) (x4 : Int32) : Option ((Sg × Int32 × Int32) ⊕ (Sg × Int32)) :=
  some (.inl (s0, x3, (x4 + (1 : Int32))))
theorem bX9_liars_99 {G : Cx} {E : Ev} {n : Nat} (hRm : 5 ≤ E.1.frames ∧ 112 ≤ E.1.locals) {s0 : Sg} {a0 : Nat} {x1 : Int32} {x2 : Int32} {x3 : Int32} {x4 : Int32} {P : (Sg × Int32 × Int32) ⊕ (Sg × Int32) → Prop} (hC : ∀ (s : Sg) (c3 : Int32) (c4 : Int32), P (.inl (s, c3, c4)) → BW G tX9_liars E 0 0 44 [(0, .ref a0), (1, .int x1), (2, .int x2), (3, .int c3), (4, .int c4)] [] s) (hE : ∀ (s : Sg) (c3 : Int32), P (.inr (s, c3)) → BW G tX9_liars E 0 0 105 [(3, .int c3)] [] s)  (h : Ok (mX9_liars_99 n s0 a0 x1 x2 x3 x4) P) : BW G tX9_liars E 0 0 99 [(0, .ref a0), (1, .int x1), (2, .int x2), (3, .int x3), (4, .int x4)] [] s0 := by
  unfold mX9_liars_99 at h
  refine BW.run [.iinc 4 1] (pc' := 102) (lv' := [(0, .ref a0), (1, .int x1), (2, .int x2), (3, .int x3), (4, .int (x4 + (1 : Int32)))]) (st' := []) (by decide +kernel) rfl rfl ?_
  refine BW.goto 44 (by decide +kernel : decode tX9_liars.2.1 102 = .ok (.goto (-58), 3)) (by decide) ?_
  exact hC _ _ _ (Ok.some h)
def mX9_liars_74 (n : Nat) (s0 : Sg) (t0 : Int32) (a0 : Nat) (x1 : Int32) (x2 : Int32) (x3 : Int32) (x4 : Int32) : Option ((Sg × Int32 × Int32) ⊕ (Sg × Int32)) :=
  if t0 = 0 then (
    mX9_liars_99 n s0 a0 x1 x2 x3 x4
  ) else (
    (mX9_withoutWords n s0 a0 x1 x4).bind fun (v17, s16) =>
    (mX9_drawNet n s16 a0 v17).bind fun (v20, s19) =>
    if v20 = (-1 : Int32) then (
      mX9_liars_99 n s19 a0 x1 x2 x4 x4
    ) else (
      mX9_liars_99 n s19 a0 x1 x2 x3 x4
    )
  )
theorem bX9_liars_74 {G : Cx} {E : Ev} {n : Nat} (hRm : 5 ≤ E.1.frames ∧ 112 ≤ E.1.locals) {s0 : Sg} {t0 : Int32} {a0 : Nat} {x1 : Int32} {x2 : Int32} {x3 : Int32} {x4 : Int32} {P : (Sg × Int32 × Int32) ⊕ (Sg × Int32) → Prop} (hC : ∀ (s : Sg) (c3 : Int32) (c4 : Int32), P (.inl (s, c3, c4)) → BW G tX9_liars E 0 0 44 [(0, .ref a0), (1, .int x1), (2, .int x2), (3, .int c3), (4, .int c4)] [] s) (hE : ∀ (s : Sg) (c3 : Int32), P (.inr (s, c3)) → BW G tX9_liars E 0 0 105 [(3, .int c3)] [] s)  (h : Ok (mX9_liars_74 n s0 t0 a0 x1 x2 x3 x4) P) : BW G tX9_liars E 0 0 74 [(0, .ref a0), (1, .int x1), (2, .int x2), (3, .int x3), (4, .int x4)] [.int t0] s0 := by
  unfold mX9_liars_74 at h
  refine BW.run [.istore 5, .iload 5] (pc' := 78) (lv' := [(0, .ref a0), (1, .int x1), (2, .int x2), (3, .int x3), (4, .int x4), (5, .int t0)]) (st' := [.int t0]) (by decide +kernel) rfl rfl ?_
  refine BW.if_eq 99 (by decide +kernel : decode tX9_liars.2.1 78 = .ok (.ifCond .eq 21, 3)) (by decide) (fun hc => ?_) (fun hc => ?_)
  · have h := (Ok.ite h).1 hc
    refine BW.sub [0, 1, 2, 3, 4] rfl ?_
    exact bX9_liars_99 hRm hC hE h
  · have h := (Ok.ite h).2 hc
    refine BW.run [.aload_n 0, .aload_n 0, .iload_n 1, .iload 4] (pc' := 86) (lv' := [(0, .ref a0), (1, .int x1), (2, .int x2), (3, .int x3), (4, .int x4), (5, .int t0)]) (st' := [.int x4, .int x1, .ref a0, .ref a0]) (by decide +kernel) rfl rfl ?_
    refine BW.callV (As := [.int x1, .int x4]) (st := [.ref a0]) (by decide +kernel : decode tX9_liars.2.1 86 = .ok (.invokevirtual 214, 3)) (DX9_withoutWords (Ok.bindK h)) mfX9_withoutWords lkM_X9_214 imX9_withoutWords selX9_withoutWords ciX9 (oX9_withoutWords (Ok.bindK h)).choose_spec rfl rfl (Nat.le_of_ble_eq_true rfl) ⟨Nat.le_trans (by decide) hRm.1, Nat.le_trans (by decide) hRm.2⟩ ⟨Nat.zero_le _, Nat.zero_le _⟩ ?_
    rintro _ s16 ⟨v17, rfl, h⟩
    show BW G tX9_liars E 0 0 89 [(0, .ref a0), (1, .int x1), (2, .int x2), (3, .int x3), (4, .int x4), (5, .int t0)] [.int v17, .ref a0] s16
    refine BW.callV (As := [.int v17]) (st := []) (by decide +kernel : decode tX9_liars.2.1 89 = .ok (.invokevirtual 199, 3)) (DX9_drawNet (Ok.bindK h)) mfX9_drawNet lkM_X9_199 imX9_drawNet selX9_drawNet ciX9 (oX9_drawNet (Ok.bindK h)).choose_spec rfl rfl (Nat.le_of_ble_eq_true rfl) ⟨Nat.le_trans (by decide) hRm.1, Nat.le_trans (by decide) hRm.2⟩ ⟨Nat.zero_le _, Nat.zero_le _⟩ ?_
    rintro _ s19 ⟨v20, rfl, h⟩
    show BW G tX9_liars E 0 0 92 [(0, .ref a0), (1, .int x1), (2, .int x2), (3, .int x3), (4, .int x4), (5, .int t0)] [.int v20] s19
    refine BW.run [.iconst (-1)] (pc' := 93) (lv' := [(0, .ref a0), (1, .int x1), (2, .int x2), (3, .int x3), (4, .int x4), (5, .int t0)]) (st' := [.int (-1 : Int32), .int v20]) (by decide +kernel) rfl rfl ?_
    refine BW.icmp_ne 99 (by decide +kernel : decode tX9_liars.2.1 93 = .ok (.if_icmp .ne 6, 3)) (by decide) (fun hc => ?_) (fun hc => ?_)
    · have h := (Ok.ite h).2 hc
      refine BW.sub [0, 1, 2, 3, 4] rfl ?_
      exact bX9_liars_99 hRm hC hE h
    · have h := (Ok.ite h).1 hc
      refine BW.run [.iload 4, .istore_n 3] (pc' := 99) (lv' := [(0, .ref a0), (1, .int x1), (2, .int x2), (3, .int x4), (4, .int x4), (5, .int t0)]) (st' := []) (by decide +kernel) rfl rfl ?_
      refine BW.sub [0, 1, 2, 3, 4] rfl ?_
      exact bX9_liars_99 hRm hC hE h
def mX9_liars_73 (n : Nat) (s0 : Sg) (a0 : Nat) (x1 : Int32) (x2 : Int32) (x3 : Int32) (x4 : Int32) : Option ((Sg × Int32 × Int32) ⊕ (Sg × Int32)) :=
  mX9_liars_74 n s0 (0 : Int32) a0 x1 x2 x3 x4
theorem bX9_liars_73 {G : Cx} {E : Ev} {n : Nat} (hRm : 5 ≤ E.1.frames ∧ 112 ≤ E.1.locals) {s0 : Sg} {a0 : Nat} {x1 : Int32} {x2 : Int32} {x3 : Int32} {x4 : Int32} {P : (Sg × Int32 × Int32) ⊕ (Sg × Int32) → Prop} (hC : ∀ (s : Sg) (c3 : Int32) (c4 : Int32), P (.inl (s, c3, c4)) → BW G tX9_liars E 0 0 44 [(0, .ref a0), (1, .int x1), (2, .int x2), (3, .int c3), (4, .int c4)] [] s) (hE : ∀ (s : Sg) (c3 : Int32), P (.inr (s, c3)) → BW G tX9_liars E 0 0 105 [(3, .int c3)] [] s)  (h : Ok (mX9_liars_73 n s0 a0 x1 x2 x3 x4) P) : BW G tX9_liars E 0 0 73 [(0, .ref a0), (1, .int x1), (2, .int x2), (3, .int x3), (4, .int x4)] [] s0 := by
  unfold mX9_liars_73 at h
  refine BW.run [.iconst 0] (pc' := 74) (lv' := [(0, .ref a0), (1, .int x1), (2, .int x2), (3, .int x3), (4, .int x4)]) (st' := [.int (0 : Int32)]) (by decide +kernel) rfl rfl ?_
  exact bX9_liars_74 hRm hC hE h
def mX9_liars_L44 (n : Nat) (a0 : Nat) (x1 : Int32) (x2 : Int32) : (Sg × Int32 × Int32) → Option ((Sg × Int32 × Int32) ⊕ (Sg × Int32))
  | (s0, x3, x4) =>
    if (64 : Int32) ≤ x4 then (
      some (.inr (s0, x3))
    ) else (
      if (x4 &&& (x2 ^^^ (-1 : Int32))) = 0 then (
        (mX9_isBlamedBefore n s0 x4 x3).bind fun (v23, s22) =>
        if v23 = 0 then (
          mX9_liars_73 n s22 a0 x1 x2 x3 x4
        ) else (
          mX9_liars_74 n s22 (1 : Int32) a0 x1 x2 x3 x4
        )
      ) else (
        mX9_liars_73 n s0 a0 x1 x2 x3 x4
      )
    )
theorem bX9_liars_L44 {G : Cx} {E : Ev} {n : Nat} (hRm : 5 ≤ E.1.frames ∧ 112 ≤ E.1.locals) {a0 : Nat} {x1 : Int32} {x2 : Int32} {P : (Sg × Int32 × Int32) ⊕ (Sg × Int32) → Prop} (hC : ∀ (s : Sg) (c3 : Int32) (c4 : Int32), P (.inl (s, c3, c4)) → BW G tX9_liars E 0 0 44 [(0, .ref a0), (1, .int x1), (2, .int x2), (3, .int c3), (4, .int c4)] [] s) (hE : ∀ (s : Sg) (c3 : Int32), P (.inr (s, c3)) → BW G tX9_liars E 0 0 105 [(3, .int c3)] [] s) {s0 : Sg} {x3 : Int32} {x4 : Int32} (h : Ok (mX9_liars_L44 n a0 x1 x2 (s0, x3, x4)) P) : BW G tX9_liars E 0 0 44 [(0, .ref a0), (1, .int x1), (2, .int x2), (3, .int x3), (4, .int x4)] [] s0 := by
  unfold mX9_liars_L44 at h
  refine BW.run [.iload 4, .bipush 64] (pc' := 48) (lv' := [(0, .ref a0), (1, .int x1), (2, .int x2), (3, .int x3), (4, .int x4)]) (st' := [.int (64 : Int32), .int x4]) (by decide +kernel) rfl rfl ?_
  refine BW.icmp_ge 105 (by decide +kernel : decode tX9_liars.2.1 48 = .ok (.if_icmp .ge 57, 3)) (by decide) (fun hc => ?_) (fun hc => ?_)
  · have h := (Ok.ite h).1 hc
    refine BW.sub [3] rfl ?_
    exact hE _ _ (Ok.some h)
  · have h := (Ok.ite h).2 hc
    refine BW.run [.iload 4, .iload_n 2, .iconst (-1), .ixor, .iand] (pc' := 57) (lv' := [(0, .ref a0), (1, .int x1), (2, .int x2), (3, .int x3), (4, .int x4)]) (st' := [.int (x4 &&& (x2 ^^^ (-1 : Int32)))]) (by decide +kernel) rfl rfl ?_
    refine BW.if_ne 73 (by decide +kernel : decode tX9_liars.2.1 57 = .ok (.ifCond .ne 16, 3)) (by decide) (fun hc => ?_) (fun hc => ?_)
    · have h := (Ok.ite h).2 hc
      exact bX9_liars_73 hRm hC hE h
    · have h := (Ok.ite h).1 hc
      refine BW.run [.iload 4, .iload_n 3] (pc' := 63) (lv' := [(0, .ref a0), (1, .int x1), (2, .int x2), (3, .int x3), (4, .int x4)]) (st' := [.int x3, .int x4]) (by decide +kernel) rfl rfl ?_
      refine BW.callS (As := [.int x4, .int x3]) (st := []) (by decide +kernel : decode tX9_liars.2.1 63 = .ok (.invokestatic 220, 3)) (DX9_isBlamedBefore (Ok.bindK h)) mfX9_isBlamedBefore lkM_X9_220 smX9_isBlamedBefore rfl rfl (Nat.le_of_ble_eq_true rfl) ⟨Nat.le_trans (by decide) hRm.1, Nat.le_trans (by decide) hRm.2⟩ ⟨Nat.zero_le _, Nat.zero_le _⟩ ?_
      rintro _ s22 ⟨v23, rfl, h⟩
      show BW G tX9_liars E 0 0 66 [(0, .ref a0), (1, .int x1), (2, .int x2), (3, .int x3), (4, .int x4)] [.int v23] s22
      refine BW.if_eq 73 (by decide +kernel : decode tX9_liars.2.1 66 = .ok (.ifCond .eq 7, 3)) (by decide) (fun hc => ?_) (fun hc => ?_)
      · have h := (Ok.ite h).1 hc
        exact bX9_liars_73 hRm hC hE h
      · have h := (Ok.ite h).2 hc
        refine BW.run [.iconst 1] (pc' := 70) (lv' := [(0, .ref a0), (1, .int x1), (2, .int x2), (3, .int x3), (4, .int x4)]) (st' := [.int (1 : Int32)]) (by decide +kernel) rfl rfl ?_
        refine BW.goto 74 (by decide +kernel : decode tX9_liars.2.1 70 = .ok (.goto 4, 3)) (by decide) ?_
        exact bX9_liars_74 hRm hC hE h
theorem bX9_liars_W44 {G : Cx} {E : Ev} {n : Nat} (hRm : 5 ≤ E.1.frames ∧ 112 ≤ E.1.locals) {a0 : Nat} {x1 : Int32} {x2 : Int32} {K : (Sg × Int32) → Prop} (hE : ∀ (s : Sg) (c3 : Int32), K (s, c3) → BW G tX9_liars E 0 0 105 [(3, .int c3)] [] s) : ∀ (f : Nat) (c : Sg × Int32 × Int32), Ok (loopM (mX9_liars_L44 n a0 x1 x2) f c) K → match c with | (s0, x3, x4) => BW G tX9_liars E 0 0 44 [(0, .ref a0), (1, .int x1), (2, .int x2), (3, .int x3), (4, .int x4)] [] s0 := by
  intro f
  induction f with
  | zero => intro c h; exact (Ok.no h).elim
  | succ f ih =>
    intro c h
    obtain ⟨s0, x3, x4⟩ := c
    exact bX9_liars_L44 (P := loopP (mX9_liars_L44 n a0 x1 x2) f K) hRm (fun s c3 c4 h => ih (s, c3, c4) h) hE (loopM_ok h)
def mX9_liars (n : Nat) (s0 : Sg) (a0 : Nat) (x1 : Int32) : Option (Int32 × Sg) :=
  (isO 9 s0 a0).bind fun _ =>
  (mX9_isSet n s0 a0 x1).bind fun (v2, s1) =>
  if v2 = 0 then (
    some ((-1 : Int32), s1)
  ) else (
    (mX9_drawNet n s1 a0 x1).bind fun (v5, s4) =>
    if v5 = (-1 : Int32) then (
      some ((-1 : Int32), s4)
    ) else (
      (mX9_withoutWords n s4 a0 x1 (-1 : Int32)).bind fun (v8, s7) =>
      (mX9_drawNet n s7 a0 v8).bind fun (v11, s10) =>
      if v11 = (-1 : Int32) then (
        (mX9_speakersOf n s10 a0 x1).bind fun (v14, s13) =>
        (loopM (mX9_liars_L44 n a0 x1 v14) n (s13, v14, (1 : Int32))).bind fun (s25, v26) =>
        some (v26, s25)
      ) else (
        some ((-1 : Int32), s10)
      )
    )
  )
theorem bX9_liars {G : Cx} {E : Ev} {n : Nat} (hRm : 5 ≤ E.1.frames ∧ 112 ≤ E.1.locals) {P : Int32 × Sg → Prop} (hQ : ∀ r s, P (r, s) → E.2.2.2.2 (some (.int r)) s) {s0 : Sg} {a0 : Nat} {x1 : Int32} (h : Ok (mX9_liars n s0 a0 x1) P) : BW G tX9_liars E 0 0 0 [(0, .ref a0), (1, .int x1)] [] s0 := by
  unfold mX9_liars at h
  obtain ⟨_, _, h⟩ := Ok.bind h
  refine BW.run [.aload_n 0, .iload_n 1] (pc' := 2) (lv' := [(0, .ref a0), (1, .int x1)]) (st' := [.int x1, .ref a0]) (by decide +kernel) rfl rfl ?_
  refine BW.callV (As := [.int x1]) (st := []) (by decide +kernel : decode tX9_liars.2.1 2 = .ok (.invokevirtual 196, 3)) (DX9_isSet (Ok.bindK h)) mfX9_isSet lkM_X9_196 imX9_isSet selX9_isSet ciX9 (oX9_isSet (Ok.bindK h)).choose_spec rfl rfl (Nat.le_of_ble_eq_true rfl) ⟨Nat.le_trans (by decide) hRm.1, Nat.le_trans (by decide) hRm.2⟩ ⟨Nat.zero_le _, Nat.zero_le _⟩ ?_
  rintro _ s1 ⟨v2, rfl, h⟩
  show BW G tX9_liars E 0 0 5 [(0, .ref a0), (1, .int x1)] [.int v2] s1
  refine BW.if_eq 31 (by decide +kernel : decode tX9_liars.2.1 5 = .ok (.ifCond .eq 26, 3)) (by decide) (fun hc => ?_) (fun hc => ?_)
  · have h := (Ok.ite h).1 hc
    refine BW.run [.iconst (-1)] (pc' := 32) (lv' := [(0, .ref a0), (1, .int x1)]) (st' := [.int (-1 : Int32)]) (by decide +kernel) rfl rfl ?_
    exact BW.iret (by decide +kernel : decode tX9_liars.2.1 32 = .ok (.ireturn, 1)) rfl (Nat.zero_le _) (Nat.zero_le _) (hQ _ _ (Ok.some h))
  · have h := (Ok.ite h).2 hc
    refine BW.run [.aload_n 0, .iload_n 1] (pc' := 10) (lv' := [(0, .ref a0), (1, .int x1)]) (st' := [.int x1, .ref a0]) (by decide +kernel) rfl rfl ?_
    refine BW.callV (As := [.int x1]) (st := []) (by decide +kernel : decode tX9_liars.2.1 10 = .ok (.invokevirtual 199, 3)) (DX9_drawNet (Ok.bindK h)) mfX9_drawNet lkM_X9_199 imX9_drawNet selX9_drawNet ciX9 (oX9_drawNet (Ok.bindK h)).choose_spec rfl rfl (Nat.le_of_ble_eq_true rfl) ⟨Nat.le_trans (by decide) hRm.1, Nat.le_trans (by decide) hRm.2⟩ ⟨Nat.zero_le _, Nat.zero_le _⟩ ?_
    rintro _ s4 ⟨v5, rfl, h⟩
    show BW G tX9_liars E 0 0 13 [(0, .ref a0), (1, .int x1)] [.int v5] s4
    refine BW.run [.iconst (-1)] (pc' := 14) (lv' := [(0, .ref a0), (1, .int x1)]) (st' := [.int (-1 : Int32), .int v5]) (by decide +kernel) rfl rfl ?_
    refine BW.icmp_eq 31 (by decide +kernel : decode tX9_liars.2.1 14 = .ok (.if_icmp .eq 17, 3)) (by decide) (fun hc => ?_) (fun hc => ?_)
    · have h := (Ok.ite h).1 hc
      refine BW.run [.iconst (-1)] (pc' := 32) (lv' := [(0, .ref a0), (1, .int x1)]) (st' := [.int (-1 : Int32)]) (by decide +kernel) rfl rfl ?_
      exact BW.iret (by decide +kernel : decode tX9_liars.2.1 32 = .ok (.ireturn, 1)) rfl (Nat.zero_le _) (Nat.zero_le _) (hQ _ _ (Ok.some h))
    · have h := (Ok.ite h).2 hc
      refine BW.run [.aload_n 0, .aload_n 0, .iload_n 1, .iconst (-1)] (pc' := 21) (lv' := [(0, .ref a0), (1, .int x1)]) (st' := [.int (-1 : Int32), .int x1, .ref a0, .ref a0]) (by decide +kernel) rfl rfl ?_
      refine BW.callV (As := [.int x1, .int (-1 : Int32)]) (st := [.ref a0]) (by decide +kernel : decode tX9_liars.2.1 21 = .ok (.invokevirtual 214, 3)) (DX9_withoutWords (Ok.bindK h)) mfX9_withoutWords lkM_X9_214 imX9_withoutWords selX9_withoutWords ciX9 (oX9_withoutWords (Ok.bindK h)).choose_spec rfl rfl (Nat.le_of_ble_eq_true rfl) ⟨Nat.le_trans (by decide) hRm.1, Nat.le_trans (by decide) hRm.2⟩ ⟨Nat.zero_le _, Nat.zero_le _⟩ ?_
      rintro _ s7 ⟨v8, rfl, h⟩
      show BW G tX9_liars E 0 0 24 [(0, .ref a0), (1, .int x1)] [.int v8, .ref a0] s7
      refine BW.callV (As := [.int v8]) (st := []) (by decide +kernel : decode tX9_liars.2.1 24 = .ok (.invokevirtual 199, 3)) (DX9_drawNet (Ok.bindK h)) mfX9_drawNet lkM_X9_199 imX9_drawNet selX9_drawNet ciX9 (oX9_drawNet (Ok.bindK h)).choose_spec rfl rfl (Nat.le_of_ble_eq_true rfl) ⟨Nat.le_trans (by decide) hRm.1, Nat.le_trans (by decide) hRm.2⟩ ⟨Nat.zero_le _, Nat.zero_le _⟩ ?_
      rintro _ s10 ⟨v11, rfl, h⟩
      show BW G tX9_liars E 0 0 27 [(0, .ref a0), (1, .int x1)] [.int v11] s10
      refine BW.run [.iconst (-1)] (pc' := 28) (lv' := [(0, .ref a0), (1, .int x1)]) (st' := [.int (-1 : Int32), .int v11]) (by decide +kernel) rfl rfl ?_
      refine BW.icmp_eq 33 (by decide +kernel : decode tX9_liars.2.1 28 = .ok (.if_icmp .eq 5, 3)) (by decide) (fun hc => ?_) (fun hc => ?_)
      · have h := (Ok.ite h).1 hc
        refine BW.run [.aload_n 0, .iload_n 1] (pc' := 35) (lv' := [(0, .ref a0), (1, .int x1)]) (st' := [.int x1, .ref a0]) (by decide +kernel) rfl rfl ?_
        refine BW.callV (As := [.int x1]) (st := []) (by decide +kernel : decode tX9_liars.2.1 35 = .ok (.invokevirtual 217, 3)) (DX9_speakersOf (Ok.bindK h)) mfX9_speakersOf lkM_X9_217 imX9_speakersOf selX9_speakersOf ciX9 (oX9_speakersOf (Ok.bindK h)).choose_spec rfl rfl (Nat.le_of_ble_eq_true rfl) ⟨Nat.le_trans (by decide) hRm.1, Nat.le_trans (by decide) hRm.2⟩ ⟨Nat.zero_le _, Nat.zero_le _⟩ ?_
        rintro _ s13 ⟨v14, rfl, h⟩
        show BW G tX9_liars E 0 0 38 [(0, .ref a0), (1, .int x1)] [.int v14] s13
        refine BW.run [.istore_n 2, .iload_n 2, .istore_n 3, .iconst 1, .istore 4] (pc' := 44) (lv' := [(0, .ref a0), (1, .int x1), (2, .int v14), (3, .int v14), (4, .int (1 : Int32))]) (st' := []) (by decide +kernel) rfl rfl ?_
        refine bX9_liars_W44 hRm (a0 := a0) (x1 := x1) (x2 := v14) (fun s25 v26 h => ?_) n (s13, v14, (1 : Int32)) (Ok.bindK h)
        refine BW.run [.iload_n 3] (pc' := 106) (lv' := [(3, .int v26)]) (st' := [.int v26]) (by decide +kernel) rfl rfl ?_
        exact BW.iret (by decide +kernel : decode tX9_liars.2.1 106 = .ok (.ireturn, 1)) rfl (Nat.zero_le _) (Nat.zero_le _) (hQ _ _ (Ok.some h))
      · have h := (Ok.ite h).2 hc
        refine BW.run [.iconst (-1)] (pc' := 32) (lv' := [(0, .ref a0), (1, .int x1)]) (st' := [.int (-1 : Int32)]) (by decide +kernel) rfl rfl ?_
        exact BW.iret (by decide +kernel : decode tX9_liars.2.1 32 = .ok (.ireturn, 1)) rfl (Nat.zero_le _) (Nat.zero_le _) (hQ _ _ (Ok.some h))
theorem oX9_liars {n : Nat} {P : Int32 × Sg → Prop} {s0 : Sg} {a0 : Nat} {x1 : Int32} (h : Ok (mX9_liars n s0 a0 x1) P) : ∃ n0, s0.2.1 a0 = some (9, n0) := by
  unfold mX9_liars at h
  exact Ok.isO h
theorem DX9_liars {G : Cx} {n : Nat} {P : Int32 × Sg → Prop} {s0 : Sg} {a0 : Nat} {x1 : Int32} (h : Ok (mX9_liars n s0 a0 x1) P) : BM G tX9_liars 5 112 0 0 [.ref a0, .int x1] s0 (fun v s => ∃ r, v = some (.int r) ∧ P (r, s)) := by
  refine BM.of (by decide +kernel) (Nat.le_of_ble_eq_true rfl) ?_
  exact bX9_liars (E := (({ frames := 5, cells := 0, slots := 0, locals := 112 }), Aof s0, 0, 0, (fun v s => ∃ r, v = some (.int r) ∧ P (r, s)))) ⟨Nat.le_refl _, Nat.le_refl _⟩ (fun r s hp => ⟨r, rfl, hp⟩) h
def mX9_lookAtCrossing (n : Nat) (s0 : Sg) (a0 : Nat) (x1 : Int32) (x2 : Int32) (x3 : Int32) : Option (Sg) :=
  (isO 9 s0 a0).bind fun _ =>
  (mX9_leadToLieAbove n s0 a0 x1 x2 x3).bind fun (v2, s1) =>
  (mX9_verdict n s1 a0 x1 x2 v2).bind fun (v5, s4) =>
  if v5 = (-1 : Int32) then (
    (toR (gV 9 s4 a0 11)).bind fun b7 =>
    (mX9_pointOf n s4 x1).bind fun (v9, s8) =>
    (mX9_pointOf n s8 x2).bind fun (v12, s11) =>
    (mX4_spanWith n s11 b7 v9 v12 v2).bind fun (v15, s14) =>
    (toR (gV 9 s14 a0 15)).bind fun b17 =>
    (mX3_isBetter n s14 b17 v15).bind fun (v19, s18) =>
    if v19 = 0 then (
      some s18
    ) else (
      (toR (gV 9 s18 a0 11)).bind fun b21 =>
      (mX9_pointOf n s18 x2).bind fun (v23, s22) =>
      (mX9_pointOf n s22 x1).bind fun (v26, s25) =>
      (mX9_leadToLieAbove n s25 a0 x2 x1 x3).bind fun (v29, s28) =>
      (mX4_spanWith n s28 b21 v23 v26 v29).bind fun (v32, s31) =>
      (toR (gV 9 s31 a0 15)).bind fun b34 =>
      (mX3_offer n s31 b34 x1 x2 x3 (jmax v15 v32)).bind fun s35 =>
      some s35
    )
  ) else (
    some s4
  )
theorem bX9_lookAtCrossing {G : Cx} {E : Ev} {n : Nat} (hRm : 4 ≤ E.1.frames ∧ 88 ≤ E.1.locals) {P : Sg → Prop} (hQ : ∀ s, P s → E.2.2.2.2 none s) {s0 : Sg} {a0 : Nat} {x1 : Int32} {x2 : Int32} {x3 : Int32} (h : Ok (mX9_lookAtCrossing n s0 a0 x1 x2 x3) P) : BW G tX9_lookAtCrossing E 0 0 0 [(0, .ref a0), (1, .int x1), (2, .int x2), (3, .int x3)] [] s0 := by
  unfold mX9_lookAtCrossing at h
  obtain ⟨_, _, h⟩ := Ok.bind h
  refine BW.run [.aload_n 0, .iload_n 1, .iload_n 2, .iload_n 3] (pc' := 4) (lv' := [(0, .ref a0), (1, .int x1), (2, .int x2), (3, .int x3)]) (st' := [.int x3, .int x2, .int x1, .ref a0]) (by decide +kernel) rfl rfl ?_
  refine BW.callV (As := [.int x1, .int x2, .int x3]) (st := []) (by decide +kernel : decode tX9_lookAtCrossing.2.1 4 = .ok (.invokevirtual 249, 3)) (DX9_leadToLieAbove (Ok.bindK h)) mfX9_leadToLieAbove lkM_X9_249 imX9_leadToLieAbove selX9_leadToLieAbove ciX9 (oX9_leadToLieAbove (Ok.bindK h)).choose_spec rfl rfl (Nat.le_of_ble_eq_true rfl) ⟨Nat.le_trans (by decide) hRm.1, Nat.le_trans (by decide) hRm.2⟩ ⟨Nat.zero_le _, Nat.zero_le _⟩ ?_
  rintro _ s1 ⟨v2, rfl, h⟩
  show BW G tX9_lookAtCrossing E 0 0 7 [(0, .ref a0), (1, .int x1), (2, .int x2), (3, .int x3)] [.int v2] s1
  refine BW.run [.istore 4, .aload_n 0, .iload_n 1, .iload_n 2, .iload 4] (pc' := 14) (lv' := [(0, .ref a0), (1, .int x1), (2, .int x2), (3, .int x3), (4, .int v2)]) (st' := [.int v2, .int x2, .int x1, .ref a0]) (by decide +kernel) rfl rfl ?_
  refine BW.callV (As := [.int x1, .int x2, .int v2]) (st := []) (by decide +kernel : decode tX9_lookAtCrossing.2.1 14 = .ok (.invokevirtual 253, 3)) (DX9_verdict (Ok.bindK h)) mfX9_verdict lkM_X9_253 imX9_verdict selX9_verdict ciX9 (oX9_verdict (Ok.bindK h)).choose_spec rfl rfl (Nat.le_of_ble_eq_true rfl) ⟨Nat.le_trans (by decide) hRm.1, Nat.le_trans (by decide) hRm.2⟩ ⟨Nat.zero_le _, Nat.zero_le _⟩ ?_
  rintro _ s4 ⟨v5, rfl, h⟩
  show BW G tX9_lookAtCrossing E 0 0 17 [(0, .ref a0), (1, .int x1), (2, .int x2), (3, .int x3), (4, .int v2)] [.int v5] s4
  refine BW.run [.iconst (-1)] (pc' := 18) (lv' := [(0, .ref a0), (1, .int x1), (2, .int x2), (3, .int x3), (4, .int v2)]) (st' := [.int (-1 : Int32), .int v5]) (by decide +kernel) rfl rfl ?_
  refine BW.icmp_eq 22 (by decide +kernel : decode tX9_lookAtCrossing.2.1 18 = .ok (.if_icmp .eq 4, 3)) (by decide) (fun hc => ?_) (fun hc => ?_)
  · have h := (Ok.ite h).1 hc
    refine BW.run [.aload_n 0] (pc' := 23) (lv' := [(0, .ref a0), (1, .int x1), (2, .int x2), (3, .int x3), (4, .int v2)]) (st' := [.ref a0]) (by decide +kernel) rfl rfl ?_
    obtain ⟨b7, eb7, h⟩ := Ok.bind h
    refine BW.get (by decide +kernel : decode tX9_lookAtCrossing.2.1 23 = .ok (.getfield 45, 3)) ciX9 (k := 11) (by decide) lkF_X9_45 (toR_V eb7) ?_
    refine BW.run [.iload_n 1] (pc' := 27) (lv' := [(0, .ref a0), (1, .int x1), (2, .int x2), (3, .int x3), (4, .int v2)]) (st' := [.int x1, .ref b7]) (by decide +kernel) rfl rfl ?_
    refine BW.callS (As := [.int x1]) (st := [.ref b7]) (by decide +kernel : decode tX9_lookAtCrossing.2.1 27 = .ok (.invokestatic 325, 3)) (DX9_pointOf (Ok.bindK h)) mfX9_pointOf lkM_X9_325 smX9_pointOf rfl rfl (Nat.le_of_ble_eq_true rfl) ⟨Nat.le_trans (by decide) hRm.1, Nat.le_trans (by decide) hRm.2⟩ ⟨Nat.zero_le _, Nat.zero_le _⟩ ?_
    rintro _ s8 ⟨v9, rfl, h⟩
    show BW G tX9_lookAtCrossing E 0 0 30 [(0, .ref a0), (1, .int x1), (2, .int x2), (3, .int x3), (4, .int v2)] [.int v9, .ref b7] s8
    refine BW.run [.iload_n 2] (pc' := 31) (lv' := [(0, .ref a0), (1, .int x1), (2, .int x2), (3, .int x3), (4, .int v2)]) (st' := [.int x2, .int v9, .ref b7]) (by decide +kernel) rfl rfl ?_
    refine BW.callS (As := [.int x2]) (st := [.int v9, .ref b7]) (by decide +kernel : decode tX9_lookAtCrossing.2.1 31 = .ok (.invokestatic 325, 3)) (DX9_pointOf (Ok.bindK h)) mfX9_pointOf lkM_X9_325 smX9_pointOf rfl rfl (Nat.le_of_ble_eq_true rfl) ⟨Nat.le_trans (by decide) hRm.1, Nat.le_trans (by decide) hRm.2⟩ ⟨Nat.zero_le _, Nat.zero_le _⟩ ?_
    rintro _ s11 ⟨v12, rfl, h⟩
    show BW G tX9_lookAtCrossing E 0 0 34 [(0, .ref a0), (1, .int x1), (2, .int x2), (3, .int x3), (4, .int v2)] [.int v12, .int v9, .ref b7] s11
    refine BW.run [.iload 4] (pc' := 36) (lv' := [(0, .ref a0), (1, .int x1), (2, .int x2), (3, .int x3), (4, .int v2)]) (st' := [.int v2, .int v12, .int v9, .ref b7]) (by decide +kernel) rfl rfl ?_
    refine BW.callV (As := [.int v9, .int v12, .int v2]) (st := []) (by decide +kernel : decode tX9_lookAtCrossing.2.1 36 = .ok (.invokevirtual 344, 3)) (DX4_spanWith (Ok.bindK h)) mfX4_spanWith lkM_X9_344 imX4_spanWith selX4_spanWith ciX4 (oX4_spanWith (Ok.bindK h)).choose_spec rfl rfl (Nat.le_of_ble_eq_true rfl) ⟨Nat.le_trans (by decide) hRm.1, Nat.le_trans (by decide) hRm.2⟩ ⟨Nat.zero_le _, Nat.zero_le _⟩ ?_
    rintro _ s14 ⟨v15, rfl, h⟩
    show BW G tX9_lookAtCrossing E 0 0 39 [(0, .ref a0), (1, .int x1), (2, .int x2), (3, .int x3), (4, .int v2)] [.int v15] s14
    refine BW.run [.istore 5, .aload_n 0] (pc' := 42) (lv' := [(0, .ref a0), (1, .int x1), (2, .int x2), (3, .int x3), (4, .int v2), (5, .int v15)]) (st' := [.ref a0]) (by decide +kernel) rfl rfl ?_
    obtain ⟨b17, eb17, h⟩ := Ok.bind h
    refine BW.get (by decide +kernel : decode tX9_lookAtCrossing.2.1 42 = .ok (.getfield 73, 3)) ciX9 (k := 15) (by decide) lkF_X9_73 (toR_V eb17) ?_
    refine BW.run [.iload 5] (pc' := 47) (lv' := [(0, .ref a0), (1, .int x1), (2, .int x2), (3, .int x3), (4, .int v2), (5, .int v15)]) (st' := [.int v15, .ref b17]) (by decide +kernel) rfl rfl ?_
    refine BW.callV (As := [.int v15]) (st := []) (by decide +kernel : decode tX9_lookAtCrossing.2.1 47 = .ok (.invokevirtual 347, 3)) (DX3_isBetter (Ok.bindK h)) mfX3_isBetter lkM_X9_347 imX3_isBetter selX3_isBetter ciX3 (oX3_isBetter (Ok.bindK h)).choose_spec rfl rfl (Nat.le_of_ble_eq_true rfl) ⟨Nat.le_trans (by decide) hRm.1, Nat.le_trans (by decide) hRm.2⟩ ⟨Nat.zero_le _, Nat.zero_le _⟩ ?_
    rintro _ s18 ⟨v19, rfl, h⟩
    show BW G tX9_lookAtCrossing E 0 0 50 [(0, .ref a0), (1, .int x1), (2, .int x2), (3, .int x3), (4, .int v2), (5, .int v15)] [.int v19] s18
    refine BW.if_eq 94 (by decide +kernel : decode tX9_lookAtCrossing.2.1 50 = .ok (.ifCond .eq 44, 3)) (by decide) (fun hc => ?_) (fun hc => ?_)
    · have h := (Ok.ite h).1 hc
      exact BW.vret (by decide +kernel : decode tX9_lookAtCrossing.2.1 94 = .ok (.return_, 1)) rfl (Nat.zero_le _) (Nat.zero_le _) (hQ _ (Ok.some h))
    · have h := (Ok.ite h).2 hc
      refine BW.run [.aload_n 0] (pc' := 54) (lv' := [(0, .ref a0), (1, .int x1), (2, .int x2), (3, .int x3), (4, .int v2), (5, .int v15)]) (st' := [.ref a0]) (by decide +kernel) rfl rfl ?_
      obtain ⟨b21, eb21, h⟩ := Ok.bind h
      refine BW.get (by decide +kernel : decode tX9_lookAtCrossing.2.1 54 = .ok (.getfield 45, 3)) ciX9 (k := 11) (by decide) lkF_X9_45 (toR_V eb21) ?_
      refine BW.run [.iload_n 2] (pc' := 58) (lv' := [(0, .ref a0), (1, .int x1), (2, .int x2), (3, .int x3), (4, .int v2), (5, .int v15)]) (st' := [.int x2, .ref b21]) (by decide +kernel) rfl rfl ?_
      refine BW.callS (As := [.int x2]) (st := [.ref b21]) (by decide +kernel : decode tX9_lookAtCrossing.2.1 58 = .ok (.invokestatic 325, 3)) (DX9_pointOf (Ok.bindK h)) mfX9_pointOf lkM_X9_325 smX9_pointOf rfl rfl (Nat.le_of_ble_eq_true rfl) ⟨Nat.le_trans (by decide) hRm.1, Nat.le_trans (by decide) hRm.2⟩ ⟨Nat.zero_le _, Nat.zero_le _⟩ ?_
      rintro _ s22 ⟨v23, rfl, h⟩
      show BW G tX9_lookAtCrossing E 0 0 61 [(0, .ref a0), (1, .int x1), (2, .int x2), (3, .int x3), (4, .int v2), (5, .int v15)] [.int v23, .ref b21] s22
      refine BW.run [.iload_n 1] (pc' := 62) (lv' := [(0, .ref a0), (1, .int x1), (2, .int x2), (3, .int x3), (4, .int v2), (5, .int v15)]) (st' := [.int x1, .int v23, .ref b21]) (by decide +kernel) rfl rfl ?_
      refine BW.callS (As := [.int x1]) (st := [.int v23, .ref b21]) (by decide +kernel : decode tX9_lookAtCrossing.2.1 62 = .ok (.invokestatic 325, 3)) (DX9_pointOf (Ok.bindK h)) mfX9_pointOf lkM_X9_325 smX9_pointOf rfl rfl (Nat.le_of_ble_eq_true rfl) ⟨Nat.le_trans (by decide) hRm.1, Nat.le_trans (by decide) hRm.2⟩ ⟨Nat.zero_le _, Nat.zero_le _⟩ ?_
      rintro _ s25 ⟨v26, rfl, h⟩
      show BW G tX9_lookAtCrossing E 0 0 65 [(0, .ref a0), (1, .int x1), (2, .int x2), (3, .int x3), (4, .int v2), (5, .int v15)] [.int v26, .int v23, .ref b21] s25
      refine BW.run [.aload_n 0, .iload_n 2, .iload_n 1, .iload_n 3] (pc' := 69) (lv' := [(0, .ref a0), (1, .int x1), (2, .int x2), (3, .int x3), (4, .int v2), (5, .int v15)]) (st' := [.int x3, .int x1, .int x2, .ref a0, .int v26, .int v23, .ref b21]) (by decide +kernel) rfl rfl ?_
      refine BW.callV (As := [.int x2, .int x1, .int x3]) (st := [.int v26, .int v23, .ref b21]) (by decide +kernel : decode tX9_lookAtCrossing.2.1 69 = .ok (.invokevirtual 249, 3)) (DX9_leadToLieAbove (Ok.bindK h)) mfX9_leadToLieAbove lkM_X9_249 imX9_leadToLieAbove selX9_leadToLieAbove ciX9 (oX9_leadToLieAbove (Ok.bindK h)).choose_spec rfl rfl (Nat.le_of_ble_eq_true rfl) ⟨Nat.le_trans (by decide) hRm.1, Nat.le_trans (by decide) hRm.2⟩ ⟨Nat.zero_le _, Nat.zero_le _⟩ ?_
      rintro _ s28 ⟨v29, rfl, h⟩
      show BW G tX9_lookAtCrossing E 0 0 72 [(0, .ref a0), (1, .int x1), (2, .int x2), (3, .int x3), (4, .int v2), (5, .int v15)] [.int v29, .int v26, .int v23, .ref b21] s28
      refine BW.callV (As := [.int v23, .int v26, .int v29]) (st := []) (by decide +kernel : decode tX9_lookAtCrossing.2.1 72 = .ok (.invokevirtual 344, 3)) (DX4_spanWith (Ok.bindK h)) mfX4_spanWith lkM_X9_344 imX4_spanWith selX4_spanWith ciX4 (oX4_spanWith (Ok.bindK h)).choose_spec rfl rfl (Nat.le_of_ble_eq_true rfl) ⟨Nat.le_trans (by decide) hRm.1, Nat.le_trans (by decide) hRm.2⟩ ⟨Nat.zero_le _, Nat.zero_le _⟩ ?_
      rintro _ s31 ⟨v32, rfl, h⟩
      show BW G tX9_lookAtCrossing E 0 0 75 [(0, .ref a0), (1, .int x1), (2, .int x2), (3, .int x3), (4, .int v2), (5, .int v15)] [.int v32] s31
      refine BW.run [.istore 6, .aload_n 0] (pc' := 78) (lv' := [(0, .ref a0), (1, .int x1), (2, .int x2), (3, .int x3), (4, .int v2), (5, .int v15), (6, .int v32)]) (st' := [.ref a0]) (by decide +kernel) rfl rfl ?_
      obtain ⟨b34, eb34, h⟩ := Ok.bind h
      refine BW.get (by decide +kernel : decode tX9_lookAtCrossing.2.1 78 = .ok (.getfield 73, 3)) ciX9 (k := 15) (by decide) lkF_X9_73 (toR_V eb34) ?_
      refine BW.run [.iload_n 1, .iload_n 2, .iload_n 3, .iload 5, .iload 6] (pc' := 88) (lv' := [(0, .ref a0), (1, .int x1), (2, .int x2), (3, .int x3), (4, .int v2), (5, .int v15), (6, .int v32)]) (st' := [.int v32, .int v15, .int x3, .int x2, .int x1, .ref b34]) (by decide +kernel) rfl rfl ?_
      refine BW.mmax (by decide +kernel : decode tX9_lookAtCrossing.2.1 88 = .ok (.invokestatic 89, 3)) lkM_X9_89 (Nat.le_of_ble_eq_true rfl) ⟨Nat.le_trans (by decide) hRm.1, Nat.le_trans (by decide) hRm.2⟩ ⟨Nat.zero_le _, Nat.zero_le _⟩ ?_
      refine BW.callV (As := [.int x1, .int x2, .int x3, .int (jmax v15 v32)]) (st := []) (by decide +kernel : decode tX9_lookAtCrossing.2.1 91 = .ok (.invokevirtual 350, 3)) (DX3_offer (Ok.bindK h)) mfX3_offer lkM_X9_350 imX3_offer selX3_offer ciX3 (oX3_offer (Ok.bindK h)).choose_spec rfl rfl (Nat.le_of_ble_eq_true rfl) ⟨Nat.le_trans (by decide) hRm.1, Nat.le_trans (by decide) hRm.2⟩ ⟨Nat.zero_le _, Nat.zero_le _⟩ ?_
      rintro _ s35 ⟨rfl, h⟩
      show BW G tX9_lookAtCrossing E 0 0 94 [(0, .ref a0), (1, .int x1), (2, .int x2), (3, .int x3), (4, .int v2), (5, .int v15), (6, .int v32)] [] s35
      exact BW.vret (by decide +kernel : decode tX9_lookAtCrossing.2.1 94 = .ok (.return_, 1)) rfl (Nat.zero_le _) (Nat.zero_le _) (hQ _ (Ok.some h))
  · have h := (Ok.ite h).2 hc
    exact BW.vret (by decide +kernel : decode tX9_lookAtCrossing.2.1 21 = .ok (.return_, 1)) rfl (Nat.zero_le _) (Nat.zero_le _) (hQ _ (Ok.some h))
theorem oX9_lookAtCrossing {n : Nat} {P : Sg → Prop} {s0 : Sg} {a0 : Nat} {x1 : Int32} {x2 : Int32} {x3 : Int32} (h : Ok (mX9_lookAtCrossing n s0 a0 x1 x2 x3) P) : ∃ n0, s0.2.1 a0 = some (9, n0) := by
  unfold mX9_lookAtCrossing at h
  exact Ok.isO h
theorem DX9_lookAtCrossing {G : Cx} {n : Nat} {P : Sg → Prop} {s0 : Sg} {a0 : Nat} {x1 : Int32} {x2 : Int32} {x3 : Int32} (h : Ok (mX9_lookAtCrossing n s0 a0 x1 x2 x3) P) : BM G tX9_lookAtCrossing 4 88 0 0 [.ref a0, .int x1, .int x2, .int x3] s0 (fun v s => v = none ∧ P s) := by
  refine BM.of (by decide +kernel) (Nat.le_of_ble_eq_true rfl) ?_
  exact bX9_lookAtCrossing (E := (({ frames := 4, cells := 0, slots := 0, locals := 88 }), Aof s0, 0, 0, (fun v s => v = none ∧ P s))) ⟨Nat.le_refl _, Nat.le_refl _⟩ (fun s hp => ⟨rfl, hp⟩) h
def mX9_lookAtPair_52 (n : Nat) (s0 : Sg) (a0 : Nat) (x1 : Int32) (x2 : Int32) (a3 : Nat) (x4 : Int32) : Option ((Sg × Int32) ⊕ (Sg)) :=
  some (.inl (s0, (x4 + (1 : Int32))))
theorem bX9_lookAtPair_52 {G : Cx} {E : Ev} {n : Nat} (hRm : 5 ≤ E.1.frames ∧ 114 ≤ E.1.locals) {s0 : Sg} {a0 : Nat} {x1 : Int32} {x2 : Int32} {a3 : Nat} {x4 : Int32} {P : (Sg × Int32) ⊕ (Sg) → Prop} (hC : ∀ (s : Sg) (c4 : Int32), P (.inl (s, c4)) → BW G tX9_lookAtPair E 0 0 14 [(0, .ref a0), (1, .int x1), (2, .int x2), (3, .ref a3), (4, .int c4)] [] s) (hE : ∀ (s : Sg), P (.inr s) → BW G tX9_lookAtPair E 0 0 58 [] [] s)  (h : Ok (mX9_lookAtPair_52 n s0 a0 x1 x2 a3 x4) P) : BW G tX9_lookAtPair E 0 0 52 [(0, .ref a0), (1, .int x1), (2, .int x2), (3, .ref a3), (4, .int x4)] [] s0 := by
  unfold mX9_lookAtPair_52 at h
  refine BW.run [.iinc 4 1] (pc' := 55) (lv' := [(0, .ref a0), (1, .int x1), (2, .int x2), (3, .ref a3), (4, .int (x4 + (1 : Int32)))]) (st' := []) (by decide +kernel) rfl rfl ?_
  refine BW.goto 14 (by decide +kernel : decode tX9_lookAtPair.2.1 55 = .ok (.goto (-41), 3)) (by decide) ?_
  exact hC _ _ (Ok.some h)
def mX9_lookAtPair_L14 (n : Nat) (a0 : Nat) (x1 : Int32) (x2 : Int32) (a3 : Nat) : (Sg × Int32) → Option ((Sg × Int32) ⊕ (Sg))
  | (s0, x4) =>
    (toI (gV 8 s0 a3 5)).bind fun v4 =>
    if v4 ≤ x4 then (
      some (.inr s0)
    ) else (
      (toR (gV 8 s0 a3 4)).bind fun b5 =>
      (toI (aV 11 s0 b5 x4)).bind fun v6 =>
      (mX9_isCrossing n s0 a0 x1 x2 v6).bind fun (v8, s7) =>
      if v8 = 0 then (
        mX9_lookAtPair_52 n s7 a0 x1 x2 a3 x4
      ) else (
        (toR (gV 8 s7 a3 4)).bind fun b10 =>
        (toI (aV 11 s7 b10 x4)).bind fun v11 =>
        (mX9_lookAtCrossing n s7 a0 x1 x2 v11).bind fun s12 =>
        mX9_lookAtPair_52 n s12 a0 x1 x2 a3 x4
      )
    )
theorem bX9_lookAtPair_L14 {G : Cx} {E : Ev} {n : Nat} (hRm : 5 ≤ E.1.frames ∧ 114 ≤ E.1.locals) {a0 : Nat} {x1 : Int32} {x2 : Int32} {a3 : Nat} {P : (Sg × Int32) ⊕ (Sg) → Prop} (hC : ∀ (s : Sg) (c4 : Int32), P (.inl (s, c4)) → BW G tX9_lookAtPair E 0 0 14 [(0, .ref a0), (1, .int x1), (2, .int x2), (3, .ref a3), (4, .int c4)] [] s) (hE : ∀ (s : Sg), P (.inr s) → BW G tX9_lookAtPair E 0 0 58 [] [] s) {s0 : Sg} {x4 : Int32} (h : Ok (mX9_lookAtPair_L14 n a0 x1 x2 a3 (s0, x4)) P) : BW G tX9_lookAtPair E 0 0 14 [(0, .ref a0), (1, .int x1), (2, .int x2), (3, .ref a3), (4, .int x4)] [] s0 := by
  unfold mX9_lookAtPair_L14 at h
  refine BW.run [.iload 4, .aload_n 3] (pc' := 17) (lv' := [(0, .ref a0), (1, .int x1), (2, .int x2), (3, .ref a3), (4, .int x4)]) (st' := [.ref a3, .int x4]) (by decide +kernel) rfl rfl ?_
  obtain ⟨v4, ev4, h⟩ := Ok.bind h
  refine BW.getN (by decide +kernel : decode tX9_lookAtPair.2.1 17 = .ok (.getfield 239, 3)) ciX8 (k := 5) (by decide) lkF_X9_239 (toI_V ev4) ?_
  refine BW.icmp_ge 58 (by decide +kernel : decode tX9_lookAtPair.2.1 20 = .ok (.if_icmp .ge 38, 3)) (by decide) (fun hc => ?_) (fun hc => ?_)
  · have h := (Ok.ite h).1 hc
    refine BW.sub [] rfl ?_
    exact hE _ (Ok.some h)
  · have h := (Ok.ite h).2 hc
    refine BW.run [.aload_n 0, .iload_n 1, .iload_n 2, .aload_n 3] (pc' := 27) (lv' := [(0, .ref a0), (1, .int x1), (2, .int x2), (3, .ref a3), (4, .int x4)]) (st' := [.ref a3, .int x2, .int x1, .ref a0]) (by decide +kernel) rfl rfl ?_
    obtain ⟨b5, eb5, h⟩ := Ok.bind h
    refine BW.getN (by decide +kernel : decode tX9_lookAtPair.2.1 27 = .ok (.getfield 242, 3)) ciX8 (k := 4) (by decide) lkF_X9_242 (toR_V eb5) ?_
    refine BW.run [.iload 4] (pc' := 32) (lv' := [(0, .ref a0), (1, .int x1), (2, .int x2), (3, .ref a3), (4, .int x4)]) (st' := [.int x4, .ref b5, .int x2, .int x1, .ref a0]) (by decide +kernel) rfl rfl ?_
    obtain ⟨v6, ev6, h⟩ := Ok.bind h
    refine BW.iald (by decide +kernel : decode tX9_lookAtPair.2.1 32 = .ok (.iaload, 1)) (toI_V ev6) ?_
    refine BW.callV (As := [.int x1, .int x2, .int v6]) (st := []) (by decide +kernel : decode tX9_lookAtPair.2.1 33 = .ok (.invokevirtual 245, 3)) (DX9_isCrossing (Ok.bindK h)) mfX9_isCrossing lkM_X9_245 imX9_isCrossing selX9_isCrossing ciX9 (oX9_isCrossing (Ok.bindK h)).choose_spec rfl rfl (Nat.le_of_ble_eq_true rfl) ⟨Nat.le_trans (by decide) hRm.1, Nat.le_trans (by decide) hRm.2⟩ ⟨Nat.zero_le _, Nat.zero_le _⟩ ?_
    rintro _ s7 ⟨v8, rfl, h⟩
    show BW G tX9_lookAtPair E 0 0 36 [(0, .ref a0), (1, .int x1), (2, .int x2), (3, .ref a3), (4, .int x4)] [.int v8] s7
    refine BW.if_eq 52 (by decide +kernel : decode tX9_lookAtPair.2.1 36 = .ok (.ifCond .eq 16, 3)) (by decide) (fun hc => ?_) (fun hc => ?_)
    · have h := (Ok.ite h).1 hc
      exact bX9_lookAtPair_52 hRm hC hE h
    · have h := (Ok.ite h).2 hc
      refine BW.run [.aload_n 0, .iload_n 1, .iload_n 2, .aload_n 3] (pc' := 43) (lv' := [(0, .ref a0), (1, .int x1), (2, .int x2), (3, .ref a3), (4, .int x4)]) (st' := [.ref a3, .int x2, .int x1, .ref a0]) (by decide +kernel) rfl rfl ?_
      obtain ⟨b10, eb10, h⟩ := Ok.bind h
      refine BW.getN (by decide +kernel : decode tX9_lookAtPair.2.1 43 = .ok (.getfield 242, 3)) ciX8 (k := 4) (by decide) lkF_X9_242 (toR_V eb10) ?_
      refine BW.run [.iload 4] (pc' := 48) (lv' := [(0, .ref a0), (1, .int x1), (2, .int x2), (3, .ref a3), (4, .int x4)]) (st' := [.int x4, .ref b10, .int x2, .int x1, .ref a0]) (by decide +kernel) rfl rfl ?_
      obtain ⟨v11, ev11, h⟩ := Ok.bind h
      refine BW.iald (by decide +kernel : decode tX9_lookAtPair.2.1 48 = .ok (.iaload, 1)) (toI_V ev11) ?_
      refine BW.callV (As := [.int x1, .int x2, .int v11]) (st := []) (by decide +kernel : decode tX9_lookAtPair.2.1 49 = .ok (.invokevirtual 341, 3)) (DX9_lookAtCrossing (Ok.bindK h)) mfX9_lookAtCrossing lkM_X9_341 imX9_lookAtCrossing selX9_lookAtCrossing ciX9 (oX9_lookAtCrossing (Ok.bindK h)).choose_spec rfl rfl (Nat.le_of_ble_eq_true rfl) ⟨Nat.le_trans (by decide) hRm.1, Nat.le_trans (by decide) hRm.2⟩ ⟨Nat.zero_le _, Nat.zero_le _⟩ ?_
      rintro _ s12 ⟨rfl, h⟩
      show BW G tX9_lookAtPair E 0 0 52 [(0, .ref a0), (1, .int x1), (2, .int x2), (3, .ref a3), (4, .int x4)] [] s12
      exact bX9_lookAtPair_52 hRm hC hE h
theorem bX9_lookAtPair_W14 {G : Cx} {E : Ev} {n : Nat} (hRm : 5 ≤ E.1.frames ∧ 114 ≤ E.1.locals) {a0 : Nat} {x1 : Int32} {x2 : Int32} {a3 : Nat} {K : (Sg) → Prop} (hE : ∀ (s : Sg), K s → BW G tX9_lookAtPair E 0 0 58 [] [] s) : ∀ (f : Nat) (c : Sg × Int32), Ok (loopM (mX9_lookAtPair_L14 n a0 x1 x2 a3) f c) K → match c with | (s0, x4) => BW G tX9_lookAtPair E 0 0 14 [(0, .ref a0), (1, .int x1), (2, .int x2), (3, .ref a3), (4, .int x4)] [] s0 := by
  intro f
  induction f with
  | zero => intro c h; exact (Ok.no h).elim
  | succ f ih =>
    intro c h
    obtain ⟨s0, x4⟩ := c
    exact bX9_lookAtPair_L14 (P := loopP (mX9_lookAtPair_L14 n a0 x1 x2 a3) f K) hRm (fun s c4 h => ih (s, c4) h) hE (loopM_ok h)
def mX9_lookAtPair (n : Nat) (s0 : Sg) (a0 : Nat) (x1 : Int32) (x2 : Int32) : Option (Sg) :=
  (isO 9 s0 a0).bind fun _ =>
  (mX9_walkOf n s0 a0 x1).bind fun q3 => match q3 with
  | (none, s1) => (
    some s1
  )
  | (some b2, s1) => (
    (loopM (mX9_lookAtPair_L14 n a0 x1 x2 b2) n (s1, (0 : Int32))).bind fun s13 =>
    some s13
  )
theorem bX9_lookAtPair {G : Cx} {E : Ev} {n : Nat} (hRm : 5 ≤ E.1.frames ∧ 114 ≤ E.1.locals) {P : Sg → Prop} (hQ : ∀ s, P s → E.2.2.2.2 none s) {s0 : Sg} {a0 : Nat} {x1 : Int32} {x2 : Int32} (h : Ok (mX9_lookAtPair n s0 a0 x1 x2) P) : BW G tX9_lookAtPair E 0 0 0 [(0, .ref a0), (1, .int x1), (2, .int x2)] [] s0 := by
  unfold mX9_lookAtPair at h
  obtain ⟨_, _, h⟩ := Ok.bind h
  refine BW.run [.aload_n 0, .iload_n 1] (pc' := 2) (lv' := [(0, .ref a0), (1, .int x1), (2, .int x2)]) (st' := [.int x1, .ref a0]) (by decide +kernel) rfl rfl ?_
  refine BW.callV (As := [.int x1]) (st := []) (by decide +kernel : decode tX9_lookAtPair.2.1 2 = .ok (.invokevirtual 143, 3)) (DX9_walkOf (Ok.bindK h)) mfX9_walkOf lkM_X9_143 imX9_walkOf selX9_walkOf ciX9 (oX9_walkOf (Ok.bindK h)).choose_spec rfl rfl (Nat.le_of_ble_eq_true rfl) ⟨Nat.le_trans (by decide) hRm.1, Nat.le_trans (by decide) hRm.2⟩ ⟨Nat.zero_le _, Nat.zero_le _⟩ ?_
  rintro _ s1 ⟨_ | b2, rfl, h⟩
  · show BW G tX9_lookAtPair E 0 0 5 [(0, .ref a0), (1, .int x1), (2, .int x2)] (.null :: []) s1
    refine BW.run [.astore_n 3, .aload_n 3] (pc' := 7) (lv' := [(0, .ref a0), (1, .int x1), (2, .int x2), (3, .null)]) (st' := [.null]) (by decide +kernel) rfl rfl ?_
    refine BW.ifnonnullN (by decide +kernel : decode tX9_lookAtPair.2.1 7 = .ok (.ifnonnull 4, 3)) ?_
    exact BW.vret (by decide +kernel : decode tX9_lookAtPair.2.1 10 = .ok (.return_, 1)) rfl (Nat.zero_le _) (Nat.zero_le _) (hQ _ (Ok.some h))
  · show BW G tX9_lookAtPair E 0 0 5 [(0, .ref a0), (1, .int x1), (2, .int x2)] (.ref b2 :: []) s1
    refine BW.run [.astore_n 3, .aload_n 3] (pc' := 7) (lv' := [(0, .ref a0), (1, .int x1), (2, .int x2), (3, .ref b2)]) (st' := [.ref b2]) (by decide +kernel) rfl rfl ?_
    refine BW.ifnonnull 11 (by decide +kernel : decode tX9_lookAtPair.2.1 7 = .ok (.ifnonnull 4, 3)) (by decide) ?_
    refine BW.run [.iconst 0, .istore 4] (pc' := 14) (lv' := [(0, .ref a0), (1, .int x1), (2, .int x2), (3, .ref b2), (4, .int (0 : Int32))]) (st' := []) (by decide +kernel) rfl rfl ?_
    refine bX9_lookAtPair_W14 hRm (a0 := a0) (x1 := x1) (x2 := x2) (a3 := b2) (fun s13 h => ?_) n (s1, (0 : Int32)) (Ok.bindK h)
    exact BW.vret (by decide +kernel : decode tX9_lookAtPair.2.1 58 = .ok (.return_, 1)) rfl (Nat.zero_le _) (Nat.zero_le _) (hQ _ (Ok.some h))
theorem oX9_lookAtPair {n : Nat} {P : Sg → Prop} {s0 : Sg} {a0 : Nat} {x1 : Int32} {x2 : Int32} (h : Ok (mX9_lookAtPair n s0 a0 x1 x2) P) : ∃ n0, s0.2.1 a0 = some (9, n0) := by
  unfold mX9_lookAtPair at h
  exact Ok.isO h
theorem DX9_lookAtPair {G : Cx} {n : Nat} {P : Sg → Prop} {s0 : Sg} {a0 : Nat} {x1 : Int32} {x2 : Int32} (h : Ok (mX9_lookAtPair n s0 a0 x1 x2) P) : BM G tX9_lookAtPair 5 114 0 0 [.ref a0, .int x1, .int x2] s0 (fun v s => v = none ∧ P s) := by
  refine BM.of (by decide +kernel) (Nat.le_of_ble_eq_true rfl) ?_
  exact bX9_lookAtPair (E := (({ frames := 5, cells := 0, slots := 0, locals := 114 }), Aof s0, 0, 0, (fun v s => v = none ∧ P s))) ⟨Nat.le_refl _, Nat.le_refl _⟩ (fun s hp => ⟨rfl, hp⟩) h
def mX9_look_L41 (n : Nat) (a0 : Nat) (x3 : Int32) : (Sg × Int32) → Option ((Sg × Int32) ⊕ (Sg))
  | (s0, x4) =>
    (toI (gV 9 s0 a0 6)).bind fun v8 =>
    if v8 ≤ x4 then (
      some (.inr s0)
    ) else (
      (mX9_lookAtPair n s0 a0 x3 x4).bind fun s9 =>
      some (.inl (s9, (x4 + (1 : Int32))))
    )
theorem bX9_look_L41 {G : Cx} {E : Ev} {n : Nat} (hRm : 6 ≤ E.1.frames ∧ 138 ≤ E.1.locals) {a0 : Nat} {x2 : Int32} {x3 : Int32} {P : (Sg × Int32) ⊕ (Sg) → Prop} (hC : ∀ (s : Sg) (c4 : Int32), P (.inl (s, c4)) → BW G tX9_look E 0 0 41 [(0, .ref a0), (2, .int x2), (3, .int x3), (4, .int c4)] [] s) (hE : ∀ (s : Sg), P (.inr s) → BW G tX9_look E 0 0 63 [(0, .ref a0), (2, .int x2), (3, .int x3)] [] s) {s0 : Sg} {x4 : Int32} (h : Ok (mX9_look_L41 n a0 x3 (s0, x4)) P) : BW G tX9_look E 0 0 41 [(0, .ref a0), (2, .int x2), (3, .int x3), (4, .int x4)] [] s0 := by
  unfold mX9_look_L41 at h
  refine BW.run [.iload 4, .aload_n 0] (pc' := 44) (lv' := [(0, .ref a0), (2, .int x2), (3, .int x3), (4, .int x4)]) (st' := [.ref a0, .int x4]) (by decide +kernel) rfl rfl ?_
  obtain ⟨v8, ev8, h⟩ := Ok.bind h
  refine BW.get (by decide +kernel : decode tX9_look.2.1 44 = .ok (.getfield 22, 3)) ciX9 (k := 6) (by decide) lkF_X9_22 (toI_V ev8) ?_
  refine BW.icmp_ge 63 (by decide +kernel : decode tX9_look.2.1 47 = .ok (.if_icmp .ge 16, 3)) (by decide) (fun hc => ?_) (fun hc => ?_)
  · have h := (Ok.ite h).1 hc
    refine BW.sub [0, 1, 2] rfl ?_
    exact hE _ (Ok.some h)
  · have h := (Ok.ite h).2 hc
    refine BW.run [.aload_n 0, .iload_n 3, .iload 4] (pc' := 54) (lv' := [(0, .ref a0), (2, .int x2), (3, .int x3), (4, .int x4)]) (st' := [.int x4, .int x3, .ref a0]) (by decide +kernel) rfl rfl ?_
    refine BW.callV (As := [.int x3, .int x4]) (st := []) (by decide +kernel : decode tX9_look.2.1 54 = .ok (.invokevirtual 262, 3)) (DX9_lookAtPair (Ok.bindK h)) mfX9_lookAtPair lkM_X9_262 imX9_lookAtPair selX9_lookAtPair ciX9 (oX9_lookAtPair (Ok.bindK h)).choose_spec rfl rfl (Nat.le_of_ble_eq_true rfl) ⟨Nat.le_trans (by decide) hRm.1, Nat.le_trans (by decide) hRm.2⟩ ⟨Nat.zero_le _, Nat.zero_le _⟩ ?_
    rintro _ s9 ⟨rfl, h⟩
    show BW G tX9_look E 0 0 57 [(0, .ref a0), (2, .int x2), (3, .int x3), (4, .int x4)] [] s9
    refine BW.run [.iinc 4 1] (pc' := 60) (lv' := [(0, .ref a0), (2, .int x2), (3, .int x3), (4, .int (x4 + (1 : Int32)))]) (st' := []) (by decide +kernel) rfl rfl ?_
    refine BW.goto 41 (by decide +kernel : decode tX9_look.2.1 60 = .ok (.goto (-19), 3)) (by decide) ?_
    exact hC _ _ (Ok.some h)
theorem bX9_look_W41 {G : Cx} {E : Ev} {n : Nat} (hRm : 6 ≤ E.1.frames ∧ 138 ≤ E.1.locals) {a0 : Nat} {x2 : Int32} {x3 : Int32} {K : (Sg) → Prop} (hE : ∀ (s : Sg), K s → BW G tX9_look E 0 0 63 [(0, .ref a0), (2, .int x2), (3, .int x3)] [] s) : ∀ (f : Nat) (c : Sg × Int32), Ok (loopM (mX9_look_L41 n a0 x3) f c) K → match c with | (s0, x4) => BW G tX9_look E 0 0 41 [(0, .ref a0), (2, .int x2), (3, .int x3), (4, .int x4)] [] s0 := by
  intro f
  induction f with
  | zero => intro c h; exact (Ok.no h).elim
  | succ f ih =>
    intro c h
    obtain ⟨s0, x4⟩ := c
    exact bX9_look_L41 (P := loopP (mX9_look_L41 n a0 x3) f K) hRm (fun s c4 h => ih (s, c4) h) hE (loopM_ok h)
def mX9_look_L28 (n : Nat) (a0 : Nat) : (Sg × Int32) → Option ((Sg × Int32) ⊕ (Sg))
  | (s0, x3) =>
    (toI (gV 9 s0 a0 6)).bind fun v6 =>
    if v6 ≤ x3 then (
      some (.inr s0)
    ) else (
      nm (x3 + (1 : Int32)) fun v7 =>
      (loopM (mX9_look_L41 n a0 x3) n (s0, v7)).bind fun s10 =>
      some (.inl (s10, (x3 + (1 : Int32))))
    )
theorem bX9_look_L28 {G : Cx} {E : Ev} {n : Nat} (hRm : 6 ≤ E.1.frames ∧ 138 ≤ E.1.locals) {a0 : Nat} {x2 : Int32} {P : (Sg × Int32) ⊕ (Sg) → Prop} (hC : ∀ (s : Sg) (c3 : Int32), P (.inl (s, c3)) → BW G tX9_look E 0 0 28 [(0, .ref a0), (2, .int x2), (3, .int c3)] [] s) (hE : ∀ (s : Sg), P (.inr s) → BW G tX9_look E 0 0 69 [(0, .ref a0), (2, .int x2)] [] s) {s0 : Sg} {x3 : Int32} (h : Ok (mX9_look_L28 n a0 (s0, x3)) P) : BW G tX9_look E 0 0 28 [(0, .ref a0), (2, .int x2), (3, .int x3)] [] s0 := by
  unfold mX9_look_L28 at h
  refine BW.run [.iload_n 3, .aload_n 0] (pc' := 30) (lv' := [(0, .ref a0), (2, .int x2), (3, .int x3)]) (st' := [.ref a0, .int x3]) (by decide +kernel) rfl rfl ?_
  obtain ⟨v6, ev6, h⟩ := Ok.bind h
  refine BW.get (by decide +kernel : decode tX9_look.2.1 30 = .ok (.getfield 22, 3)) ciX9 (k := 6) (by decide) lkF_X9_22 (toI_V ev6) ?_
  refine BW.icmp_ge 69 (by decide +kernel : decode tX9_look.2.1 33 = .ok (.if_icmp .ge 36, 3)) (by decide) (fun hc => ?_) (fun hc => ?_)
  · have h := (Ok.ite h).1 hc
    refine BW.sub [0, 1] rfl ?_
    exact hE _ (Ok.some h)
  · have h := (Ok.ite h).2 hc
    refine BW.run [.iload_n 3, .iconst 1, .iadd] (pc' := 39) (lv' := [(0, .ref a0), (2, .int x2), (3, .int x3)]) (st' := [.int (x3 + (1 : Int32))]) (by decide +kernel) rfl rfl ?_
    obtain ⟨v7, wv7, h⟩ := Ok.nm h
    refine BW.nm wv7 ?_
    refine BW.run [.istore 4] (pc' := 41) (lv' := [(0, .ref a0), (2, .int x2), (3, .int x3), (4, .int v7)]) (st' := []) (by decide +kernel) rfl rfl ?_
    refine bX9_look_W41 hRm (a0 := a0) (x2 := x2) (x3 := x3) (fun s10 h => ?_) n (s0, v7) (Ok.bindK h)
    refine BW.run [.iinc 3 1] (pc' := 66) (lv' := [(0, .ref a0), (2, .int x2), (3, .int (x3 + (1 : Int32)))]) (st' := []) (by decide +kernel) rfl rfl ?_
    refine BW.goto 28 (by decide +kernel : decode tX9_look.2.1 66 = .ok (.goto (-38), 3)) (by decide) ?_
    exact hC _ _ (Ok.some h)
theorem bX9_look_W28 {G : Cx} {E : Ev} {n : Nat} (hRm : 6 ≤ E.1.frames ∧ 138 ≤ E.1.locals) {a0 : Nat} {x2 : Int32} {K : (Sg) → Prop} (hE : ∀ (s : Sg), K s → BW G tX9_look E 0 0 69 [(0, .ref a0), (2, .int x2)] [] s) : ∀ (f : Nat) (c : Sg × Int32), Ok (loopM (mX9_look_L28 n a0) f c) K → match c with | (s0, x3) => BW G tX9_look E 0 0 28 [(0, .ref a0), (2, .int x2), (3, .int x3)] [] s0 := by
  intro f
  induction f with
  | zero => intro c h; exact (Ok.no h).elim
  | succ f ih =>
    intro c h
    obtain ⟨s0, x3⟩ := c
    exact bX9_look_L28 (P := loopP (mX9_look_L28 n a0) f K) hRm (fun s c3 h => ih (s, c3) h) hE (loopM_ok h)
def mX9_look (n : Nat) (s0 : Sg) (a0 : Nat) (x1 : Int32) (x2 : Int32) : Option (Int32 × Sg) :=
  (isO 9 s0 a0).bind fun _ =>
  if x2 < 0 then (
    some ((-1 : Int32), s0)
  ) else (
    if (3 : Int32) < x2 then (
      some ((-1 : Int32), s0)
    ) else (
      (mX9_canBe n s0 a0 x1).bind fun (v2, s1) =>
      if v2 = 0 then (
        some ((-1 : Int32), s1)
      ) else (
        (toR (gV 9 s1 a0 15)).bind fun b4 =>
        (mX3_clear n s1 b4).bind fun s5 =>
        (loopM (mX9_look_L28 n a0) n (s5, (0 : Int32))).bind fun s12 =>
        if x2 = (0 : Int32) then (
          (toR (gV 9 s12 a0 15)).bind fun b14 =>
          (toI (gV 3 s12 b14 0)).bind fun v15 =>
          some (v15, s12)
        ) else (
        if x2 = (1 : Int32) then (
          (toR (gV 9 s12 a0 15)).bind fun b16 =>
          (toI (gV 3 s12 b16 1)).bind fun v17 =>
          some (v17, s12)
        ) else (
        if x2 = (2 : Int32) then (
          (toR (gV 9 s12 a0 15)).bind fun b18 =>
          (toI (gV 3 s12 b18 2)).bind fun v19 =>
          some (v19, s12)
        ) else (
          (toR (gV 9 s12 a0 15)).bind fun b20 =>
          (toI (gV 3 s12 b20 3)).bind fun v21 =>
          some (v21, s12)
        )))
      )
    )
  )
theorem bX9_look {G : Cx} {E : Ev} {n : Nat} (hRm : 6 ≤ E.1.frames ∧ 138 ≤ E.1.locals) {P : Int32 × Sg → Prop} (hQ : ∀ r s, P (r, s) → E.2.2.2.2 (some (.int r)) s) {s0 : Sg} {a0 : Nat} {x1 : Int32} {x2 : Int32} (h : Ok (mX9_look n s0 a0 x1 x2) P) : BW G tX9_look E 0 0 0 [(0, .ref a0), (1, .int x1), (2, .int x2)] [] s0 := by
  unfold mX9_look at h
  obtain ⟨_, _, h⟩ := Ok.bind h
  refine BW.run [.iload_n 2] (pc' := 1) (lv' := [(0, .ref a0), (1, .int x1), (2, .int x2)]) (st' := [.int x2]) (by decide +kernel) rfl rfl ?_
  refine BW.if_lt 17 (by decide +kernel : decode tX9_look.2.1 1 = .ok (.ifCond .lt 16, 3)) (by decide) (fun hc => ?_) (fun hc => ?_)
  · have h := (Ok.ite h).1 hc
    refine BW.run [.iconst (-1)] (pc' := 18) (lv' := [(0, .ref a0), (1, .int x1), (2, .int x2)]) (st' := [.int (-1 : Int32)]) (by decide +kernel) rfl rfl ?_
    exact BW.iret (by decide +kernel : decode tX9_look.2.1 18 = .ok (.ireturn, 1)) rfl (Nat.zero_le _) (Nat.zero_le _) (hQ _ _ (Ok.some h))
  · have h := (Ok.ite h).2 hc
    refine BW.run [.iload_n 2, .iconst 3] (pc' := 6) (lv' := [(0, .ref a0), (1, .int x1), (2, .int x2)]) (st' := [.int (3 : Int32), .int x2]) (by decide +kernel) rfl rfl ?_
    refine BW.icmp_gt 17 (by decide +kernel : decode tX9_look.2.1 6 = .ok (.if_icmp .gt 11, 3)) (by decide) (fun hc => ?_) (fun hc => ?_)
    · have h := (Ok.ite h).1 hc
      refine BW.run [.iconst (-1)] (pc' := 18) (lv' := [(0, .ref a0), (1, .int x1), (2, .int x2)]) (st' := [.int (-1 : Int32)]) (by decide +kernel) rfl rfl ?_
      exact BW.iret (by decide +kernel : decode tX9_look.2.1 18 = .ok (.ireturn, 1)) rfl (Nat.zero_le _) (Nat.zero_le _) (hQ _ _ (Ok.some h))
    · have h := (Ok.ite h).2 hc
      refine BW.run [.aload_n 0, .iload_n 1] (pc' := 11) (lv' := [(0, .ref a0), (1, .int x1), (2, .int x2)]) (st' := [.int x1, .ref a0]) (by decide +kernel) rfl rfl ?_
      refine BW.callV (As := [.int x1]) (st := []) (by decide +kernel : decode tX9_look.2.1 11 = .ok (.invokevirtual 223, 3)) (DX9_canBe (Ok.bindK h)) mfX9_canBe lkM_X9_223 imX9_canBe selX9_canBe ciX9 (oX9_canBe (Ok.bindK h)).choose_spec rfl rfl (Nat.le_of_ble_eq_true rfl) ⟨Nat.le_trans (by decide) hRm.1, Nat.le_trans (by decide) hRm.2⟩ ⟨Nat.zero_le _, Nat.zero_le _⟩ ?_
      rintro _ s1 ⟨v2, rfl, h⟩
      show BW G tX9_look E 0 0 14 [(0, .ref a0), (1, .int x1), (2, .int x2)] [.int v2] s1
      refine BW.if_ne 19 (by decide +kernel : decode tX9_look.2.1 14 = .ok (.ifCond .ne 5, 3)) (by decide) (fun hc => ?_) (fun hc => ?_)
      · have h := (Ok.ite h).2 hc
        refine BW.run [.aload_n 0] (pc' := 20) (lv' := [(0, .ref a0), (1, .int x1), (2, .int x2)]) (st' := [.ref a0]) (by decide +kernel) rfl rfl ?_
        obtain ⟨b4, eb4, h⟩ := Ok.bind h
        refine BW.get (by decide +kernel : decode tX9_look.2.1 20 = .ok (.getfield 73, 3)) ciX9 (k := 15) (by decide) lkF_X9_73 (toR_V eb4) ?_
        refine BW.callV (As := []) (st := []) (by decide +kernel : decode tX9_look.2.1 23 = .ok (.invokevirtual 260, 3)) (DX3_clear (Ok.bindK h)) mfX3_clear lkM_X9_260 imX3_clear selX3_clear ciX3 (oX3_clear (Ok.bindK h)).choose_spec rfl rfl (Nat.le_of_ble_eq_true rfl) ⟨Nat.le_trans (by decide) hRm.1, Nat.le_trans (by decide) hRm.2⟩ ⟨Nat.zero_le _, Nat.zero_le _⟩ ?_
        rintro _ s5 ⟨rfl, h⟩
        show BW G tX9_look E 0 0 26 [(0, .ref a0), (1, .int x1), (2, .int x2)] [] s5
        refine BW.run [.iconst 0, .istore_n 3] (pc' := 28) (lv' := [(0, .ref a0), (1, .int x1), (2, .int x2), (3, .int (0 : Int32))]) (st' := []) (by decide +kernel) rfl rfl ?_
        refine BW.sub [0, 2, 3] rfl ?_
        refine bX9_look_W28 hRm (a0 := a0) (x2 := x2) (fun s12 h => ?_) n (s5, (0 : Int32)) (Ok.bindK h)
        refine BW.run [.iload_n 2] (pc' := 70) (lv' := [(0, .ref a0), (2, .int x2)]) (st' := [.int x2]) (by decide +kernel) rfl rfl ?_
        by_cases hc0 : x2 = (0 : Int32)
        · have h := (Ok.ite h).1 hc0
          refine BW.tblIn (off := 26) 96 (by decide +kernel : decode tX9_look.2.1 70 = .ok (.tableswitch 50 0 2 #[26, 34, 42], 26)) (by rw [hc0]; decide) (by rw [hc0]; decide) (by rw [hc0]; rfl) (by decide) ?_
          refine BW.run [.aload_n 0] (pc' := 97) (lv' := [(0, .ref a0), (2, .int x2)]) (st' := [.ref a0]) (by decide +kernel) rfl rfl ?_
          obtain ⟨b14, eb14, h⟩ := Ok.bind h
          refine BW.get (by decide +kernel : decode tX9_look.2.1 97 = .ok (.getfield 73, 3)) ciX9 (k := 15) (by decide) lkF_X9_73 (toR_V eb14) ?_
          obtain ⟨v15, ev15, h⟩ := Ok.bind h
          refine BW.getN (by decide +kernel : decode tX9_look.2.1 100 = .ok (.getfield 265, 3)) ciX3 (k := 0) (by decide) lkF_X9_265 (toI_V ev15) ?_
          exact BW.iret (by decide +kernel : decode tX9_look.2.1 103 = .ok (.ireturn, 1)) rfl (Nat.zero_le _) (Nat.zero_le _) (hQ _ _ (Ok.some h))
        · have h := (Ok.ite h).2 hc0
          by_cases hc1 : x2 = (1 : Int32)
          · have h := (Ok.ite h).1 hc1
            refine BW.tblIn (off := 34) 104 (by decide +kernel : decode tX9_look.2.1 70 = .ok (.tableswitch 50 0 2 #[26, 34, 42], 26)) (by rw [hc1]; decide) (by rw [hc1]; decide) (by rw [hc1]; rfl) (by decide) ?_
            refine BW.run [.aload_n 0] (pc' := 105) (lv' := [(0, .ref a0), (2, .int x2)]) (st' := [.ref a0]) (by decide +kernel) rfl rfl ?_
            obtain ⟨b16, eb16, h⟩ := Ok.bind h
            refine BW.get (by decide +kernel : decode tX9_look.2.1 105 = .ok (.getfield 73, 3)) ciX9 (k := 15) (by decide) lkF_X9_73 (toR_V eb16) ?_
            obtain ⟨v17, ev17, h⟩ := Ok.bind h
            refine BW.getN (by decide +kernel : decode tX9_look.2.1 108 = .ok (.getfield 268, 3)) ciX3 (k := 1) (by decide) lkF_X9_268 (toI_V ev17) ?_
            exact BW.iret (by decide +kernel : decode tX9_look.2.1 111 = .ok (.ireturn, 1)) rfl (Nat.zero_le _) (Nat.zero_le _) (hQ _ _ (Ok.some h))
          · have h := (Ok.ite h).2 hc1
            by_cases hc2 : x2 = (2 : Int32)
            · have h := (Ok.ite h).1 hc2
              refine BW.tblIn (off := 42) 112 (by decide +kernel : decode tX9_look.2.1 70 = .ok (.tableswitch 50 0 2 #[26, 34, 42], 26)) (by rw [hc2]; decide) (by rw [hc2]; decide) (by rw [hc2]; rfl) (by decide) ?_
              refine BW.run [.aload_n 0] (pc' := 113) (lv' := [(0, .ref a0), (2, .int x2)]) (st' := [.ref a0]) (by decide +kernel) rfl rfl ?_
              obtain ⟨b18, eb18, h⟩ := Ok.bind h
              refine BW.get (by decide +kernel : decode tX9_look.2.1 113 = .ok (.getfield 73, 3)) ciX9 (k := 15) (by decide) lkF_X9_73 (toR_V eb18) ?_
              obtain ⟨v19, ev19, h⟩ := Ok.bind h
              refine BW.getN (by decide +kernel : decode tX9_look.2.1 116 = .ok (.getfield 271, 3)) ciX3 (k := 2) (by decide) lkF_X9_271 (toI_V ev19) ?_
              exact BW.iret (by decide +kernel : decode tX9_look.2.1 119 = .ok (.ireturn, 1)) rfl (Nat.zero_le _) (Nat.zero_le _) (hQ _ _ (Ok.some h))
            · have h := (Ok.ite h).2 hc2
              refine BW.tblOut 120 (by decide +kernel : decode tX9_look.2.1 70 = .ok (.tableswitch 50 0 2 #[26, 34, 42], 26)) (by have z0 : x2.toInt ≠ 0 := Int32_nek hc0 (by decide); have z1 : x2.toInt ≠ 1 := Int32_nek hc1 (by decide); have z2 : x2.toInt ≠ 2 := Int32_nek hc2 (by decide); omega) (by decide) ?_
              refine BW.run [.aload_n 0] (pc' := 121) (lv' := [(0, .ref a0), (2, .int x2)]) (st' := [.ref a0]) (by decide +kernel) rfl rfl ?_
              obtain ⟨b20, eb20, h⟩ := Ok.bind h
              refine BW.get (by decide +kernel : decode tX9_look.2.1 121 = .ok (.getfield 73, 3)) ciX9 (k := 15) (by decide) lkF_X9_73 (toR_V eb20) ?_
              obtain ⟨v21, ev21, h⟩ := Ok.bind h
              refine BW.getN (by decide +kernel : decode tX9_look.2.1 124 = .ok (.getfield 274, 3)) ciX3 (k := 3) (by decide) lkF_X9_274 (toI_V ev21) ?_
              exact BW.iret (by decide +kernel : decode tX9_look.2.1 127 = .ok (.ireturn, 1)) rfl (Nat.zero_le _) (Nat.zero_le _) (hQ _ _ (Ok.some h))
      · have h := (Ok.ite h).1 hc
        refine BW.run [.iconst (-1)] (pc' := 18) (lv' := [(0, .ref a0), (1, .int x1), (2, .int x2)]) (st' := [.int (-1 : Int32)]) (by decide +kernel) rfl rfl ?_
        exact BW.iret (by decide +kernel : decode tX9_look.2.1 18 = .ok (.ireturn, 1)) rfl (Nat.zero_le _) (Nat.zero_le _) (hQ _ _ (Ok.some h))
theorem oX9_look {n : Nat} {P : Int32 × Sg → Prop} {s0 : Sg} {a0 : Nat} {x1 : Int32} {x2 : Int32} (h : Ok (mX9_look n s0 a0 x1 x2) P) : ∃ n0, s0.2.1 a0 = some (9, n0) := by
  unfold mX9_look at h
  exact Ok.isO h
theorem DX9_look {G : Cx} {n : Nat} {P : Int32 × Sg → Prop} {s0 : Sg} {a0 : Nat} {x1 : Int32} {x2 : Int32} (h : Ok (mX9_look n s0 a0 x1 x2) P) : BM G tX9_look 6 138 0 0 [.ref a0, .int x1, .int x2] s0 (fun v s => ∃ r, v = some (.int r) ∧ P (r, s)) := by
  refine BM.of (by decide +kernel) (Nat.le_of_ble_eq_true rfl) ?_
  exact bX9_look (E := (({ frames := 6, cells := 0, slots := 0, locals := 138 }), Aof s0, 0, 0, (fun v s => ∃ r, v = some (.int r) ∧ P (r, s)))) ⟨Nat.le_refl _, Nat.le_refl _⟩ (fun r s hp => ⟨r, rfl, hp⟩) h
def mX9_meets_155 (n : Nat) (s0 : Sg) (a4 : Nat) (a5 : Nat) (x6 : Int32) (x7 : Int32) (x8 : Int32) (x9 : Int32) (x10 : Int32) : Option ((Sg × Int32 × Int32) ⊕ (Sg × Int32)) :=
  some (.inl (s0, x8, (x10 + (1 : Int32))))
theorem bX9_meets_155 {G : Cx} {E : Ev} {n : Nat} (hRm : 6 ≤ E.1.frames ∧ 133 ≤ E.1.locals) {s0 : Sg} {a4 : Nat} {a5 : Nat} {x6 : Int32} {x7 : Int32} {x8 : Int32} {x9 : Int32} {x10 : Int32} {P : (Sg × Int32 × Int32) ⊕ (Sg × Int32) → Prop} (hC : ∀ (s : Sg) (c8 : Int32) (c10 : Int32), P (.inl (s, c8, c10)) → BW G tX9_meets E 0 0 80 [(4, .ref a4), (5, .ref a5), (6, .int x6), (7, .int x7), (8, .int c8), (9, .int x9), (10, .int c10)] [] s) (hE : ∀ (s : Sg) (c8 : Int32), P (.inr (s, c8)) → BW G tX9_meets E 0 0 161 [(4, .ref a4), (5, .ref a5), (6, .int x6), (7, .int x7), (8, .int c8), (9, .int x9)] [] s)  (h : Ok (mX9_meets_155 n s0 a4 a5 x6 x7 x8 x9 x10) P) : BW G tX9_meets E 0 0 155 [(4, .ref a4), (5, .ref a5), (6, .int x6), (7, .int x7), (8, .int x8), (9, .int x9), (10, .int x10)] [] s0 := by
  unfold mX9_meets_155 at h
  refine BW.run [.iinc 10 1] (pc' := 158) (lv' := [(4, .ref a4), (5, .ref a5), (6, .int x6), (7, .int x7), (8, .int x8), (9, .int x9), (10, .int (x10 + (1 : Int32)))]) (st' := []) (by decide +kernel) rfl rfl ?_
  refine BW.goto 80 (by decide +kernel : decode tX9_meets.2.1 158 = .ok (.goto (-78), 3)) (by decide) ?_
  exact hC _ _ _ (Ok.some h)
def mX9_meets_128 (n : Nat) (s0 : Sg) (t0 : Int32) (a4 : Nat) (a5 : Nat) (x6 : Int32) (x7 : Int32) (x8 : Int32) (x9 : Int32) (x10 : Int32) : Option ((Sg × Int32 × Int32) ⊕ (Sg × Int32)) :=
  if t0 = 0 then (
    mX9_meets_155 n s0 a4 a5 x6 x7 x8 x9 x10
  ) else (
    (mX8_cellOf n s0 a4 x9).bind fun (v27, s26) =>
    (mX8_cellOf n s26 a5 x10).bind fun (v30, s29) =>
    if v27 = v30 then (
      mX9_meets_155 n s29 a4 a5 x6 x7 (x8 + (1 : Int32)) x9 x10
    ) else (
      mX9_meets_155 n s29 a4 a5 x6 x7 x8 x9 x10
    )
  )
theorem bX9_meets_128 {G : Cx} {E : Ev} {n : Nat} (hRm : 6 ≤ E.1.frames ∧ 133 ≤ E.1.locals) {s0 : Sg} {t0 : Int32} {a4 : Nat} {a5 : Nat} {x6 : Int32} {x7 : Int32} {x8 : Int32} {x9 : Int32} {x10 : Int32} {P : (Sg × Int32 × Int32) ⊕ (Sg × Int32) → Prop} (hC : ∀ (s : Sg) (c8 : Int32) (c10 : Int32), P (.inl (s, c8, c10)) → BW G tX9_meets E 0 0 80 [(4, .ref a4), (5, .ref a5), (6, .int x6), (7, .int x7), (8, .int c8), (9, .int x9), (10, .int c10)] [] s) (hE : ∀ (s : Sg) (c8 : Int32), P (.inr (s, c8)) → BW G tX9_meets E 0 0 161 [(4, .ref a4), (5, .ref a5), (6, .int x6), (7, .int x7), (8, .int c8), (9, .int x9)] [] s)  (h : Ok (mX9_meets_128 n s0 t0 a4 a5 x6 x7 x8 x9 x10) P) : BW G tX9_meets E 0 0 128 [(4, .ref a4), (5, .ref a5), (6, .int x6), (7, .int x7), (8, .int x8), (9, .int x9), (10, .int x10)] [.int t0] s0 := by
  unfold mX9_meets_128 at h
  refine BW.run [.istore 12, .iload 12] (pc' := 132) (lv' := [(4, .ref a4), (5, .ref a5), (6, .int x6), (7, .int x7), (8, .int x8), (9, .int x9), (10, .int x10), (12, .int t0)]) (st' := [.int t0]) (by decide +kernel) rfl rfl ?_
  refine BW.if_eq 155 (by decide +kernel : decode tX9_meets.2.1 132 = .ok (.ifCond .eq 23, 3)) (by decide) (fun hc => ?_) (fun hc => ?_)
  · have h := (Ok.ite h).1 hc
    refine BW.sub [0, 1, 2, 3, 4, 5, 6] rfl ?_
    exact bX9_meets_155 hRm hC hE h
  · have h := (Ok.ite h).2 hc
    refine BW.run [.aload 4, .iload 9] (pc' := 139) (lv' := [(4, .ref a4), (5, .ref a5), (6, .int x6), (7, .int x7), (8, .int x8), (9, .int x9), (10, .int x10), (12, .int t0)]) (st' := [.int x9, .ref a4]) (by decide +kernel) rfl rfl ?_
    refine BW.callV (As := [.int x9]) (st := []) (by decide +kernel : decode tX9_meets.2.1 139 = .ok (.invokevirtual 165, 3)) (DX8_cellOf (Ok.bindK h)) mfX8_cellOf lkM_X9_165 imX8_cellOf selX8_cellOf ciX8 (oX8_cellOf (Ok.bindK h)).choose_spec rfl rfl (Nat.le_of_ble_eq_true rfl) ⟨Nat.le_trans (by decide) hRm.1, Nat.le_trans (by decide) hRm.2⟩ ⟨Nat.zero_le _, Nat.zero_le _⟩ ?_
    rintro _ s26 ⟨v27, rfl, h⟩
    show BW G tX9_meets E 0 0 142 [(4, .ref a4), (5, .ref a5), (6, .int x6), (7, .int x7), (8, .int x8), (9, .int x9), (10, .int x10), (12, .int t0)] [.int v27] s26
    refine BW.run [.aload 5, .iload 10] (pc' := 146) (lv' := [(4, .ref a4), (5, .ref a5), (6, .int x6), (7, .int x7), (8, .int x8), (9, .int x9), (10, .int x10), (12, .int t0)]) (st' := [.int x10, .ref a5, .int v27]) (by decide +kernel) rfl rfl ?_
    refine BW.callV (As := [.int x10]) (st := [.int v27]) (by decide +kernel : decode tX9_meets.2.1 146 = .ok (.invokevirtual 165, 3)) (DX8_cellOf (Ok.bindK h)) mfX8_cellOf lkM_X9_165 imX8_cellOf selX8_cellOf ciX8 (oX8_cellOf (Ok.bindK h)).choose_spec rfl rfl (Nat.le_of_ble_eq_true rfl) ⟨Nat.le_trans (by decide) hRm.1, Nat.le_trans (by decide) hRm.2⟩ ⟨Nat.zero_le _, Nat.zero_le _⟩ ?_
    rintro _ s29 ⟨v30, rfl, h⟩
    show BW G tX9_meets E 0 0 149 [(4, .ref a4), (5, .ref a5), (6, .int x6), (7, .int x7), (8, .int x8), (9, .int x9), (10, .int x10), (12, .int t0)] [.int v30, .int v27] s29
    refine BW.icmp_ne 155 (by decide +kernel : decode tX9_meets.2.1 149 = .ok (.if_icmp .ne 6, 3)) (by decide) (fun hc => ?_) (fun hc => ?_)
    · have h := (Ok.ite h).2 hc
      refine BW.sub [0, 1, 2, 3, 4, 5, 6] rfl ?_
      exact bX9_meets_155 hRm hC hE h
    · have h := (Ok.ite h).1 hc
      refine BW.run [.iinc 8 1] (pc' := 155) (lv' := [(4, .ref a4), (5, .ref a5), (6, .int x6), (7, .int x7), (8, .int (x8 + (1 : Int32))), (9, .int x9), (10, .int x10), (12, .int t0)]) (st' := []) (by decide +kernel) rfl rfl ?_
      refine BW.sub [0, 1, 2, 3, 4, 5, 6] rfl ?_
      exact bX9_meets_155 hRm hC hE h
def mX9_meets_127 (n : Nat) (s0 : Sg) (a4 : Nat) (a5 : Nat) (x6 : Int32) (x7 : Int32) (x8 : Int32) (x9 : Int32) (x10 : Int32) : Option ((Sg × Int32 × Int32) ⊕ (Sg × Int32)) :=
  mX9_meets_128 n s0 (0 : Int32) a4 a5 x6 x7 x8 x9 x10
theorem bX9_meets_127 {G : Cx} {E : Ev} {n : Nat} (hRm : 6 ≤ E.1.frames ∧ 133 ≤ E.1.locals) {s0 : Sg} {a4 : Nat} {a5 : Nat} {x6 : Int32} {x7 : Int32} {x8 : Int32} {x9 : Int32} {x10 : Int32} {P : (Sg × Int32 × Int32) ⊕ (Sg × Int32) → Prop} (hC : ∀ (s : Sg) (c8 : Int32) (c10 : Int32), P (.inl (s, c8, c10)) → BW G tX9_meets E 0 0 80 [(4, .ref a4), (5, .ref a5), (6, .int x6), (7, .int x7), (8, .int c8), (9, .int x9), (10, .int c10)] [] s) (hE : ∀ (s : Sg) (c8 : Int32), P (.inr (s, c8)) → BW G tX9_meets E 0 0 161 [(4, .ref a4), (5, .ref a5), (6, .int x6), (7, .int x7), (8, .int c8), (9, .int x9)] [] s)  (h : Ok (mX9_meets_127 n s0 a4 a5 x6 x7 x8 x9 x10) P) : BW G tX9_meets E 0 0 127 [(4, .ref a4), (5, .ref a5), (6, .int x6), (7, .int x7), (8, .int x8), (9, .int x9), (10, .int x10)] [] s0 := by
  unfold mX9_meets_127 at h
  refine BW.run [.iconst 0] (pc' := 128) (lv' := [(4, .ref a4), (5, .ref a5), (6, .int x6), (7, .int x7), (8, .int x8), (9, .int x9), (10, .int x10)]) (st' := [.int (0 : Int32)]) (by decide +kernel) rfl rfl ?_
  exact bX9_meets_128 hRm hC hE h
def mX9_meets_L80 (n : Nat) (a4 : Nat) (a5 : Nat) (x6 : Int32) (x7 : Int32) (x9 : Int32) : (Sg × Int32 × Int32) → Option ((Sg × Int32 × Int32) ⊕ (Sg × Int32))
  | (s0, x8, x10) =>
    (toI (gV 8 s0 a5 6)).bind fun v22 =>
    if v22 < x10 then (
      some (.inr (s0, x8))
    ) else (
      (toI (gV 8 s0 a4 0)).bind fun v23 =>
      (toI (gV 8 s0 a5 0)).bind fun v24 =>
      nm ((v23 * x9) - (v24 * x10)) fun v25 =>
      if v25 < x6 then (
        mX9_meets_127 n s0 a4 a5 x6 x7 x8 x9 x10
      ) else (
        if x7 < v25 then (
          mX9_meets_127 n s0 a4 a5 x6 x7 x8 x9 x10
        ) else (
          mX9_meets_128 n s0 (1 : Int32) a4 a5 x6 x7 x8 x9 x10
        )
      )
    )
theorem bX9_meets_L80 {G : Cx} {E : Ev} {n : Nat} (hRm : 6 ≤ E.1.frames ∧ 133 ≤ E.1.locals) {a4 : Nat} {a5 : Nat} {x6 : Int32} {x7 : Int32} {x9 : Int32} {P : (Sg × Int32 × Int32) ⊕ (Sg × Int32) → Prop} (hC : ∀ (s : Sg) (c8 : Int32) (c10 : Int32), P (.inl (s, c8, c10)) → BW G tX9_meets E 0 0 80 [(4, .ref a4), (5, .ref a5), (6, .int x6), (7, .int x7), (8, .int c8), (9, .int x9), (10, .int c10)] [] s) (hE : ∀ (s : Sg) (c8 : Int32), P (.inr (s, c8)) → BW G tX9_meets E 0 0 161 [(4, .ref a4), (5, .ref a5), (6, .int x6), (7, .int x7), (8, .int c8), (9, .int x9)] [] s) {s0 : Sg} {x8 : Int32} {x10 : Int32} (h : Ok (mX9_meets_L80 n a4 a5 x6 x7 x9 (s0, x8, x10)) P) : BW G tX9_meets E 0 0 80 [(4, .ref a4), (5, .ref a5), (6, .int x6), (7, .int x7), (8, .int x8), (9, .int x9), (10, .int x10)] [] s0 := by
  unfold mX9_meets_L80 at h
  refine BW.run [.iload 10, .aload 5] (pc' := 84) (lv' := [(4, .ref a4), (5, .ref a5), (6, .int x6), (7, .int x7), (8, .int x8), (9, .int x9), (10, .int x10)]) (st' := [.ref a5, .int x10]) (by decide +kernel) rfl rfl ?_
  obtain ⟨v22, ev22, h⟩ := Ok.bind h
  refine BW.getN (by decide +kernel : decode tX9_meets.2.1 84 = .ok (.getfield 150, 3)) ciX8 (k := 6) (by decide) lkF_X9_150 (toI_V ev22) ?_
  refine BW.icmp_gt 161 (by decide +kernel : decode tX9_meets.2.1 87 = .ok (.if_icmp .gt 74, 3)) (by decide) (fun hc => ?_) (fun hc => ?_)
  · have h := (Ok.ite h).1 hc
    refine BW.sub [0, 1, 2, 3, 4, 5] rfl ?_
    exact hE _ _ (Ok.some h)
  · have h := (Ok.ite h).2 hc
    refine BW.run [.aload 4] (pc' := 92) (lv' := [(4, .ref a4), (5, .ref a5), (6, .int x6), (7, .int x7), (8, .int x8), (9, .int x9), (10, .int x10)]) (st' := [.ref a4]) (by decide +kernel) rfl rfl ?_
    obtain ⟨v23, ev23, h⟩ := Ok.bind h
    refine BW.getN (by decide +kernel : decode tX9_meets.2.1 92 = .ok (.getfield 153, 3)) ciX8 (k := 0) (by decide) lkF_X9_153 (toI_V ev23) ?_
    refine BW.run [.iload 9, .imul, .aload 5] (pc' := 100) (lv' := [(4, .ref a4), (5, .ref a5), (6, .int x6), (7, .int x7), (8, .int x8), (9, .int x9), (10, .int x10)]) (st' := [.ref a5, .int (v23 * x9)]) (by decide +kernel) rfl rfl ?_
    obtain ⟨v24, ev24, h⟩ := Ok.bind h
    refine BW.getN (by decide +kernel : decode tX9_meets.2.1 100 = .ok (.getfield 153, 3)) ciX8 (k := 0) (by decide) lkF_X9_153 (toI_V ev24) ?_
    refine BW.run [.iload 10, .imul, .isub] (pc' := 107) (lv' := [(4, .ref a4), (5, .ref a5), (6, .int x6), (7, .int x7), (8, .int x8), (9, .int x9), (10, .int x10)]) (st' := [.int ((v23 * x9) - (v24 * x10))]) (by decide +kernel) rfl rfl ?_
    obtain ⟨v25, wv25, h⟩ := Ok.nm h
    refine BW.nm wv25 ?_
    refine BW.run [.istore 11, .iload 11, .iload 6] (pc' := 113) (lv' := [(4, .ref a4), (5, .ref a5), (6, .int x6), (7, .int x7), (8, .int x8), (9, .int x9), (10, .int x10), (11, .int v25)]) (st' := [.int x6, .int v25]) (by decide +kernel) rfl rfl ?_
    refine BW.icmp_lt 127 (by decide +kernel : decode tX9_meets.2.1 113 = .ok (.if_icmp .lt 14, 3)) (by decide) (fun hc => ?_) (fun hc => ?_)
    · have h := (Ok.ite h).1 hc
      refine BW.sub [0, 1, 2, 3, 4, 5, 6] rfl ?_
      exact bX9_meets_127 hRm hC hE h
    · have h := (Ok.ite h).2 hc
      refine BW.run [.iload 11, .iload 7] (pc' := 120) (lv' := [(4, .ref a4), (5, .ref a5), (6, .int x6), (7, .int x7), (8, .int x8), (9, .int x9), (10, .int x10), (11, .int v25)]) (st' := [.int x7, .int v25]) (by decide +kernel) rfl rfl ?_
      refine BW.icmp_gt 127 (by decide +kernel : decode tX9_meets.2.1 120 = .ok (.if_icmp .gt 7, 3)) (by decide) (fun hc => ?_) (fun hc => ?_)
      · have h := (Ok.ite h).1 hc
        refine BW.sub [0, 1, 2, 3, 4, 5, 6] rfl ?_
        exact bX9_meets_127 hRm hC hE h
      · have h := (Ok.ite h).2 hc
        refine BW.run [.iconst 1] (pc' := 124) (lv' := [(4, .ref a4), (5, .ref a5), (6, .int x6), (7, .int x7), (8, .int x8), (9, .int x9), (10, .int x10), (11, .int v25)]) (st' := [.int (1 : Int32)]) (by decide +kernel) rfl rfl ?_
        refine BW.goto 128 (by decide +kernel : decode tX9_meets.2.1 124 = .ok (.goto 4, 3)) (by decide) ?_
        refine BW.sub [0, 1, 2, 3, 4, 5, 6] rfl ?_
        exact bX9_meets_128 hRm hC hE h
theorem bX9_meets_W80 {G : Cx} {E : Ev} {n : Nat} (hRm : 6 ≤ E.1.frames ∧ 133 ≤ E.1.locals) {a4 : Nat} {a5 : Nat} {x6 : Int32} {x7 : Int32} {x9 : Int32} {K : (Sg × Int32) → Prop} (hE : ∀ (s : Sg) (c8 : Int32), K (s, c8) → BW G tX9_meets E 0 0 161 [(4, .ref a4), (5, .ref a5), (6, .int x6), (7, .int x7), (8, .int c8), (9, .int x9)] [] s) : ∀ (f : Nat) (c : Sg × Int32 × Int32), Ok (loopM (mX9_meets_L80 n a4 a5 x6 x7 x9) f c) K → match c with | (s0, x8, x10) => BW G tX9_meets E 0 0 80 [(4, .ref a4), (5, .ref a5), (6, .int x6), (7, .int x7), (8, .int x8), (9, .int x9), (10, .int x10)] [] s0 := by
  intro f
  induction f with
  | zero => intro c h; exact (Ok.no h).elim
  | succ f ih =>
    intro c h
    obtain ⟨s0, x8, x10⟩ := c
    exact bX9_meets_L80 (P := loopP (mX9_meets_L80 n a4 a5 x6 x7 x9) f K) hRm (fun s c8 c10 h => ih (s, c8, c10) h) hE (loopM_ok h)
def mX9_meets_L67 (n : Nat) (a4 : Nat) (a5 : Nat) (x6 : Int32) (x7 : Int32) : (Sg × Int32 × Int32) → Option ((Sg × Int32 × Int32) ⊕ (Sg × Int32))
  | (s0, x8, x9) =>
    (toI (gV 8 s0 a4 6)).bind fun v21 =>
    if v21 < x9 then (
      some (.inr (s0, x8))
    ) else (
      (loopM (mX9_meets_L80 n a4 a5 x6 x7 x9) n (s0, x8, (0 : Int32))).bind fun (s32, v33) =>
      some (.inl (s32, v33, (x9 + (1 : Int32))))
    )
theorem bX9_meets_L67 {G : Cx} {E : Ev} {n : Nat} (hRm : 6 ≤ E.1.frames ∧ 133 ≤ E.1.locals) {a4 : Nat} {a5 : Nat} {x6 : Int32} {x7 : Int32} {P : (Sg × Int32 × Int32) ⊕ (Sg × Int32) → Prop} (hC : ∀ (s : Sg) (c8 : Int32) (c9 : Int32), P (.inl (s, c8, c9)) → BW G tX9_meets E 0 0 67 [(4, .ref a4), (5, .ref a5), (6, .int x6), (7, .int x7), (8, .int c8), (9, .int c9)] [] s) (hE : ∀ (s : Sg) (c8 : Int32), P (.inr (s, c8)) → BW G tX9_meets E 0 0 167 [(8, .int c8)] [] s) {s0 : Sg} {x8 : Int32} {x9 : Int32} (h : Ok (mX9_meets_L67 n a4 a5 x6 x7 (s0, x8, x9)) P) : BW G tX9_meets E 0 0 67 [(4, .ref a4), (5, .ref a5), (6, .int x6), (7, .int x7), (8, .int x8), (9, .int x9)] [] s0 := by
  unfold mX9_meets_L67 at h
  refine BW.run [.iload 9, .aload 4] (pc' := 71) (lv' := [(4, .ref a4), (5, .ref a5), (6, .int x6), (7, .int x7), (8, .int x8), (9, .int x9)]) (st' := [.ref a4, .int x9]) (by decide +kernel) rfl rfl ?_
  obtain ⟨v21, ev21, h⟩ := Ok.bind h
  refine BW.getN (by decide +kernel : decode tX9_meets.2.1 71 = .ok (.getfield 150, 3)) ciX8 (k := 6) (by decide) lkF_X9_150 (toI_V ev21) ?_
  refine BW.icmp_gt 167 (by decide +kernel : decode tX9_meets.2.1 74 = .ok (.if_icmp .gt 93, 3)) (by decide) (fun hc => ?_) (fun hc => ?_)
  · have h := (Ok.ite h).1 hc
    refine BW.sub [4] rfl ?_
    exact hE _ _ (Ok.some h)
  · have h := (Ok.ite h).2 hc
    refine BW.run [.iconst 0, .istore 10] (pc' := 80) (lv' := [(4, .ref a4), (5, .ref a5), (6, .int x6), (7, .int x7), (8, .int x8), (9, .int x9), (10, .int (0 : Int32))]) (st' := []) (by decide +kernel) rfl rfl ?_
    refine bX9_meets_W80 hRm (a4 := a4) (a5 := a5) (x6 := x6) (x7 := x7) (x9 := x9) (fun s32 v33 h => ?_) n (s0, x8, (0 : Int32)) (Ok.bindK h)
    refine BW.run [.iinc 9 1] (pc' := 164) (lv' := [(4, .ref a4), (5, .ref a5), (6, .int x6), (7, .int x7), (8, .int v33), (9, .int (x9 + (1 : Int32)))]) (st' := []) (by decide +kernel) rfl rfl ?_
    refine BW.goto 67 (by decide +kernel : decode tX9_meets.2.1 164 = .ok (.goto (-97), 3)) (by decide) ?_
    exact hC _ _ _ (Ok.some h)
theorem bX9_meets_W67 {G : Cx} {E : Ev} {n : Nat} (hRm : 6 ≤ E.1.frames ∧ 133 ≤ E.1.locals) {a4 : Nat} {a5 : Nat} {x6 : Int32} {x7 : Int32} {K : (Sg × Int32) → Prop} (hE : ∀ (s : Sg) (c8 : Int32), K (s, c8) → BW G tX9_meets E 0 0 167 [(8, .int c8)] [] s) : ∀ (f : Nat) (c : Sg × Int32 × Int32), Ok (loopM (mX9_meets_L67 n a4 a5 x6 x7) f c) K → match c with | (s0, x8, x9) => BW G tX9_meets E 0 0 67 [(4, .ref a4), (5, .ref a5), (6, .int x6), (7, .int x7), (8, .int x8), (9, .int x9)] [] s0 := by
  intro f
  induction f with
  | zero => intro c h; exact (Ok.no h).elim
  | succ f ih =>
    intro c h
    obtain ⟨s0, x8, x9⟩ := c
    exact bX9_meets_L67 (P := loopP (mX9_meets_L67 n a4 a5 x6 x7) f K) hRm (fun s c8 c9 h => ih (s, c8, c9) h) hE (loopM_ok h)
def mX9_meets (n : Nat) (s0 : Sg) (a0 : Nat) (x1 : Int32) (x2 : Int32) (x3 : Int32) : Option (Int32 × Sg) :=
  (isO 9 s0 a0).bind fun _ =>
  (mX9_walkOf n s0 a0 x2).bind fun q3 => match q3 with
  | (none, s1) => (
    (mX9_walkOf n s1 a0 x3).bind fun q6 => match q6 with
    | (none, s4) => (
      some ((-1 : Int32), s4)
    )
    | (some b5, s4) => (
      some ((-1 : Int32), s4)
    )
  )
  | (some b2, s1) => (
    (mX9_walkOf n s1 a0 x3).bind fun q9 => match q9 with
    | (none, s7) => (
      some ((-1 : Int32), s7)
    )
    | (some b8, s7) => (
      if x2 = x3 then (
        some ((-1 : Int32), s7)
      ) else (
        (mX9_canBe n s7 a0 x1).bind fun (v11, s10) =>
        if v11 = 0 then (
          some ((-1 : Int32), s10)
        ) else (
          (toR (gV 9 s10 a0 11)).bind fun b13 =>
          (mX4_leastGap n s10 b13 x2 x3).bind fun (v15, s14) =>
          (toR (gV 9 s14 a0 11)).bind fun b17 =>
          (mX4_greatestGap n s14 b17 x2 x3).bind fun (v19, s18) =>
          (loopM (mX9_meets_L67 n b2 b8 v15 v19) n (s18, (0 : Int32), (0 : Int32))).bind fun (s35, v36) =>
          some (v36, s35)
        )
      )
    )
  )
theorem bX9_meets {G : Cx} {E : Ev} {n : Nat} (hRm : 6 ≤ E.1.frames ∧ 133 ≤ E.1.locals) {P : Int32 × Sg → Prop} (hQ : ∀ r s, P (r, s) → E.2.2.2.2 (some (.int r)) s) {s0 : Sg} {a0 : Nat} {x1 : Int32} {x2 : Int32} {x3 : Int32} (h : Ok (mX9_meets n s0 a0 x1 x2 x3) P) : BW G tX9_meets E 0 0 0 [(0, .ref a0), (1, .int x1), (2, .int x2), (3, .int x3)] [] s0 := by
  unfold mX9_meets at h
  obtain ⟨_, _, h⟩ := Ok.bind h
  refine BW.run [.aload_n 0, .iload_n 2] (pc' := 2) (lv' := [(0, .ref a0), (1, .int x1), (2, .int x2), (3, .int x3)]) (st' := [.int x2, .ref a0]) (by decide +kernel) rfl rfl ?_
  refine BW.callV (As := [.int x2]) (st := []) (by decide +kernel : decode tX9_meets.2.1 2 = .ok (.invokevirtual 143, 3)) (DX9_walkOf (Ok.bindK h)) mfX9_walkOf lkM_X9_143 imX9_walkOf selX9_walkOf ciX9 (oX9_walkOf (Ok.bindK h)).choose_spec rfl rfl (Nat.le_of_ble_eq_true rfl) ⟨Nat.le_trans (by decide) hRm.1, Nat.le_trans (by decide) hRm.2⟩ ⟨Nat.zero_le _, Nat.zero_le _⟩ ?_
  rintro _ s1 ⟨_ | b2, rfl, h⟩
  · show BW G tX9_meets E 0 0 5 [(0, .ref a0), (1, .int x1), (2, .int x2), (3, .int x3)] (.null :: []) s1
    refine BW.run [.astore 4, .aload_n 0, .iload_n 3] (pc' := 9) (lv' := [(0, .ref a0), (1, .int x1), (2, .int x2), (3, .int x3), (4, .null)]) (st' := [.int x3, .ref a0]) (by decide +kernel) rfl rfl ?_
    refine BW.callV (As := [.int x3]) (st := []) (by decide +kernel : decode tX9_meets.2.1 9 = .ok (.invokevirtual 143, 3)) (DX9_walkOf (Ok.bindK h)) mfX9_walkOf lkM_X9_143 imX9_walkOf selX9_walkOf ciX9 (oX9_walkOf (Ok.bindK h)).choose_spec rfl rfl (Nat.le_of_ble_eq_true rfl) ⟨Nat.le_trans (by decide) hRm.1, Nat.le_trans (by decide) hRm.2⟩ ⟨Nat.zero_le _, Nat.zero_le _⟩ ?_
    rintro _ s4 ⟨_ | b5, rfl, h⟩
    · show BW G tX9_meets E 0 0 12 [(0, .ref a0), (1, .int x1), (2, .int x2), (3, .int x3), (4, .null)] (.null :: []) s4
      refine BW.run [.astore 5, .aload 4] (pc' := 16) (lv' := [(0, .ref a0), (1, .int x1), (2, .int x2), (3, .int x3), (4, .null), (5, .null)]) (st' := [.null]) (by decide +kernel) rfl rfl ?_
      refine BW.ifnullN 37 (by decide +kernel : decode tX9_meets.2.1 16 = .ok (.ifnull 21, 3)) (by decide) ?_
      refine BW.run [.iconst (-1)] (pc' := 38) (lv' := [(0, .ref a0), (1, .int x1), (2, .int x2), (3, .int x3), (4, .null), (5, .null)]) (st' := [.int (-1 : Int32)]) (by decide +kernel) rfl rfl ?_
      exact BW.iret (by decide +kernel : decode tX9_meets.2.1 38 = .ok (.ireturn, 1)) rfl (Nat.zero_le _) (Nat.zero_le _) (hQ _ _ (Ok.some h))
    · show BW G tX9_meets E 0 0 12 [(0, .ref a0), (1, .int x1), (2, .int x2), (3, .int x3), (4, .null)] (.ref b5 :: []) s4
      refine BW.run [.astore 5, .aload 4] (pc' := 16) (lv' := [(0, .ref a0), (1, .int x1), (2, .int x2), (3, .int x3), (4, .null), (5, .ref b5)]) (st' := [.null]) (by decide +kernel) rfl rfl ?_
      refine BW.ifnullN 37 (by decide +kernel : decode tX9_meets.2.1 16 = .ok (.ifnull 21, 3)) (by decide) ?_
      refine BW.run [.iconst (-1)] (pc' := 38) (lv' := [(0, .ref a0), (1, .int x1), (2, .int x2), (3, .int x3), (4, .null), (5, .ref b5)]) (st' := [.int (-1 : Int32)]) (by decide +kernel) rfl rfl ?_
      exact BW.iret (by decide +kernel : decode tX9_meets.2.1 38 = .ok (.ireturn, 1)) rfl (Nat.zero_le _) (Nat.zero_le _) (hQ _ _ (Ok.some h))
  · show BW G tX9_meets E 0 0 5 [(0, .ref a0), (1, .int x1), (2, .int x2), (3, .int x3)] (.ref b2 :: []) s1
    refine BW.run [.astore 4, .aload_n 0, .iload_n 3] (pc' := 9) (lv' := [(0, .ref a0), (1, .int x1), (2, .int x2), (3, .int x3), (4, .ref b2)]) (st' := [.int x3, .ref a0]) (by decide +kernel) rfl rfl ?_
    refine BW.callV (As := [.int x3]) (st := []) (by decide +kernel : decode tX9_meets.2.1 9 = .ok (.invokevirtual 143, 3)) (DX9_walkOf (Ok.bindK h)) mfX9_walkOf lkM_X9_143 imX9_walkOf selX9_walkOf ciX9 (oX9_walkOf (Ok.bindK h)).choose_spec rfl rfl (Nat.le_of_ble_eq_true rfl) ⟨Nat.le_trans (by decide) hRm.1, Nat.le_trans (by decide) hRm.2⟩ ⟨Nat.zero_le _, Nat.zero_le _⟩ ?_
    rintro _ s7 ⟨_ | b8, rfl, h⟩
    · show BW G tX9_meets E 0 0 12 [(0, .ref a0), (1, .int x1), (2, .int x2), (3, .int x3), (4, .ref b2)] (.null :: []) s7
      refine BW.run [.astore 5, .aload 4] (pc' := 16) (lv' := [(0, .ref a0), (1, .int x1), (2, .int x2), (3, .int x3), (4, .ref b2), (5, .null)]) (st' := [.ref b2]) (by decide +kernel) rfl rfl ?_
      refine BW.ifnull (by decide +kernel : decode tX9_meets.2.1 16 = .ok (.ifnull 21, 3)) ?_
      refine BW.run [.aload 5] (pc' := 21) (lv' := [(0, .ref a0), (1, .int x1), (2, .int x2), (3, .int x3), (4, .ref b2), (5, .null)]) (st' := [.null]) (by decide +kernel) rfl rfl ?_
      refine BW.ifnullN 37 (by decide +kernel : decode tX9_meets.2.1 21 = .ok (.ifnull 16, 3)) (by decide) ?_
      refine BW.run [.iconst (-1)] (pc' := 38) (lv' := [(0, .ref a0), (1, .int x1), (2, .int x2), (3, .int x3), (4, .ref b2), (5, .null)]) (st' := [.int (-1 : Int32)]) (by decide +kernel) rfl rfl ?_
      exact BW.iret (by decide +kernel : decode tX9_meets.2.1 38 = .ok (.ireturn, 1)) rfl (Nat.zero_le _) (Nat.zero_le _) (hQ _ _ (Ok.some h))
    · show BW G tX9_meets E 0 0 12 [(0, .ref a0), (1, .int x1), (2, .int x2), (3, .int x3), (4, .ref b2)] (.ref b8 :: []) s7
      refine BW.run [.astore 5, .aload 4] (pc' := 16) (lv' := [(0, .ref a0), (1, .int x1), (2, .int x2), (3, .int x3), (4, .ref b2), (5, .ref b8)]) (st' := [.ref b2]) (by decide +kernel) rfl rfl ?_
      refine BW.ifnull (by decide +kernel : decode tX9_meets.2.1 16 = .ok (.ifnull 21, 3)) ?_
      refine BW.run [.aload 5] (pc' := 21) (lv' := [(0, .ref a0), (1, .int x1), (2, .int x2), (3, .int x3), (4, .ref b2), (5, .ref b8)]) (st' := [.ref b8]) (by decide +kernel) rfl rfl ?_
      refine BW.ifnull (by decide +kernel : decode tX9_meets.2.1 21 = .ok (.ifnull 16, 3)) ?_
      refine BW.run [.iload_n 2, .iload_n 3] (pc' := 26) (lv' := [(0, .ref a0), (1, .int x1), (2, .int x2), (3, .int x3), (4, .ref b2), (5, .ref b8)]) (st' := [.int x3, .int x2]) (by decide +kernel) rfl rfl ?_
      refine BW.icmp_eq 37 (by decide +kernel : decode tX9_meets.2.1 26 = .ok (.if_icmp .eq 11, 3)) (by decide) (fun hc => ?_) (fun hc => ?_)
      · have h := (Ok.ite h).1 hc
        refine BW.run [.iconst (-1)] (pc' := 38) (lv' := [(0, .ref a0), (1, .int x1), (2, .int x2), (3, .int x3), (4, .ref b2), (5, .ref b8)]) (st' := [.int (-1 : Int32)]) (by decide +kernel) rfl rfl ?_
        exact BW.iret (by decide +kernel : decode tX9_meets.2.1 38 = .ok (.ireturn, 1)) rfl (Nat.zero_le _) (Nat.zero_le _) (hQ _ _ (Ok.some h))
      · have h := (Ok.ite h).2 hc
        refine BW.run [.aload_n 0, .iload_n 1] (pc' := 31) (lv' := [(0, .ref a0), (1, .int x1), (2, .int x2), (3, .int x3), (4, .ref b2), (5, .ref b8)]) (st' := [.int x1, .ref a0]) (by decide +kernel) rfl rfl ?_
        refine BW.callV (As := [.int x1]) (st := []) (by decide +kernel : decode tX9_meets.2.1 31 = .ok (.invokevirtual 223, 3)) (DX9_canBe (Ok.bindK h)) mfX9_canBe lkM_X9_223 imX9_canBe selX9_canBe ciX9 (oX9_canBe (Ok.bindK h)).choose_spec rfl rfl (Nat.le_of_ble_eq_true rfl) ⟨Nat.le_trans (by decide) hRm.1, Nat.le_trans (by decide) hRm.2⟩ ⟨Nat.zero_le _, Nat.zero_le _⟩ ?_
        rintro _ s10 ⟨v11, rfl, h⟩
        show BW G tX9_meets E 0 0 34 [(0, .ref a0), (1, .int x1), (2, .int x2), (3, .int x3), (4, .ref b2), (5, .ref b8)] [.int v11] s10
        refine BW.if_ne 39 (by decide +kernel : decode tX9_meets.2.1 34 = .ok (.ifCond .ne 5, 3)) (by decide) (fun hc => ?_) (fun hc => ?_)
        · have h := (Ok.ite h).2 hc
          refine BW.run [.aload_n 0] (pc' := 40) (lv' := [(0, .ref a0), (1, .int x1), (2, .int x2), (3, .int x3), (4, .ref b2), (5, .ref b8)]) (st' := [.ref a0]) (by decide +kernel) rfl rfl ?_
          obtain ⟨b13, eb13, h⟩ := Ok.bind h
          refine BW.get (by decide +kernel : decode tX9_meets.2.1 40 = .ok (.getfield 45, 3)) ciX9 (k := 11) (by decide) lkF_X9_45 (toR_V eb13) ?_
          refine BW.run [.iload_n 2, .iload_n 3] (pc' := 45) (lv' := [(0, .ref a0), (1, .int x1), (2, .int x2), (3, .int x3), (4, .ref b2), (5, .ref b8)]) (st' := [.int x3, .int x2, .ref b13]) (by decide +kernel) rfl rfl ?_
          refine BW.callV (As := [.int x2, .int x3]) (st := []) (by decide +kernel : decode tX9_meets.2.1 45 = .ok (.invokevirtual 233, 3)) (DX4_leastGap (Ok.bindK h)) mfX4_leastGap lkM_X9_233 imX4_leastGap selX4_leastGap ciX4 (oX4_leastGap (Ok.bindK h)).choose_spec rfl rfl (Nat.le_of_ble_eq_true rfl) ⟨Nat.le_trans (by decide) hRm.1, Nat.le_trans (by decide) hRm.2⟩ ⟨Nat.zero_le _, Nat.zero_le _⟩ ?_
          rintro _ s14 ⟨v15, rfl, h⟩
          show BW G tX9_meets E 0 0 48 [(0, .ref a0), (1, .int x1), (2, .int x2), (3, .int x3), (4, .ref b2), (5, .ref b8)] [.int v15] s14
          refine BW.run [.istore 6, .aload_n 0] (pc' := 51) (lv' := [(0, .ref a0), (1, .int x1), (2, .int x2), (3, .int x3), (4, .ref b2), (5, .ref b8), (6, .int v15)]) (st' := [.ref a0]) (by decide +kernel) rfl rfl ?_
          obtain ⟨b17, eb17, h⟩ := Ok.bind h
          refine BW.get (by decide +kernel : decode tX9_meets.2.1 51 = .ok (.getfield 45, 3)) ciX9 (k := 11) (by decide) lkF_X9_45 (toR_V eb17) ?_
          refine BW.run [.iload_n 2, .iload_n 3] (pc' := 56) (lv' := [(0, .ref a0), (1, .int x1), (2, .int x2), (3, .int x3), (4, .ref b2), (5, .ref b8), (6, .int v15)]) (st' := [.int x3, .int x2, .ref b17]) (by decide +kernel) rfl rfl ?_
          refine BW.callV (As := [.int x2, .int x3]) (st := []) (by decide +kernel : decode tX9_meets.2.1 56 = .ok (.invokevirtual 236, 3)) (DX4_greatestGap (Ok.bindK h)) mfX4_greatestGap lkM_X9_236 imX4_greatestGap selX4_greatestGap ciX4 (oX4_greatestGap (Ok.bindK h)).choose_spec rfl rfl (Nat.le_of_ble_eq_true rfl) ⟨Nat.le_trans (by decide) hRm.1, Nat.le_trans (by decide) hRm.2⟩ ⟨Nat.zero_le _, Nat.zero_le _⟩ ?_
          rintro _ s18 ⟨v19, rfl, h⟩
          show BW G tX9_meets E 0 0 59 [(0, .ref a0), (1, .int x1), (2, .int x2), (3, .int x3), (4, .ref b2), (5, .ref b8), (6, .int v15)] [.int v19] s18
          refine BW.run [.istore 7, .iconst 0, .istore 8, .iconst 0, .istore 9] (pc' := 67) (lv' := [(0, .ref a0), (1, .int x1), (2, .int x2), (3, .int x3), (4, .ref b2), (5, .ref b8), (6, .int v15), (7, .int v19), (8, .int (0 : Int32)), (9, .int (0 : Int32))]) (st' := []) (by decide +kernel) rfl rfl ?_
          refine BW.sub [4, 5, 6, 7, 8, 9] rfl ?_
          refine bX9_meets_W67 hRm (a4 := b2) (a5 := b8) (x6 := v15) (x7 := v19) (fun s35 v36 h => ?_) n (s18, (0 : Int32), (0 : Int32)) (Ok.bindK h)
          refine BW.run [.iload 8] (pc' := 169) (lv' := [(8, .int v36)]) (st' := [.int v36]) (by decide +kernel) rfl rfl ?_
          exact BW.iret (by decide +kernel : decode tX9_meets.2.1 169 = .ok (.ireturn, 1)) rfl (Nat.zero_le _) (Nat.zero_le _) (hQ _ _ (Ok.some h))
        · have h := (Ok.ite h).1 hc
          refine BW.run [.iconst (-1)] (pc' := 38) (lv' := [(0, .ref a0), (1, .int x1), (2, .int x2), (3, .int x3), (4, .ref b2), (5, .ref b8)]) (st' := [.int (-1 : Int32)]) (by decide +kernel) rfl rfl ?_
          exact BW.iret (by decide +kernel : decode tX9_meets.2.1 38 = .ok (.ireturn, 1)) rfl (Nat.zero_le _) (Nat.zero_le _) (hQ _ _ (Ok.some h))
theorem oX9_meets {n : Nat} {P : Int32 × Sg → Prop} {s0 : Sg} {a0 : Nat} {x1 : Int32} {x2 : Int32} {x3 : Int32} (h : Ok (mX9_meets n s0 a0 x1 x2 x3) P) : ∃ n0, s0.2.1 a0 = some (9, n0) := by
  unfold mX9_meets at h
  exact Ok.isO h
theorem DX9_meets {G : Cx} {n : Nat} {P : Int32 × Sg → Prop} {s0 : Sg} {a0 : Nat} {x1 : Int32} {x2 : Int32} {x3 : Int32} (h : Ok (mX9_meets n s0 a0 x1 x2 x3) P) : BM G tX9_meets 6 133 0 0 [.ref a0, .int x1, .int x2, .int x3] s0 (fun v s => ∃ r, v = some (.int r) ∧ P (r, s)) := by
  refine BM.of (by decide +kernel) (Nat.le_of_ble_eq_true rfl) ?_
  exact bX9_meets (E := (({ frames := 6, cells := 0, slots := 0, locals := 133 }), Aof s0, 0, 0, (fun v s => ∃ r, v = some (.int r) ∧ P (r, s)))) ⟨Nat.le_refl _, Nat.le_refl _⟩ (fun r s hp => ⟨r, rfl, hp⟩) h
def mX9_one_100 (n : Nat) (s0 : Sg) (t0 : Int32) (x6 : Int32) : Option (Int32 × Sg) :=
  some ((x6 + t0), s0)
theorem bX9_one_100 {G : Cx} {E : Ev} {n : Nat} (hRm : 6 ≤ E.1.frames ∧ 133 ≤ E.1.locals) {s0 : Sg} {t0 : Int32} {x6 : Int32} {P : Int32 × Sg → Prop} (hQ : ∀ r s, P (r, s) → E.2.2.2.2 (some (.int r)) s) (h : Ok (mX9_one_100 n s0 t0 x6) P) : BW G tX9_one E 0 0 100 [(6, .int x6)] [.int t0] s0 := by
  unfold mX9_one_100 at h
  refine BW.run [.istore 7, .iload 6, .iload 7, .iadd] (pc' := 107) (lv' := [(6, .int x6), (7, .int t0)]) (st' := [.int (x6 + t0)]) (by decide +kernel) rfl rfl ?_
  exact BW.iret (by decide +kernel : decode tX9_one.2.1 107 = .ok (.ireturn, 1)) rfl (Nat.zero_le _) (Nat.zero_le _) (hQ _ _ (Ok.some h))
def mX9_one_76 (n : Nat) (s0 : Sg) (t0 : Int32) (a0 : Nat) (x2 : Int32) (x3 : Int32) (a5 : Nat) : Option (Int32 × Sg) :=
  (toR (gV 9 s0 a0 11)).bind fun b22 =>
  (mX4_greatestGap n s0 b22 x3 x2).bind fun (v24, s23) =>
  (mX8_ticksToEnd n s23 a5).bind fun (v27, s26) =>
  if v24 ≤ v27 then (
    mX9_one_100 n s26 (0 : Int32) t0
  ) else (
    mX9_one_100 n s26 (2 : Int32) t0
  )
theorem bX9_one_76 {G : Cx} {E : Ev} {n : Nat} (hRm : 6 ≤ E.1.frames ∧ 133 ≤ E.1.locals) {s0 : Sg} {t0 : Int32} {a0 : Nat} {x2 : Int32} {x3 : Int32} {a5 : Nat} {P : Int32 × Sg → Prop} (hQ : ∀ r s, P (r, s) → E.2.2.2.2 (some (.int r)) s) (h : Ok (mX9_one_76 n s0 t0 a0 x2 x3 a5) P) : BW G tX9_one E 0 0 76 [(0, .ref a0), (2, .int x2), (3, .int x3), (5, .ref a5)] [.int t0] s0 := by
  unfold mX9_one_76 at h
  refine BW.run [.istore 6, .aload_n 0] (pc' := 79) (lv' := [(0, .ref a0), (2, .int x2), (3, .int x3), (5, .ref a5), (6, .int t0)]) (st' := [.ref a0]) (by decide +kernel) rfl rfl ?_
  obtain ⟨b22, eb22, h⟩ := Ok.bind h
  refine BW.get (by decide +kernel : decode tX9_one.2.1 79 = .ok (.getfield 45, 3)) ciX9 (k := 11) (by decide) lkF_X9_45 (toR_V eb22) ?_
  refine BW.run [.iload_n 3, .iload_n 2] (pc' := 84) (lv' := [(0, .ref a0), (2, .int x2), (3, .int x3), (5, .ref a5), (6, .int t0)]) (st' := [.int x2, .int x3, .ref b22]) (by decide +kernel) rfl rfl ?_
  refine BW.callV (As := [.int x3, .int x2]) (st := []) (by decide +kernel : decode tX9_one.2.1 84 = .ok (.invokevirtual 236, 3)) (DX4_greatestGap (Ok.bindK h)) mfX4_greatestGap lkM_X9_236 imX4_greatestGap selX4_greatestGap ciX4 (oX4_greatestGap (Ok.bindK h)).choose_spec rfl rfl (Nat.le_of_ble_eq_true rfl) ⟨Nat.le_trans (by decide) hRm.1, Nat.le_trans (by decide) hRm.2⟩ ⟨Nat.zero_le _, Nat.zero_le _⟩ ?_
  rintro _ s23 ⟨v24, rfl, h⟩
  show BW G tX9_one E 0 0 87 [(0, .ref a0), (2, .int x2), (3, .int x3), (5, .ref a5), (6, .int t0)] [.int v24] s23
  refine BW.run [.aload 5] (pc' := 89) (lv' := [(0, .ref a0), (2, .int x2), (3, .int x3), (5, .ref a5), (6, .int t0)]) (st' := [.ref a5, .int v24]) (by decide +kernel) rfl rfl ?_
  refine BW.callV (As := []) (st := [.int v24]) (by decide +kernel : decode tX9_one.2.1 89 = .ok (.invokevirtual 277, 3)) (DX8_ticksToEnd (Ok.bindK h)) mfX8_ticksToEnd lkM_X9_277 imX8_ticksToEnd selX8_ticksToEnd ciX8 (oX8_ticksToEnd (Ok.bindK h)).choose_spec rfl rfl (Nat.le_of_ble_eq_true rfl) ⟨Nat.le_trans (by decide) hRm.1, Nat.le_trans (by decide) hRm.2⟩ ⟨Nat.zero_le _, Nat.zero_le _⟩ ?_
  rintro _ s26 ⟨v27, rfl, h⟩
  show BW G tX9_one E 0 0 92 [(0, .ref a0), (2, .int x2), (3, .int x3), (5, .ref a5), (6, .int t0)] [.int v27, .int v24] s26
  refine BW.icmp_le 99 (by decide +kernel : decode tX9_one.2.1 92 = .ok (.if_icmp .le 7, 3)) (by decide) (fun hc => ?_) (fun hc => ?_)
  · have h := (Ok.ite h).1 hc
    refine BW.run [.iconst 0] (pc' := 100) (lv' := [(0, .ref a0), (2, .int x2), (3, .int x3), (5, .ref a5), (6, .int t0)]) (st' := [.int (0 : Int32)]) (by decide +kernel) rfl rfl ?_
    refine BW.sub [4] rfl ?_
    exact bX9_one_100 hRm hQ h
  · have h := (Ok.ite h).2 hc
    refine BW.run [.iconst 2] (pc' := 96) (lv' := [(0, .ref a0), (2, .int x2), (3, .int x3), (5, .ref a5), (6, .int t0)]) (st' := [.int (2 : Int32)]) (by decide +kernel) rfl rfl ?_
    refine BW.goto 100 (by decide +kernel : decode tX9_one.2.1 96 = .ok (.goto 4, 3)) (by decide) ?_
    refine BW.sub [4] rfl ?_
    exact bX9_one_100 hRm hQ h
def mX9_one (n : Nat) (s0 : Sg) (a0 : Nat) (x1 : Int32) (x2 : Int32) (x3 : Int32) : Option (Int32 × Sg) :=
  (isO 9 s0 a0).bind fun _ =>
  (mX9_walkOf n s0 a0 x2).bind fun q3 => match q3 with
  | (none, s1) => (
    (mX9_walkOf n s1 a0 x3).bind fun q6 => match q6 with
    | (none, s4) => (
      some ((-1 : Int32), s4)
    )
    | (some b5, s4) => (
      some ((-1 : Int32), s4)
    )
  )
  | (some b2, s1) => (
    (mX9_walkOf n s1 a0 x3).bind fun q9 => match q9 with
    | (none, s7) => (
      some ((-1 : Int32), s7)
    )
    | (some b8, s7) => (
      if x2 = x3 then (
        some ((-1 : Int32), s7)
      ) else (
        (mX9_canBe n s7 a0 x1).bind fun (v11, s10) =>
        if v11 = 0 then (
          some ((-1 : Int32), s10)
        ) else (
          (toI (gV 8 s10 b2 1)).bind fun v13 =>
          (toI (gV 8 s10 b8 1)).bind fun v14 =>
          if v13 = v14 then (
            (toR (gV 9 s10 a0 11)).bind fun b15 =>
            (mX4_greatestGap n s10 b15 x2 x3).bind fun (v17, s16) =>
            (mX8_ticksToEnd n s16 b2).bind fun (v20, s19) =>
            if v17 ≤ v20 then (
              mX9_one_76 n s19 (0 : Int32) a0 x2 x3 b8
            ) else (
              mX9_one_76 n s19 (1 : Int32) a0 x2 x3 b8
            )
          ) else (
            some ((0 : Int32), s10)
          )
        )
      )
    )
  )
theorem bX9_one {G : Cx} {E : Ev} {n : Nat} (hRm : 6 ≤ E.1.frames ∧ 133 ≤ E.1.locals) {P : Int32 × Sg → Prop} (hQ : ∀ r s, P (r, s) → E.2.2.2.2 (some (.int r)) s) {s0 : Sg} {a0 : Nat} {x1 : Int32} {x2 : Int32} {x3 : Int32} (h : Ok (mX9_one n s0 a0 x1 x2 x3) P) : BW G tX9_one E 0 0 0 [(0, .ref a0), (1, .int x1), (2, .int x2), (3, .int x3)] [] s0 := by
  unfold mX9_one at h
  obtain ⟨_, _, h⟩ := Ok.bind h
  refine BW.run [.aload_n 0, .iload_n 2] (pc' := 2) (lv' := [(0, .ref a0), (1, .int x1), (2, .int x2), (3, .int x3)]) (st' := [.int x2, .ref a0]) (by decide +kernel) rfl rfl ?_
  refine BW.callV (As := [.int x2]) (st := []) (by decide +kernel : decode tX9_one.2.1 2 = .ok (.invokevirtual 143, 3)) (DX9_walkOf (Ok.bindK h)) mfX9_walkOf lkM_X9_143 imX9_walkOf selX9_walkOf ciX9 (oX9_walkOf (Ok.bindK h)).choose_spec rfl rfl (Nat.le_of_ble_eq_true rfl) ⟨Nat.le_trans (by decide) hRm.1, Nat.le_trans (by decide) hRm.2⟩ ⟨Nat.zero_le _, Nat.zero_le _⟩ ?_
  rintro _ s1 ⟨_ | b2, rfl, h⟩
  · show BW G tX9_one E 0 0 5 [(0, .ref a0), (1, .int x1), (2, .int x2), (3, .int x3)] (.null :: []) s1
    refine BW.run [.astore 4, .aload_n 0, .iload_n 3] (pc' := 9) (lv' := [(0, .ref a0), (1, .int x1), (2, .int x2), (3, .int x3), (4, .null)]) (st' := [.int x3, .ref a0]) (by decide +kernel) rfl rfl ?_
    refine BW.callV (As := [.int x3]) (st := []) (by decide +kernel : decode tX9_one.2.1 9 = .ok (.invokevirtual 143, 3)) (DX9_walkOf (Ok.bindK h)) mfX9_walkOf lkM_X9_143 imX9_walkOf selX9_walkOf ciX9 (oX9_walkOf (Ok.bindK h)).choose_spec rfl rfl (Nat.le_of_ble_eq_true rfl) ⟨Nat.le_trans (by decide) hRm.1, Nat.le_trans (by decide) hRm.2⟩ ⟨Nat.zero_le _, Nat.zero_le _⟩ ?_
    rintro _ s4 ⟨_ | b5, rfl, h⟩
    · show BW G tX9_one E 0 0 12 [(0, .ref a0), (1, .int x1), (2, .int x2), (3, .int x3), (4, .null)] (.null :: []) s4
      refine BW.run [.astore 5, .aload 4] (pc' := 16) (lv' := [(0, .ref a0), (1, .int x1), (2, .int x2), (3, .int x3), (4, .null), (5, .null)]) (st' := [.null]) (by decide +kernel) rfl rfl ?_
      refine BW.ifnullN 37 (by decide +kernel : decode tX9_one.2.1 16 = .ok (.ifnull 21, 3)) (by decide) ?_
      refine BW.run [.iconst (-1)] (pc' := 38) (lv' := [(0, .ref a0), (1, .int x1), (2, .int x2), (3, .int x3), (4, .null), (5, .null)]) (st' := [.int (-1 : Int32)]) (by decide +kernel) rfl rfl ?_
      exact BW.iret (by decide +kernel : decode tX9_one.2.1 38 = .ok (.ireturn, 1)) rfl (Nat.zero_le _) (Nat.zero_le _) (hQ _ _ (Ok.some h))
    · show BW G tX9_one E 0 0 12 [(0, .ref a0), (1, .int x1), (2, .int x2), (3, .int x3), (4, .null)] (.ref b5 :: []) s4
      refine BW.run [.astore 5, .aload 4] (pc' := 16) (lv' := [(0, .ref a0), (1, .int x1), (2, .int x2), (3, .int x3), (4, .null), (5, .ref b5)]) (st' := [.null]) (by decide +kernel) rfl rfl ?_
      refine BW.ifnullN 37 (by decide +kernel : decode tX9_one.2.1 16 = .ok (.ifnull 21, 3)) (by decide) ?_
      refine BW.run [.iconst (-1)] (pc' := 38) (lv' := [(0, .ref a0), (1, .int x1), (2, .int x2), (3, .int x3), (4, .null), (5, .ref b5)]) (st' := [.int (-1 : Int32)]) (by decide +kernel) rfl rfl ?_
      exact BW.iret (by decide +kernel : decode tX9_one.2.1 38 = .ok (.ireturn, 1)) rfl (Nat.zero_le _) (Nat.zero_le _) (hQ _ _ (Ok.some h))
  · show BW G tX9_one E 0 0 5 [(0, .ref a0), (1, .int x1), (2, .int x2), (3, .int x3)] (.ref b2 :: []) s1
    refine BW.run [.astore 4, .aload_n 0, .iload_n 3] (pc' := 9) (lv' := [(0, .ref a0), (1, .int x1), (2, .int x2), (3, .int x3), (4, .ref b2)]) (st' := [.int x3, .ref a0]) (by decide +kernel) rfl rfl ?_
    refine BW.callV (As := [.int x3]) (st := []) (by decide +kernel : decode tX9_one.2.1 9 = .ok (.invokevirtual 143, 3)) (DX9_walkOf (Ok.bindK h)) mfX9_walkOf lkM_X9_143 imX9_walkOf selX9_walkOf ciX9 (oX9_walkOf (Ok.bindK h)).choose_spec rfl rfl (Nat.le_of_ble_eq_true rfl) ⟨Nat.le_trans (by decide) hRm.1, Nat.le_trans (by decide) hRm.2⟩ ⟨Nat.zero_le _, Nat.zero_le _⟩ ?_
    rintro _ s7 ⟨_ | b8, rfl, h⟩
    · show BW G tX9_one E 0 0 12 [(0, .ref a0), (1, .int x1), (2, .int x2), (3, .int x3), (4, .ref b2)] (.null :: []) s7
      refine BW.run [.astore 5, .aload 4] (pc' := 16) (lv' := [(0, .ref a0), (1, .int x1), (2, .int x2), (3, .int x3), (4, .ref b2), (5, .null)]) (st' := [.ref b2]) (by decide +kernel) rfl rfl ?_
      refine BW.ifnull (by decide +kernel : decode tX9_one.2.1 16 = .ok (.ifnull 21, 3)) ?_
      refine BW.run [.aload 5] (pc' := 21) (lv' := [(0, .ref a0), (1, .int x1), (2, .int x2), (3, .int x3), (4, .ref b2), (5, .null)]) (st' := [.null]) (by decide +kernel) rfl rfl ?_
      refine BW.ifnullN 37 (by decide +kernel : decode tX9_one.2.1 21 = .ok (.ifnull 16, 3)) (by decide) ?_
      refine BW.run [.iconst (-1)] (pc' := 38) (lv' := [(0, .ref a0), (1, .int x1), (2, .int x2), (3, .int x3), (4, .ref b2), (5, .null)]) (st' := [.int (-1 : Int32)]) (by decide +kernel) rfl rfl ?_
      exact BW.iret (by decide +kernel : decode tX9_one.2.1 38 = .ok (.ireturn, 1)) rfl (Nat.zero_le _) (Nat.zero_le _) (hQ _ _ (Ok.some h))
    · show BW G tX9_one E 0 0 12 [(0, .ref a0), (1, .int x1), (2, .int x2), (3, .int x3), (4, .ref b2)] (.ref b8 :: []) s7
      refine BW.run [.astore 5, .aload 4] (pc' := 16) (lv' := [(0, .ref a0), (1, .int x1), (2, .int x2), (3, .int x3), (4, .ref b2), (5, .ref b8)]) (st' := [.ref b2]) (by decide +kernel) rfl rfl ?_
      refine BW.ifnull (by decide +kernel : decode tX9_one.2.1 16 = .ok (.ifnull 21, 3)) ?_
      refine BW.run [.aload 5] (pc' := 21) (lv' := [(0, .ref a0), (1, .int x1), (2, .int x2), (3, .int x3), (4, .ref b2), (5, .ref b8)]) (st' := [.ref b8]) (by decide +kernel) rfl rfl ?_
      refine BW.ifnull (by decide +kernel : decode tX9_one.2.1 21 = .ok (.ifnull 16, 3)) ?_
      refine BW.run [.iload_n 2, .iload_n 3] (pc' := 26) (lv' := [(0, .ref a0), (1, .int x1), (2, .int x2), (3, .int x3), (4, .ref b2), (5, .ref b8)]) (st' := [.int x3, .int x2]) (by decide +kernel) rfl rfl ?_
      refine BW.icmp_eq 37 (by decide +kernel : decode tX9_one.2.1 26 = .ok (.if_icmp .eq 11, 3)) (by decide) (fun hc => ?_) (fun hc => ?_)
      · have h := (Ok.ite h).1 hc
        refine BW.run [.iconst (-1)] (pc' := 38) (lv' := [(0, .ref a0), (1, .int x1), (2, .int x2), (3, .int x3), (4, .ref b2), (5, .ref b8)]) (st' := [.int (-1 : Int32)]) (by decide +kernel) rfl rfl ?_
        exact BW.iret (by decide +kernel : decode tX9_one.2.1 38 = .ok (.ireturn, 1)) rfl (Nat.zero_le _) (Nat.zero_le _) (hQ _ _ (Ok.some h))
      · have h := (Ok.ite h).2 hc
        refine BW.run [.aload_n 0, .iload_n 1] (pc' := 31) (lv' := [(0, .ref a0), (1, .int x1), (2, .int x2), (3, .int x3), (4, .ref b2), (5, .ref b8)]) (st' := [.int x1, .ref a0]) (by decide +kernel) rfl rfl ?_
        refine BW.callV (As := [.int x1]) (st := []) (by decide +kernel : decode tX9_one.2.1 31 = .ok (.invokevirtual 223, 3)) (DX9_canBe (Ok.bindK h)) mfX9_canBe lkM_X9_223 imX9_canBe selX9_canBe ciX9 (oX9_canBe (Ok.bindK h)).choose_spec rfl rfl (Nat.le_of_ble_eq_true rfl) ⟨Nat.le_trans (by decide) hRm.1, Nat.le_trans (by decide) hRm.2⟩ ⟨Nat.zero_le _, Nat.zero_le _⟩ ?_
        rintro _ s10 ⟨v11, rfl, h⟩
        show BW G tX9_one E 0 0 34 [(0, .ref a0), (1, .int x1), (2, .int x2), (3, .int x3), (4, .ref b2), (5, .ref b8)] [.int v11] s10
        refine BW.if_ne 39 (by decide +kernel : decode tX9_one.2.1 34 = .ok (.ifCond .ne 5, 3)) (by decide) (fun hc => ?_) (fun hc => ?_)
        · have h := (Ok.ite h).2 hc
          refine BW.run [.aload 4] (pc' := 41) (lv' := [(0, .ref a0), (1, .int x1), (2, .int x2), (3, .int x3), (4, .ref b2), (5, .ref b8)]) (st' := [.ref b2]) (by decide +kernel) rfl rfl ?_
          obtain ⟨v13, ev13, h⟩ := Ok.bind h
          refine BW.getN (by decide +kernel : decode tX9_one.2.1 41 = .ok (.getfield 156, 3)) ciX8 (k := 1) (by decide) lkF_X9_156 (toI_V ev13) ?_
          refine BW.run [.aload 5] (pc' := 46) (lv' := [(0, .ref a0), (1, .int x1), (2, .int x2), (3, .int x3), (4, .ref b2), (5, .ref b8)]) (st' := [.ref b8, .int v13]) (by decide +kernel) rfl rfl ?_
          obtain ⟨v14, ev14, h⟩ := Ok.bind h
          refine BW.getN (by decide +kernel : decode tX9_one.2.1 46 = .ok (.getfield 156, 3)) ciX8 (k := 1) (by decide) lkF_X9_156 (toI_V ev14) ?_
          refine BW.icmp_eq 54 (by decide +kernel : decode tX9_one.2.1 49 = .ok (.if_icmp .eq 5, 3)) (by decide) (fun hc => ?_) (fun hc => ?_)
          · have h := (Ok.ite h).1 hc
            refine BW.run [.aload_n 0] (pc' := 55) (lv' := [(0, .ref a0), (1, .int x1), (2, .int x2), (3, .int x3), (4, .ref b2), (5, .ref b8)]) (st' := [.ref a0]) (by decide +kernel) rfl rfl ?_
            obtain ⟨b15, eb15, h⟩ := Ok.bind h
            refine BW.get (by decide +kernel : decode tX9_one.2.1 55 = .ok (.getfield 45, 3)) ciX9 (k := 11) (by decide) lkF_X9_45 (toR_V eb15) ?_
            refine BW.run [.iload_n 2, .iload_n 3] (pc' := 60) (lv' := [(0, .ref a0), (1, .int x1), (2, .int x2), (3, .int x3), (4, .ref b2), (5, .ref b8)]) (st' := [.int x3, .int x2, .ref b15]) (by decide +kernel) rfl rfl ?_
            refine BW.callV (As := [.int x2, .int x3]) (st := []) (by decide +kernel : decode tX9_one.2.1 60 = .ok (.invokevirtual 236, 3)) (DX4_greatestGap (Ok.bindK h)) mfX4_greatestGap lkM_X9_236 imX4_greatestGap selX4_greatestGap ciX4 (oX4_greatestGap (Ok.bindK h)).choose_spec rfl rfl (Nat.le_of_ble_eq_true rfl) ⟨Nat.le_trans (by decide) hRm.1, Nat.le_trans (by decide) hRm.2⟩ ⟨Nat.zero_le _, Nat.zero_le _⟩ ?_
            rintro _ s16 ⟨v17, rfl, h⟩
            show BW G tX9_one E 0 0 63 [(0, .ref a0), (1, .int x1), (2, .int x2), (3, .int x3), (4, .ref b2), (5, .ref b8)] [.int v17] s16
            refine BW.run [.aload 4] (pc' := 65) (lv' := [(0, .ref a0), (1, .int x1), (2, .int x2), (3, .int x3), (4, .ref b2), (5, .ref b8)]) (st' := [.ref b2, .int v17]) (by decide +kernel) rfl rfl ?_
            refine BW.callV (As := []) (st := [.int v17]) (by decide +kernel : decode tX9_one.2.1 65 = .ok (.invokevirtual 277, 3)) (DX8_ticksToEnd (Ok.bindK h)) mfX8_ticksToEnd lkM_X9_277 imX8_ticksToEnd selX8_ticksToEnd ciX8 (oX8_ticksToEnd (Ok.bindK h)).choose_spec rfl rfl (Nat.le_of_ble_eq_true rfl) ⟨Nat.le_trans (by decide) hRm.1, Nat.le_trans (by decide) hRm.2⟩ ⟨Nat.zero_le _, Nat.zero_le _⟩ ?_
            rintro _ s19 ⟨v20, rfl, h⟩
            show BW G tX9_one E 0 0 68 [(0, .ref a0), (1, .int x1), (2, .int x2), (3, .int x3), (4, .ref b2), (5, .ref b8)] [.int v20, .int v17] s19
            refine BW.icmp_le 75 (by decide +kernel : decode tX9_one.2.1 68 = .ok (.if_icmp .le 7, 3)) (by decide) (fun hc => ?_) (fun hc => ?_)
            · have h := (Ok.ite h).1 hc
              refine BW.run [.iconst 0] (pc' := 76) (lv' := [(0, .ref a0), (1, .int x1), (2, .int x2), (3, .int x3), (4, .ref b2), (5, .ref b8)]) (st' := [.int (0 : Int32)]) (by decide +kernel) rfl rfl ?_
              refine BW.sub [0, 2, 3, 5] rfl ?_
              exact bX9_one_76 hRm hQ h
            · have h := (Ok.ite h).2 hc
              refine BW.run [.iconst 1] (pc' := 72) (lv' := [(0, .ref a0), (1, .int x1), (2, .int x2), (3, .int x3), (4, .ref b2), (5, .ref b8)]) (st' := [.int (1 : Int32)]) (by decide +kernel) rfl rfl ?_
              refine BW.goto 76 (by decide +kernel : decode tX9_one.2.1 72 = .ok (.goto 4, 3)) (by decide) ?_
              refine BW.sub [0, 2, 3, 5] rfl ?_
              exact bX9_one_76 hRm hQ h
          · have h := (Ok.ite h).2 hc
            refine BW.run [.iconst 0] (pc' := 53) (lv' := [(0, .ref a0), (1, .int x1), (2, .int x2), (3, .int x3), (4, .ref b2), (5, .ref b8)]) (st' := [.int (0 : Int32)]) (by decide +kernel) rfl rfl ?_
            exact BW.iret (by decide +kernel : decode tX9_one.2.1 53 = .ok (.ireturn, 1)) rfl (Nat.zero_le _) (Nat.zero_le _) (hQ _ _ (Ok.some h))
        · have h := (Ok.ite h).1 hc
          refine BW.run [.iconst (-1)] (pc' := 38) (lv' := [(0, .ref a0), (1, .int x1), (2, .int x2), (3, .int x3), (4, .ref b2), (5, .ref b8)]) (st' := [.int (-1 : Int32)]) (by decide +kernel) rfl rfl ?_
          exact BW.iret (by decide +kernel : decode tX9_one.2.1 38 = .ok (.ireturn, 1)) rfl (Nat.zero_le _) (Nat.zero_le _) (hQ _ _ (Ok.some h))
theorem oX9_one {n : Nat} {P : Int32 × Sg → Prop} {s0 : Sg} {a0 : Nat} {x1 : Int32} {x2 : Int32} {x3 : Int32} (h : Ok (mX9_one n s0 a0 x1 x2 x3) P) : ∃ n0, s0.2.1 a0 = some (9, n0) := by
  unfold mX9_one at h
  exact Ok.isO h
theorem DX9_one {G : Cx} {n : Nat} {P : Int32 × Sg → Prop} {s0 : Sg} {a0 : Nat} {x1 : Int32} {x2 : Int32} {x3 : Int32} (h : Ok (mX9_one n s0 a0 x1 x2 x3) P) : BM G tX9_one 6 133 0 0 [.ref a0, .int x1, .int x2, .int x3] s0 (fun v s => ∃ r, v = some (.int r) ∧ P (r, s)) := by
  refine BM.of (by decide +kernel) (Nat.le_of_ble_eq_true rfl) ?_
  exact bX9_one (E := (({ frames := 6, cells := 0, slots := 0, locals := 133 }), Aof s0, 0, 0, (fun v s => ∃ r, v = some (.int r) ∧ P (r, s)))) ⟨Nat.le_refl _, Nat.le_refl _⟩ (fun r s hp => ⟨r, rfl, hp⟩) h
def mX9_prints_48 (n : Nat) (s0 : Sg) (a0 : Nat) (x3 : Int32) (x4 : Int32) (x5 : Int32) : Option ((Sg × Int32 × Int32) ⊕ (Sg × Int32)) :=
  some (.inl (s0, x4, (x5 + (1 : Int32))))
theorem bX9_prints_48 {G : Cx} {E : Ev} {n : Nat} (hRm : 2 ≤ E.1.frames ∧ 44 ≤ E.1.locals) {s0 : Sg} {a0 : Nat} {x3 : Int32} {x4 : Int32} {x5 : Int32} {P : (Sg × Int32 × Int32) ⊕ (Sg × Int32) → Prop} (hC : ∀ (s : Sg) (c4 : Int32) (c5 : Int32), P (.inl (s, c4, c5)) → BW G tX9_prints E 0 0 20 [(0, .ref a0), (3, .int x3), (4, .int c4), (5, .int c5)] [] s) (hE : ∀ (s : Sg) (c4 : Int32), P (.inr (s, c4)) → BW G tX9_prints E 0 0 54 [(4, .int c4)] [] s)  (h : Ok (mX9_prints_48 n s0 a0 x3 x4 x5) P) : BW G tX9_prints E 0 0 48 [(0, .ref a0), (3, .int x3), (4, .int x4), (5, .int x5)] [] s0 := by
  unfold mX9_prints_48 at h
  refine BW.run [.iinc 5 1] (pc' := 51) (lv' := [(0, .ref a0), (3, .int x3), (4, .int x4), (5, .int (x5 + (1 : Int32)))]) (st' := []) (by decide +kernel) rfl rfl ?_
  refine BW.goto 20 (by decide +kernel : decode tX9_prints.2.1 51 = .ok (.goto (-31), 3)) (by decide) ?_
  exact hC _ _ _ (Ok.some h)
def mX9_prints_L20 (n : Nat) (a0 : Nat) (x3 : Int32) : (Sg × Int32 × Int32) → Option ((Sg × Int32 × Int32) ⊕ (Sg × Int32))
  | (s0, x4, x5) =>
    (toI (gV 9 s0 a0 6)).bind fun v4 =>
    if v4 ≤ x5 then (
      some (.inr (s0, x4))
    ) else (
      (mX9_printsIn n s0 a0 x5 x3).bind fun (v6, s5) =>
      if v6 = 0 then (
        mX9_prints_48 n s5 a0 x3 x4 x5
      ) else (
        nm (x4 ||| ((1 : Int32) <<< (x5 &&& 31))) fun v8 =>
        mX9_prints_48 n s5 a0 x3 v8 x5
      )
    )
theorem bX9_prints_L20 {G : Cx} {E : Ev} {n : Nat} (hRm : 2 ≤ E.1.frames ∧ 44 ≤ E.1.locals) {a0 : Nat} {x3 : Int32} {P : (Sg × Int32 × Int32) ⊕ (Sg × Int32) → Prop} (hC : ∀ (s : Sg) (c4 : Int32) (c5 : Int32), P (.inl (s, c4, c5)) → BW G tX9_prints E 0 0 20 [(0, .ref a0), (3, .int x3), (4, .int c4), (5, .int c5)] [] s) (hE : ∀ (s : Sg) (c4 : Int32), P (.inr (s, c4)) → BW G tX9_prints E 0 0 54 [(4, .int c4)] [] s) {s0 : Sg} {x4 : Int32} {x5 : Int32} (h : Ok (mX9_prints_L20 n a0 x3 (s0, x4, x5)) P) : BW G tX9_prints E 0 0 20 [(0, .ref a0), (3, .int x3), (4, .int x4), (5, .int x5)] [] s0 := by
  unfold mX9_prints_L20 at h
  refine BW.run [.iload 5, .aload_n 0] (pc' := 23) (lv' := [(0, .ref a0), (3, .int x3), (4, .int x4), (5, .int x5)]) (st' := [.ref a0, .int x5]) (by decide +kernel) rfl rfl ?_
  obtain ⟨v4, ev4, h⟩ := Ok.bind h
  refine BW.get (by decide +kernel : decode tX9_prints.2.1 23 = .ok (.getfield 22, 3)) ciX9 (k := 6) (by decide) lkF_X9_22 (toI_V ev4) ?_
  refine BW.icmp_ge 54 (by decide +kernel : decode tX9_prints.2.1 26 = .ok (.if_icmp .ge 28, 3)) (by decide) (fun hc => ?_) (fun hc => ?_)
  · have h := (Ok.ite h).1 hc
    refine BW.sub [2] rfl ?_
    exact hE _ _ (Ok.some h)
  · have h := (Ok.ite h).2 hc
    refine BW.run [.aload_n 0, .iload 5, .iload_n 3] (pc' := 33) (lv' := [(0, .ref a0), (3, .int x3), (4, .int x4), (5, .int x5)]) (st' := [.int x3, .int x5, .ref a0]) (by decide +kernel) rfl rfl ?_
    refine BW.callV (As := [.int x5, .int x3]) (st := []) (by decide +kernel : decode tX9_prints.2.1 33 = .ok (.invokevirtual 172, 3)) (DX9_printsIn (Ok.bindK h)) mfX9_printsIn lkM_X9_172 imX9_printsIn selX9_printsIn ciX9 (oX9_printsIn (Ok.bindK h)).choose_spec rfl rfl (Nat.le_of_ble_eq_true rfl) ⟨Nat.le_trans (by decide) hRm.1, Nat.le_trans (by decide) hRm.2⟩ ⟨Nat.zero_le _, Nat.zero_le _⟩ ?_
    rintro _ s5 ⟨v6, rfl, h⟩
    show BW G tX9_prints E 0 0 36 [(0, .ref a0), (3, .int x3), (4, .int x4), (5, .int x5)] [.int v6] s5
    refine BW.if_eq 48 (by decide +kernel : decode tX9_prints.2.1 36 = .ok (.ifCond .eq 12, 3)) (by decide) (fun hc => ?_) (fun hc => ?_)
    · have h := (Ok.ite h).1 hc
      exact bX9_prints_48 hRm hC hE h
    · have h := (Ok.ite h).2 hc
      refine BW.run [.iload 4, .iconst 1, .iload 5, .ishl, .ior] (pc' := 46) (lv' := [(0, .ref a0), (3, .int x3), (4, .int x4), (5, .int x5)]) (st' := [.int (x4 ||| ((1 : Int32) <<< (x5 &&& 31)))]) (by decide +kernel) rfl rfl ?_
      obtain ⟨v8, wv8, h⟩ := Ok.nm h
      refine BW.nm wv8 ?_
      refine BW.run [.istore 4] (pc' := 48) (lv' := [(0, .ref a0), (3, .int x3), (4, .int v8), (5, .int x5)]) (st' := []) (by decide +kernel) rfl rfl ?_
      exact bX9_prints_48 hRm hC hE h
theorem bX9_prints_W20 {G : Cx} {E : Ev} {n : Nat} (hRm : 2 ≤ E.1.frames ∧ 44 ≤ E.1.locals) {a0 : Nat} {x3 : Int32} {K : (Sg × Int32) → Prop} (hE : ∀ (s : Sg) (c4 : Int32), K (s, c4) → BW G tX9_prints E 0 0 54 [(4, .int c4)] [] s) : ∀ (f : Nat) (c : Sg × Int32 × Int32), Ok (loopM (mX9_prints_L20 n a0 x3) f c) K → match c with | (s0, x4, x5) => BW G tX9_prints E 0 0 20 [(0, .ref a0), (3, .int x3), (4, .int x4), (5, .int x5)] [] s0 := by
  intro f
  induction f with
  | zero => intro c h; exact (Ok.no h).elim
  | succ f ih =>
    intro c h
    obtain ⟨s0, x4, x5⟩ := c
    exact bX9_prints_L20 (P := loopP (mX9_prints_L20 n a0 x3) f K) hRm (fun s c4 c5 h => ih (s, c4, c5) h) hE (loopM_ok h)
def mX9_prints (n : Nat) (s0 : Sg) (a0 : Nat) (x1 : Int32) (x2 : Int32) : Option (Int32 × Sg) :=
  (isO 9 s0 a0).bind fun _ =>
  (mX9_cellAt n s0 a0 x1 x2).bind fun (v2, s1) =>
  if v2 = (-1 : Int32) then (
    some ((-1 : Int32), s1)
  ) else (
    (loopM (mX9_prints_L20 n a0 v2) n (s1, (0 : Int32), (0 : Int32))).bind fun (s9, v10) =>
    some (v10, s9)
  )
theorem bX9_prints {G : Cx} {E : Ev} {n : Nat} (hRm : 2 ≤ E.1.frames ∧ 44 ≤ E.1.locals) {P : Int32 × Sg → Prop} (hQ : ∀ r s, P (r, s) → E.2.2.2.2 (some (.int r)) s) {s0 : Sg} {a0 : Nat} {x1 : Int32} {x2 : Int32} (h : Ok (mX9_prints n s0 a0 x1 x2) P) : BW G tX9_prints E 0 0 0 [(0, .ref a0), (1, .int x1), (2, .int x2)] [] s0 := by
  unfold mX9_prints at h
  obtain ⟨_, _, h⟩ := Ok.bind h
  refine BW.run [.aload_n 0, .iload_n 1, .iload_n 2] (pc' := 3) (lv' := [(0, .ref a0), (1, .int x1), (2, .int x2)]) (st' := [.int x2, .int x1, .ref a0]) (by decide +kernel) rfl rfl ?_
  refine BW.callV (As := [.int x1, .int x2]) (st := []) (by decide +kernel : decode tX9_prints.2.1 3 = .ok (.invokevirtual 130, 3)) (DX9_cellAt (Ok.bindK h)) mfX9_cellAt lkM_X9_130 imX9_cellAt selX9_cellAt ciX9 (oX9_cellAt (Ok.bindK h)).choose_spec rfl rfl (Nat.le_of_ble_eq_true rfl) ⟨Nat.le_trans (by decide) hRm.1, Nat.le_trans (by decide) hRm.2⟩ ⟨Nat.zero_le _, Nat.zero_le _⟩ ?_
  rintro _ s1 ⟨v2, rfl, h⟩
  show BW G tX9_prints E 0 0 6 [(0, .ref a0), (1, .int x1), (2, .int x2)] [.int v2] s1
  refine BW.run [.istore_n 3, .iload_n 3, .iconst (-1)] (pc' := 9) (lv' := [(0, .ref a0), (1, .int x1), (2, .int x2), (3, .int v2)]) (st' := [.int (-1 : Int32), .int v2]) (by decide +kernel) rfl rfl ?_
  refine BW.icmp_ne 14 (by decide +kernel : decode tX9_prints.2.1 9 = .ok (.if_icmp .ne 5, 3)) (by decide) (fun hc => ?_) (fun hc => ?_)
  · have h := (Ok.ite h).2 hc
    refine BW.run [.iconst 0, .istore 4, .iconst 0, .istore 5] (pc' := 20) (lv' := [(0, .ref a0), (1, .int x1), (2, .int x2), (3, .int v2), (4, .int (0 : Int32)), (5, .int (0 : Int32))]) (st' := []) (by decide +kernel) rfl rfl ?_
    refine BW.sub [0, 3, 4, 5] rfl ?_
    refine bX9_prints_W20 hRm (a0 := a0) (x3 := v2) (fun s9 v10 h => ?_) n (s1, (0 : Int32), (0 : Int32)) (Ok.bindK h)
    refine BW.run [.iload 4] (pc' := 56) (lv' := [(4, .int v10)]) (st' := [.int v10]) (by decide +kernel) rfl rfl ?_
    exact BW.iret (by decide +kernel : decode tX9_prints.2.1 56 = .ok (.ireturn, 1)) rfl (Nat.zero_le _) (Nat.zero_le _) (hQ _ _ (Ok.some h))
  · have h := (Ok.ite h).1 hc
    refine BW.run [.iconst (-1)] (pc' := 13) (lv' := [(0, .ref a0), (1, .int x1), (2, .int x2), (3, .int v2)]) (st' := [.int (-1 : Int32)]) (by decide +kernel) rfl rfl ?_
    exact BW.iret (by decide +kernel : decode tX9_prints.2.1 13 = .ok (.ireturn, 1)) rfl (Nat.zero_le _) (Nat.zero_le _) (hQ _ _ (Ok.some h))
theorem oX9_prints {n : Nat} {P : Int32 × Sg → Prop} {s0 : Sg} {a0 : Nat} {x1 : Int32} {x2 : Int32} (h : Ok (mX9_prints n s0 a0 x1 x2) P) : ∃ n0, s0.2.1 a0 = some (9, n0) := by
  unfold mX9_prints at h
  exact Ok.isO h
theorem DX9_prints {G : Cx} {n : Nat} {P : Int32 × Sg → Prop} {s0 : Sg} {a0 : Nat} {x1 : Int32} {x2 : Int32} (h : Ok (mX9_prints n s0 a0 x1 x2) P) : BM G tX9_prints 2 44 0 0 [.ref a0, .int x1, .int x2] s0 (fun v s => ∃ r, v = some (.int r) ∧ P (r, s)) := by
  refine BM.of (by decide +kernel) (Nat.le_of_ble_eq_true rfl) ?_
  exact bX9_prints (E := (({ frames := 2, cells := 0, slots := 0, locals := 44 }), Aof s0, 0, 0, (fun v s => ∃ r, v = some (.int r) ∧ P (r, s)))) ⟨Nat.le_refl _, Nat.le_refl _⟩ (fun r s hp => ⟨r, rfl, hp⟩) h
def mX9_photo_L59 (n : Nat) (a0 : Nat) (x1 : Int32) (x2 : Int32) (x5 : Int32) : (Sg × Int32) → Option ((Sg × Int32) ⊕ (Sg))
  | (s0, x7) =>
    (toI (gV 9 s0 a0 6)).bind fun v18 =>
    if v18 ≤ x7 then (
      some (.inr s0)
    ) else (
      (mX9_tellAbove n s0 a0 x1 x2 x7 x5).bind fun (v20, s19) =>
      some (.inl (s19, (x7 + (1 : Int32))))
    )
theorem bX9_photo_L59 {G : Cx} {E : Ev} {n : Nat} (hRm : 4 ≤ E.1.frames ∧ 91 ≤ E.1.locals) {a0 : Nat} {x1 : Int32} {x2 : Int32} {x5 : Int32} {P : (Sg × Int32) ⊕ (Sg) → Prop} (hC : ∀ (s : Sg) (c7 : Int32), P (.inl (s, c7)) → BW G tX9_photo E 0 0 59 [(0, .ref a0), (1, .int x1), (2, .int x2), (5, .int x5), (7, .int c7)] [] s) (hE : ∀ (s : Sg), P (.inr s) → BW G tX9_photo E 0 0 85 [(0, .ref a0)] [] s) {s0 : Sg} {x7 : Int32} (h : Ok (mX9_photo_L59 n a0 x1 x2 x5 (s0, x7)) P) : BW G tX9_photo E 0 0 59 [(0, .ref a0), (1, .int x1), (2, .int x2), (5, .int x5), (7, .int x7)] [] s0 := by
  unfold mX9_photo_L59 at h
  refine BW.run [.iload 7, .aload_n 0] (pc' := 62) (lv' := [(0, .ref a0), (1, .int x1), (2, .int x2), (5, .int x5), (7, .int x7)]) (st' := [.ref a0, .int x7]) (by decide +kernel) rfl rfl ?_
  obtain ⟨v18, ev18, h⟩ := Ok.bind h
  refine BW.get (by decide +kernel : decode tX9_photo.2.1 62 = .ok (.getfield 22, 3)) ciX9 (k := 6) (by decide) lkF_X9_22 (toI_V ev18) ?_
  refine BW.icmp_ge 85 (by decide +kernel : decode tX9_photo.2.1 65 = .ok (.if_icmp .ge 20, 3)) (by decide) (fun hc => ?_) (fun hc => ?_)
  · have h := (Ok.ite h).1 hc
    refine BW.sub [0] rfl ?_
    exact hE _ (Ok.some h)
  · have h := (Ok.ite h).2 hc
    refine BW.run [.aload_n 0, .iload_n 1, .iload_n 2, .iload 7, .iload 5] (pc' := 75) (lv' := [(0, .ref a0), (1, .int x1), (2, .int x2), (5, .int x5), (7, .int x7)]) (st' := [.int x5, .int x7, .int x2, .int x1, .ref a0]) (by decide +kernel) rfl rfl ?_
    refine BW.callV (As := [.int x1, .int x2, .int x7, .int x5]) (st := []) (by decide +kernel : decode tX9_photo.2.1 75 = .ok (.invokevirtual 179, 3)) (DX9_tellAbove (Ok.bindK h)) mfX9_tellAbove lkM_X9_179 imX9_tellAbove selX9_tellAbove ciX9 (oX9_tellAbove (Ok.bindK h)).choose_spec rfl rfl (Nat.le_of_ble_eq_true rfl) ⟨Nat.le_trans (by decide) hRm.1, Nat.le_trans (by decide) hRm.2⟩ ⟨Nat.zero_le _, Nat.zero_le _⟩ ?_
    rintro _ s19 ⟨v20, rfl, h⟩
    show BW G tX9_photo E 0 0 78 [(0, .ref a0), (1, .int x1), (2, .int x2), (5, .int x5), (7, .int x7)] [.int v20] s19
    refine BW.run [.pop, .iinc 7 1] (pc' := 82) (lv' := [(0, .ref a0), (1, .int x1), (2, .int x2), (5, .int x5), (7, .int (x7 + (1 : Int32)))]) (st' := []) (by decide +kernel) rfl rfl ?_
    refine BW.goto 59 (by decide +kernel : decode tX9_photo.2.1 82 = .ok (.goto (-23), 3)) (by decide) ?_
    exact hC _ _ (Ok.some h)
theorem bX9_photo_W59 {G : Cx} {E : Ev} {n : Nat} (hRm : 4 ≤ E.1.frames ∧ 91 ≤ E.1.locals) {a0 : Nat} {x1 : Int32} {x2 : Int32} {x5 : Int32} {K : (Sg) → Prop} (hE : ∀ (s : Sg), K s → BW G tX9_photo E 0 0 85 [(0, .ref a0)] [] s) : ∀ (f : Nat) (c : Sg × Int32), Ok (loopM (mX9_photo_L59 n a0 x1 x2 x5) f c) K → match c with | (s0, x7) => BW G tX9_photo E 0 0 59 [(0, .ref a0), (1, .int x1), (2, .int x2), (5, .int x5), (7, .int x7)] [] s0 := by
  intro f
  induction f with
  | zero => intro c h; exact (Ok.no h).elim
  | succ f ih =>
    intro c h
    obtain ⟨s0, x7⟩ := c
    exact bX9_photo_L59 (P := loopP (mX9_photo_L59 n a0 x1 x2 x5) f K) hRm (fun s c7 h => ih (s, c7) h) hE (loopM_ok h)
def mX9_photo (n : Nat) (s0 : Sg) (a0 : Nat) (x1 : Int32) (x2 : Int32) (x3 : Int32) (x4 : Int32) : Option (Int32 × Sg) :=
  (isO 9 s0 a0).bind fun _ =>
  (mX9_cellAt n s0 a0 x3 x4).bind fun (v2, s1) =>
  (mX9_isWho n s1 x1).bind fun (v5, s4) =>
  if v5 = 0 then (
    some ((-1 : Int32), s4)
  ) else (
    (mX9_printsIn n s4 a0 x2 v2).bind fun (v8, s7) =>
    if v8 = 0 then (
      some ((-1 : Int32), s7)
    ) else (
      (mX9_prints n s7 a0 x3 x4).bind fun (v11, s10) =>
      (mJ_bitCount n s10 v11).bind fun (v14, s13) =>
      nm (v14 - (1 : Int32)) fun v16 =>
      (toI (gV 9 s13 a0 8)).bind fun v17 =>
      if (v17 + v16) ≤ (20 : Int32) then (
        (loopM (mX9_photo_L59 n a0 x1 x2 v2) n (s13, (0 : Int32))).bind fun s22 =>
        (toI (gV 9 s22 a0 8)).bind fun v24 =>
        some (v24, s22)
      ) else (
        some ((-1 : Int32), s13)
      )
    )
  )
theorem bX9_photo {G : Cx} {E : Ev} {n : Nat} (hRm : 4 ≤ E.1.frames ∧ 91 ≤ E.1.locals) {P : Int32 × Sg → Prop} (hQ : ∀ r s, P (r, s) → E.2.2.2.2 (some (.int r)) s) {s0 : Sg} {a0 : Nat} {x1 : Int32} {x2 : Int32} {x3 : Int32} {x4 : Int32} (h : Ok (mX9_photo n s0 a0 x1 x2 x3 x4) P) : BW G tX9_photo E 0 0 0 [(0, .ref a0), (1, .int x1), (2, .int x2), (3, .int x3), (4, .int x4)] [] s0 := by
  unfold mX9_photo at h
  obtain ⟨_, _, h⟩ := Ok.bind h
  refine BW.run [.aload_n 0, .iload_n 3, .iload 4] (pc' := 4) (lv' := [(0, .ref a0), (1, .int x1), (2, .int x2), (3, .int x3), (4, .int x4)]) (st' := [.int x4, .int x3, .ref a0]) (by decide +kernel) rfl rfl ?_
  refine BW.callV (As := [.int x3, .int x4]) (st := []) (by decide +kernel : decode tX9_photo.2.1 4 = .ok (.invokevirtual 130, 3)) (DX9_cellAt (Ok.bindK h)) mfX9_cellAt lkM_X9_130 imX9_cellAt selX9_cellAt ciX9 (oX9_cellAt (Ok.bindK h)).choose_spec rfl rfl (Nat.le_of_ble_eq_true rfl) ⟨Nat.le_trans (by decide) hRm.1, Nat.le_trans (by decide) hRm.2⟩ ⟨Nat.zero_le _, Nat.zero_le _⟩ ?_
  rintro _ s1 ⟨v2, rfl, h⟩
  show BW G tX9_photo E 0 0 7 [(0, .ref a0), (1, .int x1), (2, .int x2), (3, .int x3), (4, .int x4)] [.int v2] s1
  refine BW.run [.istore 5, .iload_n 1] (pc' := 10) (lv' := [(0, .ref a0), (1, .int x1), (2, .int x2), (3, .int x3), (4, .int x4), (5, .int v2)]) (st' := [.int x1]) (by decide +kernel) rfl rfl ?_
  refine BW.callS (As := [.int x1]) (st := []) (by decide +kernel : decode tX9_photo.2.1 10 = .ok (.invokestatic 176, 3)) (DX9_isWho (Ok.bindK h)) mfX9_isWho lkM_X9_176 smX9_isWho rfl rfl (Nat.le_of_ble_eq_true rfl) ⟨Nat.le_trans (by decide) hRm.1, Nat.le_trans (by decide) hRm.2⟩ ⟨Nat.zero_le _, Nat.zero_le _⟩ ?_
  rintro _ s4 ⟨v5, rfl, h⟩
  show BW G tX9_photo E 0 0 13 [(0, .ref a0), (1, .int x1), (2, .int x2), (3, .int x3), (4, .int x4), (5, .int v2)] [.int v5] s4
  refine BW.if_eq 26 (by decide +kernel : decode tX9_photo.2.1 13 = .ok (.ifCond .eq 13, 3)) (by decide) (fun hc => ?_) (fun hc => ?_)
  · have h := (Ok.ite h).1 hc
    refine BW.run [.iconst (-1)] (pc' := 27) (lv' := [(0, .ref a0), (1, .int x1), (2, .int x2), (3, .int x3), (4, .int x4), (5, .int v2)]) (st' := [.int (-1 : Int32)]) (by decide +kernel) rfl rfl ?_
    exact BW.iret (by decide +kernel : decode tX9_photo.2.1 27 = .ok (.ireturn, 1)) rfl (Nat.zero_le _) (Nat.zero_le _) (hQ _ _ (Ok.some h))
  · have h := (Ok.ite h).2 hc
    refine BW.run [.aload_n 0, .iload_n 2, .iload 5] (pc' := 20) (lv' := [(0, .ref a0), (1, .int x1), (2, .int x2), (3, .int x3), (4, .int x4), (5, .int v2)]) (st' := [.int v2, .int x2, .ref a0]) (by decide +kernel) rfl rfl ?_
    refine BW.callV (As := [.int x2, .int v2]) (st := []) (by decide +kernel : decode tX9_photo.2.1 20 = .ok (.invokevirtual 172, 3)) (DX9_printsIn (Ok.bindK h)) mfX9_printsIn lkM_X9_172 imX9_printsIn selX9_printsIn ciX9 (oX9_printsIn (Ok.bindK h)).choose_spec rfl rfl (Nat.le_of_ble_eq_true rfl) ⟨Nat.le_trans (by decide) hRm.1, Nat.le_trans (by decide) hRm.2⟩ ⟨Nat.zero_le _, Nat.zero_le _⟩ ?_
    rintro _ s7 ⟨v8, rfl, h⟩
    show BW G tX9_photo E 0 0 23 [(0, .ref a0), (1, .int x1), (2, .int x2), (3, .int x3), (4, .int x4), (5, .int v2)] [.int v8] s7
    refine BW.if_ne 28 (by decide +kernel : decode tX9_photo.2.1 23 = .ok (.ifCond .ne 5, 3)) (by decide) (fun hc => ?_) (fun hc => ?_)
    · have h := (Ok.ite h).2 hc
      refine BW.run [.aload_n 0, .iload_n 3, .iload 4] (pc' := 32) (lv' := [(0, .ref a0), (1, .int x1), (2, .int x2), (3, .int x3), (4, .int x4), (5, .int v2)]) (st' := [.int x4, .int x3, .ref a0]) (by decide +kernel) rfl rfl ?_
      refine BW.callV (As := [.int x3, .int x4]) (st := []) (by decide +kernel : decode tX9_photo.2.1 32 = .ok (.invokevirtual 322, 3)) (DX9_prints (Ok.bindK h)) mfX9_prints lkM_X9_322 imX9_prints selX9_prints ciX9 (oX9_prints (Ok.bindK h)).choose_spec rfl rfl (Nat.le_of_ble_eq_true rfl) ⟨Nat.le_trans (by decide) hRm.1, Nat.le_trans (by decide) hRm.2⟩ ⟨Nat.zero_le _, Nat.zero_le _⟩ ?_
      rintro _ s10 ⟨v11, rfl, h⟩
      show BW G tX9_photo E 0 0 35 [(0, .ref a0), (1, .int x1), (2, .int x2), (3, .int x3), (4, .int x4), (5, .int v2)] [.int v11] s10
      refine BW.callS (As := [.int v11]) (st := []) (by decide +kernel : decode tX9_photo.2.1 35 = .ok (.invokestatic 202, 3)) (DJ_bitCount (Ok.bindK h)) mfJ_bitCount lkM_X9_202 smJ_bitCount rfl rfl (Nat.le_of_ble_eq_true rfl) ⟨Nat.le_trans (by decide) hRm.1, Nat.le_trans (by decide) hRm.2⟩ ⟨Nat.zero_le _, Nat.zero_le _⟩ ?_
      rintro _ s13 ⟨v14, rfl, h⟩
      show BW G tX9_photo E 0 0 38 [(0, .ref a0), (1, .int x1), (2, .int x2), (3, .int x3), (4, .int x4), (5, .int v2)] [.int v14] s13
      refine BW.run [.iconst 1, .isub] (pc' := 40) (lv' := [(0, .ref a0), (1, .int x1), (2, .int x2), (3, .int x3), (4, .int x4), (5, .int v2)]) (st' := [.int (v14 - (1 : Int32))]) (by decide +kernel) rfl rfl ?_
      obtain ⟨v16, wv16, h⟩ := Ok.nm h
      refine BW.nm wv16 ?_
      refine BW.run [.istore 6, .aload_n 0] (pc' := 43) (lv' := [(0, .ref a0), (1, .int x1), (2, .int x2), (3, .int x3), (4, .int x4), (5, .int v2), (6, .int v16)]) (st' := [.ref a0]) (by decide +kernel) rfl rfl ?_
      obtain ⟨v17, ev17, h⟩ := Ok.bind h
      refine BW.get (by decide +kernel : decode tX9_photo.2.1 43 = .ok (.getfield 32, 3)) ciX9 (k := 8) (by decide) lkF_X9_32 (toI_V ev17) ?_
      refine BW.run [.iload 6, .iadd, .bipush 20] (pc' := 51) (lv' := [(0, .ref a0), (1, .int x1), (2, .int x2), (3, .int x3), (4, .int x4), (5, .int v2), (6, .int v16)]) (st' := [.int (20 : Int32), .int (v17 + v16)]) (by decide +kernel) rfl rfl ?_
      refine BW.icmp_le 56 (by decide +kernel : decode tX9_photo.2.1 51 = .ok (.if_icmp .le 5, 3)) (by decide) (fun hc => ?_) (fun hc => ?_)
      · have h := (Ok.ite h).1 hc
        refine BW.run [.iconst 0, .istore 7] (pc' := 59) (lv' := [(0, .ref a0), (1, .int x1), (2, .int x2), (3, .int x3), (4, .int x4), (5, .int v2), (6, .int v16), (7, .int (0 : Int32))]) (st' := []) (by decide +kernel) rfl rfl ?_
        refine BW.sub [0, 1, 2, 5, 7] rfl ?_
        refine bX9_photo_W59 hRm (a0 := a0) (x1 := x1) (x2 := x2) (x5 := v2) (fun s22 h => ?_) n (s13, (0 : Int32)) (Ok.bindK h)
        refine BW.run [.aload_n 0] (pc' := 86) (lv' := [(0, .ref a0)]) (st' := [.ref a0]) (by decide +kernel) rfl rfl ?_
        obtain ⟨v24, ev24, h⟩ := Ok.bind h
        refine BW.get (by decide +kernel : decode tX9_photo.2.1 86 = .ok (.getfield 32, 3)) ciX9 (k := 8) (by decide) lkF_X9_32 (toI_V ev24) ?_
        exact BW.iret (by decide +kernel : decode tX9_photo.2.1 89 = .ok (.ireturn, 1)) rfl (Nat.zero_le _) (Nat.zero_le _) (hQ _ _ (Ok.some h))
      · have h := (Ok.ite h).2 hc
        refine BW.run [.iconst (-1)] (pc' := 55) (lv' := [(0, .ref a0), (1, .int x1), (2, .int x2), (3, .int x3), (4, .int x4), (5, .int v2), (6, .int v16)]) (st' := [.int (-1 : Int32)]) (by decide +kernel) rfl rfl ?_
        exact BW.iret (by decide +kernel : decode tX9_photo.2.1 55 = .ok (.ireturn, 1)) rfl (Nat.zero_le _) (Nat.zero_le _) (hQ _ _ (Ok.some h))
    · have h := (Ok.ite h).1 hc
      refine BW.run [.iconst (-1)] (pc' := 27) (lv' := [(0, .ref a0), (1, .int x1), (2, .int x2), (3, .int x3), (4, .int x4), (5, .int v2)]) (st' := [.int (-1 : Int32)]) (by decide +kernel) rfl rfl ?_
      exact BW.iret (by decide +kernel : decode tX9_photo.2.1 27 = .ok (.ireturn, 1)) rfl (Nat.zero_le _) (Nat.zero_le _) (hQ _ _ (Ok.some h))
theorem oX9_photo {n : Nat} {P : Int32 × Sg → Prop} {s0 : Sg} {a0 : Nat} {x1 : Int32} {x2 : Int32} {x3 : Int32} {x4 : Int32} (h : Ok (mX9_photo n s0 a0 x1 x2 x3 x4) P) : ∃ n0, s0.2.1 a0 = some (9, n0) := by
  unfold mX9_photo at h
  exact Ok.isO h
theorem DX9_photo {G : Cx} {n : Nat} {P : Int32 × Sg → Prop} {s0 : Sg} {a0 : Nat} {x1 : Int32} {x2 : Int32} {x3 : Int32} {x4 : Int32} (h : Ok (mX9_photo n s0 a0 x1 x2 x3 x4) P) : BM G tX9_photo 4 91 0 0 [.ref a0, .int x1, .int x2, .int x3, .int x4] s0 (fun v s => ∃ r, v = some (.int r) ∧ P (r, s)) := by
  refine BM.of (by decide +kernel) (Nat.le_of_ble_eq_true rfl) ?_
  exact bX9_photo (E := (({ frames := 4, cells := 0, slots := 0, locals := 91 }), Aof s0, 0, 0, (fun v s => ∃ r, v = some (.int r) ∧ P (r, s)))) ⟨Nat.le_refl _, Nat.le_refl _⟩ (fun r s hp => ⟨r, rfl, hp⟩) h
def mX9_settle_43 (n : Nat) (s0 : Sg) (a0 : Nat) (x2 : Int32) : Option ((Sg × Int32) ⊕ (Sg)) :=
  some (.inl (s0, (x2 + (1 : Int32))))
theorem bX9_settle_43 {G : Cx} {E : Ev} {n : Nat} (hRm : 6 ≤ E.1.frames ∧ 133 ≤ E.1.locals) {s0 : Sg} {a0 : Nat} {x2 : Int32} {P : (Sg × Int32) ⊕ (Sg) → Prop} (hC : ∀ (s : Sg) (c2 : Int32), P (.inl (s, c2)) → BW G tX9_settle E 0 0 12 [(0, .ref a0), (2, .int c2)] [] s) (hE : ∀ (s : Sg), P (.inr s) → BW G tX9_settle E 0 0 49 [] [] s)  (h : Ok (mX9_settle_43 n s0 a0 x2) P) : BW G tX9_settle E 0 0 43 [(0, .ref a0), (2, .int x2)] [] s0 := by
  unfold mX9_settle_43 at h
  refine BW.run [.iinc 2 1] (pc' := 46) (lv' := [(0, .ref a0), (2, .int (x2 + (1 : Int32)))]) (st' := []) (by decide +kernel) rfl rfl ?_
  refine BW.goto 12 (by decide +kernel : decode tX9_settle.2.1 46 = .ok (.goto (-34), 3)) (by decide) ?_
  exact hC _ _ (Ok.some h)
def mX9_settle_L12 (n : Nat) (a0 : Nat) : (Sg × Int32) → Option ((Sg × Int32) ⊕ (Sg))
  | (s0, x2) =>
    (toI (gV 9 s0 a0 6)).bind fun v4 =>
    if v4 ≤ x2 then (
      some (.inr s0)
    ) else (
      (toR (gV 9 s0 a0 5)).bind fun b5 =>
      (toQ (aV 13 s0 b5 x2)).bind fun q6 => match q6 with
      | none => (
        mX9_settle_43 n s0 a0 x2
      )
      | some b7 => (
        (toR (gV 9 s0 a0 11)).bind fun b8 =>
        (mX4_firstOf n s0 b8 x2).bind fun (v10, s9) =>
        (pV 8 s9 b7 8 (.int v10)).bind fun s12 =>
        mX9_settle_43 n s12 a0 x2
      )
    )
theorem bX9_settle_L12 {G : Cx} {E : Ev} {n : Nat} (hRm : 6 ≤ E.1.frames ∧ 133 ≤ E.1.locals) {a0 : Nat} {P : (Sg × Int32) ⊕ (Sg) → Prop} (hC : ∀ (s : Sg) (c2 : Int32), P (.inl (s, c2)) → BW G tX9_settle E 0 0 12 [(0, .ref a0), (2, .int c2)] [] s) (hE : ∀ (s : Sg), P (.inr s) → BW G tX9_settle E 0 0 49 [] [] s) {s0 : Sg} {x2 : Int32} (h : Ok (mX9_settle_L12 n a0 (s0, x2)) P) : BW G tX9_settle E 0 0 12 [(0, .ref a0), (2, .int x2)] [] s0 := by
  unfold mX9_settle_L12 at h
  refine BW.run [.iload_n 2, .aload_n 0] (pc' := 14) (lv' := [(0, .ref a0), (2, .int x2)]) (st' := [.ref a0, .int x2]) (by decide +kernel) rfl rfl ?_
  obtain ⟨v4, ev4, h⟩ := Ok.bind h
  refine BW.get (by decide +kernel : decode tX9_settle.2.1 14 = .ok (.getfield 22, 3)) ciX9 (k := 6) (by decide) lkF_X9_22 (toI_V ev4) ?_
  refine BW.icmp_ge 49 (by decide +kernel : decode tX9_settle.2.1 17 = .ok (.if_icmp .ge 32, 3)) (by decide) (fun hc => ?_) (fun hc => ?_)
  · have h := (Ok.ite h).1 hc
    refine BW.sub [] rfl ?_
    exact hE _ (Ok.some h)
  · have h := (Ok.ite h).2 hc
    refine BW.run [.aload_n 0] (pc' := 21) (lv' := [(0, .ref a0), (2, .int x2)]) (st' := [.ref a0]) (by decide +kernel) rfl rfl ?_
    obtain ⟨b5, eb5, h⟩ := Ok.bind h
    refine BW.get (by decide +kernel : decode tX9_settle.2.1 21 = .ok (.getfield 18, 3)) ciX9 (k := 5) (by decide) lkF_X9_18 (toR_V eb5) ?_
    refine BW.run [.iload_n 2] (pc' := 25) (lv' := [(0, .ref a0), (2, .int x2)]) (st' := [.int x2, .ref b5]) (by decide +kernel) rfl rfl ?_
    obtain ⟨q6, eq6, h⟩ := Ok.bind h
    refine BW.aald (by decide +kernel : decode tX9_settle.2.1 25 = .ok (.aaload, 1)) (by decide) (toQ_V eq6) ?_
    cases q6 with
    | none =>
      show BW G tX9_settle E 0 0 26 [(0, .ref a0), (2, .int x2)] (.null :: []) s0
      refine BW.run [.astore_n 3, .aload_n 3] (pc' := 28) (lv' := [(0, .ref a0), (2, .int x2), (3, .null)]) (st' := [.null]) (by decide +kernel) rfl rfl ?_
      refine BW.ifnullN 43 (by decide +kernel : decode tX9_settle.2.1 28 = .ok (.ifnull 15, 3)) (by decide) ?_
      refine BW.sub [0, 1] rfl ?_
      exact bX9_settle_43 hRm hC hE h
    | some b7 =>
      show BW G tX9_settle E 0 0 26 [(0, .ref a0), (2, .int x2)] (.ref b7 :: []) s0
      refine BW.run [.astore_n 3, .aload_n 3] (pc' := 28) (lv' := [(0, .ref a0), (2, .int x2), (3, .ref b7)]) (st' := [.ref b7]) (by decide +kernel) rfl rfl ?_
      refine BW.ifnull (by decide +kernel : decode tX9_settle.2.1 28 = .ok (.ifnull 15, 3)) ?_
      refine BW.run [.aload_n 3, .aload_n 0] (pc' := 33) (lv' := [(0, .ref a0), (2, .int x2), (3, .ref b7)]) (st' := [.ref a0, .ref b7]) (by decide +kernel) rfl rfl ?_
      obtain ⟨b8, eb8, h⟩ := Ok.bind h
      refine BW.get (by decide +kernel : decode tX9_settle.2.1 33 = .ok (.getfield 45, 3)) ciX9 (k := 11) (by decide) lkF_X9_45 (toR_V eb8) ?_
      refine BW.run [.iload_n 2] (pc' := 37) (lv' := [(0, .ref a0), (2, .int x2), (3, .ref b7)]) (st' := [.int x2, .ref b8, .ref b7]) (by decide +kernel) rfl rfl ?_
      refine BW.callV (As := [.int x2]) (st := [.ref b7]) (by decide +kernel : decode tX9_settle.2.1 37 = .ok (.invokevirtual 226, 3)) (DX4_firstOf (Ok.bindK h)) mfX4_firstOf lkM_X9_226 imX4_firstOf selX4_firstOf ciX4 (oX4_firstOf (Ok.bindK h)).choose_spec rfl rfl (Nat.le_of_ble_eq_true rfl) ⟨Nat.le_trans (by decide) hRm.1, Nat.le_trans (by decide) hRm.2⟩ ⟨Nat.zero_le _, Nat.zero_le _⟩ ?_
      rintro _ s9 ⟨v10, rfl, h⟩
      show BW G tX9_settle E 0 0 40 [(0, .ref a0), (2, .int x2), (3, .ref b7)] [.int v10, .ref b7] s9
      obtain ⟨s12, es12, h⟩ := Ok.bind h
      refine BW.putN (by decide +kernel : decode tX9_settle.2.1 40 = .ok (.putfield 162, 3)) ciX8 (k := 8) (by decide) lkF_X9_162 rfl rfl rfl es12 ?_
      refine BW.sub [0, 1] rfl ?_
      exact bX9_settle_43 hRm hC hE h
theorem bX9_settle_W12 {G : Cx} {E : Ev} {n : Nat} (hRm : 6 ≤ E.1.frames ∧ 133 ≤ E.1.locals) {a0 : Nat} {K : (Sg) → Prop} (hE : ∀ (s : Sg), K s → BW G tX9_settle E 0 0 49 [] [] s) : ∀ (f : Nat) (c : Sg × Int32), Ok (loopM (mX9_settle_L12 n a0) f c) K → match c with | (s0, x2) => BW G tX9_settle E 0 0 12 [(0, .ref a0), (2, .int x2)] [] s0 := by
  intro f
  induction f with
  | zero => intro c h; exact (Ok.no h).elim
  | succ f ih =>
    intro c h
    obtain ⟨s0, x2⟩ := c
    exact bX9_settle_L12 (P := loopP (mX9_settle_L12 n a0) f K) hRm (fun s c2 h => ih (s, c2) h) hE (loopM_ok h)
def mX9_settle (n : Nat) (s0 : Sg) (a0 : Nat) (x1 : Int32) : Option (Int32 × Sg) :=
  (isO 9 s0 a0).bind fun _ =>
  (mX9_canBe n s0 a0 x1).bind fun (v2, s1) =>
  if v2 = 0 then (
    some ((0 : Int32), s1)
  ) else (
    (loopM (mX9_settle_L12 n a0) n (s1, (0 : Int32))).bind fun s13 =>
    some ((1 : Int32), s13)
  )
theorem bX9_settle {G : Cx} {E : Ev} {n : Nat} (hRm : 6 ≤ E.1.frames ∧ 133 ≤ E.1.locals) {P : Int32 × Sg → Prop} (hQ : ∀ r s, P (r, s) → E.2.2.2.2 (some (.int r)) s) {s0 : Sg} {a0 : Nat} {x1 : Int32} (h : Ok (mX9_settle n s0 a0 x1) P) : BW G tX9_settle E 0 0 0 [(0, .ref a0), (1, .int x1)] [] s0 := by
  unfold mX9_settle at h
  obtain ⟨_, _, h⟩ := Ok.bind h
  refine BW.run [.aload_n 0, .iload_n 1] (pc' := 2) (lv' := [(0, .ref a0), (1, .int x1)]) (st' := [.int x1, .ref a0]) (by decide +kernel) rfl rfl ?_
  refine BW.callV (As := [.int x1]) (st := []) (by decide +kernel : decode tX9_settle.2.1 2 = .ok (.invokevirtual 223, 3)) (DX9_canBe (Ok.bindK h)) mfX9_canBe lkM_X9_223 imX9_canBe selX9_canBe ciX9 (oX9_canBe (Ok.bindK h)).choose_spec rfl rfl (Nat.le_of_ble_eq_true rfl) ⟨Nat.le_trans (by decide) hRm.1, Nat.le_trans (by decide) hRm.2⟩ ⟨Nat.zero_le _, Nat.zero_le _⟩ ?_
  rintro _ s1 ⟨v2, rfl, h⟩
  show BW G tX9_settle E 0 0 5 [(0, .ref a0), (1, .int x1)] [.int v2] s1
  refine BW.if_ne 10 (by decide +kernel : decode tX9_settle.2.1 5 = .ok (.ifCond .ne 5, 3)) (by decide) (fun hc => ?_) (fun hc => ?_)
  · have h := (Ok.ite h).2 hc
    refine BW.run [.iconst 0, .istore_n 2] (pc' := 12) (lv' := [(0, .ref a0), (1, .int x1), (2, .int (0 : Int32))]) (st' := []) (by decide +kernel) rfl rfl ?_
    refine BW.sub [0, 2] rfl ?_
    refine bX9_settle_W12 hRm (a0 := a0) (fun s13 h => ?_) n (s1, (0 : Int32)) (Ok.bindK h)
    refine BW.run [.iconst 1] (pc' := 50) (lv' := []) (st' := [.int (1 : Int32)]) (by decide +kernel) rfl rfl ?_
    exact BW.zret (by decide +kernel : decode tX9_settle.2.1 50 = .ok (.ireturn, 1)) rfl (Or.inr rfl) (Nat.zero_le _) (Nat.zero_le _) (hQ _ _ (Ok.some h))
  · have h := (Ok.ite h).1 hc
    refine BW.run [.iconst 0] (pc' := 9) (lv' := [(0, .ref a0), (1, .int x1)]) (st' := [.int (0 : Int32)]) (by decide +kernel) rfl rfl ?_
    exact BW.zret (by decide +kernel : decode tX9_settle.2.1 9 = .ok (.ireturn, 1)) rfl (Or.inl rfl) (Nat.zero_le _) (Nat.zero_le _) (hQ _ _ (Ok.some h))
theorem oX9_settle {n : Nat} {P : Int32 × Sg → Prop} {s0 : Sg} {a0 : Nat} {x1 : Int32} (h : Ok (mX9_settle n s0 a0 x1) P) : ∃ n0, s0.2.1 a0 = some (9, n0) := by
  unfold mX9_settle at h
  exact Ok.isO h
theorem DX9_settle {G : Cx} {n : Nat} {P : Int32 × Sg → Prop} {s0 : Sg} {a0 : Nat} {x1 : Int32} (h : Ok (mX9_settle n s0 a0 x1) P) : BM G tX9_settle 6 133 0 0 [.ref a0, .int x1] s0 (fun v s => ∃ r, v = some (.int r) ∧ P (r, s)) := by
  refine BM.of (by decide +kernel) (Nat.le_of_ble_eq_true rfl) ?_
  exact bX9_settle (E := (({ frames := 6, cells := 0, slots := 0, locals := 133 }), Aof s0, 0, 0, (fun v s => ∃ r, v = some (.int r) ∧ P (r, s)))) ⟨Nat.le_refl _, Nat.le_refl _⟩ (fun r s hp => ⟨r, rfl, hp⟩) h
def mX9_showWalk_97 (n : Nat) (s0 : Sg) (a0 : Nat) (x1 : Int32) (a2 : Nat) (x3 : Int32) (x4 : Int32) (x5 : Int32) : Option ((Sg × Int32) ⊕ (Sg)) :=
  some (.inl (s0, (x5 + (1 : Int32))))
theorem bX9_showWalk_97 {G : Cx} {E : Ev} {n : Nat} (hRm : 2 ≤ E.1.frames ∧ 42 ≤ E.1.locals) {s0 : Sg} {a0 : Nat} {x1 : Int32} {a2 : Nat} {x3 : Int32} {x4 : Int32} {x5 : Int32} {P : (Sg × Int32) ⊕ (Sg) → Prop} (hC : ∀ (s : Sg) (c5 : Int32), P (.inl (s, c5)) → BW G tX9_showWalk E 0 0 3 [(0, .ref a0), (1, .int x1), (2, .ref a2), (3, .int x3), (4, .int x4), (5, .int c5)] [] s) (hE : ∀ (s : Sg), P (.inr s) → BW G tX9_showWalk E 0 0 103 [] [] s)  (h : Ok (mX9_showWalk_97 n s0 a0 x1 a2 x3 x4 x5) P) : BW G tX9_showWalk E 0 0 97 [(0, .ref a0), (1, .int x1), (2, .ref a2), (3, .int x3), (4, .int x4), (5, .int x5)] [] s0 := by
  unfold mX9_showWalk_97 at h
  refine BW.run [.iinc 5 1] (pc' := 100) (lv' := [(0, .ref a0), (1, .int x1), (2, .ref a2), (3, .int x3), (4, .int x4), (5, .int (x5 + (1 : Int32)))]) (st' := []) (by decide +kernel) rfl rfl ?_
  refine BW.goto 3 (by decide +kernel : decode tX9_showWalk.2.1 100 = .ok (.goto (-97), 3)) (by decide) ?_
  exact hC _ _ (Ok.some h)
def mX9_showWalk_55 (n : Nat) (s0 : Sg) (t0 : Int32) (a0 : Nat) (x1 : Int32) (a2 : Nat) (x3 : Int32) (x4 : Int32) (x5 : Int32) (x6 : Int32) (x7 : Int32) : Option ((Sg × Int32) ⊕ (Sg)) :=
  if t0 = 0 then (
    mX9_showWalk_97 n s0 a0 x1 a2 x3 x4 x5
  ) else (
    if x6 = (-1 : Int32) then (
      mX9_showWalk_97 n s0 a0 x1 a2 x3 x4 x5
    ) else (
      (toR (gV 9 s0 a0 16)).bind fun b11 =>
      (toI (aV 11 s0 b11 x6)).bind fun v12 =>
      if x7 ≤ v12 then (
        mX9_showWalk_97 n s0 a0 x1 a2 x3 x4 x5
      ) else (
        (toR (gV 9 s0 a0 16)).bind fun b13 =>
        (sV 11 s0 b13 x6 (.int x7)).bind fun s14 =>
        (toR (gV 9 s14 a0 17)).bind fun b15 =>
        (sV 11 s14 b15 x6 (.int x1)).bind fun s16 =>
        mX9_showWalk_97 n s16 a0 x1 a2 x3 x4 x5
      )
    )
  )
theorem bX9_showWalk_55 {G : Cx} {E : Ev} {n : Nat} (hRm : 2 ≤ E.1.frames ∧ 42 ≤ E.1.locals) {s0 : Sg} {t0 : Int32} {a0 : Nat} {x1 : Int32} {a2 : Nat} {x3 : Int32} {x4 : Int32} {x5 : Int32} {x6 : Int32} {x7 : Int32} {P : (Sg × Int32) ⊕ (Sg) → Prop} (hC : ∀ (s : Sg) (c5 : Int32), P (.inl (s, c5)) → BW G tX9_showWalk E 0 0 3 [(0, .ref a0), (1, .int x1), (2, .ref a2), (3, .int x3), (4, .int x4), (5, .int c5)] [] s) (hE : ∀ (s : Sg), P (.inr s) → BW G tX9_showWalk E 0 0 103 [] [] s)  (h : Ok (mX9_showWalk_55 n s0 t0 a0 x1 a2 x3 x4 x5 x6 x7) P) : BW G tX9_showWalk E 0 0 55 [(0, .ref a0), (1, .int x1), (2, .ref a2), (3, .int x3), (4, .int x4), (5, .int x5), (6, .int x6), (7, .int x7)] [.int t0] s0 := by
  unfold mX9_showWalk_55 at h
  refine BW.run [.istore 8, .iload 8] (pc' := 59) (lv' := [(0, .ref a0), (1, .int x1), (2, .ref a2), (3, .int x3), (4, .int x4), (5, .int x5), (6, .int x6), (7, .int x7), (8, .int t0)]) (st' := [.int t0]) (by decide +kernel) rfl rfl ?_
  refine BW.if_eq 97 (by decide +kernel : decode tX9_showWalk.2.1 59 = .ok (.ifCond .eq 38, 3)) (by decide) (fun hc => ?_) (fun hc => ?_)
  · have h := (Ok.ite h).1 hc
    refine BW.sub [0, 1, 2, 3, 4, 5] rfl ?_
    exact bX9_showWalk_97 hRm hC hE h
  · have h := (Ok.ite h).2 hc
    refine BW.run [.iload 6, .iconst (-1)] (pc' := 65) (lv' := [(0, .ref a0), (1, .int x1), (2, .ref a2), (3, .int x3), (4, .int x4), (5, .int x5), (6, .int x6), (7, .int x7), (8, .int t0)]) (st' := [.int (-1 : Int32), .int x6]) (by decide +kernel) rfl rfl ?_
    refine BW.icmp_eq 97 (by decide +kernel : decode tX9_showWalk.2.1 65 = .ok (.if_icmp .eq 32, 3)) (by decide) (fun hc => ?_) (fun hc => ?_)
    · have h := (Ok.ite h).1 hc
      refine BW.sub [0, 1, 2, 3, 4, 5] rfl ?_
      exact bX9_showWalk_97 hRm hC hE h
    · have h := (Ok.ite h).2 hc
      refine BW.run [.iload 7, .aload_n 0] (pc' := 71) (lv' := [(0, .ref a0), (1, .int x1), (2, .ref a2), (3, .int x3), (4, .int x4), (5, .int x5), (6, .int x6), (7, .int x7), (8, .int t0)]) (st' := [.ref a0, .int x7]) (by decide +kernel) rfl rfl ?_
      obtain ⟨b11, eb11, h⟩ := Ok.bind h
      refine BW.get (by decide +kernel : decode tX9_showWalk.2.1 71 = .ok (.getfield 77, 3)) ciX9 (k := 16) (by decide) lkF_X9_77 (toR_V eb11) ?_
      refine BW.run [.iload 6] (pc' := 76) (lv' := [(0, .ref a0), (1, .int x1), (2, .ref a2), (3, .int x3), (4, .int x4), (5, .int x5), (6, .int x6), (7, .int x7), (8, .int t0)]) (st' := [.int x6, .ref b11, .int x7]) (by decide +kernel) rfl rfl ?_
      obtain ⟨v12, ev12, h⟩ := Ok.bind h
      refine BW.iald (by decide +kernel : decode tX9_showWalk.2.1 76 = .ok (.iaload, 1)) (toI_V ev12) ?_
      refine BW.icmp_le 97 (by decide +kernel : decode tX9_showWalk.2.1 77 = .ok (.if_icmp .le 20, 3)) (by decide) (fun hc => ?_) (fun hc => ?_)
      · have h := (Ok.ite h).1 hc
        refine BW.sub [0, 1, 2, 3, 4, 5] rfl ?_
        exact bX9_showWalk_97 hRm hC hE h
      · have h := (Ok.ite h).2 hc
        refine BW.run [.aload_n 0] (pc' := 81) (lv' := [(0, .ref a0), (1, .int x1), (2, .ref a2), (3, .int x3), (4, .int x4), (5, .int x5), (6, .int x6), (7, .int x7), (8, .int t0)]) (st' := [.ref a0]) (by decide +kernel) rfl rfl ?_
        obtain ⟨b13, eb13, h⟩ := Ok.bind h
        refine BW.get (by decide +kernel : decode tX9_showWalk.2.1 81 = .ok (.getfield 77, 3)) ciX9 (k := 16) (by decide) lkF_X9_77 (toR_V eb13) ?_
        refine BW.run [.iload 6, .iload 7] (pc' := 88) (lv' := [(0, .ref a0), (1, .int x1), (2, .ref a2), (3, .int x3), (4, .int x4), (5, .int x5), (6, .int x6), (7, .int x7), (8, .int t0)]) (st' := [.int x7, .int x6, .ref b13]) (by decide +kernel) rfl rfl ?_
        obtain ⟨s14, es14, h⟩ := Ok.bind h
        refine BW.iast (by decide +kernel : decode tX9_showWalk.2.1 88 = .ok (.iastore, 1)) es14 ?_
        refine BW.run [.aload_n 0] (pc' := 90) (lv' := [(0, .ref a0), (1, .int x1), (2, .ref a2), (3, .int x3), (4, .int x4), (5, .int x5), (6, .int x6), (7, .int x7), (8, .int t0)]) (st' := [.ref a0]) (by decide +kernel) rfl rfl ?_
        obtain ⟨b15, eb15, h⟩ := Ok.bind h
        refine BW.get (by decide +kernel : decode tX9_showWalk.2.1 90 = .ok (.getfield 80, 3)) ciX9 (k := 17) (by decide) lkF_X9_80 (toR_V eb15) ?_
        refine BW.run [.iload 6, .iload_n 1] (pc' := 96) (lv' := [(0, .ref a0), (1, .int x1), (2, .ref a2), (3, .int x3), (4, .int x4), (5, .int x5), (6, .int x6), (7, .int x7), (8, .int t0)]) (st' := [.int x1, .int x6, .ref b15]) (by decide +kernel) rfl rfl ?_
        obtain ⟨s16, es16, h⟩ := Ok.bind h
        refine BW.iast (by decide +kernel : decode tX9_showWalk.2.1 96 = .ok (.iastore, 1)) es16 ?_
        refine BW.sub [0, 1, 2, 3, 4, 5] rfl ?_
        exact bX9_showWalk_97 hRm hC hE h
def mX9_showWalk_54 (n : Nat) (s0 : Sg) (a0 : Nat) (x1 : Int32) (a2 : Nat) (x3 : Int32) (x4 : Int32) (x5 : Int32) (x6 : Int32) (x7 : Int32) : Option ((Sg × Int32) ⊕ (Sg)) :=
  mX9_showWalk_55 n s0 (0 : Int32) a0 x1 a2 x3 x4 x5 x6 x7
theorem bX9_showWalk_54 {G : Cx} {E : Ev} {n : Nat} (hRm : 2 ≤ E.1.frames ∧ 42 ≤ E.1.locals) {s0 : Sg} {a0 : Nat} {x1 : Int32} {a2 : Nat} {x3 : Int32} {x4 : Int32} {x5 : Int32} {x6 : Int32} {x7 : Int32} {P : (Sg × Int32) ⊕ (Sg) → Prop} (hC : ∀ (s : Sg) (c5 : Int32), P (.inl (s, c5)) → BW G tX9_showWalk E 0 0 3 [(0, .ref a0), (1, .int x1), (2, .ref a2), (3, .int x3), (4, .int x4), (5, .int c5)] [] s) (hE : ∀ (s : Sg), P (.inr s) → BW G tX9_showWalk E 0 0 103 [] [] s)  (h : Ok (mX9_showWalk_54 n s0 a0 x1 a2 x3 x4 x5 x6 x7) P) : BW G tX9_showWalk E 0 0 54 [(0, .ref a0), (1, .int x1), (2, .ref a2), (3, .int x3), (4, .int x4), (5, .int x5), (6, .int x6), (7, .int x7)] [] s0 := by
  unfold mX9_showWalk_54 at h
  refine BW.run [.iconst 0] (pc' := 55) (lv' := [(0, .ref a0), (1, .int x1), (2, .ref a2), (3, .int x3), (4, .int x4), (5, .int x5), (6, .int x6), (7, .int x7)]) (st' := [.int (0 : Int32)]) (by decide +kernel) rfl rfl ?_
  exact bX9_showWalk_55 hRm hC hE h
def mX9_showWalk_L3 (n : Nat) (a0 : Nat) (x1 : Int32) (a2 : Nat) (x3 : Int32) (x4 : Int32) : (Sg × Int32) → Option ((Sg × Int32) ⊕ (Sg))
  | (s0, x5) =>
    (toI (gV 8 s0 a2 6)).bind fun v1 =>
    if v1 < x5 then (
      some (.inr s0)
    ) else (
      (mX8_cellOf n s0 a2 x5).bind fun (v3, s2) =>
      (mX8_tickOf n s2 a2 x5).bind fun (v6, s5) =>
      (mX8_isPrint n s5 a2 x5).bind fun (v9, s8) =>
      if v9 = 0 then (
        mX9_showWalk_54 n s8 a0 x1 a2 x3 x4 x5 v3 v6
      ) else (
        if v6 ≤ x3 then (
          mX9_showWalk_54 n s8 a0 x1 a2 x3 x4 x5 v3 v6
        ) else (
          if x4 < v6 then (
            mX9_showWalk_54 n s8 a0 x1 a2 x3 x4 x5 v3 v6
          ) else (
            mX9_showWalk_55 n s8 (1 : Int32) a0 x1 a2 x3 x4 x5 v3 v6
          )
        )
      )
    )
theorem bX9_showWalk_L3 {G : Cx} {E : Ev} {n : Nat} (hRm : 2 ≤ E.1.frames ∧ 42 ≤ E.1.locals) {a0 : Nat} {x1 : Int32} {a2 : Nat} {x3 : Int32} {x4 : Int32} {P : (Sg × Int32) ⊕ (Sg) → Prop} (hC : ∀ (s : Sg) (c5 : Int32), P (.inl (s, c5)) → BW G tX9_showWalk E 0 0 3 [(0, .ref a0), (1, .int x1), (2, .ref a2), (3, .int x3), (4, .int x4), (5, .int c5)] [] s) (hE : ∀ (s : Sg), P (.inr s) → BW G tX9_showWalk E 0 0 103 [] [] s) {s0 : Sg} {x5 : Int32} (h : Ok (mX9_showWalk_L3 n a0 x1 a2 x3 x4 (s0, x5)) P) : BW G tX9_showWalk E 0 0 3 [(0, .ref a0), (1, .int x1), (2, .ref a2), (3, .int x3), (4, .int x4), (5, .int x5)] [] s0 := by
  unfold mX9_showWalk_L3 at h
  refine BW.run [.iload 5, .aload_n 2] (pc' := 6) (lv' := [(0, .ref a0), (1, .int x1), (2, .ref a2), (3, .int x3), (4, .int x4), (5, .int x5)]) (st' := [.ref a2, .int x5]) (by decide +kernel) rfl rfl ?_
  obtain ⟨v1, ev1, h⟩ := Ok.bind h
  refine BW.getN (by decide +kernel : decode tX9_showWalk.2.1 6 = .ok (.getfield 150, 3)) ciX8 (k := 6) (by decide) lkF_X9_150 (toI_V ev1) ?_
  refine BW.icmp_gt 103 (by decide +kernel : decode tX9_showWalk.2.1 9 = .ok (.if_icmp .gt 94, 3)) (by decide) (fun hc => ?_) (fun hc => ?_)
  · have h := (Ok.ite h).1 hc
    refine BW.sub [] rfl ?_
    exact hE _ (Ok.some h)
  · have h := (Ok.ite h).2 hc
    refine BW.run [.aload_n 2, .iload 5] (pc' := 15) (lv' := [(0, .ref a0), (1, .int x1), (2, .ref a2), (3, .int x3), (4, .int x4), (5, .int x5)]) (st' := [.int x5, .ref a2]) (by decide +kernel) rfl rfl ?_
    refine BW.callV (As := [.int x5]) (st := []) (by decide +kernel : decode tX9_showWalk.2.1 15 = .ok (.invokevirtual 165, 3)) (DX8_cellOf (Ok.bindK h)) mfX8_cellOf lkM_X9_165 imX8_cellOf selX8_cellOf ciX8 (oX8_cellOf (Ok.bindK h)).choose_spec rfl rfl (Nat.le_of_ble_eq_true rfl) ⟨Nat.le_trans (by decide) hRm.1, Nat.le_trans (by decide) hRm.2⟩ ⟨Nat.zero_le _, Nat.zero_le _⟩ ?_
    rintro _ s2 ⟨v3, rfl, h⟩
    show BW G tX9_showWalk E 0 0 18 [(0, .ref a0), (1, .int x1), (2, .ref a2), (3, .int x3), (4, .int x4), (5, .int x5)] [.int v3] s2
    refine BW.run [.istore 6, .aload_n 2, .iload 5] (pc' := 23) (lv' := [(0, .ref a0), (1, .int x1), (2, .ref a2), (3, .int x3), (4, .int x4), (5, .int x5), (6, .int v3)]) (st' := [.int x5, .ref a2]) (by decide +kernel) rfl rfl ?_
    refine BW.callV (As := [.int x5]) (st := []) (by decide +kernel : decode tX9_showWalk.2.1 23 = .ok (.invokevirtual 302, 3)) (DX8_tickOf (Ok.bindK h)) mfX8_tickOf lkM_X9_302 imX8_tickOf selX8_tickOf ciX8 (oX8_tickOf (Ok.bindK h)).choose_spec rfl rfl (Nat.le_of_ble_eq_true rfl) ⟨Nat.le_trans (by decide) hRm.1, Nat.le_trans (by decide) hRm.2⟩ ⟨Nat.zero_le _, Nat.zero_le _⟩ ?_
    rintro _ s5 ⟨v6, rfl, h⟩
    show BW G tX9_showWalk E 0 0 26 [(0, .ref a0), (1, .int x1), (2, .ref a2), (3, .int x3), (4, .int x4), (5, .int x5), (6, .int v3)] [.int v6] s5
    refine BW.run [.istore 7, .aload_n 2, .iload 5] (pc' := 31) (lv' := [(0, .ref a0), (1, .int x1), (2, .ref a2), (3, .int x3), (4, .int x4), (5, .int x5), (6, .int v3), (7, .int v6)]) (st' := [.int x5, .ref a2]) (by decide +kernel) rfl rfl ?_
    refine BW.callV (As := [.int x5]) (st := []) (by decide +kernel : decode tX9_showWalk.2.1 31 = .ok (.invokevirtual 367, 3)) (DX8_isPrint (Ok.bindK h)) mfX8_isPrint lkM_X9_367 imX8_isPrint selX8_isPrint ciX8 (oX8_isPrint (Ok.bindK h)).choose_spec rfl rfl (Nat.le_of_ble_eq_true rfl) ⟨Nat.le_trans (by decide) hRm.1, Nat.le_trans (by decide) hRm.2⟩ ⟨Nat.zero_le _, Nat.zero_le _⟩ ?_
    rintro _ s8 ⟨v9, rfl, h⟩
    show BW G tX9_showWalk E 0 0 34 [(0, .ref a0), (1, .int x1), (2, .ref a2), (3, .int x3), (4, .int x4), (5, .int x5), (6, .int v3), (7, .int v6)] [.int v9] s8
    refine BW.if_eq 54 (by decide +kernel : decode tX9_showWalk.2.1 34 = .ok (.ifCond .eq 20, 3)) (by decide) (fun hc => ?_) (fun hc => ?_)
    · have h := (Ok.ite h).1 hc
      exact bX9_showWalk_54 hRm hC hE h
    · have h := (Ok.ite h).2 hc
      refine BW.run [.iload 7, .iload_n 3] (pc' := 40) (lv' := [(0, .ref a0), (1, .int x1), (2, .ref a2), (3, .int x3), (4, .int x4), (5, .int x5), (6, .int v3), (7, .int v6)]) (st' := [.int x3, .int v6]) (by decide +kernel) rfl rfl ?_
      refine BW.icmp_le 54 (by decide +kernel : decode tX9_showWalk.2.1 40 = .ok (.if_icmp .le 14, 3)) (by decide) (fun hc => ?_) (fun hc => ?_)
      · have h := (Ok.ite h).1 hc
        exact bX9_showWalk_54 hRm hC hE h
      · have h := (Ok.ite h).2 hc
        refine BW.run [.iload 7, .iload 4] (pc' := 47) (lv' := [(0, .ref a0), (1, .int x1), (2, .ref a2), (3, .int x3), (4, .int x4), (5, .int x5), (6, .int v3), (7, .int v6)]) (st' := [.int x4, .int v6]) (by decide +kernel) rfl rfl ?_
        refine BW.icmp_gt 54 (by decide +kernel : decode tX9_showWalk.2.1 47 = .ok (.if_icmp .gt 7, 3)) (by decide) (fun hc => ?_) (fun hc => ?_)
        · have h := (Ok.ite h).1 hc
          exact bX9_showWalk_54 hRm hC hE h
        · have h := (Ok.ite h).2 hc
          refine BW.run [.iconst 1] (pc' := 51) (lv' := [(0, .ref a0), (1, .int x1), (2, .ref a2), (3, .int x3), (4, .int x4), (5, .int x5), (6, .int v3), (7, .int v6)]) (st' := [.int (1 : Int32)]) (by decide +kernel) rfl rfl ?_
          refine BW.goto 55 (by decide +kernel : decode tX9_showWalk.2.1 51 = .ok (.goto 4, 3)) (by decide) ?_
          exact bX9_showWalk_55 hRm hC hE h
theorem bX9_showWalk_W3 {G : Cx} {E : Ev} {n : Nat} (hRm : 2 ≤ E.1.frames ∧ 42 ≤ E.1.locals) {a0 : Nat} {x1 : Int32} {a2 : Nat} {x3 : Int32} {x4 : Int32} {K : (Sg) → Prop} (hE : ∀ (s : Sg), K s → BW G tX9_showWalk E 0 0 103 [] [] s) : ∀ (f : Nat) (c : Sg × Int32), Ok (loopM (mX9_showWalk_L3 n a0 x1 a2 x3 x4) f c) K → match c with | (s0, x5) => BW G tX9_showWalk E 0 0 3 [(0, .ref a0), (1, .int x1), (2, .ref a2), (3, .int x3), (4, .int x4), (5, .int x5)] [] s0 := by
  intro f
  induction f with
  | zero => intro c h; exact (Ok.no h).elim
  | succ f ih =>
    intro c h
    obtain ⟨s0, x5⟩ := c
    exact bX9_showWalk_L3 (P := loopP (mX9_showWalk_L3 n a0 x1 a2 x3 x4) f K) hRm (fun s c5 h => ih (s, c5) h) hE (loopM_ok h)
def mX9_showWalk (n : Nat) (s0 : Sg) (a0 : Nat) (x1 : Int32) (a2 : Nat) (x3 : Int32) (x4 : Int32) : Option (Sg) :=
  (isO 9 s0 a0).bind fun _ =>
  (loopM (mX9_showWalk_L3 n a0 x1 a2 x3 x4) n (s0, (0 : Int32))).bind fun s17 =>
  some s17
theorem bX9_showWalk {G : Cx} {E : Ev} {n : Nat} (hRm : 2 ≤ E.1.frames ∧ 42 ≤ E.1.locals) {P : Sg → Prop} (hQ : ∀ s, P s → E.2.2.2.2 none s) {s0 : Sg} {a0 : Nat} {x1 : Int32} {a2 : Nat} {x3 : Int32} {x4 : Int32} (h : Ok (mX9_showWalk n s0 a0 x1 a2 x3 x4) P) : BW G tX9_showWalk E 0 0 0 [(0, .ref a0), (1, .int x1), (2, .ref a2), (3, .int x3), (4, .int x4)] [] s0 := by
  unfold mX9_showWalk at h
  obtain ⟨_, _, h⟩ := Ok.bind h
  refine BW.run [.iconst 0, .istore 5] (pc' := 3) (lv' := [(0, .ref a0), (1, .int x1), (2, .ref a2), (3, .int x3), (4, .int x4), (5, .int (0 : Int32))]) (st' := []) (by decide +kernel) rfl rfl ?_
  refine bX9_showWalk_W3 hRm (a0 := a0) (x1 := x1) (a2 := a2) (x3 := x3) (x4 := x4) (fun s17 h => ?_) n (s0, (0 : Int32)) (Ok.bindK h)
  exact BW.vret (by decide +kernel : decode tX9_showWalk.2.1 103 = .ok (.return_, 1)) rfl (Nat.zero_le _) (Nat.zero_le _) (hQ _ (Ok.some h))
theorem oX9_showWalk {n : Nat} {P : Sg → Prop} {s0 : Sg} {a0 : Nat} {x1 : Int32} {a2 : Nat} {x3 : Int32} {x4 : Int32} (h : Ok (mX9_showWalk n s0 a0 x1 a2 x3 x4) P) : ∃ n0, s0.2.1 a0 = some (9, n0) := by
  unfold mX9_showWalk at h
  exact Ok.isO h
theorem DX9_showWalk {G : Cx} {n : Nat} {P : Sg → Prop} {s0 : Sg} {a0 : Nat} {x1 : Int32} {a2 : Nat} {x3 : Int32} {x4 : Int32} (h : Ok (mX9_showWalk n s0 a0 x1 a2 x3 x4) P) : BM G tX9_showWalk 2 42 0 0 [.ref a0, .int x1, .ref a2, .int x3, .int x4] s0 (fun v s => v = none ∧ P s) := by
  refine BM.of (by decide +kernel) (Nat.le_of_ble_eq_true rfl) ?_
  exact bX9_showWalk (E := (({ frames := 2, cells := 0, slots := 0, locals := 42 }), Aof s0, 0, 0, (fun v s => v = none ∧ P s))) ⟨Nat.le_refl _, Nat.le_refl _⟩ (fun s hp => ⟨rfl, hp⟩) h
def mX9_showAll_54 (n : Nat) (s0 : Sg) (a0 : Nat) (x1 : Int32) (x2 : Int32) (x3 : Int32) : Option ((Sg × Int32) ⊕ (Sg)) :=
  some (.inl (s0, (x3 + (1 : Int32))))
theorem bX9_showAll_54 {G : Cx} {E : Ev} {n : Nat} (hRm : 3 ≤ E.1.frames ∧ 70 ≤ E.1.locals) {s0 : Sg} {a0 : Nat} {x1 : Int32} {x2 : Int32} {x3 : Int32} {P : (Sg × Int32) ⊕ (Sg) → Prop} (hC : ∀ (s : Sg) (c3 : Int32), P (.inl (s, c3)) → BW G tX9_showAll E 0 0 24 [(0, .ref a0), (1, .int x1), (2, .int x2), (3, .int c3)] [] s) (hE : ∀ (s : Sg), P (.inr s) → BW G tX9_showAll E 0 0 60 [] [] s)  (h : Ok (mX9_showAll_54 n s0 a0 x1 x2 x3) P) : BW G tX9_showAll E 0 0 54 [(0, .ref a0), (1, .int x1), (2, .int x2), (3, .int x3)] [] s0 := by
  unfold mX9_showAll_54 at h
  refine BW.run [.iinc 3 1] (pc' := 57) (lv' := [(0, .ref a0), (1, .int x1), (2, .int x2), (3, .int (x3 + (1 : Int32)))]) (st' := []) (by decide +kernel) rfl rfl ?_
  refine BW.goto 24 (by decide +kernel : decode tX9_showAll.2.1 57 = .ok (.goto (-33), 3)) (by decide) ?_
  exact hC _ _ (Ok.some h)
def mX9_showAll_L24 (n : Nat) (a0 : Nat) (x1 : Int32) (x2 : Int32) : (Sg × Int32) → Option ((Sg × Int32) ⊕ (Sg))
  | (s0, x3) =>
    (toI (gV 9 s0 a0 6)).bind fun v8 =>
    if v8 ≤ x3 then (
      some (.inr s0)
    ) else (
      (toR (gV 9 s0 a0 5)).bind fun b9 =>
      (toQ (aV 13 s0 b9 x3)).bind fun q10 => match q10 with
      | none => (
        mX9_showAll_54 n s0 a0 x1 x2 x3
      )
      | some b11 => (
        (mX9_showWalk n s0 a0 x3 b11 x2 x1).bind fun s12 =>
        mX9_showAll_54 n s12 a0 x1 x2 x3
      )
    )
theorem bX9_showAll_L24 {G : Cx} {E : Ev} {n : Nat} (hRm : 3 ≤ E.1.frames ∧ 70 ≤ E.1.locals) {a0 : Nat} {x1 : Int32} {x2 : Int32} {P : (Sg × Int32) ⊕ (Sg) → Prop} (hC : ∀ (s : Sg) (c3 : Int32), P (.inl (s, c3)) → BW G tX9_showAll E 0 0 24 [(0, .ref a0), (1, .int x1), (2, .int x2), (3, .int c3)] [] s) (hE : ∀ (s : Sg), P (.inr s) → BW G tX9_showAll E 0 0 60 [] [] s) {s0 : Sg} {x3 : Int32} (h : Ok (mX9_showAll_L24 n a0 x1 x2 (s0, x3)) P) : BW G tX9_showAll E 0 0 24 [(0, .ref a0), (1, .int x1), (2, .int x2), (3, .int x3)] [] s0 := by
  unfold mX9_showAll_L24 at h
  refine BW.run [.iload_n 3, .aload_n 0] (pc' := 26) (lv' := [(0, .ref a0), (1, .int x1), (2, .int x2), (3, .int x3)]) (st' := [.ref a0, .int x3]) (by decide +kernel) rfl rfl ?_
  obtain ⟨v8, ev8, h⟩ := Ok.bind h
  refine BW.get (by decide +kernel : decode tX9_showAll.2.1 26 = .ok (.getfield 22, 3)) ciX9 (k := 6) (by decide) lkF_X9_22 (toI_V ev8) ?_
  refine BW.icmp_ge 60 (by decide +kernel : decode tX9_showAll.2.1 29 = .ok (.if_icmp .ge 31, 3)) (by decide) (fun hc => ?_) (fun hc => ?_)
  · have h := (Ok.ite h).1 hc
    refine BW.sub [] rfl ?_
    exact hE _ (Ok.some h)
  · have h := (Ok.ite h).2 hc
    refine BW.run [.aload_n 0] (pc' := 33) (lv' := [(0, .ref a0), (1, .int x1), (2, .int x2), (3, .int x3)]) (st' := [.ref a0]) (by decide +kernel) rfl rfl ?_
    obtain ⟨b9, eb9, h⟩ := Ok.bind h
    refine BW.get (by decide +kernel : decode tX9_showAll.2.1 33 = .ok (.getfield 18, 3)) ciX9 (k := 5) (by decide) lkF_X9_18 (toR_V eb9) ?_
    refine BW.run [.iload_n 3] (pc' := 37) (lv' := [(0, .ref a0), (1, .int x1), (2, .int x2), (3, .int x3)]) (st' := [.int x3, .ref b9]) (by decide +kernel) rfl rfl ?_
    obtain ⟨q10, eq10, h⟩ := Ok.bind h
    refine BW.aald (by decide +kernel : decode tX9_showAll.2.1 37 = .ok (.aaload, 1)) (by decide) (toQ_V eq10) ?_
    cases q10 with
    | none =>
      show BW G tX9_showAll E 0 0 38 [(0, .ref a0), (1, .int x1), (2, .int x2), (3, .int x3)] (.null :: []) s0
      refine BW.run [.astore 4, .aload 4] (pc' := 42) (lv' := [(0, .ref a0), (1, .int x1), (2, .int x2), (3, .int x3), (4, .null)]) (st' := [.null]) (by decide +kernel) rfl rfl ?_
      refine BW.ifnullN 54 (by decide +kernel : decode tX9_showAll.2.1 42 = .ok (.ifnull 12, 3)) (by decide) ?_
      refine BW.sub [0, 1, 2, 3] rfl ?_
      exact bX9_showAll_54 hRm hC hE h
    | some b11 =>
      show BW G tX9_showAll E 0 0 38 [(0, .ref a0), (1, .int x1), (2, .int x2), (3, .int x3)] (.ref b11 :: []) s0
      refine BW.run [.astore 4, .aload 4] (pc' := 42) (lv' := [(0, .ref a0), (1, .int x1), (2, .int x2), (3, .int x3), (4, .ref b11)]) (st' := [.ref b11]) (by decide +kernel) rfl rfl ?_
      refine BW.ifnull (by decide +kernel : decode tX9_showAll.2.1 42 = .ok (.ifnull 12, 3)) ?_
      refine BW.run [.aload_n 0, .iload_n 3, .aload 4, .iload_n 2, .iload_n 1] (pc' := 51) (lv' := [(0, .ref a0), (1, .int x1), (2, .int x2), (3, .int x3), (4, .ref b11)]) (st' := [.int x1, .int x2, .ref b11, .int x3, .ref a0]) (by decide +kernel) rfl rfl ?_
      refine BW.callV (As := [.int x3, .ref b11, .int x2, .int x1]) (st := []) (by decide +kernel : decode tX9_showAll.2.1 51 = .ok (.invokevirtual 363, 3)) (DX9_showWalk (Ok.bindK h)) mfX9_showWalk lkM_X9_363 imX9_showWalk selX9_showWalk ciX9 (oX9_showWalk (Ok.bindK h)).choose_spec rfl rfl (Nat.le_of_ble_eq_true rfl) ⟨Nat.le_trans (by decide) hRm.1, Nat.le_trans (by decide) hRm.2⟩ ⟨Nat.zero_le _, Nat.zero_le _⟩ ?_
      rintro _ s12 ⟨rfl, h⟩
      show BW G tX9_showAll E 0 0 54 [(0, .ref a0), (1, .int x1), (2, .int x2), (3, .int x3), (4, .ref b11)] [] s12
      refine BW.sub [0, 1, 2, 3] rfl ?_
      exact bX9_showAll_54 hRm hC hE h
theorem bX9_showAll_W24 {G : Cx} {E : Ev} {n : Nat} (hRm : 3 ≤ E.1.frames ∧ 70 ≤ E.1.locals) {a0 : Nat} {x1 : Int32} {x2 : Int32} {K : (Sg) → Prop} (hE : ∀ (s : Sg), K s → BW G tX9_showAll E 0 0 60 [] [] s) : ∀ (f : Nat) (c : Sg × Int32), Ok (loopM (mX9_showAll_L24 n a0 x1 x2) f c) K → match c with | (s0, x3) => BW G tX9_showAll E 0 0 24 [(0, .ref a0), (1, .int x1), (2, .int x2), (3, .int x3)] [] s0 := by
  intro f
  induction f with
  | zero => intro c h; exact (Ok.no h).elim
  | succ f ih =>
    intro c h
    obtain ⟨s0, x3⟩ := c
    exact bX9_showAll_L24 (P := loopP (mX9_showAll_L24 n a0 x1 x2) f K) hRm (fun s c3 h => ih (s, c3) h) hE (loopM_ok h)
def mX9_showAll (n : Nat) (s0 : Sg) (a0 : Nat) (x1 : Int32) : Option (Sg) :=
  (isO 9 s0 a0).bind fun _ =>
  (toR (gV 9 s0 a0 16)).bind fun b1 =>
  (mJ_fill n s0 b1 (-1 : Int32)).bind fun s2 =>
  (toR (gV 9 s2 a0 17)).bind fun b3 =>
  (mJ_fill n s2 b3 (-1 : Int32)).bind fun s4 =>
  (mX9_latestSnow n s4 a0 x1).bind fun (v6, s5) =>
  (loopM (mX9_showAll_L24 n a0 x1 v6) n (s5, (0 : Int32))).bind fun s13 =>
  some s13
theorem bX9_showAll {G : Cx} {E : Ev} {n : Nat} (hRm : 3 ≤ E.1.frames ∧ 70 ≤ E.1.locals) {P : Sg → Prop} (hQ : ∀ s, P s → E.2.2.2.2 none s) {s0 : Sg} {a0 : Nat} {x1 : Int32} (h : Ok (mX9_showAll n s0 a0 x1) P) : BW G tX9_showAll E 0 0 0 [(0, .ref a0), (1, .int x1)] [] s0 := by
  unfold mX9_showAll at h
  obtain ⟨_, _, h⟩ := Ok.bind h
  refine BW.run [.aload_n 0] (pc' := 1) (lv' := [(0, .ref a0), (1, .int x1)]) (st' := [.ref a0]) (by decide +kernel) rfl rfl ?_
  obtain ⟨b1, eb1, h⟩ := Ok.bind h
  refine BW.get (by decide +kernel : decode tX9_showAll.2.1 1 = .ok (.getfield 77, 3)) ciX9 (k := 16) (by decide) lkF_X9_77 (toR_V eb1) ?_
  refine BW.run [.iconst (-1)] (pc' := 5) (lv' := [(0, .ref a0), (1, .int x1)]) (st' := [.int (-1 : Int32), .ref b1]) (by decide +kernel) rfl rfl ?_
  refine BW.callS (As := [.ref b1, .int (-1 : Int32)]) (st := []) (by decide +kernel : decode tX9_showAll.2.1 5 = .ok (.invokestatic 354, 3)) (DJ_fill (Ok.bindK h)) mfJ_fill lkM_X9_354 smJ_fill rfl rfl (Nat.le_of_ble_eq_true rfl) ⟨Nat.le_trans (by decide) hRm.1, Nat.le_trans (by decide) hRm.2⟩ ⟨Nat.zero_le _, Nat.zero_le _⟩ ?_
  rintro _ s2 ⟨rfl, h⟩
  show BW G tX9_showAll E 0 0 8 [(0, .ref a0), (1, .int x1)] [] s2
  refine BW.run [.aload_n 0] (pc' := 9) (lv' := [(0, .ref a0), (1, .int x1)]) (st' := [.ref a0]) (by decide +kernel) rfl rfl ?_
  obtain ⟨b3, eb3, h⟩ := Ok.bind h
  refine BW.get (by decide +kernel : decode tX9_showAll.2.1 9 = .ok (.getfield 80, 3)) ciX9 (k := 17) (by decide) lkF_X9_80 (toR_V eb3) ?_
  refine BW.run [.iconst (-1)] (pc' := 13) (lv' := [(0, .ref a0), (1, .int x1)]) (st' := [.int (-1 : Int32), .ref b3]) (by decide +kernel) rfl rfl ?_
  refine BW.callS (As := [.ref b3, .int (-1 : Int32)]) (st := []) (by decide +kernel : decode tX9_showAll.2.1 13 = .ok (.invokestatic 354, 3)) (DJ_fill (Ok.bindK h)) mfJ_fill lkM_X9_354 smJ_fill rfl rfl (Nat.le_of_ble_eq_true rfl) ⟨Nat.le_trans (by decide) hRm.1, Nat.le_trans (by decide) hRm.2⟩ ⟨Nat.zero_le _, Nat.zero_le _⟩ ?_
  rintro _ s4 ⟨rfl, h⟩
  show BW G tX9_showAll E 0 0 16 [(0, .ref a0), (1, .int x1)] [] s4
  refine BW.run [.aload_n 0, .iload_n 1] (pc' := 18) (lv' := [(0, .ref a0), (1, .int x1)]) (st' := [.int x1, .ref a0]) (by decide +kernel) rfl rfl ?_
  refine BW.callV (As := [.int x1]) (st := []) (by decide +kernel : decode tX9_showAll.2.1 18 = .ok (.invokevirtual 360, 3)) (DX9_latestSnow (Ok.bindK h)) mfX9_latestSnow lkM_X9_360 imX9_latestSnow selX9_latestSnow ciX9 (oX9_latestSnow (Ok.bindK h)).choose_spec rfl rfl (Nat.le_of_ble_eq_true rfl) ⟨Nat.le_trans (by decide) hRm.1, Nat.le_trans (by decide) hRm.2⟩ ⟨Nat.zero_le _, Nat.zero_le _⟩ ?_
  rintro _ s5 ⟨v6, rfl, h⟩
  show BW G tX9_showAll E 0 0 21 [(0, .ref a0), (1, .int x1)] [.int v6] s5
  refine BW.run [.istore_n 2, .iconst 0, .istore_n 3] (pc' := 24) (lv' := [(0, .ref a0), (1, .int x1), (2, .int v6), (3, .int (0 : Int32))]) (st' := []) (by decide +kernel) rfl rfl ?_
  refine bX9_showAll_W24 hRm (a0 := a0) (x1 := x1) (x2 := v6) (fun s13 h => ?_) n (s5, (0 : Int32)) (Ok.bindK h)
  exact BW.vret (by decide +kernel : decode tX9_showAll.2.1 60 = .ok (.return_, 1)) rfl (Nat.zero_le _) (Nat.zero_le _) (hQ _ (Ok.some h))
theorem oX9_showAll {n : Nat} {P : Sg → Prop} {s0 : Sg} {a0 : Nat} {x1 : Int32} (h : Ok (mX9_showAll n s0 a0 x1) P) : ∃ n0, s0.2.1 a0 = some (9, n0) := by
  unfold mX9_showAll at h
  exact Ok.isO h
theorem DX9_showAll {G : Cx} {n : Nat} {P : Sg → Prop} {s0 : Sg} {a0 : Nat} {x1 : Int32} (h : Ok (mX9_showAll n s0 a0 x1) P) : BM G tX9_showAll 3 70 0 0 [.ref a0, .int x1] s0 (fun v s => v = none ∧ P s) := by
  refine BM.of (by decide +kernel) (Nat.le_of_ble_eq_true rfl) ?_
  exact bX9_showAll (E := (({ frames := 3, cells := 0, slots := 0, locals := 70 }), Aof s0, 0, 0, (fun v s => v = none ∧ P s))) ⟨Nat.le_refl _, Nat.le_refl _⟩ (fun s hp => ⟨rfl, hp⟩) h
def mX9_shown (n : Nat) (s0 : Sg) (a0 : Nat) (x1 : Int32) (x2 : Int32) (x3 : Int32) : Option (Int32 × Sg) :=
  (isO 9 s0 a0).bind fun _ =>
  (mX9_cellAt n s0 a0 x1 x2).bind fun (v2, s1) =>
  if v2 = (-1 : Int32) then (
    some ((-1 : Int32), s1)
  ) else (
    (mX9_isTick n s1 x3).bind fun (v5, s4) =>
    if v5 = 0 then (
      some ((-1 : Int32), s4)
    ) else (
      (mX9_showAll n s4 a0 x3).bind fun s7 =>
      (toR (gV 9 s7 a0 17)).bind fun b8 =>
      (toI (aV 11 s7 b8 v2)).bind fun v9 =>
      some (v9, s7)
    )
  )
theorem bX9_shown {G : Cx} {E : Ev} {n : Nat} (hRm : 4 ≤ E.1.frames ∧ 94 ≤ E.1.locals) {P : Int32 × Sg → Prop} (hQ : ∀ r s, P (r, s) → E.2.2.2.2 (some (.int r)) s) {s0 : Sg} {a0 : Nat} {x1 : Int32} {x2 : Int32} {x3 : Int32} (h : Ok (mX9_shown n s0 a0 x1 x2 x3) P) : BW G tX9_shown E 0 0 0 [(0, .ref a0), (1, .int x1), (2, .int x2), (3, .int x3)] [] s0 := by
  unfold mX9_shown at h
  obtain ⟨_, _, h⟩ := Ok.bind h
  refine BW.run [.aload_n 0, .iload_n 1, .iload_n 2] (pc' := 3) (lv' := [(0, .ref a0), (1, .int x1), (2, .int x2), (3, .int x3)]) (st' := [.int x2, .int x1, .ref a0]) (by decide +kernel) rfl rfl ?_
  refine BW.callV (As := [.int x1, .int x2]) (st := []) (by decide +kernel : decode tX9_shown.2.1 3 = .ok (.invokevirtual 130, 3)) (DX9_cellAt (Ok.bindK h)) mfX9_cellAt lkM_X9_130 imX9_cellAt selX9_cellAt ciX9 (oX9_cellAt (Ok.bindK h)).choose_spec rfl rfl (Nat.le_of_ble_eq_true rfl) ⟨Nat.le_trans (by decide) hRm.1, Nat.le_trans (by decide) hRm.2⟩ ⟨Nat.zero_le _, Nat.zero_le _⟩ ?_
  rintro _ s1 ⟨v2, rfl, h⟩
  show BW G tX9_shown E 0 0 6 [(0, .ref a0), (1, .int x1), (2, .int x2), (3, .int x3)] [.int v2] s1
  refine BW.run [.istore 4, .iload 4, .iconst (-1)] (pc' := 11) (lv' := [(0, .ref a0), (1, .int x1), (2, .int x2), (3, .int x3), (4, .int v2)]) (st' := [.int (-1 : Int32), .int v2]) (by decide +kernel) rfl rfl ?_
  refine BW.icmp_eq 21 (by decide +kernel : decode tX9_shown.2.1 11 = .ok (.if_icmp .eq 10, 3)) (by decide) (fun hc => ?_) (fun hc => ?_)
  · have h := (Ok.ite h).1 hc
    refine BW.run [.iconst (-1)] (pc' := 22) (lv' := [(0, .ref a0), (1, .int x1), (2, .int x2), (3, .int x3), (4, .int v2)]) (st' := [.int (-1 : Int32)]) (by decide +kernel) rfl rfl ?_
    exact BW.iret (by decide +kernel : decode tX9_shown.2.1 22 = .ok (.ireturn, 1)) rfl (Nat.zero_le _) (Nat.zero_le _) (hQ _ _ (Ok.some h))
  · have h := (Ok.ite h).2 hc
    refine BW.run [.iload_n 3] (pc' := 15) (lv' := [(0, .ref a0), (1, .int x1), (2, .int x2), (3, .int x3), (4, .int v2)]) (st' := [.int x3]) (by decide +kernel) rfl rfl ?_
    refine BW.callS (As := [.int x3]) (st := []) (by decide +kernel : decode tX9_shown.2.1 15 = .ok (.invokestatic 305, 3)) (DX9_isTick (Ok.bindK h)) mfX9_isTick lkM_X9_305 smX9_isTick rfl rfl (Nat.le_of_ble_eq_true rfl) ⟨Nat.le_trans (by decide) hRm.1, Nat.le_trans (by decide) hRm.2⟩ ⟨Nat.zero_le _, Nat.zero_le _⟩ ?_
    rintro _ s4 ⟨v5, rfl, h⟩
    show BW G tX9_shown E 0 0 18 [(0, .ref a0), (1, .int x1), (2, .int x2), (3, .int x3), (4, .int v2)] [.int v5] s4
    refine BW.if_ne 23 (by decide +kernel : decode tX9_shown.2.1 18 = .ok (.ifCond .ne 5, 3)) (by decide) (fun hc => ?_) (fun hc => ?_)
    · have h := (Ok.ite h).2 hc
      refine BW.run [.aload_n 0, .iload_n 3] (pc' := 25) (lv' := [(0, .ref a0), (1, .int x1), (2, .int x2), (3, .int x3), (4, .int v2)]) (st' := [.int x3, .ref a0]) (by decide +kernel) rfl rfl ?_
      refine BW.callV (As := [.int x3]) (st := []) (by decide +kernel : decode tX9_shown.2.1 25 = .ok (.invokevirtual 308, 3)) (DX9_showAll (Ok.bindK h)) mfX9_showAll lkM_X9_308 imX9_showAll selX9_showAll ciX9 (oX9_showAll (Ok.bindK h)).choose_spec rfl rfl (Nat.le_of_ble_eq_true rfl) ⟨Nat.le_trans (by decide) hRm.1, Nat.le_trans (by decide) hRm.2⟩ ⟨Nat.zero_le _, Nat.zero_le _⟩ ?_
      rintro _ s7 ⟨rfl, h⟩
      show BW G tX9_shown E 0 0 28 [(0, .ref a0), (1, .int x1), (2, .int x2), (3, .int x3), (4, .int v2)] [] s7
      refine BW.run [.aload_n 0] (pc' := 29) (lv' := [(0, .ref a0), (1, .int x1), (2, .int x2), (3, .int x3), (4, .int v2)]) (st' := [.ref a0]) (by decide +kernel) rfl rfl ?_
      obtain ⟨b8, eb8, h⟩ := Ok.bind h
      refine BW.get (by decide +kernel : decode tX9_shown.2.1 29 = .ok (.getfield 80, 3)) ciX9 (k := 17) (by decide) lkF_X9_80 (toR_V eb8) ?_
      refine BW.run [.iload 4] (pc' := 34) (lv' := [(0, .ref a0), (1, .int x1), (2, .int x2), (3, .int x3), (4, .int v2)]) (st' := [.int v2, .ref b8]) (by decide +kernel) rfl rfl ?_
      obtain ⟨v9, ev9, h⟩ := Ok.bind h
      refine BW.iald (by decide +kernel : decode tX9_shown.2.1 34 = .ok (.iaload, 1)) (toI_V ev9) ?_
      exact BW.iret (by decide +kernel : decode tX9_shown.2.1 35 = .ok (.ireturn, 1)) rfl (Nat.zero_le _) (Nat.zero_le _) (hQ _ _ (Ok.some h))
    · have h := (Ok.ite h).1 hc
      refine BW.run [.iconst (-1)] (pc' := 22) (lv' := [(0, .ref a0), (1, .int x1), (2, .int x2), (3, .int x3), (4, .int v2)]) (st' := [.int (-1 : Int32)]) (by decide +kernel) rfl rfl ?_
      exact BW.iret (by decide +kernel : decode tX9_shown.2.1 22 = .ok (.ireturn, 1)) rfl (Nat.zero_le _) (Nat.zero_le _) (hQ _ _ (Ok.some h))
theorem oX9_shown {n : Nat} {P : Int32 × Sg → Prop} {s0 : Sg} {a0 : Nat} {x1 : Int32} {x2 : Int32} {x3 : Int32} (h : Ok (mX9_shown n s0 a0 x1 x2 x3) P) : ∃ n0, s0.2.1 a0 = some (9, n0) := by
  unfold mX9_shown at h
  exact Ok.isO h
theorem DX9_shown {G : Cx} {n : Nat} {P : Int32 × Sg → Prop} {s0 : Sg} {a0 : Nat} {x1 : Int32} {x2 : Int32} {x3 : Int32} (h : Ok (mX9_shown n s0 a0 x1 x2 x3) P) : BM G tX9_shown 4 94 0 0 [.ref a0, .int x1, .int x2, .int x3] s0 (fun v s => ∃ r, v = some (.int r) ∧ P (r, s)) := by
  refine BM.of (by decide +kernel) (Nat.le_of_ble_eq_true rfl) ?_
  exact bX9_shown (E := (({ frames := 4, cells := 0, slots := 0, locals := 94 }), Aof s0, 0, 0, (fun v s => ∃ r, v = some (.int r) ∧ P (r, s)))) ⟨Nat.le_refl _, Nat.le_refl _⟩ (fun r s hp => ⟨r, rfl, hp⟩) h
def mX9_snow (n : Nat) (s0 : Sg) (a0 : Nat) (x1 : Int32) : Option (Int32 × Sg) :=
  (isO 9 s0 a0).bind fun _ =>
  (mX9_isTick n s0 x1).bind fun (v2, s1) =>
  if v2 = 0 then (
    some ((-1 : Int32), s1)
  ) else (
    (toI (gV 9 s1 a0 10)).bind fun v4 =>
    if v4 < (8 : Int32) then (
      (toR (gV 9 s1 a0 9)).bind fun b5 =>
      (toI (gV 9 s1 a0 10)).bind fun v6 =>
      (sV 11 s1 b5 v6 (.int x1)).bind fun s7 =>
      (toI (gV 9 s7 a0 10)).bind fun v8 =>
      (pV 9 s7 a0 10 (.int (v8 + (1 : Int32)))).bind fun s9 =>
      (toI (gV 9 s9 a0 10)).bind fun v10 =>
      some (v10, s9)
    ) else (
      some ((-1 : Int32), s1)
    )
  )
theorem bX9_snow {G : Cx} {E : Ev} {n : Nat} (hRm : 1 ≤ E.1.frames ∧ 20 ≤ E.1.locals) {P : Int32 × Sg → Prop} (hQ : ∀ r s, P (r, s) → E.2.2.2.2 (some (.int r)) s) {s0 : Sg} {a0 : Nat} {x1 : Int32} (h : Ok (mX9_snow n s0 a0 x1) P) : BW G tX9_snow E 0 0 0 [(0, .ref a0), (1, .int x1)] [] s0 := by
  unfold mX9_snow at h
  obtain ⟨_, _, h⟩ := Ok.bind h
  refine BW.run [.iload_n 1] (pc' := 1) (lv' := [(0, .ref a0), (1, .int x1)]) (st' := [.int x1]) (by decide +kernel) rfl rfl ?_
  refine BW.callS (As := [.int x1]) (st := []) (by decide +kernel : decode tX9_snow.2.1 1 = .ok (.invokestatic 305, 3)) (DX9_isTick (Ok.bindK h)) mfX9_isTick lkM_X9_305 smX9_isTick rfl rfl (Nat.le_of_ble_eq_true rfl) ⟨Nat.le_trans (by decide) hRm.1, Nat.le_trans (by decide) hRm.2⟩ ⟨Nat.zero_le _, Nat.zero_le _⟩ ?_
  rintro _ s1 ⟨v2, rfl, h⟩
  show BW G tX9_snow E 0 0 4 [(0, .ref a0), (1, .int x1)] [.int v2] s1
  refine BW.if_eq 16 (by decide +kernel : decode tX9_snow.2.1 4 = .ok (.ifCond .eq 12, 3)) (by decide) (fun hc => ?_) (fun hc => ?_)
  · have h := (Ok.ite h).1 hc
    refine BW.run [.iconst (-1)] (pc' := 17) (lv' := [(0, .ref a0), (1, .int x1)]) (st' := [.int (-1 : Int32)]) (by decide +kernel) rfl rfl ?_
    exact BW.iret (by decide +kernel : decode tX9_snow.2.1 17 = .ok (.ireturn, 1)) rfl (Nat.zero_le _) (Nat.zero_le _) (hQ _ _ (Ok.some h))
  · have h := (Ok.ite h).2 hc
    refine BW.run [.aload_n 0] (pc' := 8) (lv' := [(0, .ref a0), (1, .int x1)]) (st' := [.ref a0]) (by decide +kernel) rfl rfl ?_
    obtain ⟨v4, ev4, h⟩ := Ok.bind h
    refine BW.get (by decide +kernel : decode tX9_snow.2.1 8 = .ok (.getfield 39, 3)) ciX9 (k := 10) (by decide) lkF_X9_39 (toI_V ev4) ?_
    refine BW.run [.bipush 8] (pc' := 13) (lv' := [(0, .ref a0), (1, .int x1)]) (st' := [.int (8 : Int32), .int v4]) (by decide +kernel) rfl rfl ?_
    refine BW.icmp_lt 18 (by decide +kernel : decode tX9_snow.2.1 13 = .ok (.if_icmp .lt 5, 3)) (by decide) (fun hc => ?_) (fun hc => ?_)
    · have h := (Ok.ite h).1 hc
      refine BW.run [.aload_n 0] (pc' := 19) (lv' := [(0, .ref a0), (1, .int x1)]) (st' := [.ref a0]) (by decide +kernel) rfl rfl ?_
      obtain ⟨b5, eb5, h⟩ := Ok.bind h
      refine BW.get (by decide +kernel : decode tX9_snow.2.1 19 = .ok (.getfield 35, 3)) ciX9 (k := 9) (by decide) lkF_X9_35 (toR_V eb5) ?_
      refine BW.run [.aload_n 0] (pc' := 23) (lv' := [(0, .ref a0), (1, .int x1)]) (st' := [.ref a0, .ref b5]) (by decide +kernel) rfl rfl ?_
      obtain ⟨v6, ev6, h⟩ := Ok.bind h
      refine BW.get (by decide +kernel : decode tX9_snow.2.1 23 = .ok (.getfield 39, 3)) ciX9 (k := 10) (by decide) lkF_X9_39 (toI_V ev6) ?_
      refine BW.run [.iload_n 1] (pc' := 27) (lv' := [(0, .ref a0), (1, .int x1)]) (st' := [.int x1, .int v6, .ref b5]) (by decide +kernel) rfl rfl ?_
      obtain ⟨s7, es7, h⟩ := Ok.bind h
      refine BW.iast (by decide +kernel : decode tX9_snow.2.1 27 = .ok (.iastore, 1)) es7 ?_
      refine BW.run [.aload_n 0, .dup] (pc' := 30) (lv' := [(0, .ref a0), (1, .int x1)]) (st' := [.ref a0, .ref a0]) (by decide +kernel) rfl rfl ?_
      obtain ⟨v8, ev8, h⟩ := Ok.bind h
      refine BW.get (by decide +kernel : decode tX9_snow.2.1 30 = .ok (.getfield 39, 3)) ciX9 (k := 10) (by decide) lkF_X9_39 (toI_V ev8) ?_
      refine BW.run [.iconst 1, .iadd] (pc' := 35) (lv' := [(0, .ref a0), (1, .int x1)]) (st' := [.int (v8 + (1 : Int32)), .ref a0]) (by decide +kernel) rfl rfl ?_
      obtain ⟨s9, es9, h⟩ := Ok.bind h
      refine BW.put (by decide +kernel : decode tX9_snow.2.1 35 = .ok (.putfield 39, 3)) ciX9 (k := 10) (by decide) lkF_X9_39 rfl rfl rfl es9 ?_
      refine BW.run [.aload_n 0] (pc' := 39) (lv' := [(0, .ref a0), (1, .int x1)]) (st' := [.ref a0]) (by decide +kernel) rfl rfl ?_
      obtain ⟨v10, ev10, h⟩ := Ok.bind h
      refine BW.get (by decide +kernel : decode tX9_snow.2.1 39 = .ok (.getfield 39, 3)) ciX9 (k := 10) (by decide) lkF_X9_39 (toI_V ev10) ?_
      exact BW.iret (by decide +kernel : decode tX9_snow.2.1 42 = .ok (.ireturn, 1)) rfl (Nat.zero_le _) (Nat.zero_le _) (hQ _ _ (Ok.some h))
    · have h := (Ok.ite h).2 hc
      refine BW.run [.iconst (-1)] (pc' := 17) (lv' := [(0, .ref a0), (1, .int x1)]) (st' := [.int (-1 : Int32)]) (by decide +kernel) rfl rfl ?_
      exact BW.iret (by decide +kernel : decode tX9_snow.2.1 17 = .ok (.ireturn, 1)) rfl (Nat.zero_le _) (Nat.zero_le _) (hQ _ _ (Ok.some h))
theorem oX9_snow {n : Nat} {P : Int32 × Sg → Prop} {s0 : Sg} {a0 : Nat} {x1 : Int32} (h : Ok (mX9_snow n s0 a0 x1) P) : ∃ n0, s0.2.1 a0 = some (9, n0) := by
  unfold mX9_snow at h
  exact Ok.isO h
theorem DX9_snow {G : Cx} {n : Nat} {P : Int32 × Sg → Prop} {s0 : Sg} {a0 : Nat} {x1 : Int32} (h : Ok (mX9_snow n s0 a0 x1) P) : BM G tX9_snow 1 20 0 0 [.ref a0, .int x1] s0 (fun v s => ∃ r, v = some (.int r) ∧ P (r, s)) := by
  refine BM.of (by decide +kernel) (Nat.le_of_ble_eq_true rfl) ?_
  exact bX9_snow (E := (({ frames := 1, cells := 0, slots := 0, locals := 20 }), Aof s0, 0, 0, (fun v s => ∃ r, v = some (.int r) ∧ P (r, s)))) ⟨Nat.le_refl _, Nat.le_refl _⟩ (fun r s hp => ⟨r, rfl, hp⟩) h
def mX9_span (n : Nat) (s0 : Sg) (a0 : Nat) (x1 : Int32) : Option (Int32 × Sg) :=
  (isO 9 s0 a0).bind fun _ =>
  (mX9_canBe n s0 a0 x1).bind fun (v2, s1) =>
  if v2 = 0 then (
    some ((-1 : Int32), s1)
  ) else (
    (toR (gV 9 s1 a0 11)).bind fun b4 =>
    (mX4_wholeSpan n s1 b4).bind fun (v6, s5) =>
    some (v6, s5)
  )
theorem bX9_span {G : Cx} {E : Ev} {n : Nat} (hRm : 6 ≤ E.1.frames ∧ 133 ≤ E.1.locals) {P : Int32 × Sg → Prop} (hQ : ∀ r s, P (r, s) → E.2.2.2.2 (some (.int r)) s) {s0 : Sg} {a0 : Nat} {x1 : Int32} (h : Ok (mX9_span n s0 a0 x1) P) : BW G tX9_span E 0 0 0 [(0, .ref a0), (1, .int x1)] [] s0 := by
  unfold mX9_span at h
  obtain ⟨_, _, h⟩ := Ok.bind h
  refine BW.run [.aload_n 0, .iload_n 1] (pc' := 2) (lv' := [(0, .ref a0), (1, .int x1)]) (st' := [.int x1, .ref a0]) (by decide +kernel) rfl rfl ?_
  refine BW.callV (As := [.int x1]) (st := []) (by decide +kernel : decode tX9_span.2.1 2 = .ok (.invokevirtual 223, 3)) (DX9_canBe (Ok.bindK h)) mfX9_canBe lkM_X9_223 imX9_canBe selX9_canBe ciX9 (oX9_canBe (Ok.bindK h)).choose_spec rfl rfl (Nat.le_of_ble_eq_true rfl) ⟨Nat.le_trans (by decide) hRm.1, Nat.le_trans (by decide) hRm.2⟩ ⟨Nat.zero_le _, Nat.zero_le _⟩ ?_
  rintro _ s1 ⟨v2, rfl, h⟩
  show BW G tX9_span E 0 0 5 [(0, .ref a0), (1, .int x1)] [.int v2] s1
  refine BW.if_eq 18 (by decide +kernel : decode tX9_span.2.1 5 = .ok (.ifCond .eq 13, 3)) (by decide) (fun hc => ?_) (fun hc => ?_)
  · have h := (Ok.ite h).1 hc
    refine BW.run [.iconst (-1)] (pc' := 19) (lv' := [(0, .ref a0), (1, .int x1)]) (st' := [.int (-1 : Int32)]) (by decide +kernel) rfl rfl ?_
    exact BW.iret (by decide +kernel : decode tX9_span.2.1 19 = .ok (.ireturn, 1)) rfl (Nat.zero_le _) (Nat.zero_le _) (hQ _ _ (Ok.some h))
  · have h := (Ok.ite h).2 hc
    refine BW.run [.aload_n 0] (pc' := 9) (lv' := [(0, .ref a0), (1, .int x1)]) (st' := [.ref a0]) (by decide +kernel) rfl rfl ?_
    obtain ⟨b4, eb4, h⟩ := Ok.bind h
    refine BW.get (by decide +kernel : decode tX9_span.2.1 9 = .ok (.getfield 45, 3)) ciX9 (k := 11) (by decide) lkF_X9_45 (toR_V eb4) ?_
    refine BW.callV (As := []) (st := []) (by decide +kernel : decode tX9_span.2.1 12 = .ok (.invokevirtual 256, 3)) (DX4_wholeSpan (Ok.bindK h)) mfX4_wholeSpan lkM_X9_256 imX4_wholeSpan selX4_wholeSpan ciX4 (oX4_wholeSpan (Ok.bindK h)).choose_spec rfl rfl (Nat.le_of_ble_eq_true rfl) ⟨Nat.le_trans (by decide) hRm.1, Nat.le_trans (by decide) hRm.2⟩ ⟨Nat.zero_le _, Nat.zero_le _⟩ ?_
    rintro _ s5 ⟨v6, rfl, h⟩
    show BW G tX9_span E 0 0 15 [(0, .ref a0), (1, .int x1)] [.int v6] s5
    refine BW.goto 19 (by decide +kernel : decode tX9_span.2.1 15 = .ok (.goto 4, 3)) (by decide) ?_
    exact BW.iret (by decide +kernel : decode tX9_span.2.1 19 = .ok (.ireturn, 1)) rfl (Nat.zero_le _) (Nat.zero_le _) (hQ _ _ (Ok.some h))
theorem oX9_span {n : Nat} {P : Int32 × Sg → Prop} {s0 : Sg} {a0 : Nat} {x1 : Int32} (h : Ok (mX9_span n s0 a0 x1) P) : ∃ n0, s0.2.1 a0 = some (9, n0) := by
  unfold mX9_span at h
  exact Ok.isO h
theorem DX9_span {G : Cx} {n : Nat} {P : Int32 × Sg → Prop} {s0 : Sg} {a0 : Nat} {x1 : Int32} (h : Ok (mX9_span n s0 a0 x1) P) : BM G tX9_span 6 133 0 0 [.ref a0, .int x1] s0 (fun v s => ∃ r, v = some (.int r) ∧ P (r, s)) := by
  refine BM.of (by decide +kernel) (Nat.le_of_ble_eq_true rfl) ?_
  exact bX9_span (E := (({ frames := 6, cells := 0, slots := 0, locals := 133 }), Aof s0, 0, 0, (fun v s => ∃ r, v = some (.int r) ∧ P (r, s)))) ⟨Nat.le_refl _, Nat.le_refl _⟩ (fun r s hp => ⟨r, rfl, hp⟩) h
def mX9_start (n : Nat) (s0 : Sg) (a0 : Nat) (x1 : Int32) (x2 : Int32) : Option (Int32 × Sg) :=
  (isO 9 s0 a0).bind fun _ =>
  (mX9_walkOf n s0 a0 x1).bind fun q3 => match q3 with
  | (none, s1) => (
    some ((0 : Int32), s1)
  )
  | (some b2, s1) => (
    if x2 < 0 then (
      some ((0 : Int32), s1)
    ) else (
      (toI (gV 9 s1 a0 2)).bind fun v4 =>
      if x2 ≤ v4 then (
        (pV 8 s1 b2 8 (.int x2)).bind fun s5 =>
        some ((1 : Int32), s5)
      ) else (
        some ((0 : Int32), s1)
      )
    )
  )
theorem bX9_start {G : Cx} {E : Ev} {n : Nat} (hRm : 1 ≤ E.1.frames ∧ 21 ≤ E.1.locals) {P : Int32 × Sg → Prop} (hQ : ∀ r s, P (r, s) → E.2.2.2.2 (some (.int r)) s) {s0 : Sg} {a0 : Nat} {x1 : Int32} {x2 : Int32} (h : Ok (mX9_start n s0 a0 x1 x2) P) : BW G tX9_start E 0 0 0 [(0, .ref a0), (1, .int x1), (2, .int x2)] [] s0 := by
  unfold mX9_start at h
  obtain ⟨_, _, h⟩ := Ok.bind h
  refine BW.run [.aload_n 0, .iload_n 1] (pc' := 2) (lv' := [(0, .ref a0), (1, .int x1), (2, .int x2)]) (st' := [.int x1, .ref a0]) (by decide +kernel) rfl rfl ?_
  refine BW.callV (As := [.int x1]) (st := []) (by decide +kernel : decode tX9_start.2.1 2 = .ok (.invokevirtual 143, 3)) (DX9_walkOf (Ok.bindK h)) mfX9_walkOf lkM_X9_143 imX9_walkOf selX9_walkOf ciX9 (oX9_walkOf (Ok.bindK h)).choose_spec rfl rfl (Nat.le_of_ble_eq_true rfl) ⟨Nat.le_trans (by decide) hRm.1, Nat.le_trans (by decide) hRm.2⟩ ⟨Nat.zero_le _, Nat.zero_le _⟩ ?_
  rintro _ s1 ⟨_ | b2, rfl, h⟩
  · show BW G tX9_start E 0 0 5 [(0, .ref a0), (1, .int x1), (2, .int x2)] (.null :: []) s1
    refine BW.run [.astore_n 3, .aload_n 3] (pc' := 7) (lv' := [(0, .ref a0), (1, .int x1), (2, .int x2), (3, .null)]) (st' := [.null]) (by decide +kernel) rfl rfl ?_
    refine BW.ifnullN 22 (by decide +kernel : decode tX9_start.2.1 7 = .ok (.ifnull 15, 3)) (by decide) ?_
    refine BW.run [.iconst 0] (pc' := 23) (lv' := [(0, .ref a0), (1, .int x1), (2, .int x2), (3, .null)]) (st' := [.int (0 : Int32)]) (by decide +kernel) rfl rfl ?_
    exact BW.zret (by decide +kernel : decode tX9_start.2.1 23 = .ok (.ireturn, 1)) rfl (Or.inl rfl) (Nat.zero_le _) (Nat.zero_le _) (hQ _ _ (Ok.some h))
  · show BW G tX9_start E 0 0 5 [(0, .ref a0), (1, .int x1), (2, .int x2)] (.ref b2 :: []) s1
    refine BW.run [.astore_n 3, .aload_n 3] (pc' := 7) (lv' := [(0, .ref a0), (1, .int x1), (2, .int x2), (3, .ref b2)]) (st' := [.ref b2]) (by decide +kernel) rfl rfl ?_
    refine BW.ifnull (by decide +kernel : decode tX9_start.2.1 7 = .ok (.ifnull 15, 3)) ?_
    refine BW.run [.iload_n 2] (pc' := 11) (lv' := [(0, .ref a0), (1, .int x1), (2, .int x2), (3, .ref b2)]) (st' := [.int x2]) (by decide +kernel) rfl rfl ?_
    refine BW.if_lt 22 (by decide +kernel : decode tX9_start.2.1 11 = .ok (.ifCond .lt 11, 3)) (by decide) (fun hc => ?_) (fun hc => ?_)
    · have h := (Ok.ite h).1 hc
      refine BW.run [.iconst 0] (pc' := 23) (lv' := [(0, .ref a0), (1, .int x1), (2, .int x2), (3, .ref b2)]) (st' := [.int (0 : Int32)]) (by decide +kernel) rfl rfl ?_
      exact BW.zret (by decide +kernel : decode tX9_start.2.1 23 = .ok (.ireturn, 1)) rfl (Or.inl rfl) (Nat.zero_le _) (Nat.zero_le _) (hQ _ _ (Ok.some h))
    · have h := (Ok.ite h).2 hc
      refine BW.run [.iload_n 2, .aload_n 0] (pc' := 16) (lv' := [(0, .ref a0), (1, .int x1), (2, .int x2), (3, .ref b2)]) (st' := [.ref a0, .int x2]) (by decide +kernel) rfl rfl ?_
      obtain ⟨v4, ev4, h⟩ := Ok.bind h
      refine BW.get (by decide +kernel : decode tX9_start.2.1 16 = .ok (.getfield 98, 3)) ciX9 (k := 2) (by decide) lkF_X9_98 (toI_V ev4) ?_
      refine BW.icmp_le 24 (by decide +kernel : decode tX9_start.2.1 19 = .ok (.if_icmp .le 5, 3)) (by decide) (fun hc => ?_) (fun hc => ?_)
      · have h := (Ok.ite h).1 hc
        refine BW.run [.aload_n 3, .iload_n 2] (pc' := 26) (lv' := [(0, .ref a0), (1, .int x1), (2, .int x2), (3, .ref b2)]) (st' := [.int x2, .ref b2]) (by decide +kernel) rfl rfl ?_
        obtain ⟨s5, es5, h⟩ := Ok.bind h
        refine BW.putN (by decide +kernel : decode tX9_start.2.1 26 = .ok (.putfield 162, 3)) ciX8 (k := 8) (by decide) lkF_X9_162 rfl rfl rfl es5 ?_
        refine BW.run [.iconst 1] (pc' := 30) (lv' := [(0, .ref a0), (1, .int x1), (2, .int x2), (3, .ref b2)]) (st' := [.int (1 : Int32)]) (by decide +kernel) rfl rfl ?_
        exact BW.zret (by decide +kernel : decode tX9_start.2.1 30 = .ok (.ireturn, 1)) rfl (Or.inr rfl) (Nat.zero_le _) (Nat.zero_le _) (hQ _ _ (Ok.some h))
      · have h := (Ok.ite h).2 hc
        refine BW.run [.iconst 0] (pc' := 23) (lv' := [(0, .ref a0), (1, .int x1), (2, .int x2), (3, .ref b2)]) (st' := [.int (0 : Int32)]) (by decide +kernel) rfl rfl ?_
        exact BW.zret (by decide +kernel : decode tX9_start.2.1 23 = .ok (.ireturn, 1)) rfl (Or.inl rfl) (Nat.zero_le _) (Nat.zero_le _) (hQ _ _ (Ok.some h))
theorem oX9_start {n : Nat} {P : Int32 × Sg → Prop} {s0 : Sg} {a0 : Nat} {x1 : Int32} {x2 : Int32} (h : Ok (mX9_start n s0 a0 x1 x2) P) : ∃ n0, s0.2.1 a0 = some (9, n0) := by
  unfold mX9_start at h
  exact Ok.isO h
theorem DX9_start {G : Cx} {n : Nat} {P : Int32 × Sg → Prop} {s0 : Sg} {a0 : Nat} {x1 : Int32} {x2 : Int32} (h : Ok (mX9_start n s0 a0 x1 x2) P) : BM G tX9_start 1 21 0 0 [.ref a0, .int x1, .int x2] s0 (fun v s => ∃ r, v = some (.int r) ∧ P (r, s)) := by
  refine BM.of (by decide +kernel) (Nat.le_of_ble_eq_true rfl) ?_
  exact bX9_start (E := (({ frames := 1, cells := 0, slots := 0, locals := 21 }), Aof s0, 0, 0, (fun v s => ∃ r, v = some (.int r) ∧ P (r, s)))) ⟨Nat.le_refl _, Nat.le_refl _⟩ (fun r s hp => ⟨r, rfl, hp⟩) h
def mX9_sure (n : Nat) (s0 : Sg) (a0 : Nat) (x1 : Int32) (x2 : Int32) (x3 : Int32) (x4 : Int32) (x5 : Int32) : Option (Int32 × Sg) :=
  (isO 9 s0 a0).bind fun _ =>
  (mX9_cellAt n s0 a0 x4 x5).bind fun (v2, s1) =>
  (mX9_isCrossing n s1 a0 x2 x3 v2).bind fun (v5, s4) =>
  if v5 = 0 then (
    some ((-1 : Int32), s4)
  ) else (
    (mX9_canBe n s4 a0 x1).bind fun (v8, s7) =>
    if v8 = 0 then (
      some ((-1 : Int32), s7)
    ) else (
      (mX9_leadToLieAbove n s7 a0 x2 x3 v2).bind fun (v11, s10) =>
      (mX9_verdict n s10 a0 x2 x3 v11).bind fun (v14, s13) =>
      some (v14, s13)
    )
  )
theorem bX9_sure {G : Cx} {E : Ev} {n : Nat} (hRm : 6 ≤ E.1.frames ∧ 133 ≤ E.1.locals) {P : Int32 × Sg → Prop} (hQ : ∀ r s, P (r, s) → E.2.2.2.2 (some (.int r)) s) {s0 : Sg} {a0 : Nat} {x1 : Int32} {x2 : Int32} {x3 : Int32} {x4 : Int32} {x5 : Int32} (h : Ok (mX9_sure n s0 a0 x1 x2 x3 x4 x5) P) : BW G tX9_sure E 0 0 0 [(0, .ref a0), (1, .int x1), (2, .int x2), (3, .int x3), (4, .int x4), (5, .int x5)] [] s0 := by
  unfold mX9_sure at h
  obtain ⟨_, _, h⟩ := Ok.bind h
  refine BW.run [.aload_n 0, .iload 4, .iload 5] (pc' := 5) (lv' := [(0, .ref a0), (1, .int x1), (2, .int x2), (3, .int x3), (4, .int x4), (5, .int x5)]) (st' := [.int x5, .int x4, .ref a0]) (by decide +kernel) rfl rfl ?_
  refine BW.callV (As := [.int x4, .int x5]) (st := []) (by decide +kernel : decode tX9_sure.2.1 5 = .ok (.invokevirtual 130, 3)) (DX9_cellAt (Ok.bindK h)) mfX9_cellAt lkM_X9_130 imX9_cellAt selX9_cellAt ciX9 (oX9_cellAt (Ok.bindK h)).choose_spec rfl rfl (Nat.le_of_ble_eq_true rfl) ⟨Nat.le_trans (by decide) hRm.1, Nat.le_trans (by decide) hRm.2⟩ ⟨Nat.zero_le _, Nat.zero_le _⟩ ?_
  rintro _ s1 ⟨v2, rfl, h⟩
  show BW G tX9_sure E 0 0 8 [(0, .ref a0), (1, .int x1), (2, .int x2), (3, .int x3), (4, .int x4), (5, .int x5)] [.int v2] s1
  refine BW.run [.istore 6, .aload_n 0, .iload_n 2, .iload_n 3, .iload 6] (pc' := 15) (lv' := [(0, .ref a0), (1, .int x1), (2, .int x2), (3, .int x3), (4, .int x4), (5, .int x5), (6, .int v2)]) (st' := [.int v2, .int x3, .int x2, .ref a0]) (by decide +kernel) rfl rfl ?_
  refine BW.callV (As := [.int x2, .int x3, .int v2]) (st := []) (by decide +kernel : decode tX9_sure.2.1 15 = .ok (.invokevirtual 245, 3)) (DX9_isCrossing (Ok.bindK h)) mfX9_isCrossing lkM_X9_245 imX9_isCrossing selX9_isCrossing ciX9 (oX9_isCrossing (Ok.bindK h)).choose_spec rfl rfl (Nat.le_of_ble_eq_true rfl) ⟨Nat.le_trans (by decide) hRm.1, Nat.le_trans (by decide) hRm.2⟩ ⟨Nat.zero_le _, Nat.zero_le _⟩ ?_
  rintro _ s4 ⟨v5, rfl, h⟩
  show BW G tX9_sure E 0 0 18 [(0, .ref a0), (1, .int x1), (2, .int x2), (3, .int x3), (4, .int x4), (5, .int x5), (6, .int v2)] [.int v5] s4
  refine BW.if_eq 29 (by decide +kernel : decode tX9_sure.2.1 18 = .ok (.ifCond .eq 11, 3)) (by decide) (fun hc => ?_) (fun hc => ?_)
  · have h := (Ok.ite h).1 hc
    refine BW.run [.iconst (-1)] (pc' := 30) (lv' := [(0, .ref a0), (1, .int x1), (2, .int x2), (3, .int x3), (4, .int x4), (5, .int x5), (6, .int v2)]) (st' := [.int (-1 : Int32)]) (by decide +kernel) rfl rfl ?_
    exact BW.iret (by decide +kernel : decode tX9_sure.2.1 30 = .ok (.ireturn, 1)) rfl (Nat.zero_le _) (Nat.zero_le _) (hQ _ _ (Ok.some h))
  · have h := (Ok.ite h).2 hc
    refine BW.run [.aload_n 0, .iload_n 1] (pc' := 23) (lv' := [(0, .ref a0), (1, .int x1), (2, .int x2), (3, .int x3), (4, .int x4), (5, .int x5), (6, .int v2)]) (st' := [.int x1, .ref a0]) (by decide +kernel) rfl rfl ?_
    refine BW.callV (As := [.int x1]) (st := []) (by decide +kernel : decode tX9_sure.2.1 23 = .ok (.invokevirtual 223, 3)) (DX9_canBe (Ok.bindK h)) mfX9_canBe lkM_X9_223 imX9_canBe selX9_canBe ciX9 (oX9_canBe (Ok.bindK h)).choose_spec rfl rfl (Nat.le_of_ble_eq_true rfl) ⟨Nat.le_trans (by decide) hRm.1, Nat.le_trans (by decide) hRm.2⟩ ⟨Nat.zero_le _, Nat.zero_le _⟩ ?_
    rintro _ s7 ⟨v8, rfl, h⟩
    show BW G tX9_sure E 0 0 26 [(0, .ref a0), (1, .int x1), (2, .int x2), (3, .int x3), (4, .int x4), (5, .int x5), (6, .int v2)] [.int v8] s7
    refine BW.if_ne 31 (by decide +kernel : decode tX9_sure.2.1 26 = .ok (.ifCond .ne 5, 3)) (by decide) (fun hc => ?_) (fun hc => ?_)
    · have h := (Ok.ite h).2 hc
      refine BW.run [.aload_n 0, .iload_n 2, .iload_n 3, .aload_n 0, .iload_n 2, .iload_n 3, .iload 6] (pc' := 39) (lv' := [(0, .ref a0), (1, .int x1), (2, .int x2), (3, .int x3), (4, .int x4), (5, .int x5), (6, .int v2)]) (st' := [.int v2, .int x3, .int x2, .ref a0, .int x3, .int x2, .ref a0]) (by decide +kernel) rfl rfl ?_
      refine BW.callV (As := [.int x2, .int x3, .int v2]) (st := [.int x3, .int x2, .ref a0]) (by decide +kernel : decode tX9_sure.2.1 39 = .ok (.invokevirtual 249, 3)) (DX9_leadToLieAbove (Ok.bindK h)) mfX9_leadToLieAbove lkM_X9_249 imX9_leadToLieAbove selX9_leadToLieAbove ciX9 (oX9_leadToLieAbove (Ok.bindK h)).choose_spec rfl rfl (Nat.le_of_ble_eq_true rfl) ⟨Nat.le_trans (by decide) hRm.1, Nat.le_trans (by decide) hRm.2⟩ ⟨Nat.zero_le _, Nat.zero_le _⟩ ?_
      rintro _ s10 ⟨v11, rfl, h⟩
      show BW G tX9_sure E 0 0 42 [(0, .ref a0), (1, .int x1), (2, .int x2), (3, .int x3), (4, .int x4), (5, .int x5), (6, .int v2)] [.int v11, .int x3, .int x2, .ref a0] s10
      refine BW.callV (As := [.int x2, .int x3, .int v11]) (st := []) (by decide +kernel : decode tX9_sure.2.1 42 = .ok (.invokevirtual 253, 3)) (DX9_verdict (Ok.bindK h)) mfX9_verdict lkM_X9_253 imX9_verdict selX9_verdict ciX9 (oX9_verdict (Ok.bindK h)).choose_spec rfl rfl (Nat.le_of_ble_eq_true rfl) ⟨Nat.le_trans (by decide) hRm.1, Nat.le_trans (by decide) hRm.2⟩ ⟨Nat.zero_le _, Nat.zero_le _⟩ ?_
      rintro _ s13 ⟨v14, rfl, h⟩
      show BW G tX9_sure E 0 0 45 [(0, .ref a0), (1, .int x1), (2, .int x2), (3, .int x3), (4, .int x4), (5, .int x5), (6, .int v2)] [.int v14] s13
      exact BW.iret (by decide +kernel : decode tX9_sure.2.1 45 = .ok (.ireturn, 1)) rfl (Nat.zero_le _) (Nat.zero_le _) (hQ _ _ (Ok.some h))
    · have h := (Ok.ite h).1 hc
      refine BW.run [.iconst (-1)] (pc' := 30) (lv' := [(0, .ref a0), (1, .int x1), (2, .int x2), (3, .int x3), (4, .int x4), (5, .int x5), (6, .int v2)]) (st' := [.int (-1 : Int32)]) (by decide +kernel) rfl rfl ?_
      exact BW.iret (by decide +kernel : decode tX9_sure.2.1 30 = .ok (.ireturn, 1)) rfl (Nat.zero_le _) (Nat.zero_le _) (hQ _ _ (Ok.some h))
theorem oX9_sure {n : Nat} {P : Int32 × Sg → Prop} {s0 : Sg} {a0 : Nat} {x1 : Int32} {x2 : Int32} {x3 : Int32} {x4 : Int32} {x5 : Int32} (h : Ok (mX9_sure n s0 a0 x1 x2 x3 x4 x5) P) : ∃ n0, s0.2.1 a0 = some (9, n0) := by
  unfold mX9_sure at h
  exact Ok.isO h
theorem DX9_sure {G : Cx} {n : Nat} {P : Int32 × Sg → Prop} {s0 : Sg} {a0 : Nat} {x1 : Int32} {x2 : Int32} {x3 : Int32} {x4 : Int32} {x5 : Int32} (h : Ok (mX9_sure n s0 a0 x1 x2 x3 x4 x5) P) : BM G tX9_sure 6 133 0 0 [.ref a0, .int x1, .int x2, .int x3, .int x4, .int x5] s0 (fun v s => ∃ r, v = some (.int r) ∧ P (r, s)) := by
  refine BM.of (by decide +kernel) (Nat.le_of_ble_eq_true rfl) ?_
  exact bX9_sure (E := (({ frames := 6, cells := 0, slots := 0, locals := 133 }), Aof s0, 0, 0, (fun v s => ∃ r, v = some (.int r) ∧ P (r, s)))) ⟨Nat.le_refl _, Nat.le_refl _⟩ (fun r s hp => ⟨r, rfl, hp⟩) h
def mX9_top_82 (n : Nat) (s0 : Sg) (a0 : Nat) (x3 : Int32) (x4 : Int32) (x5 : Int32) (x6 : Int32) : Option ((Sg × Int32 × Int32 × Int32) ⊕ (Sg × Int32)) :=
  some (.inl (s0, x4, x5, (x6 + (1 : Int32))))
theorem bX9_top_82 {G : Cx} {E : Ev} {n : Nat} (hRm : 1 ≤ E.1.frames ∧ 23 ≤ E.1.locals) {s0 : Sg} {a0 : Nat} {x3 : Int32} {x4 : Int32} {x5 : Int32} {x6 : Int32} {P : (Sg × Int32 × Int32 × Int32) ⊕ (Sg × Int32) → Prop} (hC : ∀ (s : Sg) (c4 : Int32) (c5 : Int32) (c6 : Int32), P (.inl (s, c4, c5, c6)) → BW G tX9_top E 0 0 16 [(0, .ref a0), (3, .int x3), (4, .int c4), (5, .int c5), (6, .int c6)] [] s) (hE : ∀ (s : Sg) (c4 : Int32), P (.inr (s, c4)) → BW G tX9_top E 0 0 88 [(4, .int c4)] [] s)  (h : Ok (mX9_top_82 n s0 a0 x3 x4 x5 x6) P) : BW G tX9_top E 0 0 82 [(0, .ref a0), (3, .int x3), (4, .int x4), (5, .int x5), (6, .int x6)] [] s0 := by
  unfold mX9_top_82 at h
  refine BW.run [.iinc 6 1] (pc' := 85) (lv' := [(0, .ref a0), (3, .int x3), (4, .int x4), (5, .int x5), (6, .int (x6 + (1 : Int32)))]) (st' := []) (by decide +kernel) rfl rfl ?_
  refine BW.goto 16 (by decide +kernel : decode tX9_top.2.1 85 = .ok (.goto (-69), 3)) (by decide) ?_
  exact hC _ _ _ _ (Ok.some h)
def mX9_top_L16 (n : Nat) (a0 : Nat) (x3 : Int32) : (Sg × Int32 × Int32 × Int32) → Option ((Sg × Int32 × Int32 × Int32) ⊕ (Sg × Int32))
  | (s0, x4, x5, x6) =>
    (toI (gV 9 s0 a0 6)).bind fun v4 =>
    if v4 ≤ x6 then (
      some (.inr (s0, x4))
    ) else (
      (toR (gV 9 s0 a0 5)).bind fun b5 =>
      (toQ (aV 13 s0 b5 x6)).bind fun q6 => match q6 with
      | none => (
        mX9_top_82 n s0 a0 x3 x4 x5 x6
      )
      | some b7 => (
        (mX8_latestIn n s0 b7 x3).bind fun (v9, s8) =>
        if v9 = (-1 : Int32) then (
          mX9_top_82 n s8 a0 x3 x4 x5 x6
        ) else (
          (mX8_latestIn n s8 b7 x3).bind fun (v12, s11) =>
          (mX8_tickOf n s11 b7 v12).bind fun (v15, s14) =>
          if v15 ≤ x5 then (
            mX9_top_82 n s14 a0 x3 x4 x5 x6
          ) else (
            (mX8_latestIn n s14 b7 x3).bind fun (v18, s17) =>
            (mX8_tickOf n s17 b7 v18).bind fun (v21, s20) =>
            mX9_top_82 n s20 a0 x3 x6 v21 x6
          )
        )
      )
    )
theorem bX9_top_L16 {G : Cx} {E : Ev} {n : Nat} (hRm : 1 ≤ E.1.frames ∧ 23 ≤ E.1.locals) {a0 : Nat} {x3 : Int32} {P : (Sg × Int32 × Int32 × Int32) ⊕ (Sg × Int32) → Prop} (hC : ∀ (s : Sg) (c4 : Int32) (c5 : Int32) (c6 : Int32), P (.inl (s, c4, c5, c6)) → BW G tX9_top E 0 0 16 [(0, .ref a0), (3, .int x3), (4, .int c4), (5, .int c5), (6, .int c6)] [] s) (hE : ∀ (s : Sg) (c4 : Int32), P (.inr (s, c4)) → BW G tX9_top E 0 0 88 [(4, .int c4)] [] s) {s0 : Sg} {x4 : Int32} {x5 : Int32} {x6 : Int32} (h : Ok (mX9_top_L16 n a0 x3 (s0, x4, x5, x6)) P) : BW G tX9_top E 0 0 16 [(0, .ref a0), (3, .int x3), (4, .int x4), (5, .int x5), (6, .int x6)] [] s0 := by
  unfold mX9_top_L16 at h
  refine BW.run [.iload 6, .aload_n 0] (pc' := 19) (lv' := [(0, .ref a0), (3, .int x3), (4, .int x4), (5, .int x5), (6, .int x6)]) (st' := [.ref a0, .int x6]) (by decide +kernel) rfl rfl ?_
  obtain ⟨v4, ev4, h⟩ := Ok.bind h
  refine BW.get (by decide +kernel : decode tX9_top.2.1 19 = .ok (.getfield 22, 3)) ciX9 (k := 6) (by decide) lkF_X9_22 (toI_V ev4) ?_
  refine BW.icmp_ge 88 (by decide +kernel : decode tX9_top.2.1 22 = .ok (.if_icmp .ge 66, 3)) (by decide) (fun hc => ?_) (fun hc => ?_)
  · have h := (Ok.ite h).1 hc
    refine BW.sub [2] rfl ?_
    exact hE _ _ (Ok.some h)
  · have h := (Ok.ite h).2 hc
    refine BW.run [.aload_n 0] (pc' := 26) (lv' := [(0, .ref a0), (3, .int x3), (4, .int x4), (5, .int x5), (6, .int x6)]) (st' := [.ref a0]) (by decide +kernel) rfl rfl ?_
    obtain ⟨b5, eb5, h⟩ := Ok.bind h
    refine BW.get (by decide +kernel : decode tX9_top.2.1 26 = .ok (.getfield 18, 3)) ciX9 (k := 5) (by decide) lkF_X9_18 (toR_V eb5) ?_
    refine BW.run [.iload 6] (pc' := 31) (lv' := [(0, .ref a0), (3, .int x3), (4, .int x4), (5, .int x5), (6, .int x6)]) (st' := [.int x6, .ref b5]) (by decide +kernel) rfl rfl ?_
    obtain ⟨q6, eq6, h⟩ := Ok.bind h
    refine BW.aald (by decide +kernel : decode tX9_top.2.1 31 = .ok (.aaload, 1)) (by decide) (toQ_V eq6) ?_
    cases q6 with
    | none =>
      show BW G tX9_top E 0 0 32 [(0, .ref a0), (3, .int x3), (4, .int x4), (5, .int x5), (6, .int x6)] (.null :: []) s0
      refine BW.run [.astore 7, .aload 7] (pc' := 36) (lv' := [(0, .ref a0), (3, .int x3), (4, .int x4), (5, .int x5), (6, .int x6), (7, .null)]) (st' := [.null]) (by decide +kernel) rfl rfl ?_
      refine BW.ifnullN 82 (by decide +kernel : decode tX9_top.2.1 36 = .ok (.ifnull 46, 3)) (by decide) ?_
      refine BW.sub [0, 1, 2, 3, 4] rfl ?_
      exact bX9_top_82 hRm hC hE h
    | some b7 =>
      show BW G tX9_top E 0 0 32 [(0, .ref a0), (3, .int x3), (4, .int x4), (5, .int x5), (6, .int x6)] (.ref b7 :: []) s0
      refine BW.run [.astore 7, .aload 7] (pc' := 36) (lv' := [(0, .ref a0), (3, .int x3), (4, .int x4), (5, .int x5), (6, .int x6), (7, .ref b7)]) (st' := [.ref b7]) (by decide +kernel) rfl rfl ?_
      refine BW.ifnull (by decide +kernel : decode tX9_top.2.1 36 = .ok (.ifnull 46, 3)) ?_
      refine BW.run [.aload 7, .iload_n 3] (pc' := 42) (lv' := [(0, .ref a0), (3, .int x3), (4, .int x4), (5, .int x5), (6, .int x6), (7, .ref b7)]) (st' := [.int x3, .ref b7]) (by decide +kernel) rfl rfl ?_
      refine BW.callV (As := [.int x3]) (st := []) (by decide +kernel : decode tX9_top.2.1 42 = .ok (.invokevirtual 169, 3)) (DX8_latestIn (Ok.bindK h)) mfX8_latestIn lkM_X9_169 imX8_latestIn selX8_latestIn ciX8 (oX8_latestIn (Ok.bindK h)).choose_spec rfl rfl (Nat.le_of_ble_eq_true rfl) ⟨Nat.le_trans (by decide) hRm.1, Nat.le_trans (by decide) hRm.2⟩ ⟨Nat.zero_le _, Nat.zero_le _⟩ ?_
      rintro _ s8 ⟨v9, rfl, h⟩
      show BW G tX9_top E 0 0 45 [(0, .ref a0), (3, .int x3), (4, .int x4), (5, .int x5), (6, .int x6), (7, .ref b7)] [.int v9] s8
      refine BW.run [.iconst (-1)] (pc' := 46) (lv' := [(0, .ref a0), (3, .int x3), (4, .int x4), (5, .int x5), (6, .int x6), (7, .ref b7)]) (st' := [.int (-1 : Int32), .int v9]) (by decide +kernel) rfl rfl ?_
      refine BW.icmp_eq 82 (by decide +kernel : decode tX9_top.2.1 46 = .ok (.if_icmp .eq 36, 3)) (by decide) (fun hc => ?_) (fun hc => ?_)
      · have h := (Ok.ite h).1 hc
        refine BW.sub [0, 1, 2, 3, 4] rfl ?_
        exact bX9_top_82 hRm hC hE h
      · have h := (Ok.ite h).2 hc
        refine BW.run [.aload 7, .aload 7, .iload_n 3] (pc' := 54) (lv' := [(0, .ref a0), (3, .int x3), (4, .int x4), (5, .int x5), (6, .int x6), (7, .ref b7)]) (st' := [.int x3, .ref b7, .ref b7]) (by decide +kernel) rfl rfl ?_
        refine BW.callV (As := [.int x3]) (st := [.ref b7]) (by decide +kernel : decode tX9_top.2.1 54 = .ok (.invokevirtual 169, 3)) (DX8_latestIn (Ok.bindK h)) mfX8_latestIn lkM_X9_169 imX8_latestIn selX8_latestIn ciX8 (oX8_latestIn (Ok.bindK h)).choose_spec rfl rfl (Nat.le_of_ble_eq_true rfl) ⟨Nat.le_trans (by decide) hRm.1, Nat.le_trans (by decide) hRm.2⟩ ⟨Nat.zero_le _, Nat.zero_le _⟩ ?_
        rintro _ s11 ⟨v12, rfl, h⟩
        show BW G tX9_top E 0 0 57 [(0, .ref a0), (3, .int x3), (4, .int x4), (5, .int x5), (6, .int x6), (7, .ref b7)] [.int v12, .ref b7] s11
        refine BW.callV (As := [.int v12]) (st := []) (by decide +kernel : decode tX9_top.2.1 57 = .ok (.invokevirtual 302, 3)) (DX8_tickOf (Ok.bindK h)) mfX8_tickOf lkM_X9_302 imX8_tickOf selX8_tickOf ciX8 (oX8_tickOf (Ok.bindK h)).choose_spec rfl rfl (Nat.le_of_ble_eq_true rfl) ⟨Nat.le_trans (by decide) hRm.1, Nat.le_trans (by decide) hRm.2⟩ ⟨Nat.zero_le _, Nat.zero_le _⟩ ?_
        rintro _ s14 ⟨v15, rfl, h⟩
        show BW G tX9_top E 0 0 60 [(0, .ref a0), (3, .int x3), (4, .int x4), (5, .int x5), (6, .int x6), (7, .ref b7)] [.int v15] s14
        refine BW.run [.iload 5] (pc' := 62) (lv' := [(0, .ref a0), (3, .int x3), (4, .int x4), (5, .int x5), (6, .int x6), (7, .ref b7)]) (st' := [.int x5, .int v15]) (by decide +kernel) rfl rfl ?_
        refine BW.icmp_le 82 (by decide +kernel : decode tX9_top.2.1 62 = .ok (.if_icmp .le 20, 3)) (by decide) (fun hc => ?_) (fun hc => ?_)
        · have h := (Ok.ite h).1 hc
          refine BW.sub [0, 1, 2, 3, 4] rfl ?_
          exact bX9_top_82 hRm hC hE h
        · have h := (Ok.ite h).2 hc
          refine BW.run [.iload 6, .istore 4, .aload 7, .aload 7, .iload_n 3] (pc' := 74) (lv' := [(0, .ref a0), (3, .int x3), (4, .int x6), (5, .int x5), (6, .int x6), (7, .ref b7)]) (st' := [.int x3, .ref b7, .ref b7]) (by decide +kernel) rfl rfl ?_
          refine BW.callV (As := [.int x3]) (st := [.ref b7]) (by decide +kernel : decode tX9_top.2.1 74 = .ok (.invokevirtual 169, 3)) (DX8_latestIn (Ok.bindK h)) mfX8_latestIn lkM_X9_169 imX8_latestIn selX8_latestIn ciX8 (oX8_latestIn (Ok.bindK h)).choose_spec rfl rfl (Nat.le_of_ble_eq_true rfl) ⟨Nat.le_trans (by decide) hRm.1, Nat.le_trans (by decide) hRm.2⟩ ⟨Nat.zero_le _, Nat.zero_le _⟩ ?_
          rintro _ s17 ⟨v18, rfl, h⟩
          show BW G tX9_top E 0 0 77 [(0, .ref a0), (3, .int x3), (4, .int x6), (5, .int x5), (6, .int x6), (7, .ref b7)] [.int v18, .ref b7] s17
          refine BW.callV (As := [.int v18]) (st := []) (by decide +kernel : decode tX9_top.2.1 77 = .ok (.invokevirtual 302, 3)) (DX8_tickOf (Ok.bindK h)) mfX8_tickOf lkM_X9_302 imX8_tickOf selX8_tickOf ciX8 (oX8_tickOf (Ok.bindK h)).choose_spec rfl rfl (Nat.le_of_ble_eq_true rfl) ⟨Nat.le_trans (by decide) hRm.1, Nat.le_trans (by decide) hRm.2⟩ ⟨Nat.zero_le _, Nat.zero_le _⟩ ?_
          rintro _ s20 ⟨v21, rfl, h⟩
          show BW G tX9_top E 0 0 80 [(0, .ref a0), (3, .int x3), (4, .int x6), (5, .int x5), (6, .int x6), (7, .ref b7)] [.int v21] s20
          refine BW.run [.istore 5] (pc' := 82) (lv' := [(0, .ref a0), (3, .int x3), (4, .int x6), (5, .int v21), (6, .int x6), (7, .ref b7)]) (st' := []) (by decide +kernel) rfl rfl ?_
          refine BW.sub [0, 1, 2, 3, 4] rfl ?_
          exact bX9_top_82 hRm hC hE h
theorem bX9_top_W16 {G : Cx} {E : Ev} {n : Nat} (hRm : 1 ≤ E.1.frames ∧ 23 ≤ E.1.locals) {a0 : Nat} {x3 : Int32} {K : (Sg × Int32) → Prop} (hE : ∀ (s : Sg) (c4 : Int32), K (s, c4) → BW G tX9_top E 0 0 88 [(4, .int c4)] [] s) : ∀ (f : Nat) (c : Sg × Int32 × Int32 × Int32), Ok (loopM (mX9_top_L16 n a0 x3) f c) K → match c with | (s0, x4, x5, x6) => BW G tX9_top E 0 0 16 [(0, .ref a0), (3, .int x3), (4, .int x4), (5, .int x5), (6, .int x6)] [] s0 := by
  intro f
  induction f with
  | zero => intro c h; exact (Ok.no h).elim
  | succ f ih =>
    intro c h
    obtain ⟨s0, x4, x5, x6⟩ := c
    exact bX9_top_L16 (P := loopP (mX9_top_L16 n a0 x3) f K) hRm (fun s c4 c5 c6 h => ih (s, c4, c5, c6) h) hE (loopM_ok h)
def mX9_top (n : Nat) (s0 : Sg) (a0 : Nat) (x1 : Int32) (x2 : Int32) : Option (Int32 × Sg) :=
  (isO 9 s0 a0).bind fun _ =>
  (mX9_cellAt n s0 a0 x1 x2).bind fun (v2, s1) =>
  (loopM (mX9_top_L16 n a0 v2) n (s1, (-1 : Int32), (-1 : Int32), (0 : Int32))).bind fun (s23, v24) =>
  some (v24, s23)
theorem bX9_top {G : Cx} {E : Ev} {n : Nat} (hRm : 1 ≤ E.1.frames ∧ 23 ≤ E.1.locals) {P : Int32 × Sg → Prop} (hQ : ∀ r s, P (r, s) → E.2.2.2.2 (some (.int r)) s) {s0 : Sg} {a0 : Nat} {x1 : Int32} {x2 : Int32} (h : Ok (mX9_top n s0 a0 x1 x2) P) : BW G tX9_top E 0 0 0 [(0, .ref a0), (1, .int x1), (2, .int x2)] [] s0 := by
  unfold mX9_top at h
  obtain ⟨_, _, h⟩ := Ok.bind h
  refine BW.run [.aload_n 0, .iload_n 1, .iload_n 2] (pc' := 3) (lv' := [(0, .ref a0), (1, .int x1), (2, .int x2)]) (st' := [.int x2, .int x1, .ref a0]) (by decide +kernel) rfl rfl ?_
  refine BW.callV (As := [.int x1, .int x2]) (st := []) (by decide +kernel : decode tX9_top.2.1 3 = .ok (.invokevirtual 130, 3)) (DX9_cellAt (Ok.bindK h)) mfX9_cellAt lkM_X9_130 imX9_cellAt selX9_cellAt ciX9 (oX9_cellAt (Ok.bindK h)).choose_spec rfl rfl (Nat.le_of_ble_eq_true rfl) ⟨Nat.le_trans (by decide) hRm.1, Nat.le_trans (by decide) hRm.2⟩ ⟨Nat.zero_le _, Nat.zero_le _⟩ ?_
  rintro _ s1 ⟨v2, rfl, h⟩
  show BW G tX9_top E 0 0 6 [(0, .ref a0), (1, .int x1), (2, .int x2)] [.int v2] s1
  refine BW.run [.istore_n 3, .iconst (-1), .istore 4, .iconst (-1), .istore 5, .iconst 0, .istore 6] (pc' := 16) (lv' := [(0, .ref a0), (1, .int x1), (2, .int x2), (3, .int v2), (4, .int (-1 : Int32)), (5, .int (-1 : Int32)), (6, .int (0 : Int32))]) (st' := []) (by decide +kernel) rfl rfl ?_
  refine BW.sub [0, 3, 4, 5, 6] rfl ?_
  refine bX9_top_W16 hRm (a0 := a0) (x3 := v2) (fun s23 v24 h => ?_) n (s1, (-1 : Int32), (-1 : Int32), (0 : Int32)) (Ok.bindK h)
  refine BW.run [.iload 4] (pc' := 90) (lv' := [(4, .int v24)]) (st' := [.int v24]) (by decide +kernel) rfl rfl ?_
  exact BW.iret (by decide +kernel : decode tX9_top.2.1 90 = .ok (.ireturn, 1)) rfl (Nat.zero_le _) (Nat.zero_le _) (hQ _ _ (Ok.some h))
theorem oX9_top {n : Nat} {P : Int32 × Sg → Prop} {s0 : Sg} {a0 : Nat} {x1 : Int32} {x2 : Int32} (h : Ok (mX9_top n s0 a0 x1 x2) P) : ∃ n0, s0.2.1 a0 = some (9, n0) := by
  unfold mX9_top at h
  exact Ok.isO h
theorem DX9_top {G : Cx} {n : Nat} {P : Int32 × Sg → Prop} {s0 : Sg} {a0 : Nat} {x1 : Int32} {x2 : Int32} (h : Ok (mX9_top n s0 a0 x1 x2) P) : BM G tX9_top 1 23 0 0 [.ref a0, .int x1, .int x2] s0 (fun v s => ∃ r, v = some (.int r) ∧ P (r, s)) := by
  refine BM.of (by decide +kernel) (Nat.le_of_ble_eq_true rfl) ?_
  exact bX9_top (E := (({ frames := 1, cells := 0, slots := 0, locals := 23 }), Aof s0, 0, 0, (fun v s => ∃ r, v = some (.int r) ∧ P (r, s)))) ⟨Nat.le_refl _, Nat.le_refl _⟩ (fun r s hp => ⟨r, rfl, hp⟩) h
def mX9_trail_49 (n : Nat) (s0 : Sg) (a0 : Nat) (x1 : Int32) (x3 : Int32) (x4 : Int32) : Option ((Sg × Int32 × Int32) ⊕ (Sg × Int32)) :=
  some (.inl (s0, x3, (x4 + (1 : Int32))))
theorem bX9_trail_49 {G : Cx} {E : Ev} {n : Nat} (hRm : 4 ≤ E.1.frames ∧ 94 ≤ E.1.locals) {s0 : Sg} {a0 : Nat} {x1 : Int32} {x3 : Int32} {x4 : Int32} {P : (Sg × Int32 × Int32) ⊕ (Sg × Int32) → Prop} (hC : ∀ (s : Sg) (c3 : Int32) (c4 : Int32), P (.inl (s, c3, c4)) → BW G tX9_trail E 0 0 27 [(0, .ref a0), (1, .int x1), (3, .int c3), (4, .int c4)] [] s) (hE : ∀ (s : Sg) (c3 : Int32), P (.inr (s, c3)) → BW G tX9_trail E 0 0 55 [(3, .int c3)] [] s)  (h : Ok (mX9_trail_49 n s0 a0 x1 x3 x4) P) : BW G tX9_trail E 0 0 49 [(0, .ref a0), (1, .int x1), (3, .int x3), (4, .int x4)] [] s0 := by
  unfold mX9_trail_49 at h
  refine BW.run [.iinc 4 1] (pc' := 52) (lv' := [(0, .ref a0), (1, .int x1), (3, .int x3), (4, .int (x4 + (1 : Int32)))]) (st' := []) (by decide +kernel) rfl rfl ?_
  refine BW.goto 27 (by decide +kernel : decode tX9_trail.2.1 52 = .ok (.goto (-25), 3)) (by decide) ?_
  exact hC _ _ _ (Ok.some h)
def mX9_trail_L27 (n : Nat) (a0 : Nat) (x1 : Int32) : (Sg × Int32 × Int32) → Option ((Sg × Int32 × Int32) ⊕ (Sg × Int32))
  | (s0, x3, x4) =>
    if (256 : Int32) ≤ x4 then (
      some (.inr (s0, x3))
    ) else (
      (toR (gV 9 s0 a0 17)).bind fun b8 =>
      (toI (aV 11 s0 b8 x4)).bind fun v9 =>
      if v9 = x1 then (
        mX9_trail_49 n s0 a0 x1 (x3 + (1 : Int32)) x4
      ) else (
        mX9_trail_49 n s0 a0 x1 x3 x4
      )
    )
theorem bX9_trail_L27 {G : Cx} {E : Ev} {n : Nat} (hRm : 4 ≤ E.1.frames ∧ 94 ≤ E.1.locals) {a0 : Nat} {x1 : Int32} {P : (Sg × Int32 × Int32) ⊕ (Sg × Int32) → Prop} (hC : ∀ (s : Sg) (c3 : Int32) (c4 : Int32), P (.inl (s, c3, c4)) → BW G tX9_trail E 0 0 27 [(0, .ref a0), (1, .int x1), (3, .int c3), (4, .int c4)] [] s) (hE : ∀ (s : Sg) (c3 : Int32), P (.inr (s, c3)) → BW G tX9_trail E 0 0 55 [(3, .int c3)] [] s) {s0 : Sg} {x3 : Int32} {x4 : Int32} (h : Ok (mX9_trail_L27 n a0 x1 (s0, x3, x4)) P) : BW G tX9_trail E 0 0 27 [(0, .ref a0), (1, .int x1), (3, .int x3), (4, .int x4)] [] s0 := by
  unfold mX9_trail_L27 at h
  refine BW.run [.iload 4, .sipush 256] (pc' := 32) (lv' := [(0, .ref a0), (1, .int x1), (3, .int x3), (4, .int x4)]) (st' := [.int (256 : Int32), .int x4]) (by decide +kernel) rfl rfl ?_
  refine BW.icmp_ge 55 (by decide +kernel : decode tX9_trail.2.1 32 = .ok (.if_icmp .ge 23, 3)) (by decide) (fun hc => ?_) (fun hc => ?_)
  · have h := (Ok.ite h).1 hc
    refine BW.sub [2] rfl ?_
    exact hE _ _ (Ok.some h)
  · have h := (Ok.ite h).2 hc
    refine BW.run [.aload_n 0] (pc' := 36) (lv' := [(0, .ref a0), (1, .int x1), (3, .int x3), (4, .int x4)]) (st' := [.ref a0]) (by decide +kernel) rfl rfl ?_
    obtain ⟨b8, eb8, h⟩ := Ok.bind h
    refine BW.get (by decide +kernel : decode tX9_trail.2.1 36 = .ok (.getfield 80, 3)) ciX9 (k := 17) (by decide) lkF_X9_80 (toR_V eb8) ?_
    refine BW.run [.iload 4] (pc' := 41) (lv' := [(0, .ref a0), (1, .int x1), (3, .int x3), (4, .int x4)]) (st' := [.int x4, .ref b8]) (by decide +kernel) rfl rfl ?_
    obtain ⟨v9, ev9, h⟩ := Ok.bind h
    refine BW.iald (by decide +kernel : decode tX9_trail.2.1 41 = .ok (.iaload, 1)) (toI_V ev9) ?_
    refine BW.run [.iload_n 1] (pc' := 43) (lv' := [(0, .ref a0), (1, .int x1), (3, .int x3), (4, .int x4)]) (st' := [.int x1, .int v9]) (by decide +kernel) rfl rfl ?_
    refine BW.icmp_ne 49 (by decide +kernel : decode tX9_trail.2.1 43 = .ok (.if_icmp .ne 6, 3)) (by decide) (fun hc => ?_) (fun hc => ?_)
    · have h := (Ok.ite h).2 hc
      exact bX9_trail_49 hRm hC hE h
    · have h := (Ok.ite h).1 hc
      refine BW.run [.iinc 3 1] (pc' := 49) (lv' := [(0, .ref a0), (1, .int x1), (3, .int (x3 + (1 : Int32))), (4, .int x4)]) (st' := []) (by decide +kernel) rfl rfl ?_
      exact bX9_trail_49 hRm hC hE h
theorem bX9_trail_W27 {G : Cx} {E : Ev} {n : Nat} (hRm : 4 ≤ E.1.frames ∧ 94 ≤ E.1.locals) {a0 : Nat} {x1 : Int32} {K : (Sg × Int32) → Prop} (hE : ∀ (s : Sg) (c3 : Int32), K (s, c3) → BW G tX9_trail E 0 0 55 [(3, .int c3)] [] s) : ∀ (f : Nat) (c : Sg × Int32 × Int32), Ok (loopM (mX9_trail_L27 n a0 x1) f c) K → match c with | (s0, x3, x4) => BW G tX9_trail E 0 0 27 [(0, .ref a0), (1, .int x1), (3, .int x3), (4, .int x4)] [] s0 := by
  intro f
  induction f with
  | zero => intro c h; exact (Ok.no h).elim
  | succ f ih =>
    intro c h
    obtain ⟨s0, x3, x4⟩ := c
    exact bX9_trail_L27 (P := loopP (mX9_trail_L27 n a0 x1) f K) hRm (fun s c3 c4 h => ih (s, c3, c4) h) hE (loopM_ok h)
def mX9_trail (n : Nat) (s0 : Sg) (a0 : Nat) (x1 : Int32) (x2 : Int32) : Option (Int32 × Sg) :=
  (isO 9 s0 a0).bind fun _ =>
  (mX9_walkOf n s0 a0 x1).bind fun q3 => match q3 with
  | (none, s1) => (
    some ((-1 : Int32), s1)
  )
  | (some b2, s1) => (
    (mX9_isTick n s1 x2).bind fun (v5, s4) =>
    if v5 = 0 then (
      some ((-1 : Int32), s4)
    ) else (
      (mX9_showAll n s4 a0 x2).bind fun s7 =>
      (loopM (mX9_trail_L27 n a0 x1) n (s7, (0 : Int32), (0 : Int32))).bind fun (s10, v11) =>
      some (v11, s10)
    )
  )
theorem bX9_trail {G : Cx} {E : Ev} {n : Nat} (hRm : 4 ≤ E.1.frames ∧ 94 ≤ E.1.locals) {P : Int32 × Sg → Prop} (hQ : ∀ r s, P (r, s) → E.2.2.2.2 (some (.int r)) s) {s0 : Sg} {a0 : Nat} {x1 : Int32} {x2 : Int32} (h : Ok (mX9_trail n s0 a0 x1 x2) P) : BW G tX9_trail E 0 0 0 [(0, .ref a0), (1, .int x1), (2, .int x2)] [] s0 := by
  unfold mX9_trail at h
  obtain ⟨_, _, h⟩ := Ok.bind h
  refine BW.run [.aload_n 0, .iload_n 1] (pc' := 2) (lv' := [(0, .ref a0), (1, .int x1), (2, .int x2)]) (st' := [.int x1, .ref a0]) (by decide +kernel) rfl rfl ?_
  refine BW.callV (As := [.int x1]) (st := []) (by decide +kernel : decode tX9_trail.2.1 2 = .ok (.invokevirtual 143, 3)) (DX9_walkOf (Ok.bindK h)) mfX9_walkOf lkM_X9_143 imX9_walkOf selX9_walkOf ciX9 (oX9_walkOf (Ok.bindK h)).choose_spec rfl rfl (Nat.le_of_ble_eq_true rfl) ⟨Nat.le_trans (by decide) hRm.1, Nat.le_trans (by decide) hRm.2⟩ ⟨Nat.zero_le _, Nat.zero_le _⟩ ?_
  rintro _ s1 ⟨_ | b2, rfl, h⟩
  · show BW G tX9_trail E 0 0 5 [(0, .ref a0), (1, .int x1), (2, .int x2)] (.null :: []) s1
    refine BW.ifnullN 15 (by decide +kernel : decode tX9_trail.2.1 5 = .ok (.ifnull 10, 3)) (by decide) ?_
    refine BW.run [.iconst (-1)] (pc' := 16) (lv' := [(0, .ref a0), (1, .int x1), (2, .int x2)]) (st' := [.int (-1 : Int32)]) (by decide +kernel) rfl rfl ?_
    exact BW.iret (by decide +kernel : decode tX9_trail.2.1 16 = .ok (.ireturn, 1)) rfl (Nat.zero_le _) (Nat.zero_le _) (hQ _ _ (Ok.some h))
  · show BW G tX9_trail E 0 0 5 [(0, .ref a0), (1, .int x1), (2, .int x2)] (.ref b2 :: []) s1
    refine BW.ifnull (by decide +kernel : decode tX9_trail.2.1 5 = .ok (.ifnull 10, 3)) ?_
    refine BW.run [.iload_n 2] (pc' := 9) (lv' := [(0, .ref a0), (1, .int x1), (2, .int x2)]) (st' := [.int x2]) (by decide +kernel) rfl rfl ?_
    refine BW.callS (As := [.int x2]) (st := []) (by decide +kernel : decode tX9_trail.2.1 9 = .ok (.invokestatic 305, 3)) (DX9_isTick (Ok.bindK h)) mfX9_isTick lkM_X9_305 smX9_isTick rfl rfl (Nat.le_of_ble_eq_true rfl) ⟨Nat.le_trans (by decide) hRm.1, Nat.le_trans (by decide) hRm.2⟩ ⟨Nat.zero_le _, Nat.zero_le _⟩ ?_
    rintro _ s4 ⟨v5, rfl, h⟩
    show BW G tX9_trail E 0 0 12 [(0, .ref a0), (1, .int x1), (2, .int x2)] [.int v5] s4
    refine BW.if_ne 17 (by decide +kernel : decode tX9_trail.2.1 12 = .ok (.ifCond .ne 5, 3)) (by decide) (fun hc => ?_) (fun hc => ?_)
    · have h := (Ok.ite h).2 hc
      refine BW.run [.aload_n 0, .iload_n 2] (pc' := 19) (lv' := [(0, .ref a0), (1, .int x1), (2, .int x2)]) (st' := [.int x2, .ref a0]) (by decide +kernel) rfl rfl ?_
      refine BW.callV (As := [.int x2]) (st := []) (by decide +kernel : decode tX9_trail.2.1 19 = .ok (.invokevirtual 308, 3)) (DX9_showAll (Ok.bindK h)) mfX9_showAll lkM_X9_308 imX9_showAll selX9_showAll ciX9 (oX9_showAll (Ok.bindK h)).choose_spec rfl rfl (Nat.le_of_ble_eq_true rfl) ⟨Nat.le_trans (by decide) hRm.1, Nat.le_trans (by decide) hRm.2⟩ ⟨Nat.zero_le _, Nat.zero_le _⟩ ?_
      rintro _ s7 ⟨rfl, h⟩
      show BW G tX9_trail E 0 0 22 [(0, .ref a0), (1, .int x1), (2, .int x2)] [] s7
      refine BW.run [.iconst 0, .istore_n 3, .iconst 0, .istore 4] (pc' := 27) (lv' := [(0, .ref a0), (1, .int x1), (2, .int x2), (3, .int (0 : Int32)), (4, .int (0 : Int32))]) (st' := []) (by decide +kernel) rfl rfl ?_
      refine BW.sub [0, 1, 3, 4] rfl ?_
      refine bX9_trail_W27 hRm (a0 := a0) (x1 := x1) (fun s10 v11 h => ?_) n (s7, (0 : Int32), (0 : Int32)) (Ok.bindK h)
      refine BW.run [.iload_n 3] (pc' := 56) (lv' := [(3, .int v11)]) (st' := [.int v11]) (by decide +kernel) rfl rfl ?_
      exact BW.iret (by decide +kernel : decode tX9_trail.2.1 56 = .ok (.ireturn, 1)) rfl (Nat.zero_le _) (Nat.zero_le _) (hQ _ _ (Ok.some h))
    · have h := (Ok.ite h).1 hc
      refine BW.run [.iconst (-1)] (pc' := 16) (lv' := [(0, .ref a0), (1, .int x1), (2, .int x2)]) (st' := [.int (-1 : Int32)]) (by decide +kernel) rfl rfl ?_
      exact BW.iret (by decide +kernel : decode tX9_trail.2.1 16 = .ok (.ireturn, 1)) rfl (Nat.zero_le _) (Nat.zero_le _) (hQ _ _ (Ok.some h))
theorem oX9_trail {n : Nat} {P : Int32 × Sg → Prop} {s0 : Sg} {a0 : Nat} {x1 : Int32} {x2 : Int32} (h : Ok (mX9_trail n s0 a0 x1 x2) P) : ∃ n0, s0.2.1 a0 = some (9, n0) := by
  unfold mX9_trail at h
  exact Ok.isO h
theorem DX9_trail {G : Cx} {n : Nat} {P : Int32 × Sg → Prop} {s0 : Sg} {a0 : Nat} {x1 : Int32} {x2 : Int32} (h : Ok (mX9_trail n s0 a0 x1 x2) P) : BM G tX9_trail 4 94 0 0 [.ref a0, .int x1, .int x2] s0 (fun v s => ∃ r, v = some (.int r) ∧ P (r, s)) := by
  refine BM.of (by decide +kernel) (Nat.le_of_ble_eq_true rfl) ?_
  exact bX9_trail (E := (({ frames := 4, cells := 0, slots := 0, locals := 94 }), Aof s0, 0, 0, (fun v s => ∃ r, v = some (.int r) ∧ P (r, s)))) ⟨Nat.le_refl _, Nat.le_refl _⟩ (fun r s hp => ⟨r, rfl, hp⟩) h
def mX9_undo (n : Nat) (s0 : Sg) (a0 : Nat) : Option (Int32 × Sg) :=
  (isO 9 s0 a0).bind fun _ =>
  (toI (gV 9 s0 a0 8)).bind fun v1 =>
  if v1 = 0 then (
    some ((-1 : Int32), s0)
  ) else (
    (toI (gV 9 s0 a0 8)).bind fun v2 =>
    (pV 9 s0 a0 8 (.int (v2 - (1 : Int32)))).bind fun s3 =>
    (toI (gV 9 s3 a0 8)).bind fun v4 =>
    some (v4, s3)
  )
theorem bX9_undo {G : Cx} {E : Ev} {n : Nat} (hRm : 0 ≤ E.1.frames ∧ 0 ≤ E.1.locals) {P : Int32 × Sg → Prop} (hQ : ∀ r s, P (r, s) → E.2.2.2.2 (some (.int r)) s) {s0 : Sg} {a0 : Nat} (h : Ok (mX9_undo n s0 a0) P) : BW G tX9_undo E 0 0 0 [(0, .ref a0)] [] s0 := by
  unfold mX9_undo at h
  obtain ⟨_, _, h⟩ := Ok.bind h
  refine BW.run [.aload_n 0] (pc' := 1) (lv' := [(0, .ref a0)]) (st' := [.ref a0]) (by decide +kernel) rfl rfl ?_
  obtain ⟨v1, ev1, h⟩ := Ok.bind h
  refine BW.get (by decide +kernel : decode tX9_undo.2.1 1 = .ok (.getfield 32, 3)) ciX9 (k := 8) (by decide) lkF_X9_32 (toI_V ev1) ?_
  refine BW.if_ne 9 (by decide +kernel : decode tX9_undo.2.1 4 = .ok (.ifCond .ne 5, 3)) (by decide) (fun hc => ?_) (fun hc => ?_)
  · have h := (Ok.ite h).2 hc
    refine BW.run [.aload_n 0, .dup] (pc' := 11) (lv' := [(0, .ref a0)]) (st' := [.ref a0, .ref a0]) (by decide +kernel) rfl rfl ?_
    obtain ⟨v2, ev2, h⟩ := Ok.bind h
    refine BW.get (by decide +kernel : decode tX9_undo.2.1 11 = .ok (.getfield 32, 3)) ciX9 (k := 8) (by decide) lkF_X9_32 (toI_V ev2) ?_
    refine BW.run [.iconst 1, .isub] (pc' := 16) (lv' := [(0, .ref a0)]) (st' := [.int (v2 - (1 : Int32)), .ref a0]) (by decide +kernel) rfl rfl ?_
    obtain ⟨s3, es3, h⟩ := Ok.bind h
    refine BW.put (by decide +kernel : decode tX9_undo.2.1 16 = .ok (.putfield 32, 3)) ciX9 (k := 8) (by decide) lkF_X9_32 rfl rfl rfl es3 ?_
    refine BW.run [.aload_n 0] (pc' := 20) (lv' := [(0, .ref a0)]) (st' := [.ref a0]) (by decide +kernel) rfl rfl ?_
    obtain ⟨v4, ev4, h⟩ := Ok.bind h
    refine BW.get (by decide +kernel : decode tX9_undo.2.1 20 = .ok (.getfield 32, 3)) ciX9 (k := 8) (by decide) lkF_X9_32 (toI_V ev4) ?_
    exact BW.iret (by decide +kernel : decode tX9_undo.2.1 23 = .ok (.ireturn, 1)) rfl (Nat.zero_le _) (Nat.zero_le _) (hQ _ _ (Ok.some h))
  · have h := (Ok.ite h).1 hc
    refine BW.run [.iconst (-1)] (pc' := 8) (lv' := [(0, .ref a0)]) (st' := [.int (-1 : Int32)]) (by decide +kernel) rfl rfl ?_
    exact BW.iret (by decide +kernel : decode tX9_undo.2.1 8 = .ok (.ireturn, 1)) rfl (Nat.zero_le _) (Nat.zero_le _) (hQ _ _ (Ok.some h))
theorem oX9_undo {n : Nat} {P : Int32 × Sg → Prop} {s0 : Sg} {a0 : Nat} (h : Ok (mX9_undo n s0 a0) P) : ∃ n0, s0.2.1 a0 = some (9, n0) := by
  unfold mX9_undo at h
  exact Ok.isO h
theorem DX9_undo {G : Cx} {n : Nat} {P : Int32 × Sg → Prop} {s0 : Sg} {a0 : Nat} (h : Ok (mX9_undo n s0 a0) P) : BM G tX9_undo 0 0 0 0 [.ref a0] s0 (fun v s => ∃ r, v = some (.int r) ∧ P (r, s)) := by
  refine BM.of (by decide +kernel) (Nat.le_of_ble_eq_true rfl) ?_
  exact bX9_undo (E := (({ frames := 0, cells := 0, slots := 0, locals := 0 }), Aof s0, 0, 0, (fun v s => ∃ r, v = some (.int r) ∧ P (r, s)))) ⟨Nat.le_refl _, Nat.le_refl _⟩ (fun r s hp => ⟨r, rfl, hp⟩) h
def mX9_where (n : Nat) (s0 : Sg) (a0 : Nat) (x1 : Int32) (x2 : Int32) : Option (Int32 × Sg) :=
  (isO 9 s0 a0).bind fun _ =>
  (mX9_walkOf n s0 a0 x1).bind fun q3 => match q3 with
  | (none, s1) => (
    some ((-1 : Int32), s1)
  )
  | (some b2, s1) => (
    (mX8_cellOf n s1 b2 x2).bind fun (v5, s4) =>
    some (v5, s4)
  )
theorem bX9_where {G : Cx} {E : Ev} {n : Nat} (hRm : 1 ≤ E.1.frames ∧ 21 ≤ E.1.locals) {P : Int32 × Sg → Prop} (hQ : ∀ r s, P (r, s) → E.2.2.2.2 (some (.int r)) s) {s0 : Sg} {a0 : Nat} {x1 : Int32} {x2 : Int32} (h : Ok (mX9_where n s0 a0 x1 x2) P) : BW G tX9_where E 0 0 0 [(0, .ref a0), (1, .int x1), (2, .int x2)] [] s0 := by
  unfold mX9_where at h
  obtain ⟨_, _, h⟩ := Ok.bind h
  refine BW.run [.aload_n 0, .iload_n 1] (pc' := 2) (lv' := [(0, .ref a0), (1, .int x1), (2, .int x2)]) (st' := [.int x1, .ref a0]) (by decide +kernel) rfl rfl ?_
  refine BW.callV (As := [.int x1]) (st := []) (by decide +kernel : decode tX9_where.2.1 2 = .ok (.invokevirtual 143, 3)) (DX9_walkOf (Ok.bindK h)) mfX9_walkOf lkM_X9_143 imX9_walkOf selX9_walkOf ciX9 (oX9_walkOf (Ok.bindK h)).choose_spec rfl rfl (Nat.le_of_ble_eq_true rfl) ⟨Nat.le_trans (by decide) hRm.1, Nat.le_trans (by decide) hRm.2⟩ ⟨Nat.zero_le _, Nat.zero_le _⟩ ?_
  rintro _ s1 ⟨_ | b2, rfl, h⟩
  · show BW G tX9_where E 0 0 5 [(0, .ref a0), (1, .int x1), (2, .int x2)] (.null :: []) s1
    refine BW.run [.astore_n 3, .aload_n 3] (pc' := 7) (lv' := [(0, .ref a0), (1, .int x1), (2, .int x2), (3, .null)]) (st' := [.null]) (by decide +kernel) rfl rfl ?_
    refine BW.ifnonnullN (by decide +kernel : decode tX9_where.2.1 7 = .ok (.ifnonnull 7, 3)) ?_
    refine BW.run [.iconst (-1)] (pc' := 11) (lv' := [(0, .ref a0), (1, .int x1), (2, .int x2), (3, .null)]) (st' := [.int (-1 : Int32)]) (by decide +kernel) rfl rfl ?_
    refine BW.goto 19 (by decide +kernel : decode tX9_where.2.1 11 = .ok (.goto 8, 3)) (by decide) ?_
    exact BW.iret (by decide +kernel : decode tX9_where.2.1 19 = .ok (.ireturn, 1)) rfl (Nat.zero_le _) (Nat.zero_le _) (hQ _ _ (Ok.some h))
  · show BW G tX9_where E 0 0 5 [(0, .ref a0), (1, .int x1), (2, .int x2)] (.ref b2 :: []) s1
    refine BW.run [.astore_n 3, .aload_n 3] (pc' := 7) (lv' := [(0, .ref a0), (1, .int x1), (2, .int x2), (3, .ref b2)]) (st' := [.ref b2]) (by decide +kernel) rfl rfl ?_
    refine BW.ifnonnull 14 (by decide +kernel : decode tX9_where.2.1 7 = .ok (.ifnonnull 7, 3)) (by decide) ?_
    refine BW.run [.aload_n 3, .iload_n 2] (pc' := 16) (lv' := [(0, .ref a0), (1, .int x1), (2, .int x2), (3, .ref b2)]) (st' := [.int x2, .ref b2]) (by decide +kernel) rfl rfl ?_
    refine BW.callV (As := [.int x2]) (st := []) (by decide +kernel : decode tX9_where.2.1 16 = .ok (.invokevirtual 165, 3)) (DX8_cellOf (Ok.bindK h)) mfX8_cellOf lkM_X9_165 imX8_cellOf selX8_cellOf ciX8 (oX8_cellOf (Ok.bindK h)).choose_spec rfl rfl (Nat.le_of_ble_eq_true rfl) ⟨Nat.le_trans (by decide) hRm.1, Nat.le_trans (by decide) hRm.2⟩ ⟨Nat.zero_le _, Nat.zero_le _⟩ ?_
    rintro _ s4 ⟨v5, rfl, h⟩
    show BW G tX9_where E 0 0 19 [(0, .ref a0), (1, .int x1), (2, .int x2), (3, .ref b2)] [.int v5] s4
    exact BW.iret (by decide +kernel : decode tX9_where.2.1 19 = .ok (.ireturn, 1)) rfl (Nat.zero_le _) (Nat.zero_le _) (hQ _ _ (Ok.some h))
theorem oX9_where {n : Nat} {P : Int32 × Sg → Prop} {s0 : Sg} {a0 : Nat} {x1 : Int32} {x2 : Int32} (h : Ok (mX9_where n s0 a0 x1 x2) P) : ∃ n0, s0.2.1 a0 = some (9, n0) := by
  unfold mX9_where at h
  exact Ok.isO h
theorem DX9_where {G : Cx} {n : Nat} {P : Int32 × Sg → Prop} {s0 : Sg} {a0 : Nat} {x1 : Int32} {x2 : Int32} (h : Ok (mX9_where n s0 a0 x1 x2) P) : BM G tX9_where 1 21 0 0 [.ref a0, .int x1, .int x2] s0 (fun v s => ∃ r, v = some (.int r) ∧ P (r, s)) := by
  refine BM.of (by decide +kernel) (Nat.le_of_ble_eq_true rfl) ?_
  exact bX9_where (E := (({ frames := 1, cells := 0, slots := 0, locals := 21 }), Aof s0, 0, 0, (fun v s => ∃ r, v = some (.int r) ∧ P (r, s)))) ⟨Nat.le_refl _, Nat.le_refl _⟩ (fun r s hp => ⟨r, rfl, hp⟩) h
def mX9_words_40 (n : Nat) (s0 : Sg) (a0 : Nat) (x1 : Int32) (x2 : Int32) (x3 : Int32) : Option ((Sg × Int32 × Int32) ⊕ (Sg × Int32)) :=
  some (.inl (s0, x2, (x3 + (1 : Int32))))
theorem bX9_words_40 {G : Cx} {E : Ev} {n : Nat} (hRm : 1 ≤ E.1.frames ∧ 20 ≤ E.1.locals) {s0 : Sg} {a0 : Nat} {x1 : Int32} {x2 : Int32} {x3 : Int32} {P : (Sg × Int32 × Int32) ⊕ (Sg × Int32) → Prop} (hC : ∀ (s : Sg) (c2 : Int32) (c3 : Int32), P (.inl (s, c2, c3)) → BW G tX9_words E 0 0 13 [(0, .ref a0), (1, .int x1), (2, .int c2), (3, .int c3)] [] s) (hE : ∀ (s : Sg) (c2 : Int32), P (.inr (s, c2)) → BW G tX9_words E 0 0 46 [(2, .int c2)] [] s)  (h : Ok (mX9_words_40 n s0 a0 x1 x2 x3) P) : BW G tX9_words E 0 0 40 [(0, .ref a0), (1, .int x1), (2, .int x2), (3, .int x3)] [] s0 := by
  unfold mX9_words_40 at h
  refine BW.run [.iinc 3 1] (pc' := 43) (lv' := [(0, .ref a0), (1, .int x1), (2, .int x2), (3, .int (x3 + (1 : Int32)))]) (st' := []) (by decide +kernel) rfl rfl ?_
  refine BW.goto 13 (by decide +kernel : decode tX9_words.2.1 43 = .ok (.goto (-30), 3)) (by decide) ?_
  exact hC _ _ _ (Ok.some h)
def mX9_words_L13 (n : Nat) (a0 : Nat) (x1 : Int32) : (Sg × Int32 × Int32) → Option ((Sg × Int32 × Int32) ⊕ (Sg × Int32))
  | (s0, x2, x3) =>
    (toI (gV 9 s0 a0 8)).bind fun v4 =>
    if v4 ≤ x3 then (
      some (.inr (s0, x2))
    ) else (
      (toR (gV 9 s0 a0 7)).bind fun b5 =>
      (toQ (aV 14 s0 b5 x3)).bind fun q6 => match q6 with
      | none => (
        none
      )
      | some b7 => (
        (toI (gV 2 s0 b7 0)).bind fun v8 =>
        if v8 = x1 then (
          nm (x2 ||| ((1 : Int32) <<< (x3 &&& 31))) fun v9 =>
          mX9_words_40 n s0 a0 x1 v9 x3
        ) else (
          mX9_words_40 n s0 a0 x1 x2 x3
        )
      )
    )
theorem bX9_words_L13 {G : Cx} {E : Ev} {n : Nat} (hRm : 1 ≤ E.1.frames ∧ 20 ≤ E.1.locals) {a0 : Nat} {x1 : Int32} {P : (Sg × Int32 × Int32) ⊕ (Sg × Int32) → Prop} (hC : ∀ (s : Sg) (c2 : Int32) (c3 : Int32), P (.inl (s, c2, c3)) → BW G tX9_words E 0 0 13 [(0, .ref a0), (1, .int x1), (2, .int c2), (3, .int c3)] [] s) (hE : ∀ (s : Sg) (c2 : Int32), P (.inr (s, c2)) → BW G tX9_words E 0 0 46 [(2, .int c2)] [] s) {s0 : Sg} {x2 : Int32} {x3 : Int32} (h : Ok (mX9_words_L13 n a0 x1 (s0, x2, x3)) P) : BW G tX9_words E 0 0 13 [(0, .ref a0), (1, .int x1), (2, .int x2), (3, .int x3)] [] s0 := by
  unfold mX9_words_L13 at h
  refine BW.run [.iload_n 3, .aload_n 0] (pc' := 15) (lv' := [(0, .ref a0), (1, .int x1), (2, .int x2), (3, .int x3)]) (st' := [.ref a0, .int x3]) (by decide +kernel) rfl rfl ?_
  obtain ⟨v4, ev4, h⟩ := Ok.bind h
  refine BW.get (by decide +kernel : decode tX9_words.2.1 15 = .ok (.getfield 32, 3)) ciX9 (k := 8) (by decide) lkF_X9_32 (toI_V ev4) ?_
  refine BW.icmp_ge 46 (by decide +kernel : decode tX9_words.2.1 18 = .ok (.if_icmp .ge 28, 3)) (by decide) (fun hc => ?_) (fun hc => ?_)
  · have h := (Ok.ite h).1 hc
    refine BW.sub [2] rfl ?_
    exact hE _ _ (Ok.some h)
  · have h := (Ok.ite h).2 hc
    refine BW.run [.aload_n 0] (pc' := 22) (lv' := [(0, .ref a0), (1, .int x1), (2, .int x2), (3, .int x3)]) (st' := [.ref a0]) (by decide +kernel) rfl rfl ?_
    obtain ⟨b5, eb5, h⟩ := Ok.bind h
    refine BW.get (by decide +kernel : decode tX9_words.2.1 22 = .ok (.getfield 28, 3)) ciX9 (k := 7) (by decide) lkF_X9_28 (toR_V eb5) ?_
    refine BW.run [.iload_n 3] (pc' := 26) (lv' := [(0, .ref a0), (1, .int x1), (2, .int x2), (3, .int x3)]) (st' := [.int x3, .ref b5]) (by decide +kernel) rfl rfl ?_
    obtain ⟨q6, eq6, h⟩ := Ok.bind h
    refine BW.aald (by decide +kernel : decode tX9_words.2.1 26 = .ok (.aaload, 1)) (by decide) (toQ_V eq6) ?_
    cases q6 with
    | none =>
      show BW G tX9_words E 0 0 27 [(0, .ref a0), (1, .int x1), (2, .int x2), (3, .int x3)] (.null :: []) s0
      exact (Ok.no h).elim
    | some b7 =>
      show BW G tX9_words E 0 0 27 [(0, .ref a0), (1, .int x1), (2, .int x2), (3, .int x3)] (.ref b7 :: []) s0
      obtain ⟨v8, ev8, h⟩ := Ok.bind h
      refine BW.getN (by decide +kernel : decode tX9_words.2.1 27 = .ok (.getfield 193, 3)) ciX2 (k := 0) (by decide) lkF_X9_193 (toI_V ev8) ?_
      refine BW.run [.iload_n 1] (pc' := 31) (lv' := [(0, .ref a0), (1, .int x1), (2, .int x2), (3, .int x3)]) (st' := [.int x1, .int v8]) (by decide +kernel) rfl rfl ?_
      refine BW.icmp_ne 40 (by decide +kernel : decode tX9_words.2.1 31 = .ok (.if_icmp .ne 9, 3)) (by decide) (fun hc => ?_) (fun hc => ?_)
      · have h := (Ok.ite h).2 hc
        exact bX9_words_40 hRm hC hE h
      · have h := (Ok.ite h).1 hc
        refine BW.run [.iload_n 2, .iconst 1, .iload_n 3, .ishl, .ior] (pc' := 39) (lv' := [(0, .ref a0), (1, .int x1), (2, .int x2), (3, .int x3)]) (st' := [.int (x2 ||| ((1 : Int32) <<< (x3 &&& 31)))]) (by decide +kernel) rfl rfl ?_
        obtain ⟨v9, wv9, h⟩ := Ok.nm h
        refine BW.nm wv9 ?_
        refine BW.run [.istore_n 2] (pc' := 40) (lv' := [(0, .ref a0), (1, .int x1), (2, .int v9), (3, .int x3)]) (st' := []) (by decide +kernel) rfl rfl ?_
        exact bX9_words_40 hRm hC hE h
theorem bX9_words_W13 {G : Cx} {E : Ev} {n : Nat} (hRm : 1 ≤ E.1.frames ∧ 20 ≤ E.1.locals) {a0 : Nat} {x1 : Int32} {K : (Sg × Int32) → Prop} (hE : ∀ (s : Sg) (c2 : Int32), K (s, c2) → BW G tX9_words E 0 0 46 [(2, .int c2)] [] s) : ∀ (f : Nat) (c : Sg × Int32 × Int32), Ok (loopM (mX9_words_L13 n a0 x1) f c) K → match c with | (s0, x2, x3) => BW G tX9_words E 0 0 13 [(0, .ref a0), (1, .int x1), (2, .int x2), (3, .int x3)] [] s0 := by
  intro f
  induction f with
  | zero => intro c h; exact (Ok.no h).elim
  | succ f ih =>
    intro c h
    obtain ⟨s0, x2, x3⟩ := c
    exact bX9_words_L13 (P := loopP (mX9_words_L13 n a0 x1) f K) hRm (fun s c2 c3 h => ih (s, c2, c3) h) hE (loopM_ok h)
def mX9_words (n : Nat) (s0 : Sg) (a0 : Nat) (x1 : Int32) : Option (Int32 × Sg) :=
  (isO 9 s0 a0).bind fun _ =>
  (mX9_isWho n s0 x1).bind fun (v2, s1) =>
  if v2 = 0 then (
    some ((-1 : Int32), s1)
  ) else (
    (loopM (mX9_words_L13 n a0 x1) n (s1, (0 : Int32), (0 : Int32))).bind fun (s10, v11) =>
    some (v11, s10)
  )
theorem bX9_words {G : Cx} {E : Ev} {n : Nat} (hRm : 1 ≤ E.1.frames ∧ 20 ≤ E.1.locals) {P : Int32 × Sg → Prop} (hQ : ∀ r s, P (r, s) → E.2.2.2.2 (some (.int r)) s) {s0 : Sg} {a0 : Nat} {x1 : Int32} (h : Ok (mX9_words n s0 a0 x1) P) : BW G tX9_words E 0 0 0 [(0, .ref a0), (1, .int x1)] [] s0 := by
  unfold mX9_words at h
  obtain ⟨_, _, h⟩ := Ok.bind h
  refine BW.run [.iload_n 1] (pc' := 1) (lv' := [(0, .ref a0), (1, .int x1)]) (st' := [.int x1]) (by decide +kernel) rfl rfl ?_
  refine BW.callS (As := [.int x1]) (st := []) (by decide +kernel : decode tX9_words.2.1 1 = .ok (.invokestatic 176, 3)) (DX9_isWho (Ok.bindK h)) mfX9_isWho lkM_X9_176 smX9_isWho rfl rfl (Nat.le_of_ble_eq_true rfl) ⟨Nat.le_trans (by decide) hRm.1, Nat.le_trans (by decide) hRm.2⟩ ⟨Nat.zero_le _, Nat.zero_le _⟩ ?_
  rintro _ s1 ⟨v2, rfl, h⟩
  show BW G tX9_words E 0 0 4 [(0, .ref a0), (1, .int x1)] [.int v2] s1
  refine BW.if_ne 9 (by decide +kernel : decode tX9_words.2.1 4 = .ok (.ifCond .ne 5, 3)) (by decide) (fun hc => ?_) (fun hc => ?_)
  · have h := (Ok.ite h).2 hc
    refine BW.run [.iconst 0, .istore_n 2, .iconst 0, .istore_n 3] (pc' := 13) (lv' := [(0, .ref a0), (1, .int x1), (2, .int (0 : Int32)), (3, .int (0 : Int32))]) (st' := []) (by decide +kernel) rfl rfl ?_
    refine bX9_words_W13 hRm (a0 := a0) (x1 := x1) (fun s10 v11 h => ?_) n (s1, (0 : Int32), (0 : Int32)) (Ok.bindK h)
    refine BW.run [.iload_n 2] (pc' := 47) (lv' := [(2, .int v11)]) (st' := [.int v11]) (by decide +kernel) rfl rfl ?_
    exact BW.iret (by decide +kernel : decode tX9_words.2.1 47 = .ok (.ireturn, 1)) rfl (Nat.zero_le _) (Nat.zero_le _) (hQ _ _ (Ok.some h))
  · have h := (Ok.ite h).1 hc
    refine BW.run [.iconst (-1)] (pc' := 8) (lv' := [(0, .ref a0), (1, .int x1)]) (st' := [.int (-1 : Int32)]) (by decide +kernel) rfl rfl ?_
    exact BW.iret (by decide +kernel : decode tX9_words.2.1 8 = .ok (.ireturn, 1)) rfl (Nat.zero_le _) (Nat.zero_le _) (hQ _ _ (Ok.some h))
theorem oX9_words {n : Nat} {P : Int32 × Sg → Prop} {s0 : Sg} {a0 : Nat} {x1 : Int32} (h : Ok (mX9_words n s0 a0 x1) P) : ∃ n0, s0.2.1 a0 = some (9, n0) := by
  unfold mX9_words at h
  exact Ok.isO h
theorem DX9_words {G : Cx} {n : Nat} {P : Int32 × Sg → Prop} {s0 : Sg} {a0 : Nat} {x1 : Int32} (h : Ok (mX9_words n s0 a0 x1) P) : BM G tX9_words 1 20 0 0 [.ref a0, .int x1] s0 (fun v s => ∃ r, v = some (.int r) ∧ P (r, s)) := by
  refine BM.of (by decide +kernel) (Nat.le_of_ble_eq_true rfl) ?_
  exact bX9_words (E := (({ frames := 1, cells := 0, slots := 0, locals := 20 }), Aof s0, 0, 0, (fun v s => ∃ r, v = some (.int r) ∧ P (r, s)))) ⟨Nat.le_refl _, Nat.le_refl _⟩ (fun r s hp => ⟨r, rfl, hp⟩) h
