def mX0_link_156 (n : Nat) (rX0_link : Sg → Nat → Int32 → Int32 → Int32 → Option Sg) (s0 : Sg) (a0 : Nat) (x1 : Int32) (x2 : Int32) (x3 : Int32) (a5 : Nat) (x6 : Int32) : Option ((Sg × Int32) ⊕ (Sg)) :=
  some (.inl (s0, (x6 + (1 : Int32))))
theorem bX0_link_156 {G : Cx} {E : Ev} {n : Nat} {rX0_link : Sg → Nat → Int32 → Int32 → Int32 → Option Sg} {frX0_link loX0_link : Nat} (hrX0_link : ∀ {P : Sg → Prop} {s0 : Sg} {a0 : Nat} {x1 : Int32} {x2 : Int32} {x3 : Int32}, Ok (rX0_link s0 a0 x1 x2 x3) P → BM G tX0_link frX0_link loX0_link 0 0 [.ref a0, .int x1, .int x2, .int x3] s0 (fun v s => v = none ∧ P s)) (hoX0_link : ∀ {P : Sg → Prop} {s0 : Sg} {a0 : Nat} {x1 : Int32} {x2 : Int32} {x3 : Int32}, Ok (rX0_link s0 a0 x1 x2 x3) P → ∃ n0, s0.2.1 a0 = some (0, n0)) (hfX0_link : frX0_link + 1 ≤ E.1.frames ∧ 8 + (7 + 11) + loX0_link ≤ E.1.locals) (hRm : 3 ≤ E.1.frames ∧ 69 ≤ E.1.locals) {s0 : Sg} {a0 : Nat} {x1 : Int32} {x2 : Int32} {x3 : Int32} {a5 : Nat} {x6 : Int32} {P : (Sg × Int32) ⊕ (Sg) → Prop} (hC : ∀ (s : Sg) (c6 : Int32), P (.inl (s, c6)) → BW G tX0_link E 0 0 72 [(0, .ref a0), (1, .int x1), (2, .int x2), (3, .int x3), (5, .ref a5), (6, .int c6)] [] s) (hE : ∀ (s : Sg), P (.inr s) → BW G tX0_link E 0 0 162 [(0, .ref a0), (1, .int x1), (2, .int x2), (3, .int x3)] [] s)  (h : Ok (mX0_link_156 n rX0_link s0 a0 x1 x2 x3 a5 x6) P) : BW G tX0_link E 0 0 156 [(0, .ref a0), (1, .int x1), (2, .int x2), (3, .int x3), (5, .ref a5), (6, .int x6)] [] s0 := by
  unfold mX0_link_156 at h
  refine BW.run [.iinc 6 1] (pc' := 159) (lv' := [(0, .ref a0), (1, .int x1), (2, .int x2), (3, .int x3), (5, .ref a5), (6, .int (x6 + (1 : Int32)))]) (st' := []) (by decide +kernel) rfl rfl ?_
  refine BW.goto 72 (by decide +kernel : decode tX0_link.2.1 159 = .ok (.goto (-87), 3)) (by decide) ?_
  exact hC _ _ (Ok.some h)
def mX0_link_L72 (n : Nat) (rX0_link : Sg → Nat → Int32 → Int32 → Int32 → Option Sg) (a0 : Nat) (x1 : Int32) (x2 : Int32) (x3 : Int32) (a5 : Nat) : (Sg × Int32) → Option ((Sg × Int32) ⊕ (Sg))
  | (s0, x6) =>
    (toI (gV 0 s0 a0 3)).bind fun v11 =>
    if v11 ≤ x6 then (
      some (.inr s0)
    ) else (
      (mX9_isIn n s0 x3 x6).bind fun (v13, s12) =>
      if v13 = 0 then (
        (toR (gV 0 s12 a0 0)).bind fun b15 =>
        (toQ (aV 15 s12 b15 x2)).bind fun q16 => match q16 with
        | none => (
          none
        )
        | some b17 => (
          (mX0_mayFollow n s12 a0 b17 x1 x6).bind fun (v19, s18) =>
          if v19 = 0 then (
            mX0_link_156 n rX0_link s18 a0 x1 x2 x3 a5 x6
          ) else (
            (toR (gV 0 s18 a0 0)).bind fun b21 =>
            (toQ (aV 15 s18 b21 x2)).bind fun q22 => match q22 with
            | none => (
              none
            )
            | some b23 => (
              (mX4_copy n s18 a5 b23).bind fun s24 =>
              (mX9_pointOf n s24 x6).bind fun (v26, s25) =>
              (mX9_pointOf n s25 x1).bind fun (v29, s28) =>
              (toR (gV 0 s28 a0 2)).bind fun b31 =>
              (toI (aV 11 s28 b31 x1)).bind fun v32 =>
              (mX4_takesGap n s28 a5 v26 v29 (v32 + (1 : Int32))).bind fun (v34, s33) =>
              (rX0_link s33 a0 (x1 + (1 : Int32)) (x2 + (1 : Int32)) (x3 ||| ((1 : Int32) <<< (x6 &&& 31)))).bind fun s36 =>
              mX0_link_156 n rX0_link s36 a0 x1 x2 x3 a5 x6
            )
          )
        )
      ) else (
        mX0_link_156 n rX0_link s12 a0 x1 x2 x3 a5 x6
      )
    )
theorem bX0_link_L72 {G : Cx} {E : Ev} {n : Nat} {rX0_link : Sg → Nat → Int32 → Int32 → Int32 → Option Sg} {frX0_link loX0_link : Nat} (hrX0_link : ∀ {P : Sg → Prop} {s0 : Sg} {a0 : Nat} {x1 : Int32} {x2 : Int32} {x3 : Int32}, Ok (rX0_link s0 a0 x1 x2 x3) P → BM G tX0_link frX0_link loX0_link 0 0 [.ref a0, .int x1, .int x2, .int x3] s0 (fun v s => v = none ∧ P s)) (hoX0_link : ∀ {P : Sg → Prop} {s0 : Sg} {a0 : Nat} {x1 : Int32} {x2 : Int32} {x3 : Int32}, Ok (rX0_link s0 a0 x1 x2 x3) P → ∃ n0, s0.2.1 a0 = some (0, n0)) (hfX0_link : frX0_link + 1 ≤ E.1.frames ∧ 8 + (7 + 11) + loX0_link ≤ E.1.locals) (hRm : 3 ≤ E.1.frames ∧ 69 ≤ E.1.locals) {a0 : Nat} {x1 : Int32} {x2 : Int32} {x3 : Int32} {a5 : Nat} {P : (Sg × Int32) ⊕ (Sg) → Prop} (hC : ∀ (s : Sg) (c6 : Int32), P (.inl (s, c6)) → BW G tX0_link E 0 0 72 [(0, .ref a0), (1, .int x1), (2, .int x2), (3, .int x3), (5, .ref a5), (6, .int c6)] [] s) (hE : ∀ (s : Sg), P (.inr s) → BW G tX0_link E 0 0 162 [(0, .ref a0), (1, .int x1), (2, .int x2), (3, .int x3)] [] s) {s0 : Sg} {x6 : Int32} (h : Ok (mX0_link_L72 n rX0_link a0 x1 x2 x3 a5 (s0, x6)) P) : BW G tX0_link E 0 0 72 [(0, .ref a0), (1, .int x1), (2, .int x2), (3, .int x3), (5, .ref a5), (6, .int x6)] [] s0 := by
  unfold mX0_link_L72 at h
  refine BW.run [.iload 6, .aload_n 0] (pc' := 75) (lv' := [(0, .ref a0), (1, .int x1), (2, .int x2), (3, .int x3), (5, .ref a5), (6, .int x6)]) (st' := [.ref a0, .int x6]) (by decide +kernel) rfl rfl ?_
  obtain ⟨v11, ev11, h⟩ := Ok.bind h
  refine BW.get (by decide +kernel : decode tX0_link.2.1 75 = .ok (.getfield 24, 3)) ciX0 (k := 3) (by decide) lkF_X0_24 (toI_V ev11) ?_
  refine BW.icmp_ge 162 (by decide +kernel : decode tX0_link.2.1 78 = .ok (.if_icmp .ge 84, 3)) (by decide) (fun hc => ?_) (fun hc => ?_)
  · have h := (Ok.ite h).1 hc
    refine BW.sub [0, 1, 2, 3] rfl ?_
    exact hE _ (Ok.some h)
  · have h := (Ok.ite h).2 hc
    refine BW.run [.iload_n 3, .iload 6] (pc' := 84) (lv' := [(0, .ref a0), (1, .int x1), (2, .int x2), (3, .int x3), (5, .ref a5), (6, .int x6)]) (st' := [.int x6, .int x3]) (by decide +kernel) rfl rfl ?_
    refine BW.callSN (As := [.int x3, .int x6]) (st := []) (by decide +kernel : decode tX0_link.2.1 84 = .ok (.invokestatic 58, 3)) (DX9_isIn (Ok.bindK h)) mfX9_isIn lkM_X0_58 smX9_isIn rfl rfl (Nat.le_of_ble_eq_true rfl) ⟨Nat.le_trans (by decide) hRm.1, Nat.le_trans (by decide) hRm.2⟩ ⟨Nat.zero_le _, Nat.zero_le _⟩ ?_
    rintro _ s12 ⟨v13, rfl, h⟩
    show BW G tX0_link E 0 0 87 [(0, .ref a0), (1, .int x1), (2, .int x2), (3, .int x3), (5, .ref a5), (6, .int x6)] [.int v13] s12
    refine BW.if_ne 156 (by decide +kernel : decode tX0_link.2.1 87 = .ok (.ifCond .ne 69, 3)) (by decide) (fun hc => ?_) (fun hc => ?_)
    · have h := (Ok.ite h).2 hc
      exact bX0_link_156 hrX0_link hoX0_link hfX0_link hRm hC hE h
    · have h := (Ok.ite h).1 hc
      refine BW.run [.aload_n 0, .aload_n 0] (pc' := 92) (lv' := [(0, .ref a0), (1, .int x1), (2, .int x2), (3, .int x3), (5, .ref a5), (6, .int x6)]) (st' := [.ref a0, .ref a0]) (by decide +kernel) rfl rfl ?_
      obtain ⟨b15, eb15, h⟩ := Ok.bind h
      refine BW.get (by decide +kernel : decode tX0_link.2.1 92 = .ok (.getfield 11, 3)) ciX0 (k := 0) (by decide) lkF_X0_11 (toR_V eb15) ?_
      refine BW.run [.iload_n 2] (pc' := 96) (lv' := [(0, .ref a0), (1, .int x1), (2, .int x2), (3, .int x3), (5, .ref a5), (6, .int x6)]) (st' := [.int x2, .ref b15, .ref a0]) (by decide +kernel) rfl rfl ?_
      obtain ⟨q16, eq16, h⟩ := Ok.bind h
      refine BW.aald (by decide +kernel : decode tX0_link.2.1 96 = .ok (.aaload, 1)) (by decide) (toQ_V eq16) ?_
      cases q16 with
      | none =>
        show BW G tX0_link E 0 0 97 [(0, .ref a0), (1, .int x1), (2, .int x2), (3, .int x3), (5, .ref a5), (6, .int x6)] (.null :: [.ref a0]) s12
        exact (Ok.no h).elim
      | some b17 =>
        show BW G tX0_link E 0 0 97 [(0, .ref a0), (1, .int x1), (2, .int x2), (3, .int x3), (5, .ref a5), (6, .int x6)] (.ref b17 :: [.ref a0]) s12
        refine BW.run [.iload_n 1, .iload 6] (pc' := 100) (lv' := [(0, .ref a0), (1, .int x1), (2, .int x2), (3, .int x3), (5, .ref a5), (6, .int x6)]) (st' := [.int x6, .int x1, .ref b17, .ref a0]) (by decide +kernel) rfl rfl ?_
        refine BW.callV (As := [.ref b17, .int x1, .int x6]) (st := []) (by decide +kernel : decode tX0_link.2.1 100 = .ok (.invokevirtual 62, 3)) (DX0_mayFollow (Ok.bindK h)) mfX0_mayFollow lkM_X0_62 imX0_mayFollow selX0_mayFollow ciX0 (oX0_mayFollow (Ok.bindK h)).choose_spec rfl rfl (Nat.le_of_ble_eq_true rfl) ⟨Nat.le_trans (by decide) hRm.1, Nat.le_trans (by decide) hRm.2⟩ ⟨Nat.zero_le _, Nat.zero_le _⟩ ?_
        rintro _ s18 ⟨v19, rfl, h⟩
        show BW G tX0_link E 0 0 103 [(0, .ref a0), (1, .int x1), (2, .int x2), (3, .int x3), (5, .ref a5), (6, .int x6)] [.int v19] s18
        refine BW.if_eq 156 (by decide +kernel : decode tX0_link.2.1 103 = .ok (.ifCond .eq 53, 3)) (by decide) (fun hc => ?_) (fun hc => ?_)
        · have h := (Ok.ite h).1 hc
          exact bX0_link_156 hrX0_link hoX0_link hfX0_link hRm hC hE h
        · have h := (Ok.ite h).2 hc
          refine BW.run [.aload 5, .aload_n 0] (pc' := 109) (lv' := [(0, .ref a0), (1, .int x1), (2, .int x2), (3, .int x3), (5, .ref a5), (6, .int x6)]) (st' := [.ref a0, .ref a5]) (by decide +kernel) rfl rfl ?_
          obtain ⟨b21, eb21, h⟩ := Ok.bind h
          refine BW.get (by decide +kernel : decode tX0_link.2.1 109 = .ok (.getfield 11, 3)) ciX0 (k := 0) (by decide) lkF_X0_11 (toR_V eb21) ?_
          refine BW.run [.iload_n 2] (pc' := 113) (lv' := [(0, .ref a0), (1, .int x1), (2, .int x2), (3, .int x3), (5, .ref a5), (6, .int x6)]) (st' := [.int x2, .ref b21, .ref a5]) (by decide +kernel) rfl rfl ?_
          obtain ⟨q22, eq22, h⟩ := Ok.bind h
          refine BW.aald (by decide +kernel : decode tX0_link.2.1 113 = .ok (.aaload, 1)) (by decide) (toQ_V eq22) ?_
          cases q22 with
          | none =>
            show BW G tX0_link E 0 0 114 [(0, .ref a0), (1, .int x1), (2, .int x2), (3, .int x3), (5, .ref a5), (6, .int x6)] (.null :: [.ref a5]) s18
            exact (Ok.no h).elim
          | some b23 =>
            show BW G tX0_link E 0 0 114 [(0, .ref a0), (1, .int x1), (2, .int x2), (3, .int x3), (5, .ref a5), (6, .int x6)] (.ref b23 :: [.ref a5]) s18
            refine BW.callV (As := [.ref b23]) (st := []) (by decide +kernel : decode tX0_link.2.1 114 = .ok (.invokevirtual 47, 3)) (DX4_copy (Ok.bindK h)) mfX4_copy lkM_X0_47 imX4_copy selX4_copy ciX4 (oX4_copy (Ok.bindK h)).choose_spec rfl rfl (Nat.le_of_ble_eq_true rfl) ⟨Nat.le_trans (by decide) hRm.1, Nat.le_trans (by decide) hRm.2⟩ ⟨Nat.zero_le _, Nat.zero_le _⟩ ?_
            rintro _ s24 ⟨rfl, h⟩
            show BW G tX0_link E 0 0 117 [(0, .ref a0), (1, .int x1), (2, .int x2), (3, .int x3), (5, .ref a5), (6, .int x6)] [] s24
            refine BW.run [.aload 5, .iload 6] (pc' := 121) (lv' := [(0, .ref a0), (1, .int x1), (2, .int x2), (3, .int x3), (5, .ref a5), (6, .int x6)]) (st' := [.int x6, .ref a5]) (by decide +kernel) rfl rfl ?_
            refine BW.callSN (As := [.int x6]) (st := [.ref a5]) (by decide +kernel : decode tX0_link.2.1 121 = .ok (.invokestatic 66, 3)) (DX9_pointOf (Ok.bindK h)) mfX9_pointOf lkM_X0_66 smX9_pointOf rfl rfl (Nat.le_of_ble_eq_true rfl) ⟨Nat.le_trans (by decide) hRm.1, Nat.le_trans (by decide) hRm.2⟩ ⟨Nat.zero_le _, Nat.zero_le _⟩ ?_
            rintro _ s25 ⟨v26, rfl, h⟩
            show BW G tX0_link E 0 0 124 [(0, .ref a0), (1, .int x1), (2, .int x2), (3, .int x3), (5, .ref a5), (6, .int x6)] [.int v26, .ref a5] s25
            refine BW.run [.iload_n 1] (pc' := 125) (lv' := [(0, .ref a0), (1, .int x1), (2, .int x2), (3, .int x3), (5, .ref a5), (6, .int x6)]) (st' := [.int x1, .int v26, .ref a5]) (by decide +kernel) rfl rfl ?_
            refine BW.callSN (As := [.int x1]) (st := [.int v26, .ref a5]) (by decide +kernel : decode tX0_link.2.1 125 = .ok (.invokestatic 66, 3)) (DX9_pointOf (Ok.bindK h)) mfX9_pointOf lkM_X0_66 smX9_pointOf rfl rfl (Nat.le_of_ble_eq_true rfl) ⟨Nat.le_trans (by decide) hRm.1, Nat.le_trans (by decide) hRm.2⟩ ⟨Nat.zero_le _, Nat.zero_le _⟩ ?_
            rintro _ s28 ⟨v29, rfl, h⟩
            show BW G tX0_link E 0 0 128 [(0, .ref a0), (1, .int x1), (2, .int x2), (3, .int x3), (5, .ref a5), (6, .int x6)] [.int v29, .int v26, .ref a5] s28
            refine BW.run [.aload_n 0] (pc' := 129) (lv' := [(0, .ref a0), (1, .int x1), (2, .int x2), (3, .int x3), (5, .ref a5), (6, .int x6)]) (st' := [.ref a0, .int v29, .int v26, .ref a5]) (by decide +kernel) rfl rfl ?_
            obtain ⟨b31, eb31, h⟩ := Ok.bind h
            refine BW.get (by decide +kernel : decode tX0_link.2.1 129 = .ok (.getfield 21, 3)) ciX0 (k := 2) (by decide) lkF_X0_21 (toR_V eb31) ?_
            refine BW.run [.iload_n 1] (pc' := 133) (lv' := [(0, .ref a0), (1, .int x1), (2, .int x2), (3, .int x3), (5, .ref a5), (6, .int x6)]) (st' := [.int x1, .ref b31, .int v29, .int v26, .ref a5]) (by decide +kernel) rfl rfl ?_
            obtain ⟨v32, ev32, h⟩ := Ok.bind h
            refine BW.iald (by decide +kernel : decode tX0_link.2.1 133 = .ok (.iaload, 1)) (toI_V ev32) ?_
            refine BW.run [.iconst 1, .iadd] (pc' := 136) (lv' := [(0, .ref a0), (1, .int x1), (2, .int x2), (3, .int x3), (5, .ref a5), (6, .int x6)]) (st' := [.int (v32 + (1 : Int32)), .int v29, .int v26, .ref a5]) (by decide +kernel) rfl rfl ?_
            refine BW.callV (As := [.int v26, .int v29, .int (v32 + (1 : Int32))]) (st := []) (by decide +kernel : decode tX0_link.2.1 136 = .ok (.invokevirtual 70, 3)) (DX4_takesGap (Ok.bindK h)) mfX4_takesGap lkM_X0_70 imX4_takesGap selX4_takesGap ciX4 (oX4_takesGap (Ok.bindK h)).choose_spec rfl rfl (Nat.le_of_ble_eq_true rfl) ⟨Nat.le_trans (by decide) hRm.1, Nat.le_trans (by decide) hRm.2⟩ ⟨Nat.zero_le _, Nat.zero_le _⟩ ?_
            rintro _ s33 ⟨v34, rfl, h⟩
            show BW G tX0_link E 0 0 139 [(0, .ref a0), (1, .int x1), (2, .int x2), (3, .int x3), (5, .ref a5), (6, .int x6)] [.int v34] s33
            refine BW.run [.pop, .aload_n 0, .iload_n 1, .iconst 1, .iadd, .iload_n 2, .iconst 1, .iadd, .iload_n 3, .iconst 1, .iload 6, .ishl, .ior] (pc' := 153) (lv' := [(0, .ref a0), (1, .int x1), (2, .int x2), (3, .int x3), (5, .ref a5), (6, .int x6)]) (st' := [.int (x3 ||| ((1 : Int32) <<< (x6 &&& 31))), .int (x2 + (1 : Int32)), .int (x1 + (1 : Int32)), .ref a0]) (by decide +kernel) rfl rfl ?_
            refine BW.callV (As := [.int (x1 + (1 : Int32)), .int (x2 + (1 : Int32)), .int (x3 ||| ((1 : Int32) <<< (x6 &&& 31)))]) (st := []) (by decide +kernel : decode tX0_link.2.1 153 = .ok (.invokevirtual 51, 3)) (hrX0_link (Ok.bindK h)) mfX0_link lkM_X0_51 imX0_link selX0_link ciX0 (hoX0_link (Ok.bindK h)).choose_spec rfl rfl (Nat.le_of_ble_eq_true rfl) hfX0_link ⟨Nat.zero_le _, Nat.zero_le _⟩ ?_
            rintro _ s36 ⟨rfl, h⟩
            show BW G tX0_link E 0 0 156 [(0, .ref a0), (1, .int x1), (2, .int x2), (3, .int x3), (5, .ref a5), (6, .int x6)] [] s36
            exact bX0_link_156 hrX0_link hoX0_link hfX0_link hRm hC hE h
theorem bX0_link_W72 {G : Cx} {E : Ev} {n : Nat} {rX0_link : Sg → Nat → Int32 → Int32 → Int32 → Option Sg} {frX0_link loX0_link : Nat} (hrX0_link : ∀ {P : Sg → Prop} {s0 : Sg} {a0 : Nat} {x1 : Int32} {x2 : Int32} {x3 : Int32}, Ok (rX0_link s0 a0 x1 x2 x3) P → BM G tX0_link frX0_link loX0_link 0 0 [.ref a0, .int x1, .int x2, .int x3] s0 (fun v s => v = none ∧ P s)) (hoX0_link : ∀ {P : Sg → Prop} {s0 : Sg} {a0 : Nat} {x1 : Int32} {x2 : Int32} {x3 : Int32}, Ok (rX0_link s0 a0 x1 x2 x3) P → ∃ n0, s0.2.1 a0 = some (0, n0)) (hfX0_link : frX0_link + 1 ≤ E.1.frames ∧ 8 + (7 + 11) + loX0_link ≤ E.1.locals) (hRm : 3 ≤ E.1.frames ∧ 69 ≤ E.1.locals) {a0 : Nat} {x1 : Int32} {x2 : Int32} {x3 : Int32} {a5 : Nat} {K : (Sg) → Prop} (hE : ∀ (s : Sg), K s → BW G tX0_link E 0 0 162 [(0, .ref a0), (1, .int x1), (2, .int x2), (3, .int x3)] [] s) : ∀ (f : Nat) (c : Sg × Int32), Ok (loopM (mX0_link_L72 n rX0_link a0 x1 x2 x3 a5) f c) K → match c with | (s0, x6) => BW G tX0_link E 0 0 72 [(0, .ref a0), (1, .int x1), (2, .int x2), (3, .int x3), (5, .ref a5), (6, .int x6)] [] s0 := by
  intro f
  induction f with
  | zero => intro c h; exact (Ok.no h).elim
  | succ f ih =>
    intro c h
    obtain ⟨s0, x6⟩ := c
    exact bX0_link_L72 (P := loopP (mX0_link_L72 n rX0_link a0 x1 x2 x3 a5) f K) hrX0_link hoX0_link hfX0_link hRm (fun s c6 h => ih (s, c6) h) hE (loopM_ok h)
def mX0_link_32 (n : Nat) (rX0_link : Sg → Nat → Int32 → Int32 → Int32 → Option Sg) (s0 : Sg) (t0 : Int32) (a0 : Nat) (x1 : Int32) (x2 : Int32) (x3 : Int32) : Option (Sg) :=
  (toI (gV 0 s0 a0 3)).bind fun v5 =>
  if v5 ≤ x1 then (
    some s0
  ) else (
    if t0 = 0 then (
      some s0
    ) else (
      (toR (gV 0 s0 a0 0)).bind fun b6 =>
      (lenA 15 s0 b6).bind fun v7 =>
      if (x2 + (1 : Int32)) < v7 then (
        (toR (gV 0 s0 a0 0)).bind fun b8 =>
        (toQ (aV 15 s0 b8 (x2 + (1 : Int32)))).bind fun q9 => match q9 with
        | none => (
          none
        )
        | some b10 => (
          (loopM (mX0_link_L72 n rX0_link a0 x1 x2 x3 b10) n (s0, (0 : Int32))).bind fun s37 =>
          (rX0_link s37 a0 (x1 + (1 : Int32)) x2 x3).bind fun s39 =>
          some s39
        )
      ) else (
        some s0
      )
    )
  )
theorem bX0_link_32 {G : Cx} {E : Ev} {n : Nat} {rX0_link : Sg → Nat → Int32 → Int32 → Int32 → Option Sg} {frX0_link loX0_link : Nat} (hrX0_link : ∀ {P : Sg → Prop} {s0 : Sg} {a0 : Nat} {x1 : Int32} {x2 : Int32} {x3 : Int32}, Ok (rX0_link s0 a0 x1 x2 x3) P → BM G tX0_link frX0_link loX0_link 0 0 [.ref a0, .int x1, .int x2, .int x3] s0 (fun v s => v = none ∧ P s)) (hoX0_link : ∀ {P : Sg → Prop} {s0 : Sg} {a0 : Nat} {x1 : Int32} {x2 : Int32} {x3 : Int32}, Ok (rX0_link s0 a0 x1 x2 x3) P → ∃ n0, s0.2.1 a0 = some (0, n0)) (hfX0_link : frX0_link + 1 ≤ E.1.frames ∧ 8 + (7 + 11) + loX0_link ≤ E.1.locals) (hRm : 3 ≤ E.1.frames ∧ 69 ≤ E.1.locals) {s0 : Sg} {t0 : Int32} {a0 : Nat} {x1 : Int32} {x2 : Int32} {x3 : Int32} {P : Sg → Prop} (hQ : ∀ s, P s → E.2.2.2.2 none s) (h : Ok (mX0_link_32 n rX0_link s0 t0 a0 x1 x2 x3) P) : BW G tX0_link E 0 0 32 [(0, .ref a0), (1, .int x1), (2, .int x2), (3, .int x3)] [.int t0] s0 := by
  unfold mX0_link_32 at h
  refine BW.run [.istore 4, .iload_n 1, .aload_n 0] (pc' := 36) (lv' := [(0, .ref a0), (1, .int x1), (2, .int x2), (3, .int x3), (4, .int t0)]) (st' := [.ref a0, .int x1]) (by decide +kernel) rfl rfl ?_
  obtain ⟨v5, ev5, h⟩ := Ok.bind h
  refine BW.get (by decide +kernel : decode tX0_link.2.1 36 = .ok (.getfield 24, 3)) ciX0 (k := 3) (by decide) lkF_X0_24 (toI_V ev5) ?_
  refine BW.icmp_ge 58 (by decide +kernel : decode tX0_link.2.1 39 = .ok (.if_icmp .ge 19, 3)) (by decide) (fun hc => ?_) (fun hc => ?_)
  · have h := (Ok.ite h).1 hc
    exact BW.vret (by decide +kernel : decode tX0_link.2.1 58 = .ok (.return_, 1)) rfl (Nat.zero_le _) (Nat.zero_le _) (hQ _ (Ok.some h))
  · have h := (Ok.ite h).2 hc
    refine BW.run [.iload 4] (pc' := 44) (lv' := [(0, .ref a0), (1, .int x1), (2, .int x2), (3, .int x3), (4, .int t0)]) (st' := [.int t0]) (by decide +kernel) rfl rfl ?_
    refine BW.if_eq 58 (by decide +kernel : decode tX0_link.2.1 44 = .ok (.ifCond .eq 14, 3)) (by decide) (fun hc => ?_) (fun hc => ?_)
    · have h := (Ok.ite h).1 hc
      exact BW.vret (by decide +kernel : decode tX0_link.2.1 58 = .ok (.return_, 1)) rfl (Nat.zero_le _) (Nat.zero_le _) (hQ _ (Ok.some h))
    · have h := (Ok.ite h).2 hc
      refine BW.run [.iload_n 2, .iconst 1, .iadd, .aload_n 0] (pc' := 51) (lv' := [(0, .ref a0), (1, .int x1), (2, .int x2), (3, .int x3), (4, .int t0)]) (st' := [.ref a0, .int (x2 + (1 : Int32))]) (by decide +kernel) rfl rfl ?_
      obtain ⟨b6, eb6, h⟩ := Ok.bind h
      refine BW.get (by decide +kernel : decode tX0_link.2.1 51 = .ok (.getfield 11, 3)) ciX0 (k := 0) (by decide) lkF_X0_11 (toR_V eb6) ?_
      obtain ⟨v7, ev7, h⟩ := Ok.bind h
      refine BW.alen (by decide +kernel : decode tX0_link.2.1 54 = .ok (.arraylength, 1)) (t := 15) (by decide) ev7 ?_
      refine BW.icmp_lt 59 (by decide +kernel : decode tX0_link.2.1 55 = .ok (.if_icmp .lt 4, 3)) (by decide) (fun hc => ?_) (fun hc => ?_)
      · have h := (Ok.ite h).1 hc
        refine BW.run [.aload_n 0] (pc' := 60) (lv' := [(0, .ref a0), (1, .int x1), (2, .int x2), (3, .int x3), (4, .int t0)]) (st' := [.ref a0]) (by decide +kernel) rfl rfl ?_
        obtain ⟨b8, eb8, h⟩ := Ok.bind h
        refine BW.get (by decide +kernel : decode tX0_link.2.1 60 = .ok (.getfield 11, 3)) ciX0 (k := 0) (by decide) lkF_X0_11 (toR_V eb8) ?_
        refine BW.run [.iload_n 2, .iconst 1, .iadd] (pc' := 66) (lv' := [(0, .ref a0), (1, .int x1), (2, .int x2), (3, .int x3), (4, .int t0)]) (st' := [.int (x2 + (1 : Int32)), .ref b8]) (by decide +kernel) rfl rfl ?_
        obtain ⟨q9, eq9, h⟩ := Ok.bind h
        refine BW.aald (by decide +kernel : decode tX0_link.2.1 66 = .ok (.aaload, 1)) (by decide) (toQ_V eq9) ?_
        cases q9 with
        | none =>
          show BW G tX0_link E 0 0 67 [(0, .ref a0), (1, .int x1), (2, .int x2), (3, .int x3), (4, .int t0)] (.null :: []) s0
          exact (Ok.no h).elim
        | some b10 =>
          show BW G tX0_link E 0 0 67 [(0, .ref a0), (1, .int x1), (2, .int x2), (3, .int x3), (4, .int t0)] (.ref b10 :: []) s0
          refine BW.run [.astore 5, .iconst 0, .istore 6] (pc' := 72) (lv' := [(0, .ref a0), (1, .int x1), (2, .int x2), (3, .int x3), (4, .int t0), (5, .ref b10), (6, .int (0 : Int32))]) (st' := []) (by decide +kernel) rfl rfl ?_
          refine BW.sub [0, 1, 2, 3, 5, 6] rfl ?_
          refine bX0_link_W72 hrX0_link hoX0_link hfX0_link hRm (a0 := a0) (x1 := x1) (x2 := x2) (x3 := x3) (a5 := b10) (fun s37 h => ?_) n (s0, (0 : Int32)) (Ok.bindK h)
          refine BW.run [.aload_n 0, .iload_n 1, .iconst 1, .iadd, .iload_n 2, .iload_n 3] (pc' := 168) (lv' := [(0, .ref a0), (1, .int x1), (2, .int x2), (3, .int x3)]) (st' := [.int x3, .int x2, .int (x1 + (1 : Int32)), .ref a0]) (by decide +kernel) rfl rfl ?_
          refine BW.callV (As := [.int (x1 + (1 : Int32)), .int x2, .int x3]) (st := []) (by decide +kernel : decode tX0_link.2.1 168 = .ok (.invokevirtual 51, 3)) (hrX0_link (Ok.bindK h)) mfX0_link lkM_X0_51 imX0_link selX0_link ciX0 (hoX0_link (Ok.bindK h)).choose_spec rfl rfl (Nat.le_of_ble_eq_true rfl) hfX0_link ⟨Nat.zero_le _, Nat.zero_le _⟩ ?_
          rintro _ s39 ⟨rfl, h⟩
          show BW G tX0_link E 0 0 171 [(0, .ref a0), (1, .int x1), (2, .int x2), (3, .int x3)] [] s39
          exact BW.vret (by decide +kernel : decode tX0_link.2.1 171 = .ok (.return_, 1)) rfl (Nat.zero_le _) (Nat.zero_le _) (hQ _ (Ok.some h))
      · have h := (Ok.ite h).2 hc
        exact BW.vret (by decide +kernel : decode tX0_link.2.1 58 = .ok (.return_, 1)) rfl (Nat.zero_le _) (Nat.zero_le _) (hQ _ (Ok.some h))
def eX0_link (n : Nat) (rX0_link : Sg → Nat → Int32 → Int32 → Int32 → Option Sg) (s0 : Sg) (a0 : Nat) (x1 : Int32) (x2 : Int32) (x3 : Int32) : Option (Sg) :=
  (isO 0 s0 a0).bind fun _ =>
  (toI (gV 0 s0 a0 4)).bind fun v1 =>
  (pV 0 s0 a0 4 (.int (jmax v1 x2))).bind fun s2 =>
  (toI (gV 0 s2 a0 3)).bind fun v3 =>
  (toI (gV 0 s2 a0 4)).bind fun v4 =>
  if ((x2 + v3) - x1) ≤ v4 then (
    mX0_link_32 n rX0_link s2 (0 : Int32) a0 x1 x2 x3
  ) else (
    mX0_link_32 n rX0_link s2 (1 : Int32) a0 x1 x2 x3
  )
theorem bX0_link {G : Cx} {E : Ev} {n : Nat} {rX0_link : Sg → Nat → Int32 → Int32 → Int32 → Option Sg} {frX0_link loX0_link : Nat} (hrX0_link : ∀ {P : Sg → Prop} {s0 : Sg} {a0 : Nat} {x1 : Int32} {x2 : Int32} {x3 : Int32}, Ok (rX0_link s0 a0 x1 x2 x3) P → BM G tX0_link frX0_link loX0_link 0 0 [.ref a0, .int x1, .int x2, .int x3] s0 (fun v s => v = none ∧ P s)) (hoX0_link : ∀ {P : Sg → Prop} {s0 : Sg} {a0 : Nat} {x1 : Int32} {x2 : Int32} {x3 : Int32}, Ok (rX0_link s0 a0 x1 x2 x3) P → ∃ n0, s0.2.1 a0 = some (0, n0)) (hfX0_link : frX0_link + 1 ≤ E.1.frames ∧ 8 + (7 + 11) + loX0_link ≤ E.1.locals) (hRm : 3 ≤ E.1.frames ∧ 69 ≤ E.1.locals) {P : Sg → Prop} (hQ : ∀ s, P s → E.2.2.2.2 none s) {s0 : Sg} {a0 : Nat} {x1 : Int32} {x2 : Int32} {x3 : Int32} (h : Ok (eX0_link n rX0_link s0 a0 x1 x2 x3) P) : BW G tX0_link E 0 0 0 [(0, .ref a0), (1, .int x1), (2, .int x2), (3, .int x3)] [] s0 := by
  unfold eX0_link at h
  obtain ⟨_, _, h⟩ := Ok.bind h
  refine BW.run [.aload_n 0, .aload_n 0] (pc' := 2) (lv' := [(0, .ref a0), (1, .int x1), (2, .int x2), (3, .int x3)]) (st' := [.ref a0, .ref a0]) (by decide +kernel) rfl rfl ?_
  obtain ⟨v1, ev1, h⟩ := Ok.bind h
  refine BW.get (by decide +kernel : decode tX0_link.2.1 2 = .ok (.getfield 28, 3)) ciX0 (k := 4) (by decide) lkF_X0_28 (toI_V ev1) ?_
  refine BW.run [.iload_n 2] (pc' := 6) (lv' := [(0, .ref a0), (1, .int x1), (2, .int x2), (3, .int x3)]) (st' := [.int x2, .int v1, .ref a0]) (by decide +kernel) rfl rfl ?_
  refine BW.mmax (by decide +kernel : decode tX0_link.2.1 6 = .ok (.invokestatic 55, 3)) lkM_X0_55 (Nat.le_of_ble_eq_true rfl) ⟨Nat.le_trans (by decide) hRm.1, Nat.le_trans (by decide) hRm.2⟩ ⟨Nat.zero_le _, Nat.zero_le _⟩ ?_
  obtain ⟨s2, es2, h⟩ := Ok.bind h
  refine BW.put (by decide +kernel : decode tX0_link.2.1 9 = .ok (.putfield 28, 3)) ciX0 (k := 4) (by decide) lkF_X0_28 rfl rfl rfl es2 ?_
  refine BW.run [.iload_n 2, .aload_n 0] (pc' := 14) (lv' := [(0, .ref a0), (1, .int x1), (2, .int x2), (3, .int x3)]) (st' := [.ref a0, .int x2]) (by decide +kernel) rfl rfl ?_
  obtain ⟨v3, ev3, h⟩ := Ok.bind h
  refine BW.get (by decide +kernel : decode tX0_link.2.1 14 = .ok (.getfield 24, 3)) ciX0 (k := 3) (by decide) lkF_X0_24 (toI_V ev3) ?_
  refine BW.run [.iadd, .iload_n 1, .isub, .aload_n 0] (pc' := 21) (lv' := [(0, .ref a0), (1, .int x1), (2, .int x2), (3, .int x3)]) (st' := [.ref a0, .int ((x2 + v3) - x1)]) (by decide +kernel) rfl rfl ?_
  obtain ⟨v4, ev4, h⟩ := Ok.bind h
  refine BW.get (by decide +kernel : decode tX0_link.2.1 21 = .ok (.getfield 28, 3)) ciX0 (k := 4) (by decide) lkF_X0_28 (toI_V ev4) ?_
  refine BW.icmp_le 31 (by decide +kernel : decode tX0_link.2.1 24 = .ok (.if_icmp .le 7, 3)) (by decide) (fun hc => ?_) (fun hc => ?_)
  · have h := (Ok.ite h).1 hc
    refine BW.run [.iconst 0] (pc' := 32) (lv' := [(0, .ref a0), (1, .int x1), (2, .int x2), (3, .int x3)]) (st' := [.int (0 : Int32)]) (by decide +kernel) rfl rfl ?_
    exact bX0_link_32 hrX0_link hoX0_link hfX0_link hRm hQ h
  · have h := (Ok.ite h).2 hc
    refine BW.run [.iconst 1] (pc' := 28) (lv' := [(0, .ref a0), (1, .int x1), (2, .int x2), (3, .int x3)]) (st' := [.int (1 : Int32)]) (by decide +kernel) rfl rfl ?_
    refine BW.goto 32 (by decide +kernel : decode tX0_link.2.1 28 = .ok (.goto 4, 3)) (by decide) ?_
    exact bX0_link_32 hrX0_link hoX0_link hfX0_link hRm hQ h
def mX0_link (n : Nat) : Nat → Sg → Nat → Int32 → Int32 → Int32 → Option Sg
  | 0, _, _, _, _, _ => none
  | d + 1, s0, a0, x1, x2, x3 => eX0_link n (mX0_link n d) s0 a0 x1 x2 x3
theorem oX0_link {n d : Nat} {P : Sg → Prop} {s0 : Sg} {a0 : Nat} {x1 : Int32} {x2 : Int32} {x3 : Int32} (h : Ok (mX0_link n d s0 a0 x1 x2 x3) P) : ∃ n0, s0.2.1 a0 = some (0, n0) := by
  cases d with
  | zero => exact (Ok.no h).elim
  | succ d =>
    have h : Ok (eX0_link n (mX0_link n d) s0 a0 x1 x2 x3) P := h
    unfold eX0_link at h
    exact Ok.isO h
theorem DgX0_link {G : Cx} {n : Nat} : ∀ d : Nat, (∀ {P : Sg → Prop} {s0 : Sg} {a0 : Nat} {x1 : Int32} {x2 : Int32} {x3 : Int32}, Ok (mX0_link n d s0 a0 x1 x2 x3) P → BM G tX0_link (3 + d) (69 + d * 26) 0 0 [.ref a0, .int x1, .int x2, .int x3] s0 (fun v s => v = none ∧ P s)) := by
  intro d
  induction d with
  | zero => exact fun h => (Ok.no h).elim
  | succ d ih =>
    intro P s0 a0 x1 x2 x3 h
    have h : Ok (eX0_link n (mX0_link n d) s0 a0 x1 x2 x3) P := h
    refine BM.of (by decide +kernel) (Nat.le_of_ble_eq_true rfl) ?_
    exact bX0_link (E := (({ frames := 3 + (d + 1), cells := 0, slots := 0, locals := 69 + (d + 1) * 26 }), Aof s0, 0, 0, (fun v s => v = none ∧ P s))) (fun h => ih h) (fun h => oX0_link h) ⟨by show _ + d + 1 ≤ _ + (d + 1); omega, by show 8 + (7 + 11) + (_ + d * _) ≤ _ + (d + 1) * _; omega⟩ ⟨by show _ ≤ _ + (d + 1); omega, by show _ ≤ _ + (d + 1) * _; omega⟩ (fun s hp => ⟨rfl, hp⟩) h
theorem DX0_link {G : Cx} {n : Nat} {d : Nat} {P : Sg → Prop} {s0 : Sg} {a0 : Nat} {x1 : Int32} {x2 : Int32} {x3 : Int32} (h : Ok (mX0_link n d s0 a0 x1 x2 x3) P) : BM G tX0_link (3 + d) (69 + d * 26) 0 0 [.ref a0, .int x1, .int x2, .int x3] s0 (fun v s => v = none ∧ P s) := (DgX0_link d) h
def mX10_moves_115 (n : Nat) (rX10_moves : Sg → Nat → Int32 → Option Sg) (rX10_move : Sg → Nat → Int32 → Int32 → Int32 → Option Sg) (s0 : Sg) (t0 : Int32) (a0 : Nat) (x1 : Int32) (x2 : Int32) : Option ((Sg × Int32 × Int32) ⊕ (Sg × Int32)) :=
  some (.inl (s0, x2, t0))
theorem bX10_moves_115 {G : Cx} {E : Ev} {n : Nat} {rX10_moves : Sg → Nat → Int32 → Option Sg} {frX10_moves loX10_moves : Nat} {rX10_move : Sg → Nat → Int32 → Int32 → Int32 → Option Sg} {frX10_move loX10_move : Nat} (hrX10_moves : ∀ {P : Sg → Prop} {s0 : Sg} {a0 : Nat} {x1 : Int32}, Ok (rX10_moves s0 a0 x1) P → BM G tX10_moves frX10_moves loX10_moves 0 0 [.ref a0, .int x1] s0 (fun v s => v = none ∧ P s)) (hoX10_moves : ∀ {P : Sg → Prop} {s0 : Sg} {a0 : Nat} {x1 : Int32}, Ok (rX10_moves s0 a0 x1) P → ∃ n0, s0.2.1 a0 = some (10, n0)) (hfX10_moves : frX10_moves + 1 ≤ E.1.frames ∧ 8 + (5 + 11) + loX10_moves ≤ E.1.locals) (hrX10_move : ∀ {P : Sg → Prop} {s0 : Sg} {a0 : Nat} {x1 : Int32} {x2 : Int32} {x3 : Int32}, Ok (rX10_move s0 a0 x1 x2 x3) P → BM G tX10_move frX10_move loX10_move 0 0 [.ref a0, .int x1, .int x2, .int x3] s0 (fun v s => v = none ∧ P s)) (hoX10_move : ∀ {P : Sg → Prop} {s0 : Sg} {a0 : Nat} {x1 : Int32} {x2 : Int32} {x3 : Int32}, Ok (rX10_move s0 a0 x1 x2 x3) P → ∃ n0, s0.2.1 a0 = some (10, n0)) (hfX10_move : frX10_move + 1 ≤ E.1.frames ∧ 8 + (6 + 11) + loX10_move ≤ E.1.locals) (hRm : 2 ≤ E.1.frames ∧ 40 ≤ E.1.locals) {s0 : Sg} {t0 : Int32} {a0 : Nat} {x1 : Int32} {x2 : Int32} {P : (Sg × Int32 × Int32) ⊕ (Sg × Int32) → Prop} (hC : ∀ (s : Sg) (c2 : Int32) (c3 : Int32), P (.inl (s, c2, c3)) → BW G tX10_moves E 0 0 19 [(0, .ref a0), (1, .int x1), (2, .int c2), (3, .int c3)] [] s) (hE : ∀ (s : Sg) (c2 : Int32), P (.inr (s, c2)) → BW G tX10_moves E 0 0 119 [(0, .ref a0), (2, .int c2)] [] s)  (h : Ok (mX10_moves_115 n rX10_moves rX10_move s0 t0 a0 x1 x2) P) : BW G tX10_moves E 0 0 115 [(0, .ref a0), (1, .int x1), (2, .int x2)] [.int t0] s0 := by
  unfold mX10_moves_115 at h
  refine BW.run [.istore_n 3] (pc' := 116) (lv' := [(0, .ref a0), (1, .int x1), (2, .int x2), (3, .int t0)]) (st' := []) (by decide +kernel) rfl rfl ?_
  refine BW.goto 19 (by decide +kernel : decode tX10_moves.2.1 116 = .ok (.goto (-97), 3)) (by decide) ?_
  exact hC _ _ _ (Ok.some h)
def mX10_moves_88 (n : Nat) (rX10_moves : Sg → Nat → Int32 → Option Sg) (rX10_move : Sg → Nat → Int32 → Int32 → Int32 → Option Sg) (s0 : Sg) (a0 : Nat) (x1 : Int32) (x2 : Int32) (x3 : Int32) (x4 : Int32) : Option ((Sg × Int32 × Int32) ⊕ (Sg × Int32)) :=
  (rX10_move s0 a0 x3 x4 x1).bind fun s6 =>
  (toI (gV 10 s6 a0 7)).bind fun v7 =>
  if v7 = (-1 : Int32) then (
    (mX10_look n s6 a0).bind fun (v9, s8) =>
    mX10_moves_115 n rX10_moves rX10_move s8 v9 a0 x1 (x2 + (1 : Int32))
  ) else (
    mX10_moves_115 n rX10_moves rX10_move s6 (-1 : Int32) a0 x1 (x2 + (1 : Int32))
  )
theorem bX10_moves_88 {G : Cx} {E : Ev} {n : Nat} {rX10_moves : Sg → Nat → Int32 → Option Sg} {frX10_moves loX10_moves : Nat} {rX10_move : Sg → Nat → Int32 → Int32 → Int32 → Option Sg} {frX10_move loX10_move : Nat} (hrX10_moves : ∀ {P : Sg → Prop} {s0 : Sg} {a0 : Nat} {x1 : Int32}, Ok (rX10_moves s0 a0 x1) P → BM G tX10_moves frX10_moves loX10_moves 0 0 [.ref a0, .int x1] s0 (fun v s => v = none ∧ P s)) (hoX10_moves : ∀ {P : Sg → Prop} {s0 : Sg} {a0 : Nat} {x1 : Int32}, Ok (rX10_moves s0 a0 x1) P → ∃ n0, s0.2.1 a0 = some (10, n0)) (hfX10_moves : frX10_moves + 1 ≤ E.1.frames ∧ 8 + (5 + 11) + loX10_moves ≤ E.1.locals) (hrX10_move : ∀ {P : Sg → Prop} {s0 : Sg} {a0 : Nat} {x1 : Int32} {x2 : Int32} {x3 : Int32}, Ok (rX10_move s0 a0 x1 x2 x3) P → BM G tX10_move frX10_move loX10_move 0 0 [.ref a0, .int x1, .int x2, .int x3] s0 (fun v s => v = none ∧ P s)) (hoX10_move : ∀ {P : Sg → Prop} {s0 : Sg} {a0 : Nat} {x1 : Int32} {x2 : Int32} {x3 : Int32}, Ok (rX10_move s0 a0 x1 x2 x3) P → ∃ n0, s0.2.1 a0 = some (10, n0)) (hfX10_move : frX10_move + 1 ≤ E.1.frames ∧ 8 + (6 + 11) + loX10_move ≤ E.1.locals) (hRm : 2 ≤ E.1.frames ∧ 40 ≤ E.1.locals) {s0 : Sg} {a0 : Nat} {x1 : Int32} {x2 : Int32} {x3 : Int32} {x4 : Int32} {P : (Sg × Int32 × Int32) ⊕ (Sg × Int32) → Prop} (hC : ∀ (s : Sg) (c2 : Int32) (c3 : Int32), P (.inl (s, c2, c3)) → BW G tX10_moves E 0 0 19 [(0, .ref a0), (1, .int x1), (2, .int c2), (3, .int c3)] [] s) (hE : ∀ (s : Sg) (c2 : Int32), P (.inr (s, c2)) → BW G tX10_moves E 0 0 119 [(0, .ref a0), (2, .int c2)] [] s)  (h : Ok (mX10_moves_88 n rX10_moves rX10_move s0 a0 x1 x2 x3 x4) P) : BW G tX10_moves E 0 0 88 [(0, .ref a0), (1, .int x1), (2, .int x2), (3, .int x3), (4, .int x4)] [] s0 := by
  unfold mX10_moves_88 at h
  refine BW.run [.aload_n 0, .iload_n 3, .iload 4, .iload_n 1] (pc' := 93) (lv' := [(0, .ref a0), (1, .int x1), (2, .int x2), (3, .int x3), (4, .int x4)]) (st' := [.int x1, .int x4, .int x3, .ref a0]) (by decide +kernel) rfl rfl ?_
  refine BW.callV (As := [.int x3, .int x4, .int x1]) (st := []) (by decide +kernel : decode tX10_moves.2.1 93 = .ok (.invokevirtual 120, 3)) (hrX10_move (Ok.bindK h)) mfX10_move lkM_X10_120 imX10_move selX10_move ciX10 (hoX10_move (Ok.bindK h)).choose_spec rfl rfl (Nat.le_of_ble_eq_true rfl) hfX10_move ⟨Nat.zero_le _, Nat.zero_le _⟩ ?_
  rintro _ s6 ⟨rfl, h⟩
  show BW G tX10_moves E 0 0 96 [(0, .ref a0), (1, .int x1), (2, .int x2), (3, .int x3), (4, .int x4)] [] s6
  refine BW.run [.iinc 2 1, .aload_n 0] (pc' := 100) (lv' := [(0, .ref a0), (1, .int x1), (2, .int (x2 + (1 : Int32))), (3, .int x3), (4, .int x4)]) (st' := [.ref a0]) (by decide +kernel) rfl rfl ?_
  obtain ⟨v7, ev7, h⟩ := Ok.bind h
  refine BW.get (by decide +kernel : decode tX10_moves.2.1 100 = .ok (.getfield 104, 3)) ciX10 (k := 7) (by decide) lkF_X10_104 (toI_V ev7) ?_
  refine BW.run [.iconst (-1)] (pc' := 104) (lv' := [(0, .ref a0), (1, .int x1), (2, .int (x2 + (1 : Int32))), (3, .int x3), (4, .int x4)]) (st' := [.int (-1 : Int32), .int v7]) (by decide +kernel) rfl rfl ?_
  refine BW.icmp_ne 114 (by decide +kernel : decode tX10_moves.2.1 104 = .ok (.if_icmp .ne 10, 3)) (by decide) (fun hc => ?_) (fun hc => ?_)
  · have h := (Ok.ite h).2 hc
    refine BW.run [.iconst (-1)] (pc' := 115) (lv' := [(0, .ref a0), (1, .int x1), (2, .int (x2 + (1 : Int32))), (3, .int x3), (4, .int x4)]) (st' := [.int (-1 : Int32)]) (by decide +kernel) rfl rfl ?_
    refine BW.sub [0, 1, 2] rfl ?_
    exact bX10_moves_115 hrX10_moves hoX10_moves hfX10_moves hrX10_move hoX10_move hfX10_move hRm hC hE h
  · have h := (Ok.ite h).1 hc
    refine BW.run [.aload_n 0] (pc' := 108) (lv' := [(0, .ref a0), (1, .int x1), (2, .int (x2 + (1 : Int32))), (3, .int x3), (4, .int x4)]) (st' := [.ref a0]) (by decide +kernel) rfl rfl ?_
    refine BW.callV (As := []) (st := []) (by decide +kernel : decode tX10_moves.2.1 108 = .ok (.invokevirtual 107, 3)) (DX10_look (Ok.bindK h)) mfX10_look lkM_X10_107 imX10_look selX10_look ciX10 (oX10_look (Ok.bindK h)).choose_spec rfl rfl (Nat.le_of_ble_eq_true rfl) ⟨Nat.le_trans (by decide) hRm.1, Nat.le_trans (by decide) hRm.2⟩ ⟨Nat.zero_le _, Nat.zero_le _⟩ ?_
    rintro _ s8 ⟨v9, rfl, h⟩
    show BW G tX10_moves E 0 0 111 [(0, .ref a0), (1, .int x1), (2, .int (x2 + (1 : Int32))), (3, .int x3), (4, .int x4)] [.int v9] s8
    refine BW.goto 115 (by decide +kernel : decode tX10_moves.2.1 111 = .ok (.goto 4, 3)) (by decide) ?_
    refine BW.sub [0, 1, 2] rfl ?_
    exact bX10_moves_115 hrX10_moves hoX10_moves hfX10_moves hrX10_move hoX10_move hfX10_move hRm hC hE h
def mX10_moves_52 (n : Nat) (rX10_moves : Sg → Nat → Int32 → Option Sg) (rX10_move : Sg → Nat → Int32 → Int32 → Int32 → Option Sg) (s0 : Sg) (a0 : Nat) (x1 : Int32) (x2 : Int32) (x3 : Int32) : Option ((Sg × Int32 × Int32) ⊕ (Sg × Int32)) :=
  if x3 < (50 : Int32) then (
    mX10_moves_88 n rX10_moves rX10_move s0 a0 x1 x2 x3 (1 : Int32)
  ) else (
    if (57 : Int32) < x3 then (
      mX10_moves_88 n rX10_moves rX10_move s0 a0 x1 x2 x3 (1 : Int32)
    ) else (
      nm (x3 - (48 : Int32)) fun v11 =>
      (toI (gV 10 s0 a0 6)).bind fun v12 =>
      (pV 10 s0 a0 6 (.int (v12 + (1 : Int32)))).bind fun s13 =>
      (mX10_look n s13 a0).bind fun (v15, s14) =>
      mX10_moves_88 n rX10_moves rX10_move s14 a0 x1 x2 v15 v11
    )
  )
theorem bX10_moves_52 {G : Cx} {E : Ev} {n : Nat} {rX10_moves : Sg → Nat → Int32 → Option Sg} {frX10_moves loX10_moves : Nat} {rX10_move : Sg → Nat → Int32 → Int32 → Int32 → Option Sg} {frX10_move loX10_move : Nat} (hrX10_moves : ∀ {P : Sg → Prop} {s0 : Sg} {a0 : Nat} {x1 : Int32}, Ok (rX10_moves s0 a0 x1) P → BM G tX10_moves frX10_moves loX10_moves 0 0 [.ref a0, .int x1] s0 (fun v s => v = none ∧ P s)) (hoX10_moves : ∀ {P : Sg → Prop} {s0 : Sg} {a0 : Nat} {x1 : Int32}, Ok (rX10_moves s0 a0 x1) P → ∃ n0, s0.2.1 a0 = some (10, n0)) (hfX10_moves : frX10_moves + 1 ≤ E.1.frames ∧ 8 + (5 + 11) + loX10_moves ≤ E.1.locals) (hrX10_move : ∀ {P : Sg → Prop} {s0 : Sg} {a0 : Nat} {x1 : Int32} {x2 : Int32} {x3 : Int32}, Ok (rX10_move s0 a0 x1 x2 x3) P → BM G tX10_move frX10_move loX10_move 0 0 [.ref a0, .int x1, .int x2, .int x3] s0 (fun v s => v = none ∧ P s)) (hoX10_move : ∀ {P : Sg → Prop} {s0 : Sg} {a0 : Nat} {x1 : Int32} {x2 : Int32} {x3 : Int32}, Ok (rX10_move s0 a0 x1 x2 x3) P → ∃ n0, s0.2.1 a0 = some (10, n0)) (hfX10_move : frX10_move + 1 ≤ E.1.frames ∧ 8 + (6 + 11) + loX10_move ≤ E.1.locals) (hRm : 2 ≤ E.1.frames ∧ 40 ≤ E.1.locals) {s0 : Sg} {a0 : Nat} {x1 : Int32} {x2 : Int32} {x3 : Int32} {P : (Sg × Int32 × Int32) ⊕ (Sg × Int32) → Prop} (hC : ∀ (s : Sg) (c2 : Int32) (c3 : Int32), P (.inl (s, c2, c3)) → BW G tX10_moves E 0 0 19 [(0, .ref a0), (1, .int x1), (2, .int c2), (3, .int c3)] [] s) (hE : ∀ (s : Sg) (c2 : Int32), P (.inr (s, c2)) → BW G tX10_moves E 0 0 119 [(0, .ref a0), (2, .int c2)] [] s)  (h : Ok (mX10_moves_52 n rX10_moves rX10_move s0 a0 x1 x2 x3) P) : BW G tX10_moves E 0 0 52 [(0, .ref a0), (1, .int x1), (2, .int x2), (3, .int x3)] [] s0 := by
  unfold mX10_moves_52 at h
  refine BW.run [.iconst 1, .istore 4, .iload_n 3, .bipush 50] (pc' := 58) (lv' := [(0, .ref a0), (1, .int x1), (2, .int x2), (3, .int x3), (4, .int (1 : Int32))]) (st' := [.int (50 : Int32), .int x3]) (by decide +kernel) rfl rfl ?_
  refine BW.icmp_lt 88 (by decide +kernel : decode tX10_moves.2.1 58 = .ok (.if_icmp .lt 30, 3)) (by decide) (fun hc => ?_) (fun hc => ?_)
  · have h := (Ok.ite h).1 hc
    exact bX10_moves_88 hrX10_moves hoX10_moves hfX10_moves hrX10_move hoX10_move hfX10_move hRm hC hE h
  · have h := (Ok.ite h).2 hc
    refine BW.run [.iload_n 3, .bipush 57] (pc' := 64) (lv' := [(0, .ref a0), (1, .int x1), (2, .int x2), (3, .int x3), (4, .int (1 : Int32))]) (st' := [.int (57 : Int32), .int x3]) (by decide +kernel) rfl rfl ?_
    refine BW.icmp_gt 88 (by decide +kernel : decode tX10_moves.2.1 64 = .ok (.if_icmp .gt 24, 3)) (by decide) (fun hc => ?_) (fun hc => ?_)
    · have h := (Ok.ite h).1 hc
      exact bX10_moves_88 hrX10_moves hoX10_moves hfX10_moves hrX10_move hoX10_move hfX10_move hRm hC hE h
    · have h := (Ok.ite h).2 hc
      refine BW.run [.iload_n 3, .bipush 48, .isub] (pc' := 71) (lv' := [(0, .ref a0), (1, .int x1), (2, .int x2), (3, .int x3), (4, .int (1 : Int32))]) (st' := [.int (x3 - (48 : Int32))]) (by decide +kernel) rfl rfl ?_
      obtain ⟨v11, wv11, h⟩ := Ok.nm h
      refine BW.nm wv11 ?_
      refine BW.run [.istore 4, .aload_n 0, .dup] (pc' := 75) (lv' := [(0, .ref a0), (1, .int x1), (2, .int x2), (3, .int x3), (4, .int v11)]) (st' := [.ref a0, .ref a0]) (by decide +kernel) rfl rfl ?_
      obtain ⟨v12, ev12, h⟩ := Ok.bind h
      refine BW.get (by decide +kernel : decode tX10_moves.2.1 75 = .ok (.getfield 97, 3)) ciX10 (k := 6) (by decide) lkF_X10_97 (toI_V ev12) ?_
      refine BW.run [.iconst 1, .iadd] (pc' := 80) (lv' := [(0, .ref a0), (1, .int x1), (2, .int x2), (3, .int x3), (4, .int v11)]) (st' := [.int (v12 + (1 : Int32)), .ref a0]) (by decide +kernel) rfl rfl ?_
      obtain ⟨s13, es13, h⟩ := Ok.bind h
      refine BW.put (by decide +kernel : decode tX10_moves.2.1 80 = .ok (.putfield 97, 3)) ciX10 (k := 6) (by decide) lkF_X10_97 rfl rfl rfl es13 ?_
      refine BW.run [.aload_n 0] (pc' := 84) (lv' := [(0, .ref a0), (1, .int x1), (2, .int x2), (3, .int x3), (4, .int v11)]) (st' := [.ref a0]) (by decide +kernel) rfl rfl ?_
      refine BW.callV (As := []) (st := []) (by decide +kernel : decode tX10_moves.2.1 84 = .ok (.invokevirtual 107, 3)) (DX10_look (Ok.bindK h)) mfX10_look lkM_X10_107 imX10_look selX10_look ciX10 (oX10_look (Ok.bindK h)).choose_spec rfl rfl (Nat.le_of_ble_eq_true rfl) ⟨Nat.le_trans (by decide) hRm.1, Nat.le_trans (by decide) hRm.2⟩ ⟨Nat.zero_le _, Nat.zero_le _⟩ ?_
      rintro _ s14 ⟨v15, rfl, h⟩
      show BW G tX10_moves E 0 0 87 [(0, .ref a0), (1, .int x1), (2, .int x2), (3, .int x3), (4, .int v11)] [.int v15] s14
      refine BW.run [.istore_n 3] (pc' := 88) (lv' := [(0, .ref a0), (1, .int x1), (2, .int x2), (3, .int v15), (4, .int v11)]) (st' := []) (by decide +kernel) rfl rfl ?_
      exact bX10_moves_88 hrX10_moves hoX10_moves hfX10_moves hrX10_move hoX10_move hfX10_move hRm hC hE h
def mX10_moves_L19 (n : Nat) (rX10_moves : Sg → Nat → Int32 → Option Sg) (rX10_move : Sg → Nat → Int32 → Int32 → Int32 → Option Sg) (a0 : Nat) (x1 : Int32) : (Sg × Int32 × Int32) → Option ((Sg × Int32 × Int32) ⊕ (Sg × Int32))
  | (s0, x2, x3) =>
    (toI (gV 10 s0 a0 7)).bind fun v2 =>
    if v2 = (-1 : Int32) then (
      (mX10_isStep n s0 x3).bind fun (v4, s3) =>
      if v4 = 0 then (
        if x3 = (40 : Int32) then (
          mX10_moves_52 n rX10_moves rX10_move s3 a0 x1 x2 x3
        ) else (
          if x3 < (50 : Int32) then (
            some (.inr (s3, x2))
          ) else (
            if (57 : Int32) < x3 then (
              some (.inr (s3, x2))
            ) else (
              mX10_moves_52 n rX10_moves rX10_move s3 a0 x1 x2 x3
            )
          )
        )
      ) else (
        mX10_moves_52 n rX10_moves rX10_move s3 a0 x1 x2 x3
      )
    ) else (
      some (.inr (s0, x2))
    )
theorem bX10_moves_L19 {G : Cx} {E : Ev} {n : Nat} {rX10_moves : Sg → Nat → Int32 → Option Sg} {frX10_moves loX10_moves : Nat} {rX10_move : Sg → Nat → Int32 → Int32 → Int32 → Option Sg} {frX10_move loX10_move : Nat} (hrX10_moves : ∀ {P : Sg → Prop} {s0 : Sg} {a0 : Nat} {x1 : Int32}, Ok (rX10_moves s0 a0 x1) P → BM G tX10_moves frX10_moves loX10_moves 0 0 [.ref a0, .int x1] s0 (fun v s => v = none ∧ P s)) (hoX10_moves : ∀ {P : Sg → Prop} {s0 : Sg} {a0 : Nat} {x1 : Int32}, Ok (rX10_moves s0 a0 x1) P → ∃ n0, s0.2.1 a0 = some (10, n0)) (hfX10_moves : frX10_moves + 1 ≤ E.1.frames ∧ 8 + (5 + 11) + loX10_moves ≤ E.1.locals) (hrX10_move : ∀ {P : Sg → Prop} {s0 : Sg} {a0 : Nat} {x1 : Int32} {x2 : Int32} {x3 : Int32}, Ok (rX10_move s0 a0 x1 x2 x3) P → BM G tX10_move frX10_move loX10_move 0 0 [.ref a0, .int x1, .int x2, .int x3] s0 (fun v s => v = none ∧ P s)) (hoX10_move : ∀ {P : Sg → Prop} {s0 : Sg} {a0 : Nat} {x1 : Int32} {x2 : Int32} {x3 : Int32}, Ok (rX10_move s0 a0 x1 x2 x3) P → ∃ n0, s0.2.1 a0 = some (10, n0)) (hfX10_move : frX10_move + 1 ≤ E.1.frames ∧ 8 + (6 + 11) + loX10_move ≤ E.1.locals) (hRm : 2 ≤ E.1.frames ∧ 40 ≤ E.1.locals) {a0 : Nat} {x1 : Int32} {P : (Sg × Int32 × Int32) ⊕ (Sg × Int32) → Prop} (hC : ∀ (s : Sg) (c2 : Int32) (c3 : Int32), P (.inl (s, c2, c3)) → BW G tX10_moves E 0 0 19 [(0, .ref a0), (1, .int x1), (2, .int c2), (3, .int c3)] [] s) (hE : ∀ (s : Sg) (c2 : Int32), P (.inr (s, c2)) → BW G tX10_moves E 0 0 119 [(0, .ref a0), (2, .int c2)] [] s) {s0 : Sg} {x2 : Int32} {x3 : Int32} (h : Ok (mX10_moves_L19 n rX10_moves rX10_move a0 x1 (s0, x2, x3)) P) : BW G tX10_moves E 0 0 19 [(0, .ref a0), (1, .int x1), (2, .int x2), (3, .int x3)] [] s0 := by
  unfold mX10_moves_L19 at h
  refine BW.run [.aload_n 0] (pc' := 20) (lv' := [(0, .ref a0), (1, .int x1), (2, .int x2), (3, .int x3)]) (st' := [.ref a0]) (by decide +kernel) rfl rfl ?_
  obtain ⟨v2, ev2, h⟩ := Ok.bind h
  refine BW.get (by decide +kernel : decode tX10_moves.2.1 20 = .ok (.getfield 104, 3)) ciX10 (k := 7) (by decide) lkF_X10_104 (toI_V ev2) ?_
  refine BW.run [.iconst (-1)] (pc' := 24) (lv' := [(0, .ref a0), (1, .int x1), (2, .int x2), (3, .int x3)]) (st' := [.int (-1 : Int32), .int v2]) (by decide +kernel) rfl rfl ?_
  refine BW.icmp_ne 119 (by decide +kernel : decode tX10_moves.2.1 24 = .ok (.if_icmp .ne 95, 3)) (by decide) (fun hc => ?_) (fun hc => ?_)
  · have h := (Ok.ite h).2 hc
    refine BW.sub [0, 2] rfl ?_
    exact hE _ _ (Ok.some h)
  · have h := (Ok.ite h).1 hc
    refine BW.run [.iload_n 3] (pc' := 28) (lv' := [(0, .ref a0), (1, .int x1), (2, .int x2), (3, .int x3)]) (st' := [.int x3]) (by decide +kernel) rfl rfl ?_
    refine BW.callS (As := [.int x3]) (st := []) (by decide +kernel : decode tX10_moves.2.1 28 = .ok (.invokestatic 117, 3)) (DX10_isStep (Ok.bindK h)) mfX10_isStep lkM_X10_117 smX10_isStep rfl rfl (Nat.le_of_ble_eq_true rfl) ⟨Nat.le_trans (by decide) hRm.1, Nat.le_trans (by decide) hRm.2⟩ ⟨Nat.zero_le _, Nat.zero_le _⟩ ?_
    rintro _ s3 ⟨v4, rfl, h⟩
    show BW G tX10_moves E 0 0 31 [(0, .ref a0), (1, .int x1), (2, .int x2), (3, .int x3)] [.int v4] s3
    refine BW.if_ne 52 (by decide +kernel : decode tX10_moves.2.1 31 = .ok (.ifCond .ne 21, 3)) (by decide) (fun hc => ?_) (fun hc => ?_)
    · have h := (Ok.ite h).2 hc
      exact bX10_moves_52 hrX10_moves hoX10_moves hfX10_moves hrX10_move hoX10_move hfX10_move hRm hC hE h
    · have h := (Ok.ite h).1 hc
      refine BW.run [.iload_n 3, .bipush 40] (pc' := 37) (lv' := [(0, .ref a0), (1, .int x1), (2, .int x2), (3, .int x3)]) (st' := [.int (40 : Int32), .int x3]) (by decide +kernel) rfl rfl ?_
      refine BW.icmp_eq 52 (by decide +kernel : decode tX10_moves.2.1 37 = .ok (.if_icmp .eq 15, 3)) (by decide) (fun hc => ?_) (fun hc => ?_)
      · have h := (Ok.ite h).1 hc
        exact bX10_moves_52 hrX10_moves hoX10_moves hfX10_moves hrX10_move hoX10_move hfX10_move hRm hC hE h
      · have h := (Ok.ite h).2 hc
        refine BW.run [.iload_n 3, .bipush 50] (pc' := 43) (lv' := [(0, .ref a0), (1, .int x1), (2, .int x2), (3, .int x3)]) (st' := [.int (50 : Int32), .int x3]) (by decide +kernel) rfl rfl ?_
        refine BW.icmp_lt 119 (by decide +kernel : decode tX10_moves.2.1 43 = .ok (.if_icmp .lt 76, 3)) (by decide) (fun hc => ?_) (fun hc => ?_)
        · have h := (Ok.ite h).1 hc
          refine BW.sub [0, 2] rfl ?_
          exact hE _ _ (Ok.some h)
        · have h := (Ok.ite h).2 hc
          refine BW.run [.iload_n 3, .bipush 57] (pc' := 49) (lv' := [(0, .ref a0), (1, .int x1), (2, .int x2), (3, .int x3)]) (st' := [.int (57 : Int32), .int x3]) (by decide +kernel) rfl rfl ?_
          refine BW.icmp_gt 119 (by decide +kernel : decode tX10_moves.2.1 49 = .ok (.if_icmp .gt 70, 3)) (by decide) (fun hc => ?_) (fun hc => ?_)
          · have h := (Ok.ite h).1 hc
            refine BW.sub [0, 2] rfl ?_
            exact hE _ _ (Ok.some h)
          · have h := (Ok.ite h).2 hc
            exact bX10_moves_52 hrX10_moves hoX10_moves hfX10_moves hrX10_move hoX10_move hfX10_move hRm hC hE h
theorem bX10_moves_W19 {G : Cx} {E : Ev} {n : Nat} {rX10_moves : Sg → Nat → Int32 → Option Sg} {frX10_moves loX10_moves : Nat} {rX10_move : Sg → Nat → Int32 → Int32 → Int32 → Option Sg} {frX10_move loX10_move : Nat} (hrX10_moves : ∀ {P : Sg → Prop} {s0 : Sg} {a0 : Nat} {x1 : Int32}, Ok (rX10_moves s0 a0 x1) P → BM G tX10_moves frX10_moves loX10_moves 0 0 [.ref a0, .int x1] s0 (fun v s => v = none ∧ P s)) (hoX10_moves : ∀ {P : Sg → Prop} {s0 : Sg} {a0 : Nat} {x1 : Int32}, Ok (rX10_moves s0 a0 x1) P → ∃ n0, s0.2.1 a0 = some (10, n0)) (hfX10_moves : frX10_moves + 1 ≤ E.1.frames ∧ 8 + (5 + 11) + loX10_moves ≤ E.1.locals) (hrX10_move : ∀ {P : Sg → Prop} {s0 : Sg} {a0 : Nat} {x1 : Int32} {x2 : Int32} {x3 : Int32}, Ok (rX10_move s0 a0 x1 x2 x3) P → BM G tX10_move frX10_move loX10_move 0 0 [.ref a0, .int x1, .int x2, .int x3] s0 (fun v s => v = none ∧ P s)) (hoX10_move : ∀ {P : Sg → Prop} {s0 : Sg} {a0 : Nat} {x1 : Int32} {x2 : Int32} {x3 : Int32}, Ok (rX10_move s0 a0 x1 x2 x3) P → ∃ n0, s0.2.1 a0 = some (10, n0)) (hfX10_move : frX10_move + 1 ≤ E.1.frames ∧ 8 + (6 + 11) + loX10_move ≤ E.1.locals) (hRm : 2 ≤ E.1.frames ∧ 40 ≤ E.1.locals) {a0 : Nat} {x1 : Int32} {K : (Sg × Int32) → Prop} (hE : ∀ (s : Sg) (c2 : Int32), K (s, c2) → BW G tX10_moves E 0 0 119 [(0, .ref a0), (2, .int c2)] [] s) : ∀ (f : Nat) (c : Sg × Int32 × Int32), Ok (loopM (mX10_moves_L19 n rX10_moves rX10_move a0 x1) f c) K → match c with | (s0, x2, x3) => BW G tX10_moves E 0 0 19 [(0, .ref a0), (1, .int x1), (2, .int x2), (3, .int x3)] [] s0 := by
  intro f
  induction f with
  | zero => intro c h; exact (Ok.no h).elim
  | succ f ih =>
    intro c h
    obtain ⟨s0, x2, x3⟩ := c
    exact bX10_moves_L19 (P := loopP (mX10_moves_L19 n rX10_moves rX10_move a0 x1) f K) hrX10_moves hoX10_moves hfX10_moves hrX10_move hoX10_move hfX10_move hRm (fun s c2 c3 h => ih (s, c2, c3) h) hE (loopM_ok h)
def mX10_moves_119 (n : Nat) (rX10_moves : Sg → Nat → Int32 → Option Sg) (rX10_move : Sg → Nat → Int32 → Int32 → Int32 → Option Sg) (s0 : Sg) (a0 : Nat) (x2 : Int32) : Option (Sg) :=
  if x2 = 0 then (
    (mX10_bad n s0 a0).bind fun s20 =>
    some s20
  ) else (
    some s0
  )
theorem bX10_moves_119 {G : Cx} {E : Ev} {n : Nat} {rX10_moves : Sg → Nat → Int32 → Option Sg} {frX10_moves loX10_moves : Nat} {rX10_move : Sg → Nat → Int32 → Int32 → Int32 → Option Sg} {frX10_move loX10_move : Nat} (hrX10_moves : ∀ {P : Sg → Prop} {s0 : Sg} {a0 : Nat} {x1 : Int32}, Ok (rX10_moves s0 a0 x1) P → BM G tX10_moves frX10_moves loX10_moves 0 0 [.ref a0, .int x1] s0 (fun v s => v = none ∧ P s)) (hoX10_moves : ∀ {P : Sg → Prop} {s0 : Sg} {a0 : Nat} {x1 : Int32}, Ok (rX10_moves s0 a0 x1) P → ∃ n0, s0.2.1 a0 = some (10, n0)) (hfX10_moves : frX10_moves + 1 ≤ E.1.frames ∧ 8 + (5 + 11) + loX10_moves ≤ E.1.locals) (hrX10_move : ∀ {P : Sg → Prop} {s0 : Sg} {a0 : Nat} {x1 : Int32} {x2 : Int32} {x3 : Int32}, Ok (rX10_move s0 a0 x1 x2 x3) P → BM G tX10_move frX10_move loX10_move 0 0 [.ref a0, .int x1, .int x2, .int x3] s0 (fun v s => v = none ∧ P s)) (hoX10_move : ∀ {P : Sg → Prop} {s0 : Sg} {a0 : Nat} {x1 : Int32} {x2 : Int32} {x3 : Int32}, Ok (rX10_move s0 a0 x1 x2 x3) P → ∃ n0, s0.2.1 a0 = some (10, n0)) (hfX10_move : frX10_move + 1 ≤ E.1.frames ∧ 8 + (6 + 11) + loX10_move ≤ E.1.locals) (hRm : 2 ≤ E.1.frames ∧ 40 ≤ E.1.locals) {s0 : Sg} {a0 : Nat} {x2 : Int32} {P : Sg → Prop} (hQ : ∀ s, P s → E.2.2.2.2 none s) (h : Ok (mX10_moves_119 n rX10_moves rX10_move s0 a0 x2) P) : BW G tX10_moves E 0 0 119 [(0, .ref a0), (2, .int x2)] [] s0 := by
  unfold mX10_moves_119 at h
  refine BW.run [.iload_n 2] (pc' := 120) (lv' := [(0, .ref a0), (2, .int x2)]) (st' := [.int x2]) (by decide +kernel) rfl rfl ?_
  refine BW.if_ne 127 (by decide +kernel : decode tX10_moves.2.1 120 = .ok (.ifCond .ne 7, 3)) (by decide) (fun hc => ?_) (fun hc => ?_)
  · have h := (Ok.ite h).2 hc
    exact BW.vret (by decide +kernel : decode tX10_moves.2.1 127 = .ok (.return_, 1)) rfl (Nat.zero_le _) (Nat.zero_le _) (hQ _ (Ok.some h))
  · have h := (Ok.ite h).1 hc
    refine BW.run [.aload_n 0] (pc' := 124) (lv' := [(0, .ref a0), (2, .int x2)]) (st' := [.ref a0]) (by decide +kernel) rfl rfl ?_
    refine BW.callV (As := []) (st := []) (by decide +kernel : decode tX10_moves.2.1 124 = .ok (.invokevirtual 110, 3)) (DX10_bad (Ok.bindK h)) mfX10_bad lkM_X10_110 imX10_bad selX10_bad ciX10 (oX10_bad (Ok.bindK h)).choose_spec rfl rfl (Nat.le_of_ble_eq_true rfl) ⟨Nat.le_trans (by decide) hRm.1, Nat.le_trans (by decide) hRm.2⟩ ⟨Nat.zero_le _, Nat.zero_le _⟩ ?_
    rintro _ s20 ⟨rfl, h⟩
    show BW G tX10_moves E 0 0 127 [(0, .ref a0), (2, .int x2)] [] s20
    exact BW.vret (by decide +kernel : decode tX10_moves.2.1 127 = .ok (.return_, 1)) rfl (Nat.zero_le _) (Nat.zero_le _) (hQ _ (Ok.some h))
def mX10_moves_18 (n : Nat) (rX10_moves : Sg → Nat → Int32 → Option Sg) (rX10_move : Sg → Nat → Int32 → Int32 → Int32 → Option Sg) (s0 : Sg) (t0 : Int32) (a0 : Nat) (x1 : Int32) (x2 : Int32) : Option (Sg) :=
  (loopM (mX10_moves_L19 n rX10_moves rX10_move a0 x1) n (s0, x2, t0)).bind fun (s17, v18) =>
  mX10_moves_119 n rX10_moves rX10_move s17 a0 v18
theorem bX10_moves_18 {G : Cx} {E : Ev} {n : Nat} {rX10_moves : Sg → Nat → Int32 → Option Sg} {frX10_moves loX10_moves : Nat} {rX10_move : Sg → Nat → Int32 → Int32 → Int32 → Option Sg} {frX10_move loX10_move : Nat} (hrX10_moves : ∀ {P : Sg → Prop} {s0 : Sg} {a0 : Nat} {x1 : Int32}, Ok (rX10_moves s0 a0 x1) P → BM G tX10_moves frX10_moves loX10_moves 0 0 [.ref a0, .int x1] s0 (fun v s => v = none ∧ P s)) (hoX10_moves : ∀ {P : Sg → Prop} {s0 : Sg} {a0 : Nat} {x1 : Int32}, Ok (rX10_moves s0 a0 x1) P → ∃ n0, s0.2.1 a0 = some (10, n0)) (hfX10_moves : frX10_moves + 1 ≤ E.1.frames ∧ 8 + (5 + 11) + loX10_moves ≤ E.1.locals) (hrX10_move : ∀ {P : Sg → Prop} {s0 : Sg} {a0 : Nat} {x1 : Int32} {x2 : Int32} {x3 : Int32}, Ok (rX10_move s0 a0 x1 x2 x3) P → BM G tX10_move frX10_move loX10_move 0 0 [.ref a0, .int x1, .int x2, .int x3] s0 (fun v s => v = none ∧ P s)) (hoX10_move : ∀ {P : Sg → Prop} {s0 : Sg} {a0 : Nat} {x1 : Int32} {x2 : Int32} {x3 : Int32}, Ok (rX10_move s0 a0 x1 x2 x3) P → ∃ n0, s0.2.1 a0 = some (10, n0)) (hfX10_move : frX10_move + 1 ≤ E.1.frames ∧ 8 + (6 + 11) + loX10_move ≤ E.1.locals) (hRm : 2 ≤ E.1.frames ∧ 40 ≤ E.1.locals) {s0 : Sg} {t0 : Int32} {a0 : Nat} {x1 : Int32} {x2 : Int32} {P : Sg → Prop} (hQ : ∀ s, P s → E.2.2.2.2 none s) (h : Ok (mX10_moves_18 n rX10_moves rX10_move s0 t0 a0 x1 x2) P) : BW G tX10_moves E 0 0 18 [(0, .ref a0), (1, .int x1), (2, .int x2)] [.int t0] s0 := by
  unfold mX10_moves_18 at h
  refine BW.run [.istore_n 3] (pc' := 19) (lv' := [(0, .ref a0), (1, .int x1), (2, .int x2), (3, .int t0)]) (st' := []) (by decide +kernel) rfl rfl ?_
  refine bX10_moves_W19 hrX10_moves hoX10_moves hfX10_moves hrX10_move hoX10_move hfX10_move hRm (a0 := a0) (x1 := x1) (fun s17 v18 h => ?_) n (s0, x2, t0) (Ok.bindK h)
  exact bX10_moves_119 hrX10_moves hoX10_moves hfX10_moves hrX10_move hoX10_move hfX10_move hRm hQ h
def eX10_moves (n : Nat) (rX10_moves : Sg → Nat → Int32 → Option Sg) (rX10_move : Sg → Nat → Int32 → Int32 → Int32 → Option Sg) (s0 : Sg) (a0 : Nat) (x1 : Int32) : Option (Sg) :=
  (isO 10 s0 a0).bind fun _ =>
  (toI (gV 10 s0 a0 7)).bind fun v1 =>
  if v1 = (-1 : Int32) then (
    (mX10_look n s0 a0).bind fun (v22, s21) =>
    mX10_moves_18 n rX10_moves rX10_move s21 v22 a0 x1 (0 : Int32)
  ) else (
    mX10_moves_18 n rX10_moves rX10_move s0 (-1 : Int32) a0 x1 (0 : Int32)
  )
theorem bX10_moves {G : Cx} {E : Ev} {n : Nat} {rX10_moves : Sg → Nat → Int32 → Option Sg} {frX10_moves loX10_moves : Nat} {rX10_move : Sg → Nat → Int32 → Int32 → Int32 → Option Sg} {frX10_move loX10_move : Nat} (hrX10_moves : ∀ {P : Sg → Prop} {s0 : Sg} {a0 : Nat} {x1 : Int32}, Ok (rX10_moves s0 a0 x1) P → BM G tX10_moves frX10_moves loX10_moves 0 0 [.ref a0, .int x1] s0 (fun v s => v = none ∧ P s)) (hoX10_moves : ∀ {P : Sg → Prop} {s0 : Sg} {a0 : Nat} {x1 : Int32}, Ok (rX10_moves s0 a0 x1) P → ∃ n0, s0.2.1 a0 = some (10, n0)) (hfX10_moves : frX10_moves + 1 ≤ E.1.frames ∧ 8 + (5 + 11) + loX10_moves ≤ E.1.locals) (hrX10_move : ∀ {P : Sg → Prop} {s0 : Sg} {a0 : Nat} {x1 : Int32} {x2 : Int32} {x3 : Int32}, Ok (rX10_move s0 a0 x1 x2 x3) P → BM G tX10_move frX10_move loX10_move 0 0 [.ref a0, .int x1, .int x2, .int x3] s0 (fun v s => v = none ∧ P s)) (hoX10_move : ∀ {P : Sg → Prop} {s0 : Sg} {a0 : Nat} {x1 : Int32} {x2 : Int32} {x3 : Int32}, Ok (rX10_move s0 a0 x1 x2 x3) P → ∃ n0, s0.2.1 a0 = some (10, n0)) (hfX10_move : frX10_move + 1 ≤ E.1.frames ∧ 8 + (6 + 11) + loX10_move ≤ E.1.locals) (hRm : 2 ≤ E.1.frames ∧ 40 ≤ E.1.locals) {P : Sg → Prop} (hQ : ∀ s, P s → E.2.2.2.2 none s) {s0 : Sg} {a0 : Nat} {x1 : Int32} (h : Ok (eX10_moves n rX10_moves rX10_move s0 a0 x1) P) : BW G tX10_moves E 0 0 0 [(0, .ref a0), (1, .int x1)] [] s0 := by
  unfold eX10_moves at h
  obtain ⟨_, _, h⟩ := Ok.bind h
  refine BW.run [.iconst 0, .istore_n 2, .aload_n 0] (pc' := 3) (lv' := [(0, .ref a0), (1, .int x1), (2, .int (0 : Int32))]) (st' := [.ref a0]) (by decide +kernel) rfl rfl ?_
  obtain ⟨v1, ev1, h⟩ := Ok.bind h
  refine BW.get (by decide +kernel : decode tX10_moves.2.1 3 = .ok (.getfield 104, 3)) ciX10 (k := 7) (by decide) lkF_X10_104 (toI_V ev1) ?_
  refine BW.run [.iconst (-1)] (pc' := 7) (lv' := [(0, .ref a0), (1, .int x1), (2, .int (0 : Int32))]) (st' := [.int (-1 : Int32), .int v1]) (by decide +kernel) rfl rfl ?_
  refine BW.icmp_ne 17 (by decide +kernel : decode tX10_moves.2.1 7 = .ok (.if_icmp .ne 10, 3)) (by decide) (fun hc => ?_) (fun hc => ?_)
  · have h := (Ok.ite h).2 hc
    refine BW.run [.iconst (-1)] (pc' := 18) (lv' := [(0, .ref a0), (1, .int x1), (2, .int (0 : Int32))]) (st' := [.int (-1 : Int32)]) (by decide +kernel) rfl rfl ?_
    exact bX10_moves_18 hrX10_moves hoX10_moves hfX10_moves hrX10_move hoX10_move hfX10_move hRm hQ h
  · have h := (Ok.ite h).1 hc
    refine BW.run [.aload_n 0] (pc' := 11) (lv' := [(0, .ref a0), (1, .int x1), (2, .int (0 : Int32))]) (st' := [.ref a0]) (by decide +kernel) rfl rfl ?_
    refine BW.callV (As := []) (st := []) (by decide +kernel : decode tX10_moves.2.1 11 = .ok (.invokevirtual 107, 3)) (DX10_look (Ok.bindK h)) mfX10_look lkM_X10_107 imX10_look selX10_look ciX10 (oX10_look (Ok.bindK h)).choose_spec rfl rfl (Nat.le_of_ble_eq_true rfl) ⟨Nat.le_trans (by decide) hRm.1, Nat.le_trans (by decide) hRm.2⟩ ⟨Nat.zero_le _, Nat.zero_le _⟩ ?_
    rintro _ s21 ⟨v22, rfl, h⟩
    show BW G tX10_moves E 0 0 14 [(0, .ref a0), (1, .int x1), (2, .int (0 : Int32))] [.int v22] s21
    refine BW.goto 18 (by decide +kernel : decode tX10_moves.2.1 14 = .ok (.goto 4, 3)) (by decide) ?_
    exact bX10_moves_18 hrX10_moves hoX10_moves hfX10_moves hrX10_move hoX10_move hfX10_move hRm hQ h
def mX10_move_56 (n : Nat) (rX10_moves : Sg → Nat → Int32 → Option Sg) (rX10_move : Sg → Nat → Int32 → Int32 → Int32 → Option Sg) (s0 : Sg) (a0 : Nat) : Option (Sg) :=
  (mX10_bad n s0 a0).bind fun s4 =>
  some s4
theorem bX10_move_56 {G : Cx} {E : Ev} {n : Nat} {rX10_moves : Sg → Nat → Int32 → Option Sg} {frX10_moves loX10_moves : Nat} {rX10_move : Sg → Nat → Int32 → Int32 → Int32 → Option Sg} {frX10_move loX10_move : Nat} (hrX10_moves : ∀ {P : Sg → Prop} {s0 : Sg} {a0 : Nat} {x1 : Int32}, Ok (rX10_moves s0 a0 x1) P → BM G tX10_moves frX10_moves loX10_moves 0 0 [.ref a0, .int x1] s0 (fun v s => v = none ∧ P s)) (hoX10_moves : ∀ {P : Sg → Prop} {s0 : Sg} {a0 : Nat} {x1 : Int32}, Ok (rX10_moves s0 a0 x1) P → ∃ n0, s0.2.1 a0 = some (10, n0)) (hfX10_moves : frX10_moves + 1 ≤ E.1.frames ∧ 8 + (5 + 11) + loX10_moves ≤ E.1.locals) (hrX10_move : ∀ {P : Sg → Prop} {s0 : Sg} {a0 : Nat} {x1 : Int32} {x2 : Int32} {x3 : Int32}, Ok (rX10_move s0 a0 x1 x2 x3) P → BM G tX10_move frX10_move loX10_move 0 0 [.ref a0, .int x1, .int x2, .int x3] s0 (fun v s => v = none ∧ P s)) (hoX10_move : ∀ {P : Sg → Prop} {s0 : Sg} {a0 : Nat} {x1 : Int32} {x2 : Int32} {x3 : Int32}, Ok (rX10_move s0 a0 x1 x2 x3) P → ∃ n0, s0.2.1 a0 = some (10, n0)) (hfX10_move : frX10_move + 1 ≤ E.1.frames ∧ 8 + (6 + 11) + loX10_move ≤ E.1.locals) (hRm : 2 ≤ E.1.frames ∧ 45 ≤ E.1.locals) {s0 : Sg} {a0 : Nat} {P : Sg → Prop} (hQ : ∀ s, P s → E.2.2.2.2 none s) (h : Ok (mX10_move_56 n rX10_moves rX10_move s0 a0) P) : BW G tX10_move E 0 0 56 [(0, .ref a0)] [] s0 := by
  unfold mX10_move_56 at h
  refine BW.run [.aload_n 0] (pc' := 57) (lv' := [(0, .ref a0)]) (st' := [.ref a0]) (by decide +kernel) rfl rfl ?_
  refine BW.callV (As := []) (st := []) (by decide +kernel : decode tX10_move.2.1 57 = .ok (.invokevirtual 110, 3)) (DX10_bad (Ok.bindK h)) mfX10_bad lkM_X10_110 imX10_bad selX10_bad ciX10 (oX10_bad (Ok.bindK h)).choose_spec rfl rfl (Nat.le_of_ble_eq_true rfl) ⟨Nat.le_trans (by decide) hRm.1, Nat.le_trans (by decide) hRm.2⟩ ⟨Nat.zero_le _, Nat.zero_le _⟩ ?_
  rintro _ s4 ⟨rfl, h⟩
  show BW G tX10_move E 0 0 60 [(0, .ref a0)] [] s4
  exact BW.vret (by decide +kernel : decode tX10_move.2.1 60 = .ok (.return_, 1)) rfl (Nat.zero_le _) (Nat.zero_le _) (hQ _ (Ok.some h))
def mX10_move_136 (n : Nat) (rX10_moves : Sg → Nat → Int32 → Option Sg) (rX10_move : Sg → Nat → Int32 → Int32 → Int32 → Option Sg) (s0 : Sg) (a0 : Nat) (x2 : Int32) (x3 : Int32) (x4 : Int32) (x5 : Int32) : Option ((Sg × Int32) ⊕ (Sg)) :=
  (toI (gV 10 s0 a0 6)).bind fun v15 =>
  (pV 10 s0 a0 6 (.int (v15 + (1 : Int32)))).bind fun s16 =>
  if x3 = 0 then (
    some (.inr s16)
  ) else (
    (toI (gV 10 s16 a0 11)).bind fun v17 =>
    if v17 < (60 : Int32) then (
      some (.inl (s16, (x5 + (1 : Int32))))
    ) else (
      some (.inr s16)
    )
  )
theorem bX10_move_136 {G : Cx} {E : Ev} {n : Nat} {rX10_moves : Sg → Nat → Int32 → Option Sg} {frX10_moves loX10_moves : Nat} {rX10_move : Sg → Nat → Int32 → Int32 → Int32 → Option Sg} {frX10_move loX10_move : Nat} (hrX10_moves : ∀ {P : Sg → Prop} {s0 : Sg} {a0 : Nat} {x1 : Int32}, Ok (rX10_moves s0 a0 x1) P → BM G tX10_moves frX10_moves loX10_moves 0 0 [.ref a0, .int x1] s0 (fun v s => v = none ∧ P s)) (hoX10_moves : ∀ {P : Sg → Prop} {s0 : Sg} {a0 : Nat} {x1 : Int32}, Ok (rX10_moves s0 a0 x1) P → ∃ n0, s0.2.1 a0 = some (10, n0)) (hfX10_moves : frX10_moves + 1 ≤ E.1.frames ∧ 8 + (5 + 11) + loX10_moves ≤ E.1.locals) (hrX10_move : ∀ {P : Sg → Prop} {s0 : Sg} {a0 : Nat} {x1 : Int32} {x2 : Int32} {x3 : Int32}, Ok (rX10_move s0 a0 x1 x2 x3) P → BM G tX10_move frX10_move loX10_move 0 0 [.ref a0, .int x1, .int x2, .int x3] s0 (fun v s => v = none ∧ P s)) (hoX10_move : ∀ {P : Sg → Prop} {s0 : Sg} {a0 : Nat} {x1 : Int32} {x2 : Int32} {x3 : Int32}, Ok (rX10_move s0 a0 x1 x2 x3) P → ∃ n0, s0.2.1 a0 = some (10, n0)) (hfX10_move : frX10_move + 1 ≤ E.1.frames ∧ 8 + (6 + 11) + loX10_move ≤ E.1.locals) (hRm : 2 ≤ E.1.frames ∧ 45 ≤ E.1.locals) {s0 : Sg} {a0 : Nat} {x2 : Int32} {x3 : Int32} {x4 : Int32} {x5 : Int32} {P : (Sg × Int32) ⊕ (Sg) → Prop} (hC : ∀ (s : Sg) (c5 : Int32), P (.inl (s, c5)) → BW G tX10_move E 0 0 90 [(0, .ref a0), (2, .int x2), (3, .int x3), (4, .int x4), (5, .int c5)] [] s) (hE : ∀ (s : Sg), P (.inr s) → BW G tX10_move E 0 0 168 [(0, .ref a0)] [] s)  (h : Ok (mX10_move_136 n rX10_moves rX10_move s0 a0 x2 x3 x4 x5) P) : BW G tX10_move E 0 0 136 [(0, .ref a0), (2, .int x2), (3, .int x3), (4, .int x4), (5, .int x5)] [] s0 := by
  unfold mX10_move_136 at h
  refine BW.run [.aload_n 0, .dup] (pc' := 138) (lv' := [(0, .ref a0), (2, .int x2), (3, .int x3), (4, .int x4), (5, .int x5)]) (st' := [.ref a0, .ref a0]) (by decide +kernel) rfl rfl ?_
  obtain ⟨v15, ev15, h⟩ := Ok.bind h
  refine BW.get (by decide +kernel : decode tX10_move.2.1 138 = .ok (.getfield 97, 3)) ciX10 (k := 6) (by decide) lkF_X10_97 (toI_V ev15) ?_
  refine BW.run [.iconst 1, .iadd] (pc' := 143) (lv' := [(0, .ref a0), (2, .int x2), (3, .int x3), (4, .int x4), (5, .int x5)]) (st' := [.int (v15 + (1 : Int32)), .ref a0]) (by decide +kernel) rfl rfl ?_
  obtain ⟨s16, es16, h⟩ := Ok.bind h
  refine BW.put (by decide +kernel : decode tX10_move.2.1 143 = .ok (.putfield 97, 3)) ciX10 (k := 6) (by decide) lkF_X10_97 rfl rfl rfl es16 ?_
  refine BW.run [.iload_n 3] (pc' := 147) (lv' := [(0, .ref a0), (2, .int x2), (3, .int x3), (4, .int x4), (5, .int x5)]) (st' := [.int x3]) (by decide +kernel) rfl rfl ?_
  refine BW.if_eq 168 (by decide +kernel : decode tX10_move.2.1 147 = .ok (.ifCond .eq 21, 3)) (by decide) (fun hc => ?_) (fun hc => ?_)
  · have h := (Ok.ite h).1 hc
    refine BW.sub [0] rfl ?_
    exact hE _ (Ok.some h)
  · have h := (Ok.ite h).2 hc
    refine BW.run [.aload_n 0] (pc' := 151) (lv' := [(0, .ref a0), (2, .int x2), (3, .int x3), (4, .int x4), (5, .int x5)]) (st' := [.ref a0]) (by decide +kernel) rfl rfl ?_
    obtain ⟨v17, ev17, h⟩ := Ok.bind h
    refine BW.get (by decide +kernel : decode tX10_move.2.1 151 = .ok (.getfield 135, 3)) ciX10 (k := 11) (by decide) lkF_X10_135 (toI_V ev17) ?_
    refine BW.run [.bipush 60] (pc' := 156) (lv' := [(0, .ref a0), (2, .int x2), (3, .int x3), (4, .int x4), (5, .int x5)]) (st' := [.int (60 : Int32), .int v17]) (by decide +kernel) rfl rfl ?_
    refine BW.icmp_lt 162 (by decide +kernel : decode tX10_move.2.1 156 = .ok (.if_icmp .lt 6, 3)) (by decide) (fun hc => ?_) (fun hc => ?_)
    · have h := (Ok.ite h).1 hc
      refine BW.run [.iinc 5 1] (pc' := 165) (lv' := [(0, .ref a0), (2, .int x2), (3, .int x3), (4, .int x4), (5, .int (x5 + (1 : Int32)))]) (st' := []) (by decide +kernel) rfl rfl ?_
      refine BW.goto 90 (by decide +kernel : decode tX10_move.2.1 165 = .ok (.goto (-75), 3)) (by decide) ?_
      exact hC _ _ (Ok.some h)
    · have h := (Ok.ite h).2 hc
      refine BW.goto 168 (by decide +kernel : decode tX10_move.2.1 159 = .ok (.goto 9, 3)) (by decide) ?_
      refine BW.sub [0] rfl ?_
      exact hE _ (Ok.some h)
def mX10_move_L90 (n : Nat) (rX10_moves : Sg → Nat → Int32 → Option Sg) (rX10_move : Sg → Nat → Int32 → Int32 → Int32 → Option Sg) (a0 : Nat) (x2 : Int32) (x3 : Int32) (x4 : Int32) : (Sg × Int32) → Option ((Sg × Int32) ⊕ (Sg))
  | (s0, x5) =>
    if x2 ≤ x5 then (
      some (.inr s0)
    ) else (
      (toI (gV 10 s0 a0 7)).bind fun v11 =>
      if v11 = (-1 : Int32) then (
        (pV 10 s0 a0 6 (.int x4)).bind fun s12 =>
        (rX10_moves s12 a0 x3).bind fun s13 =>
        (toI (gV 10 s13 a0 7)).bind fun v14 =>
        if v14 = (-1 : Int32) then (
          (mX10_look n s13 a0).bind fun (v19, s18) =>
          if v19 = (41 : Int32) then (
            mX10_move_136 n rX10_moves rX10_move s18 a0 x2 x3 x4 x5
          ) else (
            (mX10_bad n s18 a0).bind fun s21 =>
            mX10_move_136 n rX10_moves rX10_move s21 a0 x2 x3 x4 x5
          )
        ) else (
          mX10_move_136 n rX10_moves rX10_move s13 a0 x2 x3 x4 x5
        )
      ) else (
        some (.inr s0)
      )
    )
theorem bX10_move_L90 {G : Cx} {E : Ev} {n : Nat} {rX10_moves : Sg → Nat → Int32 → Option Sg} {frX10_moves loX10_moves : Nat} {rX10_move : Sg → Nat → Int32 → Int32 → Int32 → Option Sg} {frX10_move loX10_move : Nat} (hrX10_moves : ∀ {P : Sg → Prop} {s0 : Sg} {a0 : Nat} {x1 : Int32}, Ok (rX10_moves s0 a0 x1) P → BM G tX10_moves frX10_moves loX10_moves 0 0 [.ref a0, .int x1] s0 (fun v s => v = none ∧ P s)) (hoX10_moves : ∀ {P : Sg → Prop} {s0 : Sg} {a0 : Nat} {x1 : Int32}, Ok (rX10_moves s0 a0 x1) P → ∃ n0, s0.2.1 a0 = some (10, n0)) (hfX10_moves : frX10_moves + 1 ≤ E.1.frames ∧ 8 + (5 + 11) + loX10_moves ≤ E.1.locals) (hrX10_move : ∀ {P : Sg → Prop} {s0 : Sg} {a0 : Nat} {x1 : Int32} {x2 : Int32} {x3 : Int32}, Ok (rX10_move s0 a0 x1 x2 x3) P → BM G tX10_move frX10_move loX10_move 0 0 [.ref a0, .int x1, .int x2, .int x3] s0 (fun v s => v = none ∧ P s)) (hoX10_move : ∀ {P : Sg → Prop} {s0 : Sg} {a0 : Nat} {x1 : Int32} {x2 : Int32} {x3 : Int32}, Ok (rX10_move s0 a0 x1 x2 x3) P → ∃ n0, s0.2.1 a0 = some (10, n0)) (hfX10_move : frX10_move + 1 ≤ E.1.frames ∧ 8 + (6 + 11) + loX10_move ≤ E.1.locals) (hRm : 2 ≤ E.1.frames ∧ 45 ≤ E.1.locals) {a0 : Nat} {x2 : Int32} {x3 : Int32} {x4 : Int32} {P : (Sg × Int32) ⊕ (Sg) → Prop} (hC : ∀ (s : Sg) (c5 : Int32), P (.inl (s, c5)) → BW G tX10_move E 0 0 90 [(0, .ref a0), (2, .int x2), (3, .int x3), (4, .int x4), (5, .int c5)] [] s) (hE : ∀ (s : Sg), P (.inr s) → BW G tX10_move E 0 0 168 [(0, .ref a0)] [] s) {s0 : Sg} {x5 : Int32} (h : Ok (mX10_move_L90 n rX10_moves rX10_move a0 x2 x3 x4 (s0, x5)) P) : BW G tX10_move E 0 0 90 [(0, .ref a0), (2, .int x2), (3, .int x3), (4, .int x4), (5, .int x5)] [] s0 := by
  unfold mX10_move_L90 at h
  refine BW.run [.iload 5, .iload_n 2] (pc' := 93) (lv' := [(0, .ref a0), (2, .int x2), (3, .int x3), (4, .int x4), (5, .int x5)]) (st' := [.int x2, .int x5]) (by decide +kernel) rfl rfl ?_
  refine BW.icmp_ge 168 (by decide +kernel : decode tX10_move.2.1 93 = .ok (.if_icmp .ge 75, 3)) (by decide) (fun hc => ?_) (fun hc => ?_)
  · have h := (Ok.ite h).1 hc
    refine BW.sub [0] rfl ?_
    exact hE _ (Ok.some h)
  · have h := (Ok.ite h).2 hc
    refine BW.run [.aload_n 0] (pc' := 97) (lv' := [(0, .ref a0), (2, .int x2), (3, .int x3), (4, .int x4), (5, .int x5)]) (st' := [.ref a0]) (by decide +kernel) rfl rfl ?_
    obtain ⟨v11, ev11, h⟩ := Ok.bind h
    refine BW.get (by decide +kernel : decode tX10_move.2.1 97 = .ok (.getfield 104, 3)) ciX10 (k := 7) (by decide) lkF_X10_104 (toI_V ev11) ?_
    refine BW.run [.iconst (-1)] (pc' := 101) (lv' := [(0, .ref a0), (2, .int x2), (3, .int x3), (4, .int x4), (5, .int x5)]) (st' := [.int (-1 : Int32), .int v11]) (by decide +kernel) rfl rfl ?_
    refine BW.icmp_ne 168 (by decide +kernel : decode tX10_move.2.1 101 = .ok (.if_icmp .ne 67, 3)) (by decide) (fun hc => ?_) (fun hc => ?_)
    · have h := (Ok.ite h).2 hc
      refine BW.sub [0] rfl ?_
      exact hE _ (Ok.some h)
    · have h := (Ok.ite h).1 hc
      refine BW.run [.aload_n 0, .iload 4] (pc' := 107) (lv' := [(0, .ref a0), (2, .int x2), (3, .int x3), (4, .int x4), (5, .int x5)]) (st' := [.int x4, .ref a0]) (by decide +kernel) rfl rfl ?_
      obtain ⟨s12, es12, h⟩ := Ok.bind h
      refine BW.put (by decide +kernel : decode tX10_move.2.1 107 = .ok (.putfield 97, 3)) ciX10 (k := 6) (by decide) lkF_X10_97 rfl rfl rfl es12 ?_
      refine BW.run [.aload_n 0, .iload_n 3] (pc' := 112) (lv' := [(0, .ref a0), (2, .int x2), (3, .int x3), (4, .int x4), (5, .int x5)]) (st' := [.int x3, .ref a0]) (by decide +kernel) rfl rfl ?_
      refine BW.callV (As := [.int x3]) (st := []) (by decide +kernel : decode tX10_move.2.1 112 = .ok (.invokevirtual 131, 3)) (hrX10_moves (Ok.bindK h)) mfX10_moves lkM_X10_131 imX10_moves selX10_moves ciX10 (hoX10_moves (Ok.bindK h)).choose_spec rfl rfl (Nat.le_of_ble_eq_true rfl) hfX10_moves ⟨Nat.zero_le _, Nat.zero_le _⟩ ?_
      rintro _ s13 ⟨rfl, h⟩
      show BW G tX10_move E 0 0 115 [(0, .ref a0), (2, .int x2), (3, .int x3), (4, .int x4), (5, .int x5)] [] s13
      refine BW.run [.aload_n 0] (pc' := 116) (lv' := [(0, .ref a0), (2, .int x2), (3, .int x3), (4, .int x4), (5, .int x5)]) (st' := [.ref a0]) (by decide +kernel) rfl rfl ?_
      obtain ⟨v14, ev14, h⟩ := Ok.bind h
      refine BW.get (by decide +kernel : decode tX10_move.2.1 116 = .ok (.getfield 104, 3)) ciX10 (k := 7) (by decide) lkF_X10_104 (toI_V ev14) ?_
      refine BW.run [.iconst (-1)] (pc' := 120) (lv' := [(0, .ref a0), (2, .int x2), (3, .int x3), (4, .int x4), (5, .int x5)]) (st' := [.int (-1 : Int32), .int v14]) (by decide +kernel) rfl rfl ?_
      refine BW.icmp_ne 136 (by decide +kernel : decode tX10_move.2.1 120 = .ok (.if_icmp .ne 16, 3)) (by decide) (fun hc => ?_) (fun hc => ?_)
      · have h := (Ok.ite h).2 hc
        exact bX10_move_136 hrX10_moves hoX10_moves hfX10_moves hrX10_move hoX10_move hfX10_move hRm hC hE h
      · have h := (Ok.ite h).1 hc
        refine BW.run [.aload_n 0] (pc' := 124) (lv' := [(0, .ref a0), (2, .int x2), (3, .int x3), (4, .int x4), (5, .int x5)]) (st' := [.ref a0]) (by decide +kernel) rfl rfl ?_
        refine BW.callV (As := []) (st := []) (by decide +kernel : decode tX10_move.2.1 124 = .ok (.invokevirtual 107, 3)) (DX10_look (Ok.bindK h)) mfX10_look lkM_X10_107 imX10_look selX10_look ciX10 (oX10_look (Ok.bindK h)).choose_spec rfl rfl (Nat.le_of_ble_eq_true rfl) ⟨Nat.le_trans (by decide) hRm.1, Nat.le_trans (by decide) hRm.2⟩ ⟨Nat.zero_le _, Nat.zero_le _⟩ ?_
        rintro _ s18 ⟨v19, rfl, h⟩
        show BW G tX10_move E 0 0 127 [(0, .ref a0), (2, .int x2), (3, .int x3), (4, .int x4), (5, .int x5)] [.int v19] s18
        refine BW.run [.bipush 41] (pc' := 129) (lv' := [(0, .ref a0), (2, .int x2), (3, .int x3), (4, .int x4), (5, .int x5)]) (st' := [.int (41 : Int32), .int v19]) (by decide +kernel) rfl rfl ?_
        refine BW.icmp_eq 136 (by decide +kernel : decode tX10_move.2.1 129 = .ok (.if_icmp .eq 7, 3)) (by decide) (fun hc => ?_) (fun hc => ?_)
        · have h := (Ok.ite h).1 hc
          exact bX10_move_136 hrX10_moves hoX10_moves hfX10_moves hrX10_move hoX10_move hfX10_move hRm hC hE h
        · have h := (Ok.ite h).2 hc
          refine BW.run [.aload_n 0] (pc' := 133) (lv' := [(0, .ref a0), (2, .int x2), (3, .int x3), (4, .int x4), (5, .int x5)]) (st' := [.ref a0]) (by decide +kernel) rfl rfl ?_
          refine BW.callV (As := []) (st := []) (by decide +kernel : decode tX10_move.2.1 133 = .ok (.invokevirtual 110, 3)) (DX10_bad (Ok.bindK h)) mfX10_bad lkM_X10_110 imX10_bad selX10_bad ciX10 (oX10_bad (Ok.bindK h)).choose_spec rfl rfl (Nat.le_of_ble_eq_true rfl) ⟨Nat.le_trans (by decide) hRm.1, Nat.le_trans (by decide) hRm.2⟩ ⟨Nat.zero_le _, Nat.zero_le _⟩ ?_
          rintro _ s21 ⟨rfl, h⟩
          show BW G tX10_move E 0 0 136 [(0, .ref a0), (2, .int x2), (3, .int x3), (4, .int x4), (5, .int x5)] [] s21
          exact bX10_move_136 hrX10_moves hoX10_moves hfX10_moves hrX10_move hoX10_move hfX10_move hRm hC hE h
theorem bX10_move_W90 {G : Cx} {E : Ev} {n : Nat} {rX10_moves : Sg → Nat → Int32 → Option Sg} {frX10_moves loX10_moves : Nat} {rX10_move : Sg → Nat → Int32 → Int32 → Int32 → Option Sg} {frX10_move loX10_move : Nat} (hrX10_moves : ∀ {P : Sg → Prop} {s0 : Sg} {a0 : Nat} {x1 : Int32}, Ok (rX10_moves s0 a0 x1) P → BM G tX10_moves frX10_moves loX10_moves 0 0 [.ref a0, .int x1] s0 (fun v s => v = none ∧ P s)) (hoX10_moves : ∀ {P : Sg → Prop} {s0 : Sg} {a0 : Nat} {x1 : Int32}, Ok (rX10_moves s0 a0 x1) P → ∃ n0, s0.2.1 a0 = some (10, n0)) (hfX10_moves : frX10_moves + 1 ≤ E.1.frames ∧ 8 + (5 + 11) + loX10_moves ≤ E.1.locals) (hrX10_move : ∀ {P : Sg → Prop} {s0 : Sg} {a0 : Nat} {x1 : Int32} {x2 : Int32} {x3 : Int32}, Ok (rX10_move s0 a0 x1 x2 x3) P → BM G tX10_move frX10_move loX10_move 0 0 [.ref a0, .int x1, .int x2, .int x3] s0 (fun v s => v = none ∧ P s)) (hoX10_move : ∀ {P : Sg → Prop} {s0 : Sg} {a0 : Nat} {x1 : Int32} {x2 : Int32} {x3 : Int32}, Ok (rX10_move s0 a0 x1 x2 x3) P → ∃ n0, s0.2.1 a0 = some (10, n0)) (hfX10_move : frX10_move + 1 ≤ E.1.frames ∧ 8 + (6 + 11) + loX10_move ≤ E.1.locals) (hRm : 2 ≤ E.1.frames ∧ 45 ≤ E.1.locals) {a0 : Nat} {x2 : Int32} {x3 : Int32} {x4 : Int32} {K : (Sg) → Prop} (hE : ∀ (s : Sg), K s → BW G tX10_move E 0 0 168 [(0, .ref a0)] [] s) : ∀ (f : Nat) (c : Sg × Int32), Ok (loopM (mX10_move_L90 n rX10_moves rX10_move a0 x2 x3 x4) f c) K → match c with | (s0, x5) => BW G tX10_move E 0 0 90 [(0, .ref a0), (2, .int x2), (3, .int x3), (4, .int x4), (5, .int x5)] [] s0 := by
  intro f
  induction f with
  | zero => intro c h; exact (Ok.no h).elim
  | succ f ih =>
    intro c h
    obtain ⟨s0, x5⟩ := c
    exact bX10_move_L90 (P := loopP (mX10_move_L90 n rX10_moves rX10_move a0 x2 x3 x4) f K) hrX10_moves hoX10_moves hfX10_moves hrX10_move hoX10_move hfX10_move hRm (fun s c5 h => ih (s, c5) h) hE (loopM_ok h)
def mX10_move_168 (n : Nat) (rX10_moves : Sg → Nat → Int32 → Option Sg) (rX10_move : Sg → Nat → Int32 → Int32 → Int32 → Option Sg) (s0 : Sg) (a0 : Nat) : Option (Sg) :=
  (toI (gV 10 s0 a0 8)).bind fun v24 =>
  (pV 10 s0 a0 8 (.int (v24 - (1 : Int32)))).bind fun s25 =>
  some s25
theorem bX10_move_168 {G : Cx} {E : Ev} {n : Nat} {rX10_moves : Sg → Nat → Int32 → Option Sg} {frX10_moves loX10_moves : Nat} {rX10_move : Sg → Nat → Int32 → Int32 → Int32 → Option Sg} {frX10_move loX10_move : Nat} (hrX10_moves : ∀ {P : Sg → Prop} {s0 : Sg} {a0 : Nat} {x1 : Int32}, Ok (rX10_moves s0 a0 x1) P → BM G tX10_moves frX10_moves loX10_moves 0 0 [.ref a0, .int x1] s0 (fun v s => v = none ∧ P s)) (hoX10_moves : ∀ {P : Sg → Prop} {s0 : Sg} {a0 : Nat} {x1 : Int32}, Ok (rX10_moves s0 a0 x1) P → ∃ n0, s0.2.1 a0 = some (10, n0)) (hfX10_moves : frX10_moves + 1 ≤ E.1.frames ∧ 8 + (5 + 11) + loX10_moves ≤ E.1.locals) (hrX10_move : ∀ {P : Sg → Prop} {s0 : Sg} {a0 : Nat} {x1 : Int32} {x2 : Int32} {x3 : Int32}, Ok (rX10_move s0 a0 x1 x2 x3) P → BM G tX10_move frX10_move loX10_move 0 0 [.ref a0, .int x1, .int x2, .int x3] s0 (fun v s => v = none ∧ P s)) (hoX10_move : ∀ {P : Sg → Prop} {s0 : Sg} {a0 : Nat} {x1 : Int32} {x2 : Int32} {x3 : Int32}, Ok (rX10_move s0 a0 x1 x2 x3) P → ∃ n0, s0.2.1 a0 = some (10, n0)) (hfX10_move : frX10_move + 1 ≤ E.1.frames ∧ 8 + (6 + 11) + loX10_move ≤ E.1.locals) (hRm : 2 ≤ E.1.frames ∧ 45 ≤ E.1.locals) {s0 : Sg} {a0 : Nat} {P : Sg → Prop} (hQ : ∀ s, P s → E.2.2.2.2 none s) (h : Ok (mX10_move_168 n rX10_moves rX10_move s0 a0) P) : BW G tX10_move E 0 0 168 [(0, .ref a0)] [] s0 := by
  unfold mX10_move_168 at h
  refine BW.run [.aload_n 0, .dup] (pc' := 170) (lv' := [(0, .ref a0)]) (st' := [.ref a0, .ref a0]) (by decide +kernel) rfl rfl ?_
  obtain ⟨v24, ev24, h⟩ := Ok.bind h
  refine BW.get (by decide +kernel : decode tX10_move.2.1 170 = .ok (.getfield 128, 3)) ciX10 (k := 8) (by decide) lkF_X10_128 (toI_V ev24) ?_
  refine BW.run [.iconst 1, .isub] (pc' := 175) (lv' := [(0, .ref a0)]) (st' := [.int (v24 - (1 : Int32)), .ref a0]) (by decide +kernel) rfl rfl ?_
  obtain ⟨s25, es25, h⟩ := Ok.bind h
  refine BW.put (by decide +kernel : decode tX10_move.2.1 175 = .ok (.putfield 128, 3)) ciX10 (k := 8) (by decide) lkF_X10_128 rfl rfl rfl es25 ?_
  exact BW.vret (by decide +kernel : decode tX10_move.2.1 178 = .ok (.return_, 1)) rfl (Nat.zero_le _) (Nat.zero_le _) (hQ _ (Ok.some h))
def mX10_move_L20 (n : Nat) (rX10_moves : Sg → Nat → Int32 → Option Sg) (rX10_move : Sg → Nat → Int32 → Int32 → Int32 → Option Sg) (a0 : Nat) (x1 : Int32) (x2 : Int32) (x3 : Int32) : (Sg × Int32) → Option ((Sg × Int32) ⊕ (Sg))
  | (s0, x4) =>
    if x2 ≤ x4 then (
      some (.inr s0)
    ) else (
      if x3 = 0 then (
        some (.inr s0)
      ) else (
        (mX10_step n s0 a0 x1).bind fun s28 =>
        some (.inl (s28, (x4 + (1 : Int32))))
      )
    )
theorem bX10_move_L20 {G : Cx} {E : Ev} {n : Nat} {rX10_moves : Sg → Nat → Int32 → Option Sg} {frX10_moves loX10_moves : Nat} {rX10_move : Sg → Nat → Int32 → Int32 → Int32 → Option Sg} {frX10_move loX10_move : Nat} (hrX10_moves : ∀ {P : Sg → Prop} {s0 : Sg} {a0 : Nat} {x1 : Int32}, Ok (rX10_moves s0 a0 x1) P → BM G tX10_moves frX10_moves loX10_moves 0 0 [.ref a0, .int x1] s0 (fun v s => v = none ∧ P s)) (hoX10_moves : ∀ {P : Sg → Prop} {s0 : Sg} {a0 : Nat} {x1 : Int32}, Ok (rX10_moves s0 a0 x1) P → ∃ n0, s0.2.1 a0 = some (10, n0)) (hfX10_moves : frX10_moves + 1 ≤ E.1.frames ∧ 8 + (5 + 11) + loX10_moves ≤ E.1.locals) (hrX10_move : ∀ {P : Sg → Prop} {s0 : Sg} {a0 : Nat} {x1 : Int32} {x2 : Int32} {x3 : Int32}, Ok (rX10_move s0 a0 x1 x2 x3) P → BM G tX10_move frX10_move loX10_move 0 0 [.ref a0, .int x1, .int x2, .int x3] s0 (fun v s => v = none ∧ P s)) (hoX10_move : ∀ {P : Sg → Prop} {s0 : Sg} {a0 : Nat} {x1 : Int32} {x2 : Int32} {x3 : Int32}, Ok (rX10_move s0 a0 x1 x2 x3) P → ∃ n0, s0.2.1 a0 = some (10, n0)) (hfX10_move : frX10_move + 1 ≤ E.1.frames ∧ 8 + (6 + 11) + loX10_move ≤ E.1.locals) (hRm : 2 ≤ E.1.frames ∧ 45 ≤ E.1.locals) {a0 : Nat} {x1 : Int32} {x2 : Int32} {x3 : Int32} {P : (Sg × Int32) ⊕ (Sg) → Prop} (hC : ∀ (s : Sg) (c4 : Int32), P (.inl (s, c4)) → BW G tX10_move E 0 0 20 [(0, .ref a0), (1, .int x1), (2, .int x2), (3, .int x3), (4, .int c4)] [] s) (hE : ∀ (s : Sg), P (.inr s) → BW G tX10_move E 0 0 41 [] [] s) {s0 : Sg} {x4 : Int32} (h : Ok (mX10_move_L20 n rX10_moves rX10_move a0 x1 x2 x3 (s0, x4)) P) : BW G tX10_move E 0 0 20 [(0, .ref a0), (1, .int x1), (2, .int x2), (3, .int x3), (4, .int x4)] [] s0 := by
  unfold mX10_move_L20 at h
  refine BW.run [.iload 4, .iload_n 2] (pc' := 23) (lv' := [(0, .ref a0), (1, .int x1), (2, .int x2), (3, .int x3), (4, .int x4)]) (st' := [.int x2, .int x4]) (by decide +kernel) rfl rfl ?_
  refine BW.icmp_ge 41 (by decide +kernel : decode tX10_move.2.1 23 = .ok (.if_icmp .ge 18, 3)) (by decide) (fun hc => ?_) (fun hc => ?_)
  · have h := (Ok.ite h).1 hc
    refine BW.sub [] rfl ?_
    exact hE _ (Ok.some h)
  · have h := (Ok.ite h).2 hc
    refine BW.run [.iload_n 3] (pc' := 27) (lv' := [(0, .ref a0), (1, .int x1), (2, .int x2), (3, .int x3), (4, .int x4)]) (st' := [.int x3]) (by decide +kernel) rfl rfl ?_
    refine BW.if_eq 41 (by decide +kernel : decode tX10_move.2.1 27 = .ok (.ifCond .eq 14, 3)) (by decide) (fun hc => ?_) (fun hc => ?_)
    · have h := (Ok.ite h).1 hc
      refine BW.sub [] rfl ?_
      exact hE _ (Ok.some h)
    · have h := (Ok.ite h).2 hc
      refine BW.run [.aload_n 0, .iload_n 1] (pc' := 32) (lv' := [(0, .ref a0), (1, .int x1), (2, .int x2), (3, .int x3), (4, .int x4)]) (st' := [.int x1, .ref a0]) (by decide +kernel) rfl rfl ?_
      refine BW.callV (As := [.int x1]) (st := []) (by decide +kernel : decode tX10_move.2.1 32 = .ok (.invokevirtual 124, 3)) (DX10_step (Ok.bindK h)) mfX10_step lkM_X10_124 imX10_step selX10_step ciX10 (oX10_step (Ok.bindK h)).choose_spec rfl rfl (Nat.le_of_ble_eq_true rfl) ⟨Nat.le_trans (by decide) hRm.1, Nat.le_trans (by decide) hRm.2⟩ ⟨Nat.zero_le _, Nat.zero_le _⟩ ?_
      rintro _ s28 ⟨rfl, h⟩
      show BW G tX10_move E 0 0 35 [(0, .ref a0), (1, .int x1), (2, .int x2), (3, .int x3), (4, .int x4)] [] s28
      refine BW.run [.iinc 4 1] (pc' := 38) (lv' := [(0, .ref a0), (1, .int x1), (2, .int x2), (3, .int x3), (4, .int (x4 + (1 : Int32)))]) (st' := []) (by decide +kernel) rfl rfl ?_
      refine BW.goto 20 (by decide +kernel : decode tX10_move.2.1 38 = .ok (.goto (-18), 3)) (by decide) ?_
      exact hC _ _ (Ok.some h)
theorem bX10_move_W20 {G : Cx} {E : Ev} {n : Nat} {rX10_moves : Sg → Nat → Int32 → Option Sg} {frX10_moves loX10_moves : Nat} {rX10_move : Sg → Nat → Int32 → Int32 → Int32 → Option Sg} {frX10_move loX10_move : Nat} (hrX10_moves : ∀ {P : Sg → Prop} {s0 : Sg} {a0 : Nat} {x1 : Int32}, Ok (rX10_moves s0 a0 x1) P → BM G tX10_moves frX10_moves loX10_moves 0 0 [.ref a0, .int x1] s0 (fun v s => v = none ∧ P s)) (hoX10_moves : ∀ {P : Sg → Prop} {s0 : Sg} {a0 : Nat} {x1 : Int32}, Ok (rX10_moves s0 a0 x1) P → ∃ n0, s0.2.1 a0 = some (10, n0)) (hfX10_moves : frX10_moves + 1 ≤ E.1.frames ∧ 8 + (5 + 11) + loX10_moves ≤ E.1.locals) (hrX10_move : ∀ {P : Sg → Prop} {s0 : Sg} {a0 : Nat} {x1 : Int32} {x2 : Int32} {x3 : Int32}, Ok (rX10_move s0 a0 x1 x2 x3) P → BM G tX10_move frX10_move loX10_move 0 0 [.ref a0, .int x1, .int x2, .int x3] s0 (fun v s => v = none ∧ P s)) (hoX10_move : ∀ {P : Sg → Prop} {s0 : Sg} {a0 : Nat} {x1 : Int32} {x2 : Int32} {x3 : Int32}, Ok (rX10_move s0 a0 x1 x2 x3) P → ∃ n0, s0.2.1 a0 = some (10, n0)) (hfX10_move : frX10_move + 1 ≤ E.1.frames ∧ 8 + (6 + 11) + loX10_move ≤ E.1.locals) (hRm : 2 ≤ E.1.frames ∧ 45 ≤ E.1.locals) {a0 : Nat} {x1 : Int32} {x2 : Int32} {x3 : Int32} {K : (Sg) → Prop} (hE : ∀ (s : Sg), K s → BW G tX10_move E 0 0 41 [] [] s) : ∀ (f : Nat) (c : Sg × Int32), Ok (loopM (mX10_move_L20 n rX10_moves rX10_move a0 x1 x2 x3) f c) K → match c with | (s0, x4) => BW G tX10_move E 0 0 20 [(0, .ref a0), (1, .int x1), (2, .int x2), (3, .int x3), (4, .int x4)] [] s0 := by
  intro f
  induction f with
  | zero => intro c h; exact (Ok.no h).elim
  | succ f ih =>
    intro c h
    obtain ⟨s0, x4⟩ := c
    exact bX10_move_L20 (P := loopP (mX10_move_L20 n rX10_moves rX10_move a0 x1 x2 x3) f K) hrX10_moves hoX10_moves hfX10_moves hrX10_move hoX10_move hfX10_move hRm (fun s c4 h => ih (s, c4) h) hE (loopM_ok h)
def eX10_move (n : Nat) (rX10_moves : Sg → Nat → Int32 → Option Sg) (rX10_move : Sg → Nat → Int32 → Int32 → Int32 → Option Sg) (s0 : Sg) (a0 : Nat) (x1 : Int32) (x2 : Int32) (x3 : Int32) : Option (Sg) :=
  (isO 10 s0 a0).bind fun _ =>
  (mX10_isStep n s0 x1).bind fun (v2, s1) =>
  if v2 = 0 then (
    if x1 = (40 : Int32) then (
      (toI (gV 10 s1 a0 8)).bind fun v5 =>
      if v5 = (3 : Int32) then (
        mX10_move_56 n rX10_moves rX10_move s1 a0
      ) else (
        (toI (gV 10 s1 a0 8)).bind fun v6 =>
        (pV 10 s1 a0 8 (.int (v6 + (1 : Int32)))).bind fun s7 =>
        (toI (gV 10 s7 a0 6)).bind fun v8 =>
        (pV 10 s7 a0 6 (.int (v8 + (1 : Int32)))).bind fun s9 =>
        (toI (gV 10 s9 a0 6)).bind fun v10 =>
        (loopM (mX10_move_L90 n rX10_moves rX10_move a0 x2 x3 v10) n (s9, (0 : Int32))).bind fun s22 =>
        mX10_move_168 n rX10_moves rX10_move s22 a0
      )
    ) else (
      mX10_move_56 n rX10_moves rX10_move s1 a0
    )
  ) else (
    (toI (gV 10 s1 a0 6)).bind fun v26 =>
    (pV 10 s1 a0 6 (.int (v26 + (1 : Int32)))).bind fun s27 =>
    (loopM (mX10_move_L20 n rX10_moves rX10_move a0 x1 x2 x3) n (s27, (0 : Int32))).bind fun s29 =>
    some s29
  )
theorem bX10_move {G : Cx} {E : Ev} {n : Nat} {rX10_moves : Sg → Nat → Int32 → Option Sg} {frX10_moves loX10_moves : Nat} {rX10_move : Sg → Nat → Int32 → Int32 → Int32 → Option Sg} {frX10_move loX10_move : Nat} (hrX10_moves : ∀ {P : Sg → Prop} {s0 : Sg} {a0 : Nat} {x1 : Int32}, Ok (rX10_moves s0 a0 x1) P → BM G tX10_moves frX10_moves loX10_moves 0 0 [.ref a0, .int x1] s0 (fun v s => v = none ∧ P s)) (hoX10_moves : ∀ {P : Sg → Prop} {s0 : Sg} {a0 : Nat} {x1 : Int32}, Ok (rX10_moves s0 a0 x1) P → ∃ n0, s0.2.1 a0 = some (10, n0)) (hfX10_moves : frX10_moves + 1 ≤ E.1.frames ∧ 8 + (5 + 11) + loX10_moves ≤ E.1.locals) (hrX10_move : ∀ {P : Sg → Prop} {s0 : Sg} {a0 : Nat} {x1 : Int32} {x2 : Int32} {x3 : Int32}, Ok (rX10_move s0 a0 x1 x2 x3) P → BM G tX10_move frX10_move loX10_move 0 0 [.ref a0, .int x1, .int x2, .int x3] s0 (fun v s => v = none ∧ P s)) (hoX10_move : ∀ {P : Sg → Prop} {s0 : Sg} {a0 : Nat} {x1 : Int32} {x2 : Int32} {x3 : Int32}, Ok (rX10_move s0 a0 x1 x2 x3) P → ∃ n0, s0.2.1 a0 = some (10, n0)) (hfX10_move : frX10_move + 1 ≤ E.1.frames ∧ 8 + (6 + 11) + loX10_move ≤ E.1.locals) (hRm : 2 ≤ E.1.frames ∧ 45 ≤ E.1.locals) {P : Sg → Prop} (hQ : ∀ s, P s → E.2.2.2.2 none s) {s0 : Sg} {a0 : Nat} {x1 : Int32} {x2 : Int32} {x3 : Int32} (h : Ok (eX10_move n rX10_moves rX10_move s0 a0 x1 x2 x3) P) : BW G tX10_move E 0 0 0 [(0, .ref a0), (1, .int x1), (2, .int x2), (3, .int x3)] [] s0 := by
  unfold eX10_move at h
  obtain ⟨_, _, h⟩ := Ok.bind h
  refine BW.run [.iload_n 1] (pc' := 1) (lv' := [(0, .ref a0), (1, .int x1), (2, .int x2), (3, .int x3)]) (st' := [.int x1]) (by decide +kernel) rfl rfl ?_
  refine BW.callS (As := [.int x1]) (st := []) (by decide +kernel : decode tX10_move.2.1 1 = .ok (.invokestatic 117, 3)) (DX10_isStep (Ok.bindK h)) mfX10_isStep lkM_X10_117 smX10_isStep rfl rfl (Nat.le_of_ble_eq_true rfl) ⟨Nat.le_trans (by decide) hRm.1, Nat.le_trans (by decide) hRm.2⟩ ⟨Nat.zero_le _, Nat.zero_le _⟩ ?_
  rintro _ s1 ⟨v2, rfl, h⟩
  show BW G tX10_move E 0 0 4 [(0, .ref a0), (1, .int x1), (2, .int x2), (3, .int x3)] [.int v2] s1
  refine BW.if_eq 42 (by decide +kernel : decode tX10_move.2.1 4 = .ok (.ifCond .eq 38, 3)) (by decide) (fun hc => ?_) (fun hc => ?_)
  · have h := (Ok.ite h).1 hc
    refine BW.run [.iload_n 1, .bipush 40] (pc' := 45) (lv' := [(0, .ref a0), (1, .int x1), (2, .int x2), (3, .int x3)]) (st' := [.int (40 : Int32), .int x1]) (by decide +kernel) rfl rfl ?_
    refine BW.icmp_ne 56 (by decide +kernel : decode tX10_move.2.1 45 = .ok (.if_icmp .ne 11, 3)) (by decide) (fun hc => ?_) (fun hc => ?_)
    · have h := (Ok.ite h).2 hc
      refine BW.sub [0] rfl ?_
      exact bX10_move_56 hrX10_moves hoX10_moves hfX10_moves hrX10_move hoX10_move hfX10_move hRm hQ h
    · have h := (Ok.ite h).1 hc
      refine BW.run [.aload_n 0] (pc' := 49) (lv' := [(0, .ref a0), (1, .int x1), (2, .int x2), (3, .int x3)]) (st' := [.ref a0]) (by decide +kernel) rfl rfl ?_
      obtain ⟨v5, ev5, h⟩ := Ok.bind h
      refine BW.get (by decide +kernel : decode tX10_move.2.1 49 = .ok (.getfield 128, 3)) ciX10 (k := 8) (by decide) lkF_X10_128 (toI_V ev5) ?_
      refine BW.run [.iconst 3] (pc' := 53) (lv' := [(0, .ref a0), (1, .int x1), (2, .int x2), (3, .int x3)]) (st' := [.int (3 : Int32), .int v5]) (by decide +kernel) rfl rfl ?_
      refine BW.icmp_ne 61 (by decide +kernel : decode tX10_move.2.1 53 = .ok (.if_icmp .ne 8, 3)) (by decide) (fun hc => ?_) (fun hc => ?_)
      · have h := (Ok.ite h).2 hc
        refine BW.run [.aload_n 0, .dup] (pc' := 63) (lv' := [(0, .ref a0), (1, .int x1), (2, .int x2), (3, .int x3)]) (st' := [.ref a0, .ref a0]) (by decide +kernel) rfl rfl ?_
        obtain ⟨v6, ev6, h⟩ := Ok.bind h
        refine BW.get (by decide +kernel : decode tX10_move.2.1 63 = .ok (.getfield 128, 3)) ciX10 (k := 8) (by decide) lkF_X10_128 (toI_V ev6) ?_
        refine BW.run [.iconst 1, .iadd] (pc' := 68) (lv' := [(0, .ref a0), (1, .int x1), (2, .int x2), (3, .int x3)]) (st' := [.int (v6 + (1 : Int32)), .ref a0]) (by decide +kernel) rfl rfl ?_
        obtain ⟨s7, es7, h⟩ := Ok.bind h
        refine BW.put (by decide +kernel : decode tX10_move.2.1 68 = .ok (.putfield 128, 3)) ciX10 (k := 8) (by decide) lkF_X10_128 rfl rfl rfl es7 ?_
        refine BW.run [.aload_n 0, .dup] (pc' := 73) (lv' := [(0, .ref a0), (1, .int x1), (2, .int x2), (3, .int x3)]) (st' := [.ref a0, .ref a0]) (by decide +kernel) rfl rfl ?_
        obtain ⟨v8, ev8, h⟩ := Ok.bind h
        refine BW.get (by decide +kernel : decode tX10_move.2.1 73 = .ok (.getfield 97, 3)) ciX10 (k := 6) (by decide) lkF_X10_97 (toI_V ev8) ?_
        refine BW.run [.iconst 1, .iadd] (pc' := 78) (lv' := [(0, .ref a0), (1, .int x1), (2, .int x2), (3, .int x3)]) (st' := [.int (v8 + (1 : Int32)), .ref a0]) (by decide +kernel) rfl rfl ?_
        obtain ⟨s9, es9, h⟩ := Ok.bind h
        refine BW.put (by decide +kernel : decode tX10_move.2.1 78 = .ok (.putfield 97, 3)) ciX10 (k := 6) (by decide) lkF_X10_97 rfl rfl rfl es9 ?_
        refine BW.run [.aload_n 0] (pc' := 82) (lv' := [(0, .ref a0), (1, .int x1), (2, .int x2), (3, .int x3)]) (st' := [.ref a0]) (by decide +kernel) rfl rfl ?_
        obtain ⟨v10, ev10, h⟩ := Ok.bind h
        refine BW.get (by decide +kernel : decode tX10_move.2.1 82 = .ok (.getfield 97, 3)) ciX10 (k := 6) (by decide) lkF_X10_97 (toI_V ev10) ?_
        refine BW.run [.istore 4, .iconst 0, .istore 5] (pc' := 90) (lv' := [(0, .ref a0), (1, .int x1), (2, .int x2), (3, .int x3), (4, .int v10), (5, .int (0 : Int32))]) (st' := []) (by decide +kernel) rfl rfl ?_
        refine BW.sub [0, 2, 3, 4, 5] rfl ?_
        refine bX10_move_W90 hrX10_moves hoX10_moves hfX10_moves hrX10_move hoX10_move hfX10_move hRm (a0 := a0) (x2 := x2) (x3 := x3) (x4 := v10) (fun s22 h => ?_) n (s9, (0 : Int32)) (Ok.bindK h)
        exact bX10_move_168 hrX10_moves hoX10_moves hfX10_moves hrX10_move hoX10_move hfX10_move hRm hQ h
      · have h := (Ok.ite h).1 hc
        refine BW.sub [0] rfl ?_
        exact bX10_move_56 hrX10_moves hoX10_moves hfX10_moves hrX10_move hoX10_move hfX10_move hRm hQ h
  · have h := (Ok.ite h).2 hc
    refine BW.run [.aload_n 0, .dup] (pc' := 9) (lv' := [(0, .ref a0), (1, .int x1), (2, .int x2), (3, .int x3)]) (st' := [.ref a0, .ref a0]) (by decide +kernel) rfl rfl ?_
    obtain ⟨v26, ev26, h⟩ := Ok.bind h
    refine BW.get (by decide +kernel : decode tX10_move.2.1 9 = .ok (.getfield 97, 3)) ciX10 (k := 6) (by decide) lkF_X10_97 (toI_V ev26) ?_
    refine BW.run [.iconst 1, .iadd] (pc' := 14) (lv' := [(0, .ref a0), (1, .int x1), (2, .int x2), (3, .int x3)]) (st' := [.int (v26 + (1 : Int32)), .ref a0]) (by decide +kernel) rfl rfl ?_
    obtain ⟨s27, es27, h⟩ := Ok.bind h
    refine BW.put (by decide +kernel : decode tX10_move.2.1 14 = .ok (.putfield 97, 3)) ciX10 (k := 6) (by decide) lkF_X10_97 rfl rfl rfl es27 ?_
    refine BW.run [.iconst 0, .istore 4] (pc' := 20) (lv' := [(0, .ref a0), (1, .int x1), (2, .int x2), (3, .int x3), (4, .int (0 : Int32))]) (st' := []) (by decide +kernel) rfl rfl ?_
    refine bX10_move_W20 hrX10_moves hoX10_moves hfX10_moves hrX10_move hoX10_move hfX10_move hRm (a0 := a0) (x1 := x1) (x2 := x2) (x3 := x3) (fun s29 h => ?_) n (s27, (0 : Int32)) (Ok.bindK h)
    exact BW.vret (by decide +kernel : decode tX10_move.2.1 41 = .ok (.return_, 1)) rfl (Nat.zero_le _) (Nat.zero_le _) (hQ _ (Ok.some h))
def mgX10_moves (n : Nat) : Nat → (Sg → Nat → Int32 → Option Sg) × (Sg → Nat → Int32 → Int32 → Int32 → Option Sg)
  | 0 => (fun _ _ _ => none, fun _ _ _ _ _ => none)
  | d + 1 => (fun s0 a0 x1 => eX10_moves n (mgX10_moves n d).1 (mgX10_moves n d).2 s0 a0 x1, fun s0 a0 x1 x2 x3 => eX10_move n (mgX10_moves n d).1 (mgX10_moves n d).2 s0 a0 x1 x2 x3)
def mX10_moves (n d : Nat) : Sg → Nat → Int32 → Option Sg := (mgX10_moves n d).1
def mX10_move (n d : Nat) : Sg → Nat → Int32 → Int32 → Int32 → Option Sg := (mgX10_moves n d).2
theorem oX10_moves {n d : Nat} {P : Sg → Prop} {s0 : Sg} {a0 : Nat} {x1 : Int32} (h : Ok (mX10_moves n d s0 a0 x1) P) : ∃ n0, s0.2.1 a0 = some (10, n0) := by
  cases d with
  | zero => exact (Ok.no h).elim
  | succ d =>
    have h : Ok (eX10_moves n (mX10_moves n d) (mX10_move n d) s0 a0 x1) P := h
    unfold eX10_moves at h
    exact Ok.isO h
theorem oX10_move {n d : Nat} {P : Sg → Prop} {s0 : Sg} {a0 : Nat} {x1 : Int32} {x2 : Int32} {x3 : Int32} (h : Ok (mX10_move n d s0 a0 x1 x2 x3) P) : ∃ n0, s0.2.1 a0 = some (10, n0) := by
  cases d with
  | zero => exact (Ok.no h).elim
  | succ d =>
    have h : Ok (eX10_move n (mX10_moves n d) (mX10_move n d) s0 a0 x1 x2 x3) P := h
    unfold eX10_move at h
    exact Ok.isO h
theorem DgX10_moves {G : Cx} {n : Nat} : ∀ d : Nat, (∀ {P : Sg → Prop} {s0 : Sg} {a0 : Nat} {x1 : Int32}, Ok (mX10_moves n d s0 a0 x1) P → BM G tX10_moves (2 + d) (45 + d * 25) 0 0 [.ref a0, .int x1] s0 (fun v s => v = none ∧ P s)) ∧ (∀ {P : Sg → Prop} {s0 : Sg} {a0 : Nat} {x1 : Int32} {x2 : Int32} {x3 : Int32}, Ok (mX10_move n d s0 a0 x1 x2 x3) P → BM G tX10_move (2 + d) (45 + d * 25) 0 0 [.ref a0, .int x1, .int x2, .int x3] s0 (fun v s => v = none ∧ P s)) := by
  intro d
  induction d with
  | zero => exact ⟨fun h => (Ok.no h).elim, fun h => (Ok.no h).elim⟩
  | succ d ih =>
    refine ⟨?_, ?_⟩
    · intro P s0 a0 x1 h
      have h : Ok (eX10_moves n (mX10_moves n d) (mX10_move n d) s0 a0 x1) P := h
      refine BM.of (by decide +kernel) (Nat.le_of_ble_eq_true rfl) ?_
      exact bX10_moves (E := (({ frames := 2 + (d + 1), cells := 0, slots := 0, locals := 45 + (d + 1) * 25 }), Aof s0, 0, 0, (fun v s => v = none ∧ P s))) (fun h => ih.1 h) (fun h => oX10_moves h) ⟨by show _ + d + 1 ≤ _ + (d + 1); omega, by show 8 + (5 + 11) + (_ + d * _) ≤ _ + (d + 1) * _; omega⟩ (fun h => ih.2 h) (fun h => oX10_move h) ⟨by show _ + d + 1 ≤ _ + (d + 1); omega, by show 8 + (6 + 11) + (_ + d * _) ≤ _ + (d + 1) * _; omega⟩ ⟨by show _ ≤ _ + (d + 1); omega, by show _ ≤ _ + (d + 1) * _; omega⟩ (fun s hp => ⟨rfl, hp⟩) h
    · intro P s0 a0 x1 x2 x3 h
      have h : Ok (eX10_move n (mX10_moves n d) (mX10_move n d) s0 a0 x1 x2 x3) P := h
      refine BM.of (by decide +kernel) (Nat.le_of_ble_eq_true rfl) ?_
      exact bX10_move (E := (({ frames := 2 + (d + 1), cells := 0, slots := 0, locals := 45 + (d + 1) * 25 }), Aof s0, 0, 0, (fun v s => v = none ∧ P s))) (fun h => ih.1 h) (fun h => oX10_moves h) ⟨by show _ + d + 1 ≤ _ + (d + 1); omega, by show 8 + (5 + 11) + (_ + d * _) ≤ _ + (d + 1) * _; omega⟩ (fun h => ih.2 h) (fun h => oX10_move h) ⟨by show _ + d + 1 ≤ _ + (d + 1); omega, by show 8 + (6 + 11) + (_ + d * _) ≤ _ + (d + 1) * _; omega⟩ ⟨by show _ ≤ _ + (d + 1); omega, by show _ ≤ _ + (d + 1) * _; omega⟩ (fun s hp => ⟨rfl, hp⟩) h
theorem DX10_moves {G : Cx} {n : Nat} {d : Nat} {P : Sg → Prop} {s0 : Sg} {a0 : Nat} {x1 : Int32} (h : Ok (mX10_moves n d s0 a0 x1) P) : BM G tX10_moves (2 + d) (45 + d * 25) 0 0 [.ref a0, .int x1] s0 (fun v s => v = none ∧ P s) := (DgX10_moves d).1 h
theorem DX10_move {G : Cx} {n : Nat} {d : Nat} {P : Sg → Prop} {s0 : Sg} {a0 : Nat} {x1 : Int32} {x2 : Int32} {x3 : Int32} (h : Ok (mX10_move n d s0 a0 x1 x2 x3) P) : BM G tX10_move (2 + d) (45 + d * 25) 0 0 [.ref a0, .int x1, .int x2, .int x3] s0 (fun v s => v = none ∧ P s) := (DgX10_moves d).2 h
def mX10_rise_160 (n : Nat) (rX10_rise : Sg → Nat → Int32 → Int32 → Int32 → Option Sg) (s0 : Sg) (a0 : Nat) (x1 : Int32) (x2 : Int32) (x3 : Int32) (x4 : Int32) : Option ((Sg × Int32) ⊕ (Sg)) :=
  some (.inl (s0, (x4 + (1 : Int32))))
theorem bX10_rise_160 {G : Cx} {E : Ev} {n : Nat} {rX10_rise : Sg → Nat → Int32 → Int32 → Int32 → Option Sg} {frX10_rise loX10_rise : Nat} (hrX10_rise : ∀ {P : Sg → Prop} {s0 : Sg} {a0 : Nat} {x1 : Int32} {x2 : Int32} {x3 : Int32}, Ok (rX10_rise s0 a0 x1 x2 x3) P → BM G tX10_rise frX10_rise loX10_rise 0 0 [.ref a0, .int x1, .int x2, .int x3] s0 (fun v s => v = none ∧ P s)) (hoX10_rise : ∀ {P : Sg → Prop} {s0 : Sg} {a0 : Nat} {x1 : Int32} {x2 : Int32} {x3 : Int32}, Ok (rX10_rise s0 a0 x1 x2 x3) P → ∃ n0, s0.2.1 a0 = some (10, n0)) (hfX10_rise : frX10_rise + 1 ≤ E.1.frames ∧ 8 + (6 + 11) + loX10_rise ≤ E.1.locals) (hRm : 7 ≤ E.1.frames ∧ 157 ≤ E.1.locals) {s0 : Sg} {a0 : Nat} {x1 : Int32} {x2 : Int32} {x3 : Int32} {x4 : Int32} {P : (Sg × Int32) ⊕ (Sg) → Prop} (hC : ∀ (s : Sg) (c4 : Int32), P (.inl (s, c4)) → BW G tX10_rise E 0 0 120 [(0, .ref a0), (1, .int x1), (2, .int x2), (3, .int x3), (4, .int c4)] [] s) (hE : ∀ (s : Sg), P (.inr s) → BW G tX10_rise E 0 0 166 [] [] s)  (h : Ok (mX10_rise_160 n rX10_rise s0 a0 x1 x2 x3 x4) P) : BW G tX10_rise E 0 0 160 [(0, .ref a0), (1, .int x1), (2, .int x2), (3, .int x3), (4, .int x4)] [] s0 := by
  unfold mX10_rise_160 at h
  refine BW.run [.iinc 4 1] (pc' := 163) (lv' := [(0, .ref a0), (1, .int x1), (2, .int x2), (3, .int x3), (4, .int (x4 + (1 : Int32)))]) (st' := []) (by decide +kernel) rfl rfl ?_
  refine BW.goto 120 (by decide +kernel : decode tX10_rise.2.1 163 = .ok (.goto (-43), 3)) (by decide) ?_
  exact hC _ _ (Ok.some h)
def mX10_rise_L120 (n : Nat) (rX10_rise : Sg → Nat → Int32 → Int32 → Int32 → Option Sg) (a0 : Nat) (x1 : Int32) (x2 : Int32) (x3 : Int32) : (Sg × Int32) → Option ((Sg × Int32) ⊕ (Sg))
  | (s0, x4) =>
    (toI (gV 10 s0 a0 20)).bind fun v2 =>
    if v2 ≤ x4 then (
      some (.inr s0)
    ) else (
      if ((x3 >>> (x4 &&& 31)) &&& (1 : Int32)) = 0 then (
        (toR (gV 10 s0 a0 37)).bind fun b3 =>
        (sV 11 s0 b3 x2 (.int x4)).bind fun s4 =>
        (rX10_rise s4 a0 x1 (x2 + (1 : Int32)) (x3 ||| ((1 : Int32) <<< (x4 &&& 31)))).bind fun s5 =>
        mX10_rise_160 n rX10_rise s5 a0 x1 x2 x3 x4
      ) else (
        mX10_rise_160 n rX10_rise s0 a0 x1 x2 x3 x4
      )
    )
theorem bX10_rise_L120 {G : Cx} {E : Ev} {n : Nat} {rX10_rise : Sg → Nat → Int32 → Int32 → Int32 → Option Sg} {frX10_rise loX10_rise : Nat} (hrX10_rise : ∀ {P : Sg → Prop} {s0 : Sg} {a0 : Nat} {x1 : Int32} {x2 : Int32} {x3 : Int32}, Ok (rX10_rise s0 a0 x1 x2 x3) P → BM G tX10_rise frX10_rise loX10_rise 0 0 [.ref a0, .int x1, .int x2, .int x3] s0 (fun v s => v = none ∧ P s)) (hoX10_rise : ∀ {P : Sg → Prop} {s0 : Sg} {a0 : Nat} {x1 : Int32} {x2 : Int32} {x3 : Int32}, Ok (rX10_rise s0 a0 x1 x2 x3) P → ∃ n0, s0.2.1 a0 = some (10, n0)) (hfX10_rise : frX10_rise + 1 ≤ E.1.frames ∧ 8 + (6 + 11) + loX10_rise ≤ E.1.locals) (hRm : 7 ≤ E.1.frames ∧ 157 ≤ E.1.locals) {a0 : Nat} {x1 : Int32} {x2 : Int32} {x3 : Int32} {P : (Sg × Int32) ⊕ (Sg) → Prop} (hC : ∀ (s : Sg) (c4 : Int32), P (.inl (s, c4)) → BW G tX10_rise E 0 0 120 [(0, .ref a0), (1, .int x1), (2, .int x2), (3, .int x3), (4, .int c4)] [] s) (hE : ∀ (s : Sg), P (.inr s) → BW G tX10_rise E 0 0 166 [] [] s) {s0 : Sg} {x4 : Int32} (h : Ok (mX10_rise_L120 n rX10_rise a0 x1 x2 x3 (s0, x4)) P) : BW G tX10_rise E 0 0 120 [(0, .ref a0), (1, .int x1), (2, .int x2), (3, .int x3), (4, .int x4)] [] s0 := by
  unfold mX10_rise_L120 at h
  refine BW.run [.iload 4, .aload_n 0] (pc' := 123) (lv' := [(0, .ref a0), (1, .int x1), (2, .int x2), (3, .int x3), (4, .int x4)]) (st' := [.ref a0, .int x4]) (by decide +kernel) rfl rfl ?_
  obtain ⟨v2, ev2, h⟩ := Ok.bind h
  refine BW.get (by decide +kernel : decode tX10_rise.2.1 123 = .ok (.getfield 165, 3)) ciX10 (k := 20) (by decide) lkF_X10_165 (toI_V ev2) ?_
  refine BW.icmp_ge 166 (by decide +kernel : decode tX10_rise.2.1 126 = .ok (.if_icmp .ge 40, 3)) (by decide) (fun hc => ?_) (fun hc => ?_)
  · have h := (Ok.ite h).1 hc
    refine BW.sub [] rfl ?_
    exact hE _ (Ok.some h)
  · have h := (Ok.ite h).2 hc
    refine BW.run [.iload_n 3, .iload 4, .ishr, .iconst 1, .iand] (pc' := 135) (lv' := [(0, .ref a0), (1, .int x1), (2, .int x2), (3, .int x3), (4, .int x4)]) (st' := [.int ((x3 >>> (x4 &&& 31)) &&& (1 : Int32))]) (by decide +kernel) rfl rfl ?_
    refine BW.if_ne 160 (by decide +kernel : decode tX10_rise.2.1 135 = .ok (.ifCond .ne 25, 3)) (by decide) (fun hc => ?_) (fun hc => ?_)
    · have h := (Ok.ite h).2 hc
      exact bX10_rise_160 hrX10_rise hoX10_rise hfX10_rise hRm hC hE h
    · have h := (Ok.ite h).1 hc
      refine BW.run [.aload_n 0] (pc' := 139) (lv' := [(0, .ref a0), (1, .int x1), (2, .int x2), (3, .int x3), (4, .int x4)]) (st' := [.ref a0]) (by decide +kernel) rfl rfl ?_
      obtain ⟨b3, eb3, h⟩ := Ok.bind h
      refine BW.get (by decide +kernel : decode tX10_rise.2.1 139 = .ok (.getfield 70, 3)) ciX10 (k := 37) (by decide) lkF_X10_70 (toR_V eb3) ?_
      refine BW.run [.iload_n 2, .iload 4] (pc' := 145) (lv' := [(0, .ref a0), (1, .int x1), (2, .int x2), (3, .int x3), (4, .int x4)]) (st' := [.int x4, .int x2, .ref b3]) (by decide +kernel) rfl rfl ?_
      obtain ⟨s4, es4, h⟩ := Ok.bind h
      refine BW.iast (by decide +kernel : decode tX10_rise.2.1 145 = .ok (.iastore, 1)) es4 ?_
      refine BW.run [.aload_n 0, .iload_n 1, .iload_n 2, .iconst 1, .iadd, .iload_n 3, .iconst 1, .iload 4, .ishl, .ior] (pc' := 157) (lv' := [(0, .ref a0), (1, .int x1), (2, .int x2), (3, .int x3), (4, .int x4)]) (st' := [.int (x3 ||| ((1 : Int32) <<< (x4 &&& 31))), .int (x2 + (1 : Int32)), .int x1, .ref a0]) (by decide +kernel) rfl rfl ?_
      refine BW.callV (As := [.int x1, .int (x2 + (1 : Int32)), .int (x3 ||| ((1 : Int32) <<< (x4 &&& 31)))]) (st := []) (by decide +kernel : decode tX10_rise.2.1 157 = .ok (.invokevirtual 313, 3)) (hrX10_rise (Ok.bindK h)) mfX10_rise lkM_X10_313 imX10_rise selX10_rise ciX10 (hoX10_rise (Ok.bindK h)).choose_spec rfl rfl (Nat.le_of_ble_eq_true rfl) hfX10_rise ⟨Nat.zero_le _, Nat.zero_le _⟩ ?_
      rintro _ s5 ⟨rfl, h⟩
      show BW G tX10_rise E 0 0 160 [(0, .ref a0), (1, .int x1), (2, .int x2), (3, .int x3), (4, .int x4)] [] s5
      exact bX10_rise_160 hrX10_rise hoX10_rise hfX10_rise hRm hC hE h
theorem bX10_rise_W120 {G : Cx} {E : Ev} {n : Nat} {rX10_rise : Sg → Nat → Int32 → Int32 → Int32 → Option Sg} {frX10_rise loX10_rise : Nat} (hrX10_rise : ∀ {P : Sg → Prop} {s0 : Sg} {a0 : Nat} {x1 : Int32} {x2 : Int32} {x3 : Int32}, Ok (rX10_rise s0 a0 x1 x2 x3) P → BM G tX10_rise frX10_rise loX10_rise 0 0 [.ref a0, .int x1, .int x2, .int x3] s0 (fun v s => v = none ∧ P s)) (hoX10_rise : ∀ {P : Sg → Prop} {s0 : Sg} {a0 : Nat} {x1 : Int32} {x2 : Int32} {x3 : Int32}, Ok (rX10_rise s0 a0 x1 x2 x3) P → ∃ n0, s0.2.1 a0 = some (10, n0)) (hfX10_rise : frX10_rise + 1 ≤ E.1.frames ∧ 8 + (6 + 11) + loX10_rise ≤ E.1.locals) (hRm : 7 ≤ E.1.frames ∧ 157 ≤ E.1.locals) {a0 : Nat} {x1 : Int32} {x2 : Int32} {x3 : Int32} {K : (Sg) → Prop} (hE : ∀ (s : Sg), K s → BW G tX10_rise E 0 0 166 [] [] s) : ∀ (f : Nat) (c : Sg × Int32), Ok (loopM (mX10_rise_L120 n rX10_rise a0 x1 x2 x3) f c) K → match c with | (s0, x4) => BW G tX10_rise E 0 0 120 [(0, .ref a0), (1, .int x1), (2, .int x2), (3, .int x3), (4, .int x4)] [] s0 := by
  intro f
  induction f with
  | zero => intro c h; exact (Ok.no h).elim
  | succ f ih =>
    intro c h
    obtain ⟨s0, x4⟩ := c
    exact bX10_rise_L120 (P := loopP (mX10_rise_L120 n rX10_rise a0 x1 x2 x3) f K) hrX10_rise hoX10_rise hfX10_rise hRm (fun s c4 h => ih (s, c4) h) hE (loopM_ok h)
def mX10_rise_69 (n : Nat) (rX10_rise : Sg → Nat → Int32 → Int32 → Int32 → Option Sg) (s0 : Sg) (a0 : Nat) (x4 : Int32) (x5 : Int32) : Option ((Sg × Int32 × Int32) ⊕ (Sg × Int32)) :=
  some (.inl (s0, x4, (x5 + (1 : Int32))))
theorem bX10_rise_69 {G : Cx} {E : Ev} {n : Nat} {rX10_rise : Sg → Nat → Int32 → Int32 → Int32 → Option Sg} {frX10_rise loX10_rise : Nat} (hrX10_rise : ∀ {P : Sg → Prop} {s0 : Sg} {a0 : Nat} {x1 : Int32} {x2 : Int32} {x3 : Int32}, Ok (rX10_rise s0 a0 x1 x2 x3) P → BM G tX10_rise frX10_rise loX10_rise 0 0 [.ref a0, .int x1, .int x2, .int x3] s0 (fun v s => v = none ∧ P s)) (hoX10_rise : ∀ {P : Sg → Prop} {s0 : Sg} {a0 : Nat} {x1 : Int32} {x2 : Int32} {x3 : Int32}, Ok (rX10_rise s0 a0 x1 x2 x3) P → ∃ n0, s0.2.1 a0 = some (10, n0)) (hfX10_rise : frX10_rise + 1 ≤ E.1.frames ∧ 8 + (6 + 11) + loX10_rise ≤ E.1.locals) (hRm : 7 ≤ E.1.frames ∧ 157 ≤ E.1.locals) {s0 : Sg} {a0 : Nat} {x4 : Int32} {x5 : Int32} {P : (Sg × Int32 × Int32) ⊕ (Sg × Int32) → Prop} (hC : ∀ (s : Sg) (c4 : Int32) (c5 : Int32), P (.inl (s, c4, c5)) → BW G tX10_rise E 0 0 19 [(0, .ref a0), (4, .int c4), (5, .int c5)] [] s) (hE : ∀ (s : Sg) (c4 : Int32), P (.inr (s, c4)) → BW G tX10_rise E 0 0 75 [(0, .ref a0), (4, .int c4)] [] s)  (h : Ok (mX10_rise_69 n rX10_rise s0 a0 x4 x5) P) : BW G tX10_rise E 0 0 69 [(0, .ref a0), (4, .int x4), (5, .int x5)] [] s0 := by
  unfold mX10_rise_69 at h
  refine BW.run [.iinc 5 1] (pc' := 72) (lv' := [(0, .ref a0), (4, .int x4), (5, .int (x5 + (1 : Int32)))]) (st' := []) (by decide +kernel) rfl rfl ?_
  refine BW.goto 19 (by decide +kernel : decode tX10_rise.2.1 72 = .ok (.goto (-53), 3)) (by decide) ?_
  exact hC _ _ _ (Ok.some h)
def mX10_rise_L19 (n : Nat) (rX10_rise : Sg → Nat → Int32 → Int32 → Int32 → Option Sg) (a0 : Nat) : (Sg × Int32 × Int32) → Option ((Sg × Int32 × Int32) ⊕ (Sg × Int32))
  | (s0, x4, x5) =>
    (toI (gV 10 s0 a0 20)).bind fun v9 =>
    if v9 ≤ x5 then (
      some (.inr (s0, x4))
    ) else (
      (toR (gV 10 s0 a0 37)).bind fun b10 =>
      (toI (aV 11 s0 b10 x5)).bind fun v11 =>
      nm (((8 : Int32) * x4) + v11) fun v12 =>
      if x5 ≤ 0 then (
        mX10_rise_69 n rX10_rise s0 a0 v12 x5
      ) else (
        (toR (gV 10 s0 a0 37)).bind fun b13 =>
        (toI (aV 11 s0 b13 (x5 - (1 : Int32)))).bind fun v14 =>
        (toR (gV 10 s0 a0 37)).bind fun b15 =>
        (toI (aV 11 s0 b15 x5)).bind fun v16 =>
        (mX10_least n s0 a0 v14 v16 (1 : Int32)).bind fun s17 =>
        mX10_rise_69 n rX10_rise s17 a0 v12 x5
      )
    )
theorem bX10_rise_L19 {G : Cx} {E : Ev} {n : Nat} {rX10_rise : Sg → Nat → Int32 → Int32 → Int32 → Option Sg} {frX10_rise loX10_rise : Nat} (hrX10_rise : ∀ {P : Sg → Prop} {s0 : Sg} {a0 : Nat} {x1 : Int32} {x2 : Int32} {x3 : Int32}, Ok (rX10_rise s0 a0 x1 x2 x3) P → BM G tX10_rise frX10_rise loX10_rise 0 0 [.ref a0, .int x1, .int x2, .int x3] s0 (fun v s => v = none ∧ P s)) (hoX10_rise : ∀ {P : Sg → Prop} {s0 : Sg} {a0 : Nat} {x1 : Int32} {x2 : Int32} {x3 : Int32}, Ok (rX10_rise s0 a0 x1 x2 x3) P → ∃ n0, s0.2.1 a0 = some (10, n0)) (hfX10_rise : frX10_rise + 1 ≤ E.1.frames ∧ 8 + (6 + 11) + loX10_rise ≤ E.1.locals) (hRm : 7 ≤ E.1.frames ∧ 157 ≤ E.1.locals) {a0 : Nat} {P : (Sg × Int32 × Int32) ⊕ (Sg × Int32) → Prop} (hC : ∀ (s : Sg) (c4 : Int32) (c5 : Int32), P (.inl (s, c4, c5)) → BW G tX10_rise E 0 0 19 [(0, .ref a0), (4, .int c4), (5, .int c5)] [] s) (hE : ∀ (s : Sg) (c4 : Int32), P (.inr (s, c4)) → BW G tX10_rise E 0 0 75 [(0, .ref a0), (4, .int c4)] [] s) {s0 : Sg} {x4 : Int32} {x5 : Int32} (h : Ok (mX10_rise_L19 n rX10_rise a0 (s0, x4, x5)) P) : BW G tX10_rise E 0 0 19 [(0, .ref a0), (4, .int x4), (5, .int x5)] [] s0 := by
  unfold mX10_rise_L19 at h
  refine BW.run [.iload 5, .aload_n 0] (pc' := 22) (lv' := [(0, .ref a0), (4, .int x4), (5, .int x5)]) (st' := [.ref a0, .int x5]) (by decide +kernel) rfl rfl ?_
  obtain ⟨v9, ev9, h⟩ := Ok.bind h
  refine BW.get (by decide +kernel : decode tX10_rise.2.1 22 = .ok (.getfield 165, 3)) ciX10 (k := 20) (by decide) lkF_X10_165 (toI_V ev9) ?_
  refine BW.icmp_ge 75 (by decide +kernel : decode tX10_rise.2.1 25 = .ok (.if_icmp .ge 50, 3)) (by decide) (fun hc => ?_) (fun hc => ?_)
  · have h := (Ok.ite h).1 hc
    refine BW.sub [0, 1] rfl ?_
    exact hE _ _ (Ok.some h)
  · have h := (Ok.ite h).2 hc
    refine BW.run [.bipush 8, .iload 4, .imul, .aload_n 0] (pc' := 34) (lv' := [(0, .ref a0), (4, .int x4), (5, .int x5)]) (st' := [.ref a0, .int ((8 : Int32) * x4)]) (by decide +kernel) rfl rfl ?_
    obtain ⟨b10, eb10, h⟩ := Ok.bind h
    refine BW.get (by decide +kernel : decode tX10_rise.2.1 34 = .ok (.getfield 70, 3)) ciX10 (k := 37) (by decide) lkF_X10_70 (toR_V eb10) ?_
    refine BW.run [.iload 5] (pc' := 39) (lv' := [(0, .ref a0), (4, .int x4), (5, .int x5)]) (st' := [.int x5, .ref b10, .int ((8 : Int32) * x4)]) (by decide +kernel) rfl rfl ?_
    obtain ⟨v11, ev11, h⟩ := Ok.bind h
    refine BW.iald (by decide +kernel : decode tX10_rise.2.1 39 = .ok (.iaload, 1)) (toI_V ev11) ?_
    refine BW.run [.iadd] (pc' := 41) (lv' := [(0, .ref a0), (4, .int x4), (5, .int x5)]) (st' := [.int (((8 : Int32) * x4) + v11)]) (by decide +kernel) rfl rfl ?_
    obtain ⟨v12, wv12, h⟩ := Ok.nm h
    refine BW.nm wv12 ?_
    refine BW.run [.istore 4, .iload 5] (pc' := 45) (lv' := [(0, .ref a0), (4, .int v12), (5, .int x5)]) (st' := [.int x5]) (by decide +kernel) rfl rfl ?_
    refine BW.if_le 69 (by decide +kernel : decode tX10_rise.2.1 45 = .ok (.ifCond .le 24, 3)) (by decide) (fun hc => ?_) (fun hc => ?_)
    · have h := (Ok.ite h).1 hc
      exact bX10_rise_69 hrX10_rise hoX10_rise hfX10_rise hRm hC hE h
    · have h := (Ok.ite h).2 hc
      refine BW.run [.aload_n 0, .aload_n 0] (pc' := 50) (lv' := [(0, .ref a0), (4, .int v12), (5, .int x5)]) (st' := [.ref a0, .ref a0]) (by decide +kernel) rfl rfl ?_
      obtain ⟨b13, eb13, h⟩ := Ok.bind h
      refine BW.get (by decide +kernel : decode tX10_rise.2.1 50 = .ok (.getfield 70, 3)) ciX10 (k := 37) (by decide) lkF_X10_70 (toR_V eb13) ?_
      refine BW.run [.iload 5, .iconst 1, .isub] (pc' := 57) (lv' := [(0, .ref a0), (4, .int v12), (5, .int x5)]) (st' := [.int (x5 - (1 : Int32)), .ref b13, .ref a0]) (by decide +kernel) rfl rfl ?_
      obtain ⟨v14, ev14, h⟩ := Ok.bind h
      refine BW.iald (by decide +kernel : decode tX10_rise.2.1 57 = .ok (.iaload, 1)) (toI_V ev14) ?_
      refine BW.run [.aload_n 0] (pc' := 59) (lv' := [(0, .ref a0), (4, .int v12), (5, .int x5)]) (st' := [.ref a0, .int v14, .ref a0]) (by decide +kernel) rfl rfl ?_
      obtain ⟨b15, eb15, h⟩ := Ok.bind h
      refine BW.get (by decide +kernel : decode tX10_rise.2.1 59 = .ok (.getfield 70, 3)) ciX10 (k := 37) (by decide) lkF_X10_70 (toR_V eb15) ?_
      refine BW.run [.iload 5] (pc' := 64) (lv' := [(0, .ref a0), (4, .int v12), (5, .int x5)]) (st' := [.int x5, .ref b15, .int v14, .ref a0]) (by decide +kernel) rfl rfl ?_
      obtain ⟨v16, ev16, h⟩ := Ok.bind h
      refine BW.iald (by decide +kernel : decode tX10_rise.2.1 64 = .ok (.iaload, 1)) (toI_V ev16) ?_
      refine BW.run [.iconst 1] (pc' := 66) (lv' := [(0, .ref a0), (4, .int v12), (5, .int x5)]) (st' := [.int (1 : Int32), .int v16, .int v14, .ref a0]) (by decide +kernel) rfl rfl ?_
      refine BW.callV (As := [.int v14, .int v16, .int (1 : Int32)]) (st := []) (by decide +kernel : decode tX10_rise.2.1 66 = .ok (.invokevirtual 198, 3)) (DX10_least (Ok.bindK h)) mfX10_least lkM_X10_198 imX10_least selX10_least ciX10 (oX10_least (Ok.bindK h)).choose_spec rfl rfl (Nat.le_of_ble_eq_true rfl) ⟨Nat.le_trans (by decide) hRm.1, Nat.le_trans (by decide) hRm.2⟩ ⟨Nat.zero_le _, Nat.zero_le _⟩ ?_
      rintro _ s17 ⟨rfl, h⟩
      show BW G tX10_rise E 0 0 69 [(0, .ref a0), (4, .int v12), (5, .int x5)] [] s17
      exact bX10_rise_69 hrX10_rise hoX10_rise hfX10_rise hRm hC hE h
theorem bX10_rise_W19 {G : Cx} {E : Ev} {n : Nat} {rX10_rise : Sg → Nat → Int32 → Int32 → Int32 → Option Sg} {frX10_rise loX10_rise : Nat} (hrX10_rise : ∀ {P : Sg → Prop} {s0 : Sg} {a0 : Nat} {x1 : Int32} {x2 : Int32} {x3 : Int32}, Ok (rX10_rise s0 a0 x1 x2 x3) P → BM G tX10_rise frX10_rise loX10_rise 0 0 [.ref a0, .int x1, .int x2, .int x3] s0 (fun v s => v = none ∧ P s)) (hoX10_rise : ∀ {P : Sg → Prop} {s0 : Sg} {a0 : Nat} {x1 : Int32} {x2 : Int32} {x3 : Int32}, Ok (rX10_rise s0 a0 x1 x2 x3) P → ∃ n0, s0.2.1 a0 = some (10, n0)) (hfX10_rise : frX10_rise + 1 ≤ E.1.frames ∧ 8 + (6 + 11) + loX10_rise ≤ E.1.locals) (hRm : 7 ≤ E.1.frames ∧ 157 ≤ E.1.locals) {a0 : Nat} {K : (Sg × Int32) → Prop} (hE : ∀ (s : Sg) (c4 : Int32), K (s, c4) → BW G tX10_rise E 0 0 75 [(0, .ref a0), (4, .int c4)] [] s) : ∀ (f : Nat) (c : Sg × Int32 × Int32), Ok (loopM (mX10_rise_L19 n rX10_rise a0) f c) K → match c with | (s0, x4, x5) => BW G tX10_rise E 0 0 19 [(0, .ref a0), (4, .int x4), (5, .int x5)] [] s0 := by
  intro f
  induction f with
  | zero => intro c h; exact (Ok.no h).elim
  | succ f ih =>
    intro c h
    obtain ⟨s0, x4, x5⟩ := c
    exact bX10_rise_L19 (P := loopP (mX10_rise_L19 n rX10_rise a0) f K) hrX10_rise hoX10_rise hfX10_rise hRm (fun s c4 c5 h => ih (s, c4, c5) h) hE (loopM_ok h)
def mX10_rise_103 (n : Nat) (rX10_rise : Sg → Nat → Int32 → Int32 → Int32 → Option Sg) (s0 : Sg) (t0 : Int32) (t1 : Nat) (a0 : Nat) : Option (Sg) :=
  (pV 10 s0 t1 40 (.int t0)).bind fun s27 =>
  (toI (gV 10 s27 a0 38)).bind fun v28 =>
  (pV 10 s27 a0 38 (.int (v28 + (1 : Int32)))).bind fun s29 =>
  some s29
theorem bX10_rise_103 {G : Cx} {E : Ev} {n : Nat} {rX10_rise : Sg → Nat → Int32 → Int32 → Int32 → Option Sg} {frX10_rise loX10_rise : Nat} (hrX10_rise : ∀ {P : Sg → Prop} {s0 : Sg} {a0 : Nat} {x1 : Int32} {x2 : Int32} {x3 : Int32}, Ok (rX10_rise s0 a0 x1 x2 x3) P → BM G tX10_rise frX10_rise loX10_rise 0 0 [.ref a0, .int x1, .int x2, .int x3] s0 (fun v s => v = none ∧ P s)) (hoX10_rise : ∀ {P : Sg → Prop} {s0 : Sg} {a0 : Nat} {x1 : Int32} {x2 : Int32} {x3 : Int32}, Ok (rX10_rise s0 a0 x1 x2 x3) P → ∃ n0, s0.2.1 a0 = some (10, n0)) (hfX10_rise : frX10_rise + 1 ≤ E.1.frames ∧ 8 + (6 + 11) + loX10_rise ≤ E.1.locals) (hRm : 7 ≤ E.1.frames ∧ 157 ≤ E.1.locals) {s0 : Sg} {t0 : Int32} {t1 : Nat} {a0 : Nat} {P : Sg → Prop} (hQ : ∀ s, P s → E.2.2.2.2 none s) (h : Ok (mX10_rise_103 n rX10_rise s0 t0 t1 a0) P) : BW G tX10_rise E 0 0 103 [(0, .ref a0)] [.int t0, .ref t1] s0 := by
  unfold mX10_rise_103 at h
  obtain ⟨s27, es27, h⟩ := Ok.bind h
  refine BW.put (by decide +kernel : decode tX10_rise.2.1 103 = .ok (.putfield 310, 3)) ciX10 (k := 40) (by decide) lkF_X10_310 rfl rfl rfl es27 ?_
  refine BW.run [.aload_n 0, .dup] (pc' := 108) (lv' := [(0, .ref a0)]) (st' := [.ref a0, .ref a0]) (by decide +kernel) rfl rfl ?_
  obtain ⟨v28, ev28, h⟩ := Ok.bind h
  refine BW.get (by decide +kernel : decode tX10_rise.2.1 108 = .ok (.getfield 304, 3)) ciX10 (k := 38) (by decide) lkF_X10_304 (toI_V ev28) ?_
  refine BW.run [.iconst 1, .iadd] (pc' := 113) (lv' := [(0, .ref a0)]) (st' := [.int (v28 + (1 : Int32)), .ref a0]) (by decide +kernel) rfl rfl ?_
  obtain ⟨s29, es29, h⟩ := Ok.bind h
  refine BW.put (by decide +kernel : decode tX10_rise.2.1 113 = .ok (.putfield 304, 3)) ciX10 (k := 38) (by decide) lkF_X10_304 rfl rfl rfl es29 ?_
  exact BW.vret (by decide +kernel : decode tX10_rise.2.1 116 = .ok (.return_, 1)) rfl (Nat.zero_le _) (Nat.zero_le _) (hQ _ (Ok.some h))
def eX10_rise (n : Nat) (rX10_rise : Sg → Nat → Int32 → Int32 → Int32 → Option Sg) (s0 : Sg) (a0 : Nat) (x1 : Int32) (x2 : Int32) (x3 : Int32) : Option (Sg) :=
  (isO 10 s0 a0).bind fun _ =>
  (toI (gV 10 s0 a0 20)).bind fun v1 =>
  if x2 = v1 then (
    (mX10_lay n s0 a0 x1).bind fun s8 =>
    (loopM (mX10_rise_L19 n rX10_rise a0) n (s8, (0 : Int32), (0 : Int32))).bind fun (s18, v19) =>
    (mX10_close n s18 a0).bind fun (v22, s21) =>
    if v22 = 0 then (
      some s21
    ) else (
      (toI (gV 10 s21 a0 38)).bind fun v24 =>
      (toI (gV 10 s21 a0 39)).bind fun v25 =>
      if v24 = v25 then (
        mX10_rise_103 n rX10_rise s21 v19 a0 a0
      ) else (
        (toI (gV 10 s21 a0 40)).bind fun v26 =>
        mX10_rise_103 n rX10_rise s21 v26 a0 a0
      )
    )
  ) else (
    (loopM (mX10_rise_L120 n rX10_rise a0 x1 x2 x3) n (s0, (0 : Int32))).bind fun s6 =>
    some s6
  )
theorem bX10_rise {G : Cx} {E : Ev} {n : Nat} {rX10_rise : Sg → Nat → Int32 → Int32 → Int32 → Option Sg} {frX10_rise loX10_rise : Nat} (hrX10_rise : ∀ {P : Sg → Prop} {s0 : Sg} {a0 : Nat} {x1 : Int32} {x2 : Int32} {x3 : Int32}, Ok (rX10_rise s0 a0 x1 x2 x3) P → BM G tX10_rise frX10_rise loX10_rise 0 0 [.ref a0, .int x1, .int x2, .int x3] s0 (fun v s => v = none ∧ P s)) (hoX10_rise : ∀ {P : Sg → Prop} {s0 : Sg} {a0 : Nat} {x1 : Int32} {x2 : Int32} {x3 : Int32}, Ok (rX10_rise s0 a0 x1 x2 x3) P → ∃ n0, s0.2.1 a0 = some (10, n0)) (hfX10_rise : frX10_rise + 1 ≤ E.1.frames ∧ 8 + (6 + 11) + loX10_rise ≤ E.1.locals) (hRm : 7 ≤ E.1.frames ∧ 157 ≤ E.1.locals) {P : Sg → Prop} (hQ : ∀ s, P s → E.2.2.2.2 none s) {s0 : Sg} {a0 : Nat} {x1 : Int32} {x2 : Int32} {x3 : Int32} (h : Ok (eX10_rise n rX10_rise s0 a0 x1 x2 x3) P) : BW G tX10_rise E 0 0 0 [(0, .ref a0), (1, .int x1), (2, .int x2), (3, .int x3)] [] s0 := by
  unfold eX10_rise at h
  obtain ⟨_, _, h⟩ := Ok.bind h
  refine BW.run [.iload_n 2, .aload_n 0] (pc' := 2) (lv' := [(0, .ref a0), (1, .int x1), (2, .int x2), (3, .int x3)]) (st' := [.ref a0, .int x2]) (by decide +kernel) rfl rfl ?_
  obtain ⟨v1, ev1, h⟩ := Ok.bind h
  refine BW.get (by decide +kernel : decode tX10_rise.2.1 2 = .ok (.getfield 165, 3)) ciX10 (k := 20) (by decide) lkF_X10_165 (toI_V ev1) ?_
  refine BW.icmp_ne 117 (by decide +kernel : decode tX10_rise.2.1 5 = .ok (.if_icmp .ne 112, 3)) (by decide) (fun hc => ?_) (fun hc => ?_)
  · have h := (Ok.ite h).2 hc
    refine BW.run [.iconst 0, .istore 4] (pc' := 120) (lv' := [(0, .ref a0), (1, .int x1), (2, .int x2), (3, .int x3), (4, .int (0 : Int32))]) (st' := []) (by decide +kernel) rfl rfl ?_
    refine bX10_rise_W120 hrX10_rise hoX10_rise hfX10_rise hRm (a0 := a0) (x1 := x1) (x2 := x2) (x3 := x3) (fun s6 h => ?_) n (s0, (0 : Int32)) (Ok.bindK h)
    exact BW.vret (by decide +kernel : decode tX10_rise.2.1 166 = .ok (.return_, 1)) rfl (Nat.zero_le _) (Nat.zero_le _) (hQ _ (Ok.some h))
  · have h := (Ok.ite h).1 hc
    refine BW.run [.aload_n 0, .iload_n 1] (pc' := 10) (lv' := [(0, .ref a0), (1, .int x1), (2, .int x2), (3, .int x3)]) (st' := [.int x1, .ref a0]) (by decide +kernel) rfl rfl ?_
    refine BW.callV (As := [.int x1]) (st := []) (by decide +kernel : decode tX10_rise.2.1 10 = .ok (.invokevirtual 214, 3)) (DX10_lay (Ok.bindK h)) mfX10_lay lkM_X10_214 imX10_lay selX10_lay ciX10 (oX10_lay (Ok.bindK h)).choose_spec rfl rfl (Nat.le_of_ble_eq_true rfl) ⟨Nat.le_trans (by decide) hRm.1, Nat.le_trans (by decide) hRm.2⟩ ⟨Nat.zero_le _, Nat.zero_le _⟩ ?_
    rintro _ s8 ⟨rfl, h⟩
    show BW G tX10_rise E 0 0 13 [(0, .ref a0), (1, .int x1), (2, .int x2), (3, .int x3)] [] s8
    refine BW.run [.iconst 0, .istore 4, .iconst 0, .istore 5] (pc' := 19) (lv' := [(0, .ref a0), (1, .int x1), (2, .int x2), (3, .int x3), (4, .int (0 : Int32)), (5, .int (0 : Int32))]) (st' := []) (by decide +kernel) rfl rfl ?_
    refine BW.sub [0, 4, 5] rfl ?_
    refine bX10_rise_W19 hrX10_rise hoX10_rise hfX10_rise hRm (a0 := a0) (fun s18 v19 h => ?_) n (s8, (0 : Int32), (0 : Int32)) (Ok.bindK h)
    refine BW.run [.aload_n 0] (pc' := 76) (lv' := [(0, .ref a0), (4, .int v19)]) (st' := [.ref a0]) (by decide +kernel) rfl rfl ?_
    refine BW.callV (As := []) (st := []) (by decide +kernel : decode tX10_rise.2.1 76 = .ok (.invokevirtual 217, 3)) (DX10_close (Ok.bindK h)) mfX10_close lkM_X10_217 imX10_close selX10_close ciX10 (oX10_close (Ok.bindK h)).choose_spec rfl rfl (Nat.le_of_ble_eq_true rfl) ⟨Nat.le_trans (by decide) hRm.1, Nat.le_trans (by decide) hRm.2⟩ ⟨Nat.zero_le _, Nat.zero_le _⟩ ?_
    rintro _ s21 ⟨v22, rfl, h⟩
    show BW G tX10_rise E 0 0 79 [(0, .ref a0), (4, .int v19)] [.int v22] s21
    refine BW.if_eq 116 (by decide +kernel : decode tX10_rise.2.1 79 = .ok (.ifCond .eq 37, 3)) (by decide) (fun hc => ?_) (fun hc => ?_)
    · have h := (Ok.ite h).1 hc
      exact BW.vret (by decide +kernel : decode tX10_rise.2.1 116 = .ok (.return_, 1)) rfl (Nat.zero_le _) (Nat.zero_le _) (hQ _ (Ok.some h))
    · have h := (Ok.ite h).2 hc
      refine BW.run [.aload_n 0, .aload_n 0] (pc' := 84) (lv' := [(0, .ref a0), (4, .int v19)]) (st' := [.ref a0, .ref a0]) (by decide +kernel) rfl rfl ?_
      obtain ⟨v24, ev24, h⟩ := Ok.bind h
      refine BW.get (by decide +kernel : decode tX10_rise.2.1 84 = .ok (.getfield 304, 3)) ciX10 (k := 38) (by decide) lkF_X10_304 (toI_V ev24) ?_
      refine BW.run [.aload_n 0] (pc' := 88) (lv' := [(0, .ref a0), (4, .int v19)]) (st' := [.ref a0, .int v24, .ref a0]) (by decide +kernel) rfl rfl ?_
      obtain ⟨v25, ev25, h⟩ := Ok.bind h
      refine BW.get (by decide +kernel : decode tX10_rise.2.1 88 = .ok (.getfield 307, 3)) ciX10 (k := 39) (by decide) lkF_X10_307 (toI_V ev25) ?_
      refine BW.icmp_ne 99 (by decide +kernel : decode tX10_rise.2.1 91 = .ok (.if_icmp .ne 8, 3)) (by decide) (fun hc => ?_) (fun hc => ?_)
      · have h := (Ok.ite h).2 hc
        refine BW.run [.aload_n 0] (pc' := 100) (lv' := [(0, .ref a0), (4, .int v19)]) (st' := [.ref a0, .ref a0]) (by decide +kernel) rfl rfl ?_
        obtain ⟨v26, ev26, h⟩ := Ok.bind h
        refine BW.get (by decide +kernel : decode tX10_rise.2.1 100 = .ok (.getfield 310, 3)) ciX10 (k := 40) (by decide) lkF_X10_310 (toI_V ev26) ?_
        refine BW.sub [0] rfl ?_
        exact bX10_rise_103 hrX10_rise hoX10_rise hfX10_rise hRm hQ h
      · have h := (Ok.ite h).1 hc
        refine BW.run [.iload 4] (pc' := 96) (lv' := [(0, .ref a0), (4, .int v19)]) (st' := [.int v19, .ref a0]) (by decide +kernel) rfl rfl ?_
        refine BW.goto 103 (by decide +kernel : decode tX10_rise.2.1 96 = .ok (.goto 7, 3)) (by decide) ?_
        refine BW.sub [0] rfl ?_
        exact bX10_rise_103 hrX10_rise hoX10_rise hfX10_rise hRm hQ h
def mX10_rise (n : Nat) : Nat → Sg → Nat → Int32 → Int32 → Int32 → Option Sg
  | 0, _, _, _, _, _ => none
  | d + 1, s0, a0, x1, x2, x3 => eX10_rise n (mX10_rise n d) s0 a0 x1 x2 x3
theorem oX10_rise {n d : Nat} {P : Sg → Prop} {s0 : Sg} {a0 : Nat} {x1 : Int32} {x2 : Int32} {x3 : Int32} (h : Ok (mX10_rise n d s0 a0 x1 x2 x3) P) : ∃ n0, s0.2.1 a0 = some (10, n0) := by
  cases d with
  | zero => exact (Ok.no h).elim
  | succ d =>
    have h : Ok (eX10_rise n (mX10_rise n d) s0 a0 x1 x2 x3) P := h
    unfold eX10_rise at h
    exact Ok.isO h
theorem DgX10_rise {G : Cx} {n : Nat} : ∀ d : Nat, (∀ {P : Sg → Prop} {s0 : Sg} {a0 : Nat} {x1 : Int32} {x2 : Int32} {x3 : Int32}, Ok (mX10_rise n d s0 a0 x1 x2 x3) P → BM G tX10_rise (7 + d) (157 + d * 25) 0 0 [.ref a0, .int x1, .int x2, .int x3] s0 (fun v s => v = none ∧ P s)) := by
  intro d
  induction d with
  | zero => exact fun h => (Ok.no h).elim
  | succ d ih =>
    intro P s0 a0 x1 x2 x3 h
    have h : Ok (eX10_rise n (mX10_rise n d) s0 a0 x1 x2 x3) P := h
    refine BM.of (by decide +kernel) (Nat.le_of_ble_eq_true rfl) ?_
    exact bX10_rise (E := (({ frames := 7 + (d + 1), cells := 0, slots := 0, locals := 157 + (d + 1) * 25 }), Aof s0, 0, 0, (fun v s => v = none ∧ P s))) (fun h => ih h) (fun h => oX10_rise h) ⟨by show _ + d + 1 ≤ _ + (d + 1); omega, by show 8 + (6 + 11) + (_ + d * _) ≤ _ + (d + 1) * _; omega⟩ ⟨by show _ ≤ _ + (d + 1); omega, by show _ ≤ _ + (d + 1) * _; omega⟩ (fun s hp => ⟨rfl, hp⟩) h
theorem DX10_rise {G : Cx} {n : Nat} {d : Nat} {P : Sg → Prop} {s0 : Sg} {a0 : Nat} {x1 : Int32} {x2 : Int32} {x3 : Int32} (h : Ok (mX10_rise n d s0 a0 x1 x2 x3) P) : BM G tX10_rise (7 + d) (157 + d * 25) 0 0 [.ref a0, .int x1, .int x2, .int x3] s0 (fun v s => v = none ∧ P s) := (DgX10_rise d) h
def mX10_seek_176 (n : Nat) (rX10_seek : Sg → Nat → Int32 → Int32 → Int32 → Option Sg) (s0 : Sg) (a0 : Nat) (x1 : Int32) (x2 : Int32) (x3 : Int32) (x4 : Int32) : Option ((Sg × Int32) ⊕ (Sg)) :=
  some (.inl (s0, (x4 + (1 : Int32))))
theorem bX10_seek_176 {G : Cx} {E : Ev} {n : Nat} {rX10_seek : Sg → Nat → Int32 → Int32 → Int32 → Option Sg} {frX10_seek loX10_seek : Nat} (hrX10_seek : ∀ {P : Sg → Prop} {s0 : Sg} {a0 : Nat} {x1 : Int32} {x2 : Int32} {x3 : Int32}, Ok (rX10_seek s0 a0 x1 x2 x3) P → BM G tX10_seek frX10_seek loX10_seek 0 0 [.ref a0, .int x1, .int x2, .int x3] s0 (fun v s => v = none ∧ P s)) (hoX10_seek : ∀ {P : Sg → Prop} {s0 : Sg} {a0 : Nat} {x1 : Int32} {x2 : Int32} {x3 : Int32}, Ok (rX10_seek s0 a0 x1 x2 x3) P → ∃ n0, s0.2.1 a0 = some (10, n0)) (hfX10_seek : frX10_seek + 1 ≤ E.1.frames ∧ 8 + (5 + 11) + loX10_seek ≤ E.1.locals) (hRm : 7 ≤ E.1.frames ∧ 157 ≤ E.1.locals) {s0 : Sg} {a0 : Nat} {x1 : Int32} {x2 : Int32} {x3 : Int32} {x4 : Int32} {P : (Sg × Int32) ⊕ (Sg) → Prop} (hC : ∀ (s : Sg) (c4 : Int32), P (.inl (s, c4)) → BW G tX10_seek E 0 0 118 [(0, .ref a0), (1, .int x1), (2, .int x2), (3, .int x3), (4, .int c4)] [] s) (hE : ∀ (s : Sg), P (.inr s) → BW G tX10_seek E 0 0 182 [(0, .ref a0), (2, .int x2)] [] s)  (h : Ok (mX10_seek_176 n rX10_seek s0 a0 x1 x2 x3 x4) P) : BW G tX10_seek E 0 0 176 [(0, .ref a0), (1, .int x1), (2, .int x2), (3, .int x3), (4, .int x4)] [] s0 := by
  unfold mX10_seek_176 at h
  refine BW.run [.iinc 4 1] (pc' := 179) (lv' := [(0, .ref a0), (1, .int x1), (2, .int x2), (3, .int x3), (4, .int (x4 + (1 : Int32)))]) (st' := []) (by decide +kernel) rfl rfl ?_
  refine BW.goto 118 (by decide +kernel : decode tX10_seek.2.1 179 = .ok (.goto (-61), 3)) (by decide) ?_
  exact hC _ _ (Ok.some h)
def mX10_seek_L118 (n : Nat) (rX10_seek : Sg → Nat → Int32 → Int32 → Int32 → Option Sg) (a0 : Nat) (x1 : Int32) (x2 : Int32) (x3 : Int32) : (Sg × Int32) → Option ((Sg × Int32) ⊕ (Sg))
  | (s0, x4) =>
    (toI (gV 10 s0 a0 20)).bind fun v6 =>
    if v6 ≤ x4 then (
      some (.inr s0)
    ) else (
      if x4 = x2 then (
        mX10_seek_176 n rX10_seek s0 a0 x1 x2 x3 x4
      ) else (
        (toR (gV 10 s0 a0 18)).bind fun b7 =>
        (toI (aV 11 s0 b7 x4)).bind fun v8 =>
        (toR (gV 10 s0 a0 18)).bind fun b9 =>
        (toI (aV 11 s0 b9 x2)).bind fun v10 =>
        if v8 = v10 then (
          (mX10_isTaken n s0 a0 x4 x2).bind fun (v12, s11) =>
          if v12 = 0 then (
            (toR (gV 10 s11 a0 33)).bind fun b14 =>
            (sV 11 s11 b14 x2 (.int x4)).bind fun s15 =>
            (rX10_seek s15 a0 x1 (x2 + (1 : Int32)) x3).bind fun s16 =>
            mX10_seek_176 n rX10_seek s16 a0 x1 x2 x3 x4
          ) else (
            mX10_seek_176 n rX10_seek s11 a0 x1 x2 x3 x4
          )
        ) else (
          mX10_seek_176 n rX10_seek s0 a0 x1 x2 x3 x4
        )
      )
    )
theorem bX10_seek_L118 {G : Cx} {E : Ev} {n : Nat} {rX10_seek : Sg → Nat → Int32 → Int32 → Int32 → Option Sg} {frX10_seek loX10_seek : Nat} (hrX10_seek : ∀ {P : Sg → Prop} {s0 : Sg} {a0 : Nat} {x1 : Int32} {x2 : Int32} {x3 : Int32}, Ok (rX10_seek s0 a0 x1 x2 x3) P → BM G tX10_seek frX10_seek loX10_seek 0 0 [.ref a0, .int x1, .int x2, .int x3] s0 (fun v s => v = none ∧ P s)) (hoX10_seek : ∀ {P : Sg → Prop} {s0 : Sg} {a0 : Nat} {x1 : Int32} {x2 : Int32} {x3 : Int32}, Ok (rX10_seek s0 a0 x1 x2 x3) P → ∃ n0, s0.2.1 a0 = some (10, n0)) (hfX10_seek : frX10_seek + 1 ≤ E.1.frames ∧ 8 + (5 + 11) + loX10_seek ≤ E.1.locals) (hRm : 7 ≤ E.1.frames ∧ 157 ≤ E.1.locals) {a0 : Nat} {x1 : Int32} {x2 : Int32} {x3 : Int32} {P : (Sg × Int32) ⊕ (Sg) → Prop} (hC : ∀ (s : Sg) (c4 : Int32), P (.inl (s, c4)) → BW G tX10_seek E 0 0 118 [(0, .ref a0), (1, .int x1), (2, .int x2), (3, .int x3), (4, .int c4)] [] s) (hE : ∀ (s : Sg), P (.inr s) → BW G tX10_seek E 0 0 182 [(0, .ref a0), (2, .int x2)] [] s) {s0 : Sg} {x4 : Int32} (h : Ok (mX10_seek_L118 n rX10_seek a0 x1 x2 x3 (s0, x4)) P) : BW G tX10_seek E 0 0 118 [(0, .ref a0), (1, .int x1), (2, .int x2), (3, .int x3), (4, .int x4)] [] s0 := by
  unfold mX10_seek_L118 at h
  refine BW.run [.iload 4, .aload_n 0] (pc' := 121) (lv' := [(0, .ref a0), (1, .int x1), (2, .int x2), (3, .int x3), (4, .int x4)]) (st' := [.ref a0, .int x4]) (by decide +kernel) rfl rfl ?_
  obtain ⟨v6, ev6, h⟩ := Ok.bind h
  refine BW.get (by decide +kernel : decode tX10_seek.2.1 121 = .ok (.getfield 165, 3)) ciX10 (k := 20) (by decide) lkF_X10_165 (toI_V ev6) ?_
  refine BW.icmp_ge 182 (by decide +kernel : decode tX10_seek.2.1 124 = .ok (.if_icmp .ge 58, 3)) (by decide) (fun hc => ?_) (fun hc => ?_)
  · have h := (Ok.ite h).1 hc
    refine BW.sub [0, 2] rfl ?_
    exact hE _ (Ok.some h)
  · have h := (Ok.ite h).2 hc
    refine BW.run [.iload 4, .iload_n 2] (pc' := 130) (lv' := [(0, .ref a0), (1, .int x1), (2, .int x2), (3, .int x3), (4, .int x4)]) (st' := [.int x2, .int x4]) (by decide +kernel) rfl rfl ?_
    refine BW.icmp_eq 176 (by decide +kernel : decode tX10_seek.2.1 130 = .ok (.if_icmp .eq 46, 3)) (by decide) (fun hc => ?_) (fun hc => ?_)
    · have h := (Ok.ite h).1 hc
      exact bX10_seek_176 hrX10_seek hoX10_seek hfX10_seek hRm hC hE h
    · have h := (Ok.ite h).2 hc
      refine BW.run [.aload_n 0] (pc' := 134) (lv' := [(0, .ref a0), (1, .int x1), (2, .int x2), (3, .int x3), (4, .int x4)]) (st' := [.ref a0]) (by decide +kernel) rfl rfl ?_
      obtain ⟨b7, eb7, h⟩ := Ok.bind h
      refine BW.get (by decide +kernel : decode tX10_seek.2.1 134 = .ok (.getfield 37, 3)) ciX10 (k := 18) (by decide) lkF_X10_37 (toR_V eb7) ?_
      refine BW.run [.iload 4] (pc' := 139) (lv' := [(0, .ref a0), (1, .int x1), (2, .int x2), (3, .int x3), (4, .int x4)]) (st' := [.int x4, .ref b7]) (by decide +kernel) rfl rfl ?_
      obtain ⟨v8, ev8, h⟩ := Ok.bind h
      refine BW.iald (by decide +kernel : decode tX10_seek.2.1 139 = .ok (.iaload, 1)) (toI_V ev8) ?_
      refine BW.run [.aload_n 0] (pc' := 141) (lv' := [(0, .ref a0), (1, .int x1), (2, .int x2), (3, .int x3), (4, .int x4)]) (st' := [.ref a0, .int v8]) (by decide +kernel) rfl rfl ?_
      obtain ⟨b9, eb9, h⟩ := Ok.bind h
      refine BW.get (by decide +kernel : decode tX10_seek.2.1 141 = .ok (.getfield 37, 3)) ciX10 (k := 18) (by decide) lkF_X10_37 (toR_V eb9) ?_
      refine BW.run [.iload_n 2] (pc' := 145) (lv' := [(0, .ref a0), (1, .int x1), (2, .int x2), (3, .int x3), (4, .int x4)]) (st' := [.int x2, .ref b9, .int v8]) (by decide +kernel) rfl rfl ?_
      obtain ⟨v10, ev10, h⟩ := Ok.bind h
      refine BW.iald (by decide +kernel : decode tX10_seek.2.1 145 = .ok (.iaload, 1)) (toI_V ev10) ?_
      refine BW.icmp_ne 176 (by decide +kernel : decode tX10_seek.2.1 146 = .ok (.if_icmp .ne 30, 3)) (by decide) (fun hc => ?_) (fun hc => ?_)
      · have h := (Ok.ite h).2 hc
        exact bX10_seek_176 hrX10_seek hoX10_seek hfX10_seek hRm hC hE h
      · have h := (Ok.ite h).1 hc
        refine BW.run [.aload_n 0, .iload 4, .iload_n 2] (pc' := 153) (lv' := [(0, .ref a0), (1, .int x1), (2, .int x2), (3, .int x3), (4, .int x4)]) (st' := [.int x2, .int x4, .ref a0]) (by decide +kernel) rfl rfl ?_
        refine BW.callV (As := [.int x4, .int x2]) (st := []) (by decide +kernel : decode tX10_seek.2.1 153 = .ok (.invokevirtual 292, 3)) (DX10_isTaken (Ok.bindK h)) mfX10_isTaken lkM_X10_292 imX10_isTaken selX10_isTaken ciX10 (oX10_isTaken (Ok.bindK h)).choose_spec rfl rfl (Nat.le_of_ble_eq_true rfl) ⟨Nat.le_trans (by decide) hRm.1, Nat.le_trans (by decide) hRm.2⟩ ⟨Nat.zero_le _, Nat.zero_le _⟩ ?_
        rintro _ s11 ⟨v12, rfl, h⟩
        show BW G tX10_seek E 0 0 156 [(0, .ref a0), (1, .int x1), (2, .int x2), (3, .int x3), (4, .int x4)] [.int v12] s11
        refine BW.if_ne 176 (by decide +kernel : decode tX10_seek.2.1 156 = .ok (.ifCond .ne 20, 3)) (by decide) (fun hc => ?_) (fun hc => ?_)
        · have h := (Ok.ite h).2 hc
          exact bX10_seek_176 hrX10_seek hoX10_seek hfX10_seek hRm hC hE h
        · have h := (Ok.ite h).1 hc
          refine BW.run [.aload_n 0] (pc' := 160) (lv' := [(0, .ref a0), (1, .int x1), (2, .int x2), (3, .int x3), (4, .int x4)]) (st' := [.ref a0]) (by decide +kernel) rfl rfl ?_
          obtain ⟨b14, eb14, h⟩ := Ok.bind h
          refine BW.get (by decide +kernel : decode tX10_seek.2.1 160 = .ok (.getfield 64, 3)) ciX10 (k := 33) (by decide) lkF_X10_64 (toR_V eb14) ?_
          refine BW.run [.iload_n 2, .iload 4] (pc' := 166) (lv' := [(0, .ref a0), (1, .int x1), (2, .int x2), (3, .int x3), (4, .int x4)]) (st' := [.int x4, .int x2, .ref b14]) (by decide +kernel) rfl rfl ?_
          obtain ⟨s15, es15, h⟩ := Ok.bind h
          refine BW.iast (by decide +kernel : decode tX10_seek.2.1 166 = .ok (.iastore, 1)) es15 ?_
          refine BW.run [.aload_n 0, .iload_n 1, .iload_n 2, .iconst 1, .iadd, .iload_n 3] (pc' := 173) (lv' := [(0, .ref a0), (1, .int x1), (2, .int x2), (3, .int x3), (4, .int x4)]) (st' := [.int x3, .int (x2 + (1 : Int32)), .int x1, .ref a0]) (by decide +kernel) rfl rfl ?_
          refine BW.callV (As := [.int x1, .int (x2 + (1 : Int32)), .int x3]) (st := []) (by decide +kernel : decode tX10_seek.2.1 173 = .ok (.invokevirtual 289, 3)) (hrX10_seek (Ok.bindK h)) mfX10_seek lkM_X10_289 imX10_seek selX10_seek ciX10 (hoX10_seek (Ok.bindK h)).choose_spec rfl rfl (Nat.le_of_ble_eq_true rfl) hfX10_seek ⟨Nat.zero_le _, Nat.zero_le _⟩ ?_
          rintro _ s16 ⟨rfl, h⟩
          show BW G tX10_seek E 0 0 176 [(0, .ref a0), (1, .int x1), (2, .int x2), (3, .int x3), (4, .int x4)] [] s16
          exact bX10_seek_176 hrX10_seek hoX10_seek hfX10_seek hRm hC hE h
theorem bX10_seek_W118 {G : Cx} {E : Ev} {n : Nat} {rX10_seek : Sg → Nat → Int32 → Int32 → Int32 → Option Sg} {frX10_seek loX10_seek : Nat} (hrX10_seek : ∀ {P : Sg → Prop} {s0 : Sg} {a0 : Nat} {x1 : Int32} {x2 : Int32} {x3 : Int32}, Ok (rX10_seek s0 a0 x1 x2 x3) P → BM G tX10_seek frX10_seek loX10_seek 0 0 [.ref a0, .int x1, .int x2, .int x3] s0 (fun v s => v = none ∧ P s)) (hoX10_seek : ∀ {P : Sg → Prop} {s0 : Sg} {a0 : Nat} {x1 : Int32} {x2 : Int32} {x3 : Int32}, Ok (rX10_seek s0 a0 x1 x2 x3) P → ∃ n0, s0.2.1 a0 = some (10, n0)) (hfX10_seek : frX10_seek + 1 ≤ E.1.frames ∧ 8 + (5 + 11) + loX10_seek ≤ E.1.locals) (hRm : 7 ≤ E.1.frames ∧ 157 ≤ E.1.locals) {a0 : Nat} {x1 : Int32} {x2 : Int32} {x3 : Int32} {K : (Sg) → Prop} (hE : ∀ (s : Sg), K s → BW G tX10_seek E 0 0 182 [(0, .ref a0), (2, .int x2)] [] s) : ∀ (f : Nat) (c : Sg × Int32), Ok (loopM (mX10_seek_L118 n rX10_seek a0 x1 x2 x3) f c) K → match c with | (s0, x4) => BW G tX10_seek E 0 0 118 [(0, .ref a0), (1, .int x1), (2, .int x2), (3, .int x3), (4, .int x4)] [] s0 := by
  intro f
  induction f with
  | zero => intro c h; exact (Ok.no h).elim
  | succ f ih =>
    intro c h
    obtain ⟨s0, x4⟩ := c
    exact bX10_seek_L118 (P := loopP (mX10_seek_L118 n rX10_seek a0 x1 x2 x3) f K) hrX10_seek hoX10_seek hfX10_seek hRm (fun s c4 h => ih (s, c4) h) hE (loopM_ok h)
def mX10_seek_71 (n : Nat) (rX10_seek : Sg → Nat → Int32 → Int32 → Int32 → Option Sg) (s0 : Sg) (a0 : Nat) (x4 : Int32) : Option ((Sg × Int32) ⊕ (Sg)) :=
  some (.inl (s0, (x4 + (1 : Int32))))
theorem bX10_seek_71 {G : Cx} {E : Ev} {n : Nat} {rX10_seek : Sg → Nat → Int32 → Int32 → Int32 → Option Sg} {frX10_seek loX10_seek : Nat} (hrX10_seek : ∀ {P : Sg → Prop} {s0 : Sg} {a0 : Nat} {x1 : Int32} {x2 : Int32} {x3 : Int32}, Ok (rX10_seek s0 a0 x1 x2 x3) P → BM G tX10_seek frX10_seek loX10_seek 0 0 [.ref a0, .int x1, .int x2, .int x3] s0 (fun v s => v = none ∧ P s)) (hoX10_seek : ∀ {P : Sg → Prop} {s0 : Sg} {a0 : Nat} {x1 : Int32} {x2 : Int32} {x3 : Int32}, Ok (rX10_seek s0 a0 x1 x2 x3) P → ∃ n0, s0.2.1 a0 = some (10, n0)) (hfX10_seek : frX10_seek + 1 ≤ E.1.frames ∧ 8 + (5 + 11) + loX10_seek ≤ E.1.locals) (hRm : 7 ≤ E.1.frames ∧ 157 ≤ E.1.locals) {x3 : Int32} {s0 : Sg} {a0 : Nat} {x4 : Int32} {P : (Sg × Int32) ⊕ (Sg) → Prop} (hC : ∀ (s : Sg) (c4 : Int32), P (.inl (s, c4)) → BW G tX10_seek E 0 0 25 [(0, .ref a0), (3, .int x3), (4, .int c4)] [] s) (hE : ∀ (s : Sg), P (.inr s) → BW G tX10_seek E 0 0 77 [(0, .ref a0), (3, .int x3)] [] s)  (h : Ok (mX10_seek_71 n rX10_seek s0 a0 x4) P) : BW G tX10_seek E 0 0 71 [(0, .ref a0), (3, .int x3), (4, .int x4)] [] s0 := by
  unfold mX10_seek_71 at h
  refine BW.run [.iinc 4 1] (pc' := 74) (lv' := [(0, .ref a0), (3, .int x3), (4, .int (x4 + (1 : Int32)))]) (st' := []) (by decide +kernel) rfl rfl ?_
  refine BW.goto 25 (by decide +kernel : decode tX10_seek.2.1 74 = .ok (.goto (-49), 3)) (by decide) ?_
  exact hC _ _ (Ok.some h)
def mX10_seek_L25 (n : Nat) (rX10_seek : Sg → Nat → Int32 → Int32 → Int32 → Option Sg) (a0 : Nat) : (Sg × Int32) → Option ((Sg × Int32) ⊕ (Sg))
  | (s0, x4) =>
    (toI (gV 10 s0 a0 20)).bind fun v22 =>
    if v22 ≤ x4 then (
      some (.inr s0)
    ) else (
      (toR (gV 10 s0 a0 33)).bind fun b23 =>
      (toI (aV 11 s0 b23 x4)).bind fun v24 =>
      if v24 = (-1 : Int32) then (
        mX10_seek_71 n rX10_seek s0 a0 x4
      ) else (
        (toR (gV 10 s0 a0 33)).bind fun b25 =>
        (toI (aV 11 s0 b25 x4)).bind fun v26 =>
        (toR (gV 10 s0 a0 33)).bind fun b27 =>
        (toI (aV 11 s0 b27 x4)).bind fun v28 =>
        (mX10_length n s0 a0 v28).bind fun (v30, s29) =>
        (mX10_least n s29 a0 v26 x4 (v30 + (1 : Int32))).bind fun s32 =>
        mX10_seek_71 n rX10_seek s32 a0 x4
      )
    )
theorem bX10_seek_L25 {G : Cx} {E : Ev} {n : Nat} {rX10_seek : Sg → Nat → Int32 → Int32 → Int32 → Option Sg} {frX10_seek loX10_seek : Nat} (hrX10_seek : ∀ {P : Sg → Prop} {s0 : Sg} {a0 : Nat} {x1 : Int32} {x2 : Int32} {x3 : Int32}, Ok (rX10_seek s0 a0 x1 x2 x3) P → BM G tX10_seek frX10_seek loX10_seek 0 0 [.ref a0, .int x1, .int x2, .int x3] s0 (fun v s => v = none ∧ P s)) (hoX10_seek : ∀ {P : Sg → Prop} {s0 : Sg} {a0 : Nat} {x1 : Int32} {x2 : Int32} {x3 : Int32}, Ok (rX10_seek s0 a0 x1 x2 x3) P → ∃ n0, s0.2.1 a0 = some (10, n0)) (hfX10_seek : frX10_seek + 1 ≤ E.1.frames ∧ 8 + (5 + 11) + loX10_seek ≤ E.1.locals) (hRm : 7 ≤ E.1.frames ∧ 157 ≤ E.1.locals) {a0 : Nat} {x3 : Int32} {P : (Sg × Int32) ⊕ (Sg) → Prop} (hC : ∀ (s : Sg) (c4 : Int32), P (.inl (s, c4)) → BW G tX10_seek E 0 0 25 [(0, .ref a0), (3, .int x3), (4, .int c4)] [] s) (hE : ∀ (s : Sg), P (.inr s) → BW G tX10_seek E 0 0 77 [(0, .ref a0), (3, .int x3)] [] s) {s0 : Sg} {x4 : Int32} (h : Ok (mX10_seek_L25 n rX10_seek a0 (s0, x4)) P) : BW G tX10_seek E 0 0 25 [(0, .ref a0), (3, .int x3), (4, .int x4)] [] s0 := by
  unfold mX10_seek_L25 at h
  refine BW.run [.iload 4, .aload_n 0] (pc' := 28) (lv' := [(0, .ref a0), (3, .int x3), (4, .int x4)]) (st' := [.ref a0, .int x4]) (by decide +kernel) rfl rfl ?_
  obtain ⟨v22, ev22, h⟩ := Ok.bind h
  refine BW.get (by decide +kernel : decode tX10_seek.2.1 28 = .ok (.getfield 165, 3)) ciX10 (k := 20) (by decide) lkF_X10_165 (toI_V ev22) ?_
  refine BW.icmp_ge 77 (by decide +kernel : decode tX10_seek.2.1 31 = .ok (.if_icmp .ge 46, 3)) (by decide) (fun hc => ?_) (fun hc => ?_)
  · have h := (Ok.ite h).1 hc
    refine BW.sub [0, 1] rfl ?_
    exact hE _ (Ok.some h)
  · have h := (Ok.ite h).2 hc
    refine BW.run [.aload_n 0] (pc' := 35) (lv' := [(0, .ref a0), (3, .int x3), (4, .int x4)]) (st' := [.ref a0]) (by decide +kernel) rfl rfl ?_
    obtain ⟨b23, eb23, h⟩ := Ok.bind h
    refine BW.get (by decide +kernel : decode tX10_seek.2.1 35 = .ok (.getfield 64, 3)) ciX10 (k := 33) (by decide) lkF_X10_64 (toR_V eb23) ?_
    refine BW.run [.iload 4] (pc' := 40) (lv' := [(0, .ref a0), (3, .int x3), (4, .int x4)]) (st' := [.int x4, .ref b23]) (by decide +kernel) rfl rfl ?_
    obtain ⟨v24, ev24, h⟩ := Ok.bind h
    refine BW.iald (by decide +kernel : decode tX10_seek.2.1 40 = .ok (.iaload, 1)) (toI_V ev24) ?_
    refine BW.run [.iconst (-1)] (pc' := 42) (lv' := [(0, .ref a0), (3, .int x3), (4, .int x4)]) (st' := [.int (-1 : Int32), .int v24]) (by decide +kernel) rfl rfl ?_
    refine BW.icmp_eq 71 (by decide +kernel : decode tX10_seek.2.1 42 = .ok (.if_icmp .eq 29, 3)) (by decide) (fun hc => ?_) (fun hc => ?_)
    · have h := (Ok.ite h).1 hc
      exact bX10_seek_71 hrX10_seek hoX10_seek hfX10_seek hRm hC hE h
    · have h := (Ok.ite h).2 hc
      refine BW.run [.aload_n 0, .aload_n 0] (pc' := 47) (lv' := [(0, .ref a0), (3, .int x3), (4, .int x4)]) (st' := [.ref a0, .ref a0]) (by decide +kernel) rfl rfl ?_
      obtain ⟨b25, eb25, h⟩ := Ok.bind h
      refine BW.get (by decide +kernel : decode tX10_seek.2.1 47 = .ok (.getfield 64, 3)) ciX10 (k := 33) (by decide) lkF_X10_64 (toR_V eb25) ?_
      refine BW.run [.iload 4] (pc' := 52) (lv' := [(0, .ref a0), (3, .int x3), (4, .int x4)]) (st' := [.int x4, .ref b25, .ref a0]) (by decide +kernel) rfl rfl ?_
      obtain ⟨v26, ev26, h⟩ := Ok.bind h
      refine BW.iald (by decide +kernel : decode tX10_seek.2.1 52 = .ok (.iaload, 1)) (toI_V ev26) ?_
      refine BW.run [.iload 4, .aload_n 0, .aload_n 0] (pc' := 57) (lv' := [(0, .ref a0), (3, .int x3), (4, .int x4)]) (st' := [.ref a0, .ref a0, .int x4, .int v26, .ref a0]) (by decide +kernel) rfl rfl ?_
      obtain ⟨b27, eb27, h⟩ := Ok.bind h
      refine BW.get (by decide +kernel : decode tX10_seek.2.1 57 = .ok (.getfield 64, 3)) ciX10 (k := 33) (by decide) lkF_X10_64 (toR_V eb27) ?_
      refine BW.run [.iload 4] (pc' := 62) (lv' := [(0, .ref a0), (3, .int x3), (4, .int x4)]) (st' := [.int x4, .ref b27, .ref a0, .int x4, .int v26, .ref a0]) (by decide +kernel) rfl rfl ?_
      obtain ⟨v28, ev28, h⟩ := Ok.bind h
      refine BW.iald (by decide +kernel : decode tX10_seek.2.1 62 = .ok (.iaload, 1)) (toI_V ev28) ?_
      refine BW.callV (As := [.int v28]) (st := [.int x4, .int v26, .ref a0]) (by decide +kernel : decode tX10_seek.2.1 63 = .ok (.invokevirtual 283, 3)) (DX10_length (Ok.bindK h)) mfX10_length lkM_X10_283 imX10_length selX10_length ciX10 (oX10_length (Ok.bindK h)).choose_spec rfl rfl (Nat.le_of_ble_eq_true rfl) ⟨Nat.le_trans (by decide) hRm.1, Nat.le_trans (by decide) hRm.2⟩ ⟨Nat.zero_le _, Nat.zero_le _⟩ ?_
      rintro _ s29 ⟨v30, rfl, h⟩
      show BW G tX10_seek E 0 0 66 [(0, .ref a0), (3, .int x3), (4, .int x4)] [.int v30, .int x4, .int v26, .ref a0] s29
      refine BW.run [.iconst 1, .iadd] (pc' := 68) (lv' := [(0, .ref a0), (3, .int x3), (4, .int x4)]) (st' := [.int (v30 + (1 : Int32)), .int x4, .int v26, .ref a0]) (by decide +kernel) rfl rfl ?_
      refine BW.callV (As := [.int v26, .int x4, .int (v30 + (1 : Int32))]) (st := []) (by decide +kernel : decode tX10_seek.2.1 68 = .ok (.invokevirtual 198, 3)) (DX10_least (Ok.bindK h)) mfX10_least lkM_X10_198 imX10_least selX10_least ciX10 (oX10_least (Ok.bindK h)).choose_spec rfl rfl (Nat.le_of_ble_eq_true rfl) ⟨Nat.le_trans (by decide) hRm.1, Nat.le_trans (by decide) hRm.2⟩ ⟨Nat.zero_le _, Nat.zero_le _⟩ ?_
      rintro _ s32 ⟨rfl, h⟩
      show BW G tX10_seek E 0 0 71 [(0, .ref a0), (3, .int x3), (4, .int x4)] [] s32
      exact bX10_seek_71 hrX10_seek hoX10_seek hfX10_seek hRm hC hE h
theorem bX10_seek_W25 {G : Cx} {E : Ev} {n : Nat} {rX10_seek : Sg → Nat → Int32 → Int32 → Int32 → Option Sg} {frX10_seek loX10_seek : Nat} (hrX10_seek : ∀ {P : Sg → Prop} {s0 : Sg} {a0 : Nat} {x1 : Int32} {x2 : Int32} {x3 : Int32}, Ok (rX10_seek s0 a0 x1 x2 x3) P → BM G tX10_seek frX10_seek loX10_seek 0 0 [.ref a0, .int x1, .int x2, .int x3] s0 (fun v s => v = none ∧ P s)) (hoX10_seek : ∀ {P : Sg → Prop} {s0 : Sg} {a0 : Nat} {x1 : Int32} {x2 : Int32} {x3 : Int32}, Ok (rX10_seek s0 a0 x1 x2 x3) P → ∃ n0, s0.2.1 a0 = some (10, n0)) (hfX10_seek : frX10_seek + 1 ≤ E.1.frames ∧ 8 + (5 + 11) + loX10_seek ≤ E.1.locals) (hRm : 7 ≤ E.1.frames ∧ 157 ≤ E.1.locals) {a0 : Nat} {x3 : Int32} {K : (Sg) → Prop} (hE : ∀ (s : Sg), K s → BW G tX10_seek E 0 0 77 [(0, .ref a0), (3, .int x3)] [] s) : ∀ (f : Nat) (c : Sg × Int32), Ok (loopM (mX10_seek_L25 n rX10_seek a0) f c) K → match c with | (s0, x4) => BW G tX10_seek E 0 0 25 [(0, .ref a0), (3, .int x3), (4, .int x4)] [] s0 := by
  intro f
  induction f with
  | zero => intro c h; exact (Ok.no h).elim
  | succ f ih =>
    intro c h
    obtain ⟨s0, x4⟩ := c
    exact bX10_seek_L25 (P := loopP (mX10_seek_L25 n rX10_seek a0) f K) hrX10_seek hoX10_seek hfX10_seek hRm (fun s c4 h => ih (s, c4) h) hE (loopM_ok h)
def mX10_seek_93 (n : Nat) (rX10_seek : Sg → Nat → Int32 → Int32 → Int32 → Option Sg) (s0 : Sg) (t0 : Int32) (t1 : Nat) : Option (Sg) :=
  (pV 10 s0 t1 34 (.int t0)).bind fun s39 =>
  some s39
theorem bX10_seek_93 {G : Cx} {E : Ev} {n : Nat} {rX10_seek : Sg → Nat → Int32 → Int32 → Int32 → Option Sg} {frX10_seek loX10_seek : Nat} (hrX10_seek : ∀ {P : Sg → Prop} {s0 : Sg} {a0 : Nat} {x1 : Int32} {x2 : Int32} {x3 : Int32}, Ok (rX10_seek s0 a0 x1 x2 x3) P → BM G tX10_seek frX10_seek loX10_seek 0 0 [.ref a0, .int x1, .int x2, .int x3] s0 (fun v s => v = none ∧ P s)) (hoX10_seek : ∀ {P : Sg → Prop} {s0 : Sg} {a0 : Nat} {x1 : Int32} {x2 : Int32} {x3 : Int32}, Ok (rX10_seek s0 a0 x1 x2 x3) P → ∃ n0, s0.2.1 a0 = some (10, n0)) (hfX10_seek : frX10_seek + 1 ≤ E.1.frames ∧ 8 + (5 + 11) + loX10_seek ≤ E.1.locals) (hRm : 7 ≤ E.1.frames ∧ 157 ≤ E.1.locals) {s0 : Sg} {t0 : Int32} {t1 : Nat} {P : Sg → Prop} (hQ : ∀ s, P s → E.2.2.2.2 none s) (h : Ok (mX10_seek_93 n rX10_seek s0 t0 t1) P) : BW G tX10_seek E 0 0 93 [] [.int t0, .ref t1] s0 := by
  unfold mX10_seek_93 at h
  obtain ⟨s39, es39, h⟩ := Ok.bind h
  refine BW.put (by decide +kernel : decode tX10_seek.2.1 93 = .ok (.putfield 286, 3)) ciX10 (k := 34) (by decide) lkF_X10_286 rfl rfl rfl es39 ?_
  exact BW.vret (by decide +kernel : decode tX10_seek.2.1 96 = .ok (.return_, 1)) rfl (Nat.zero_le _) (Nat.zero_le _) (hQ _ (Ok.some h))
def eX10_seek (n : Nat) (rX10_seek : Sg → Nat → Int32 → Int32 → Int32 → Option Sg) (s0 : Sg) (a0 : Nat) (x1 : Int32) (x2 : Int32) (x3 : Int32) : Option (Sg) :=
  (isO 10 s0 a0).bind fun _ =>
  (toI (gV 10 s0 a0 34)).bind fun v1 =>
  if x3 < v1 then (
    (toI (gV 10 s0 a0 20)).bind fun v2 =>
    if x2 = v2 then (
      (mX10_lay n s0 a0 x1).bind fun s21 =>
      (loopM (mX10_seek_L25 n rX10_seek a0) n (s21, (0 : Int32))).bind fun s33 =>
      (mX10_close n s33 a0).bind fun (v36, s35) =>
      if v36 = 0 then (
        (toI (gV 10 s35 a0 34)).bind fun v38 =>
        mX10_seek_93 n rX10_seek s35 v38 a0
      ) else (
        mX10_seek_93 n rX10_seek s35 x3 a0
      )
    ) else (
      (toR (gV 10 s0 a0 33)).bind fun b3 =>
      (sV 11 s0 b3 x2 (.int (-1 : Int32))).bind fun s4 =>
      (rX10_seek s4 a0 x1 (x2 + (1 : Int32)) (x3 + (1 : Int32))).bind fun s5 =>
      (loopM (mX10_seek_L118 n rX10_seek a0 x1 x2 x3) n (s5, (0 : Int32))).bind fun s17 =>
      (toR (gV 10 s17 a0 33)).bind fun b19 =>
      (sV 11 s17 b19 x2 (.int (-1 : Int32))).bind fun s20 =>
      some s20
    )
  ) else (
    some s0
  )
theorem bX10_seek {G : Cx} {E : Ev} {n : Nat} {rX10_seek : Sg → Nat → Int32 → Int32 → Int32 → Option Sg} {frX10_seek loX10_seek : Nat} (hrX10_seek : ∀ {P : Sg → Prop} {s0 : Sg} {a0 : Nat} {x1 : Int32} {x2 : Int32} {x3 : Int32}, Ok (rX10_seek s0 a0 x1 x2 x3) P → BM G tX10_seek frX10_seek loX10_seek 0 0 [.ref a0, .int x1, .int x2, .int x3] s0 (fun v s => v = none ∧ P s)) (hoX10_seek : ∀ {P : Sg → Prop} {s0 : Sg} {a0 : Nat} {x1 : Int32} {x2 : Int32} {x3 : Int32}, Ok (rX10_seek s0 a0 x1 x2 x3) P → ∃ n0, s0.2.1 a0 = some (10, n0)) (hfX10_seek : frX10_seek + 1 ≤ E.1.frames ∧ 8 + (5 + 11) + loX10_seek ≤ E.1.locals) (hRm : 7 ≤ E.1.frames ∧ 157 ≤ E.1.locals) {P : Sg → Prop} (hQ : ∀ s, P s → E.2.2.2.2 none s) {s0 : Sg} {a0 : Nat} {x1 : Int32} {x2 : Int32} {x3 : Int32} (h : Ok (eX10_seek n rX10_seek s0 a0 x1 x2 x3) P) : BW G tX10_seek E 0 0 0 [(0, .ref a0), (1, .int x1), (2, .int x2), (3, .int x3)] [] s0 := by
  unfold eX10_seek at h
  obtain ⟨_, _, h⟩ := Ok.bind h
  refine BW.run [.iload_n 3, .aload_n 0] (pc' := 2) (lv' := [(0, .ref a0), (1, .int x1), (2, .int x2), (3, .int x3)]) (st' := [.ref a0, .int x3]) (by decide +kernel) rfl rfl ?_
  obtain ⟨v1, ev1, h⟩ := Ok.bind h
  refine BW.get (by decide +kernel : decode tX10_seek.2.1 2 = .ok (.getfield 286, 3)) ciX10 (k := 34) (by decide) lkF_X10_286 (toI_V ev1) ?_
  refine BW.icmp_lt 9 (by decide +kernel : decode tX10_seek.2.1 5 = .ok (.if_icmp .lt 4, 3)) (by decide) (fun hc => ?_) (fun hc => ?_)
  · have h := (Ok.ite h).1 hc
    refine BW.run [.iload_n 2, .aload_n 0] (pc' := 11) (lv' := [(0, .ref a0), (1, .int x1), (2, .int x2), (3, .int x3)]) (st' := [.ref a0, .int x2]) (by decide +kernel) rfl rfl ?_
    obtain ⟨v2, ev2, h⟩ := Ok.bind h
    refine BW.get (by decide +kernel : decode tX10_seek.2.1 11 = .ok (.getfield 165, 3)) ciX10 (k := 20) (by decide) lkF_X10_165 (toI_V ev2) ?_
    refine BW.icmp_ne 97 (by decide +kernel : decode tX10_seek.2.1 14 = .ok (.if_icmp .ne 83, 3)) (by decide) (fun hc => ?_) (fun hc => ?_)
    · have h := (Ok.ite h).2 hc
      refine BW.run [.aload_n 0] (pc' := 98) (lv' := [(0, .ref a0), (1, .int x1), (2, .int x2), (3, .int x3)]) (st' := [.ref a0]) (by decide +kernel) rfl rfl ?_
      obtain ⟨b3, eb3, h⟩ := Ok.bind h
      refine BW.get (by decide +kernel : decode tX10_seek.2.1 98 = .ok (.getfield 64, 3)) ciX10 (k := 33) (by decide) lkF_X10_64 (toR_V eb3) ?_
      refine BW.run [.iload_n 2, .iconst (-1)] (pc' := 103) (lv' := [(0, .ref a0), (1, .int x1), (2, .int x2), (3, .int x3)]) (st' := [.int (-1 : Int32), .int x2, .ref b3]) (by decide +kernel) rfl rfl ?_
      obtain ⟨s4, es4, h⟩ := Ok.bind h
      refine BW.iast (by decide +kernel : decode tX10_seek.2.1 103 = .ok (.iastore, 1)) es4 ?_
      refine BW.run [.aload_n 0, .iload_n 1, .iload_n 2, .iconst 1, .iadd, .iload_n 3, .iconst 1, .iadd] (pc' := 112) (lv' := [(0, .ref a0), (1, .int x1), (2, .int x2), (3, .int x3)]) (st' := [.int (x3 + (1 : Int32)), .int (x2 + (1 : Int32)), .int x1, .ref a0]) (by decide +kernel) rfl rfl ?_
      refine BW.callV (As := [.int x1, .int (x2 + (1 : Int32)), .int (x3 + (1 : Int32))]) (st := []) (by decide +kernel : decode tX10_seek.2.1 112 = .ok (.invokevirtual 289, 3)) (hrX10_seek (Ok.bindK h)) mfX10_seek lkM_X10_289 imX10_seek selX10_seek ciX10 (hoX10_seek (Ok.bindK h)).choose_spec rfl rfl (Nat.le_of_ble_eq_true rfl) hfX10_seek ⟨Nat.zero_le _, Nat.zero_le _⟩ ?_
      rintro _ s5 ⟨rfl, h⟩
      show BW G tX10_seek E 0 0 115 [(0, .ref a0), (1, .int x1), (2, .int x2), (3, .int x3)] [] s5
      refine BW.run [.iconst 0, .istore 4] (pc' := 118) (lv' := [(0, .ref a0), (1, .int x1), (2, .int x2), (3, .int x3), (4, .int (0 : Int32))]) (st' := []) (by decide +kernel) rfl rfl ?_
      refine bX10_seek_W118 hrX10_seek hoX10_seek hfX10_seek hRm (a0 := a0) (x1 := x1) (x2 := x2) (x3 := x3) (fun s17 h => ?_) n (s5, (0 : Int32)) (Ok.bindK h)
      refine BW.run [.aload_n 0] (pc' := 183) (lv' := [(0, .ref a0), (2, .int x2)]) (st' := [.ref a0]) (by decide +kernel) rfl rfl ?_
      obtain ⟨b19, eb19, h⟩ := Ok.bind h
      refine BW.get (by decide +kernel : decode tX10_seek.2.1 183 = .ok (.getfield 64, 3)) ciX10 (k := 33) (by decide) lkF_X10_64 (toR_V eb19) ?_
      refine BW.run [.iload_n 2, .iconst (-1)] (pc' := 188) (lv' := [(0, .ref a0), (2, .int x2)]) (st' := [.int (-1 : Int32), .int x2, .ref b19]) (by decide +kernel) rfl rfl ?_
      obtain ⟨s20, es20, h⟩ := Ok.bind h
      refine BW.iast (by decide +kernel : decode tX10_seek.2.1 188 = .ok (.iastore, 1)) es20 ?_
      exact BW.vret (by decide +kernel : decode tX10_seek.2.1 189 = .ok (.return_, 1)) rfl (Nat.zero_le _) (Nat.zero_le _) (hQ _ (Ok.some h))
    · have h := (Ok.ite h).1 hc
      refine BW.run [.aload_n 0, .iload_n 1] (pc' := 19) (lv' := [(0, .ref a0), (1, .int x1), (2, .int x2), (3, .int x3)]) (st' := [.int x1, .ref a0]) (by decide +kernel) rfl rfl ?_
      refine BW.callV (As := [.int x1]) (st := []) (by decide +kernel : decode tX10_seek.2.1 19 = .ok (.invokevirtual 214, 3)) (DX10_lay (Ok.bindK h)) mfX10_lay lkM_X10_214 imX10_lay selX10_lay ciX10 (oX10_lay (Ok.bindK h)).choose_spec rfl rfl (Nat.le_of_ble_eq_true rfl) ⟨Nat.le_trans (by decide) hRm.1, Nat.le_trans (by decide) hRm.2⟩ ⟨Nat.zero_le _, Nat.zero_le _⟩ ?_
      rintro _ s21 ⟨rfl, h⟩
      show BW G tX10_seek E 0 0 22 [(0, .ref a0), (1, .int x1), (2, .int x2), (3, .int x3)] [] s21
      refine BW.run [.iconst 0, .istore 4] (pc' := 25) (lv' := [(0, .ref a0), (1, .int x1), (2, .int x2), (3, .int x3), (4, .int (0 : Int32))]) (st' := []) (by decide +kernel) rfl rfl ?_
      refine BW.sub [0, 3, 4] rfl ?_
      refine bX10_seek_W25 hrX10_seek hoX10_seek hfX10_seek hRm (a0 := a0) (x3 := x3) (fun s33 h => ?_) n (s21, (0 : Int32)) (Ok.bindK h)
      refine BW.run [.aload_n 0, .aload_n 0] (pc' := 79) (lv' := [(0, .ref a0), (3, .int x3)]) (st' := [.ref a0, .ref a0]) (by decide +kernel) rfl rfl ?_
      refine BW.callV (As := []) (st := [.ref a0]) (by decide +kernel : decode tX10_seek.2.1 79 = .ok (.invokevirtual 217, 3)) (DX10_close (Ok.bindK h)) mfX10_close lkM_X10_217 imX10_close selX10_close ciX10 (oX10_close (Ok.bindK h)).choose_spec rfl rfl (Nat.le_of_ble_eq_true rfl) ⟨Nat.le_trans (by decide) hRm.1, Nat.le_trans (by decide) hRm.2⟩ ⟨Nat.zero_le _, Nat.zero_le _⟩ ?_
      rintro _ s35 ⟨v36, rfl, h⟩
      show BW G tX10_seek E 0 0 82 [(0, .ref a0), (3, .int x3)] [.int v36, .ref a0] s35
      refine BW.if_eq 89 (by decide +kernel : decode tX10_seek.2.1 82 = .ok (.ifCond .eq 7, 3)) (by decide) (fun hc => ?_) (fun hc => ?_)
      · have h := (Ok.ite h).1 hc
        refine BW.run [.aload_n 0] (pc' := 90) (lv' := [(0, .ref a0), (3, .int x3)]) (st' := [.ref a0, .ref a0]) (by decide +kernel) rfl rfl ?_
        obtain ⟨v38, ev38, h⟩ := Ok.bind h
        refine BW.get (by decide +kernel : decode tX10_seek.2.1 90 = .ok (.getfield 286, 3)) ciX10 (k := 34) (by decide) lkF_X10_286 (toI_V ev38) ?_
        refine BW.sub [] rfl ?_
        exact bX10_seek_93 hrX10_seek hoX10_seek hfX10_seek hRm hQ h
      · have h := (Ok.ite h).2 hc
        refine BW.run [.iload_n 3] (pc' := 86) (lv' := [(0, .ref a0), (3, .int x3)]) (st' := [.int x3, .ref a0]) (by decide +kernel) rfl rfl ?_
        refine BW.goto 93 (by decide +kernel : decode tX10_seek.2.1 86 = .ok (.goto 7, 3)) (by decide) ?_
        refine BW.sub [] rfl ?_
        exact bX10_seek_93 hrX10_seek hoX10_seek hfX10_seek hRm hQ h
  · have h := (Ok.ite h).2 hc
    exact BW.vret (by decide +kernel : decode tX10_seek.2.1 8 = .ok (.return_, 1)) rfl (Nat.zero_le _) (Nat.zero_le _) (hQ _ (Ok.some h))
def mX10_seek (n : Nat) : Nat → Sg → Nat → Int32 → Int32 → Int32 → Option Sg
  | 0, _, _, _, _, _ => none
  | d + 1, s0, a0, x1, x2, x3 => eX10_seek n (mX10_seek n d) s0 a0 x1 x2 x3
theorem oX10_seek {n d : Nat} {P : Sg → Prop} {s0 : Sg} {a0 : Nat} {x1 : Int32} {x2 : Int32} {x3 : Int32} (h : Ok (mX10_seek n d s0 a0 x1 x2 x3) P) : ∃ n0, s0.2.1 a0 = some (10, n0) := by
  cases d with
  | zero => exact (Ok.no h).elim
  | succ d =>
    have h : Ok (eX10_seek n (mX10_seek n d) s0 a0 x1 x2 x3) P := h
    unfold eX10_seek at h
    exact Ok.isO h
theorem DgX10_seek {G : Cx} {n : Nat} : ∀ d : Nat, (∀ {P : Sg → Prop} {s0 : Sg} {a0 : Nat} {x1 : Int32} {x2 : Int32} {x3 : Int32}, Ok (mX10_seek n d s0 a0 x1 x2 x3) P → BM G tX10_seek (7 + d) (157 + d * 24) 0 0 [.ref a0, .int x1, .int x2, .int x3] s0 (fun v s => v = none ∧ P s)) := by
  intro d
  induction d with
  | zero => exact fun h => (Ok.no h).elim
  | succ d ih =>
    intro P s0 a0 x1 x2 x3 h
    have h : Ok (eX10_seek n (mX10_seek n d) s0 a0 x1 x2 x3) P := h
    refine BM.of (by decide +kernel) (Nat.le_of_ble_eq_true rfl) ?_
    exact bX10_seek (E := (({ frames := 7 + (d + 1), cells := 0, slots := 0, locals := 157 + (d + 1) * 24 }), Aof s0, 0, 0, (fun v s => v = none ∧ P s))) (fun h => ih h) (fun h => oX10_seek h) ⟨by show _ + d + 1 ≤ _ + (d + 1); omega, by show 8 + (5 + 11) + (_ + d * _) ≤ _ + (d + 1) * _; omega⟩ ⟨by show _ ≤ _ + (d + 1); omega, by show _ ≤ _ + (d + 1) * _; omega⟩ (fun s hp => ⟨rfl, hp⟩) h
theorem DX10_seek {G : Cx} {n : Nat} {d : Nat} {P : Sg → Prop} {s0 : Sg} {a0 : Nat} {x1 : Int32} {x2 : Int32} {x3 : Int32} (h : Ok (mX10_seek n d s0 a0 x1 x2 x3) P) : BM G tX10_seek (7 + d) (157 + d * 24) 0 0 [.ref a0, .int x1, .int x2, .int x3] s0 (fun v s => v = none ∧ P s) := (DgX10_seek d) h
def mX6_extend_95 (n : Nat) (rX6_extend : Sg → Nat → Int32 → Int32 → Int32 → Option Sg) (s0 : Sg) (a0 : Nat) (x1 : Int32) (x2 : Int32) (x3 : Int32) (x4 : Int32) : Option ((Sg × Int32) ⊕ (Sg)) :=
  some (.inl (s0, (x4 + (1 : Int32))))
theorem bX6_extend_95 {G : Cx} {E : Ev} {n : Nat} {rX6_extend : Sg → Nat → Int32 → Int32 → Int32 → Option Sg} {frX6_extend loX6_extend : Nat} (hrX6_extend : ∀ {P : Sg → Prop} {s0 : Sg} {a0 : Nat} {x1 : Int32} {x2 : Int32} {x3 : Int32}, Ok (rX6_extend s0 a0 x1 x2 x3) P → BM G tX6_extend frX6_extend loX6_extend 0 0 [.ref a0, .int x1, .int x2, .int x3] s0 (fun v s => v = none ∧ P s)) (hoX6_extend : ∀ {P : Sg → Prop} {s0 : Sg} {a0 : Nat} {x1 : Int32} {x2 : Int32} {x3 : Int32}, Ok (rX6_extend s0 a0 x1 x2 x3) P → ∃ n0, s0.2.1 a0 = some (6, n0)) (hfX6_extend : frX6_extend + 1 ≤ E.1.frames ∧ 8 + (5 + 11) + loX6_extend ≤ E.1.locals) (hRm : 4 ≤ E.1.frames ∧ 95 ≤ E.1.locals) {s0 : Sg} {a0 : Nat} {x1 : Int32} {x2 : Int32} {x3 : Int32} {x4 : Int32} {P : (Sg × Int32) ⊕ (Sg) → Prop} (hC : ∀ (s : Sg) (c4 : Int32), P (.inl (s, c4)) → BW G tX6_extend E 0 0 38 [(0, .ref a0), (1, .int x1), (2, .int x2), (3, .int x3), (4, .int c4)] [] s) (hE : ∀ (s : Sg), P (.inr s) → BW G tX6_extend E 0 0 101 [] [] s)  (h : Ok (mX6_extend_95 n rX6_extend s0 a0 x1 x2 x3 x4) P) : BW G tX6_extend E 0 0 95 [(0, .ref a0), (1, .int x1), (2, .int x2), (3, .int x3), (4, .int x4)] [] s0 := by
  unfold mX6_extend_95 at h
  refine BW.run [.iinc 4 1] (pc' := 98) (lv' := [(0, .ref a0), (1, .int x1), (2, .int x2), (3, .int x3), (4, .int (x4 + (1 : Int32)))]) (st' := []) (by decide +kernel) rfl rfl ?_
  refine BW.goto 38 (by decide +kernel : decode tX6_extend.2.1 98 = .ok (.goto (-60), 3)) (by decide) ?_
  exact hC _ _ (Ok.some h)
def mX6_extend_L38 (n : Nat) (rX6_extend : Sg → Nat → Int32 → Int32 → Int32 → Option Sg) (a0 : Nat) (x1 : Int32) (x2 : Int32) (x3 : Int32) : (Sg × Int32) → Option ((Sg × Int32) ⊕ (Sg))
  | (s0, x4) =>
    (toI (gV 6 s0 a0 1)).bind fun v2 =>
    if v2 ≤ x4 then (
      some (.inr s0)
    ) else (
      (toI (gV 6 s0 a0 4)).bind fun v3 =>
      if v3 = (-1 : Int32) then (
        (mX9_isIn n s0 x2 x4).bind fun (v5, s4) =>
        if v5 = 0 then (
          (mX6_rises n s4 a0 x1 x3 x4).bind fun (v8, s7) =>
          if v8 = 0 then (
            mX6_extend_95 n rX6_extend s7 a0 x1 x2 x3 x4
          ) else (
            (rX6_extend s7 a0 (x1 + (1 : Int32)) (x2 ||| ((1 : Int32) <<< (x4 &&& 31))) (((8 : Int32) * x3) + x4)).bind fun s10 =>
            mX6_extend_95 n rX6_extend s10 a0 x1 x2 x3 x4
          )
        ) else (
          mX6_extend_95 n rX6_extend s4 a0 x1 x2 x3 x4
        )
      ) else (
        some (.inr s0)
      )
    )
theorem bX6_extend_L38 {G : Cx} {E : Ev} {n : Nat} {rX6_extend : Sg → Nat → Int32 → Int32 → Int32 → Option Sg} {frX6_extend loX6_extend : Nat} (hrX6_extend : ∀ {P : Sg → Prop} {s0 : Sg} {a0 : Nat} {x1 : Int32} {x2 : Int32} {x3 : Int32}, Ok (rX6_extend s0 a0 x1 x2 x3) P → BM G tX6_extend frX6_extend loX6_extend 0 0 [.ref a0, .int x1, .int x2, .int x3] s0 (fun v s => v = none ∧ P s)) (hoX6_extend : ∀ {P : Sg → Prop} {s0 : Sg} {a0 : Nat} {x1 : Int32} {x2 : Int32} {x3 : Int32}, Ok (rX6_extend s0 a0 x1 x2 x3) P → ∃ n0, s0.2.1 a0 = some (6, n0)) (hfX6_extend : frX6_extend + 1 ≤ E.1.frames ∧ 8 + (5 + 11) + loX6_extend ≤ E.1.locals) (hRm : 4 ≤ E.1.frames ∧ 95 ≤ E.1.locals) {a0 : Nat} {x1 : Int32} {x2 : Int32} {x3 : Int32} {P : (Sg × Int32) ⊕ (Sg) → Prop} (hC : ∀ (s : Sg) (c4 : Int32), P (.inl (s, c4)) → BW G tX6_extend E 0 0 38 [(0, .ref a0), (1, .int x1), (2, .int x2), (3, .int x3), (4, .int c4)] [] s) (hE : ∀ (s : Sg), P (.inr s) → BW G tX6_extend E 0 0 101 [] [] s) {s0 : Sg} {x4 : Int32} (h : Ok (mX6_extend_L38 n rX6_extend a0 x1 x2 x3 (s0, x4)) P) : BW G tX6_extend E 0 0 38 [(0, .ref a0), (1, .int x1), (2, .int x2), (3, .int x3), (4, .int x4)] [] s0 := by
  unfold mX6_extend_L38 at h
  refine BW.run [.iload 4, .aload_n 0] (pc' := 41) (lv' := [(0, .ref a0), (1, .int x1), (2, .int x2), (3, .int x3), (4, .int x4)]) (st' := [.ref a0, .int x4]) (by decide +kernel) rfl rfl ?_
  obtain ⟨v2, ev2, h⟩ := Ok.bind h
  refine BW.get (by decide +kernel : decode tX6_extend.2.1 41 = .ok (.getfield 17, 3)) ciX6 (k := 1) (by decide) lkF_X6_17 (toI_V ev2) ?_
  refine BW.icmp_ge 101 (by decide +kernel : decode tX6_extend.2.1 44 = .ok (.if_icmp .ge 57, 3)) (by decide) (fun hc => ?_) (fun hc => ?_)
  · have h := (Ok.ite h).1 hc
    refine BW.sub [] rfl ?_
    exact hE _ (Ok.some h)
  · have h := (Ok.ite h).2 hc
    refine BW.run [.aload_n 0] (pc' := 48) (lv' := [(0, .ref a0), (1, .int x1), (2, .int x2), (3, .int x3), (4, .int x4)]) (st' := [.ref a0]) (by decide +kernel) rfl rfl ?_
    obtain ⟨v3, ev3, h⟩ := Ok.bind h
    refine BW.get (by decide +kernel : decode tX6_extend.2.1 48 = .ok (.getfield 27, 3)) ciX6 (k := 4) (by decide) lkF_X6_27 (toI_V ev3) ?_
    refine BW.run [.iconst (-1)] (pc' := 52) (lv' := [(0, .ref a0), (1, .int x1), (2, .int x2), (3, .int x3), (4, .int x4)]) (st' := [.int (-1 : Int32), .int v3]) (by decide +kernel) rfl rfl ?_
    refine BW.icmp_ne 101 (by decide +kernel : decode tX6_extend.2.1 52 = .ok (.if_icmp .ne 49, 3)) (by decide) (fun hc => ?_) (fun hc => ?_)
    · have h := (Ok.ite h).2 hc
      refine BW.sub [] rfl ?_
      exact hE _ (Ok.some h)
    · have h := (Ok.ite h).1 hc
      refine BW.run [.iload_n 2, .iload 4] (pc' := 58) (lv' := [(0, .ref a0), (1, .int x1), (2, .int x2), (3, .int x3), (4, .int x4)]) (st' := [.int x4, .int x2]) (by decide +kernel) rfl rfl ?_
      refine BW.callSN (As := [.int x2, .int x4]) (st := []) (by decide +kernel : decode tX6_extend.2.1 58 = .ok (.invokestatic 45, 3)) (DX9_isIn (Ok.bindK h)) mfX9_isIn lkM_X6_45 smX9_isIn rfl rfl (Nat.le_of_ble_eq_true rfl) ⟨Nat.le_trans (by decide) hRm.1, Nat.le_trans (by decide) hRm.2⟩ ⟨Nat.zero_le _, Nat.zero_le _⟩ ?_
      rintro _ s4 ⟨v5, rfl, h⟩
      show BW G tX6_extend E 0 0 61 [(0, .ref a0), (1, .int x1), (2, .int x2), (3, .int x3), (4, .int x4)] [.int v5] s4
      refine BW.if_ne 95 (by decide +kernel : decode tX6_extend.2.1 61 = .ok (.ifCond .ne 34, 3)) (by decide) (fun hc => ?_) (fun hc => ?_)
      · have h := (Ok.ite h).2 hc
        exact bX6_extend_95 hrX6_extend hoX6_extend hfX6_extend hRm hC hE h
      · have h := (Ok.ite h).1 hc
        refine BW.run [.aload_n 0, .iload_n 1, .iload_n 3, .iload 4] (pc' := 69) (lv' := [(0, .ref a0), (1, .int x1), (2, .int x2), (3, .int x3), (4, .int x4)]) (st' := [.int x4, .int x3, .int x1, .ref a0]) (by decide +kernel) rfl rfl ?_
        refine BW.callV (As := [.int x1, .int x3, .int x4]) (st := []) (by decide +kernel : decode tX6_extend.2.1 69 = .ok (.invokevirtual 49, 3)) (DX6_rises (Ok.bindK h)) mfX6_rises lkM_X6_49 imX6_rises selX6_rises ciX6 (oX6_rises (Ok.bindK h)).choose_spec rfl rfl (Nat.le_of_ble_eq_true rfl) ⟨Nat.le_trans (by decide) hRm.1, Nat.le_trans (by decide) hRm.2⟩ ⟨Nat.zero_le _, Nat.zero_le _⟩ ?_
        rintro _ s7 ⟨v8, rfl, h⟩
        show BW G tX6_extend E 0 0 72 [(0, .ref a0), (1, .int x1), (2, .int x2), (3, .int x3), (4, .int x4)] [.int v8] s7
        refine BW.if_eq 95 (by decide +kernel : decode tX6_extend.2.1 72 = .ok (.ifCond .eq 23, 3)) (by decide) (fun hc => ?_) (fun hc => ?_)
        · have h := (Ok.ite h).1 hc
          exact bX6_extend_95 hrX6_extend hoX6_extend hfX6_extend hRm hC hE h
        · have h := (Ok.ite h).2 hc
          refine BW.run [.aload_n 0, .iload_n 1, .iconst 1, .iadd, .iload_n 2, .iconst 1, .iload 4, .ishl, .ior, .bipush 8, .iload_n 3, .imul, .iload 4, .iadd] (pc' := 92) (lv' := [(0, .ref a0), (1, .int x1), (2, .int x2), (3, .int x3), (4, .int x4)]) (st' := [.int (((8 : Int32) * x3) + x4), .int (x2 ||| ((1 : Int32) <<< (x4 &&& 31))), .int (x1 + (1 : Int32)), .ref a0]) (by decide +kernel) rfl rfl ?_
          refine BW.callV (As := [.int (x1 + (1 : Int32)), .int (x2 ||| ((1 : Int32) <<< (x4 &&& 31))), .int (((8 : Int32) * x3) + x4)]) (st := []) (by decide +kernel : decode tX6_extend.2.1 92 = .ok (.invokevirtual 41, 3)) (hrX6_extend (Ok.bindK h)) mfX6_extend lkM_X6_41 imX6_extend selX6_extend ciX6 (hoX6_extend (Ok.bindK h)).choose_spec rfl rfl (Nat.le_of_ble_eq_true rfl) hfX6_extend ⟨Nat.zero_le _, Nat.zero_le _⟩ ?_
          rintro _ s10 ⟨rfl, h⟩
          show BW G tX6_extend E 0 0 95 [(0, .ref a0), (1, .int x1), (2, .int x2), (3, .int x3), (4, .int x4)] [] s10
          exact bX6_extend_95 hrX6_extend hoX6_extend hfX6_extend hRm hC hE h
theorem bX6_extend_W38 {G : Cx} {E : Ev} {n : Nat} {rX6_extend : Sg → Nat → Int32 → Int32 → Int32 → Option Sg} {frX6_extend loX6_extend : Nat} (hrX6_extend : ∀ {P : Sg → Prop} {s0 : Sg} {a0 : Nat} {x1 : Int32} {x2 : Int32} {x3 : Int32}, Ok (rX6_extend s0 a0 x1 x2 x3) P → BM G tX6_extend frX6_extend loX6_extend 0 0 [.ref a0, .int x1, .int x2, .int x3] s0 (fun v s => v = none ∧ P s)) (hoX6_extend : ∀ {P : Sg → Prop} {s0 : Sg} {a0 : Nat} {x1 : Int32} {x2 : Int32} {x3 : Int32}, Ok (rX6_extend s0 a0 x1 x2 x3) P → ∃ n0, s0.2.1 a0 = some (6, n0)) (hfX6_extend : frX6_extend + 1 ≤ E.1.frames ∧ 8 + (5 + 11) + loX6_extend ≤ E.1.locals) (hRm : 4 ≤ E.1.frames ∧ 95 ≤ E.1.locals) {a0 : Nat} {x1 : Int32} {x2 : Int32} {x3 : Int32} {K : (Sg) → Prop} (hE : ∀ (s : Sg), K s → BW G tX6_extend E 0 0 101 [] [] s) : ∀ (f : Nat) (c : Sg × Int32), Ok (loopM (mX6_extend_L38 n rX6_extend a0 x1 x2 x3) f c) K → match c with | (s0, x4) => BW G tX6_extend E 0 0 38 [(0, .ref a0), (1, .int x1), (2, .int x2), (3, .int x3), (4, .int x4)] [] s0 := by
  intro f
  induction f with
  | zero => intro c h; exact (Ok.no h).elim
  | succ f ih =>
    intro c h
    obtain ⟨s0, x4⟩ := c
    exact bX6_extend_L38 (P := loopP (mX6_extend_L38 n rX6_extend a0 x1 x2 x3) f K) hrX6_extend hoX6_extend hfX6_extend hRm (fun s c4 h => ih (s, c4) h) hE (loopM_ok h)
def mX6_extend_24 (n : Nat) (rX6_extend : Sg → Nat → Int32 → Int32 → Int32 → Option Sg) (s0 : Sg) (a0 : Nat) : Option (Sg) :=
  (toI (gV 6 s0 a0 3)).bind fun v15 =>
  (pV 6 s0 a0 3 (.int (v15 + (1 : Int32)))).bind fun s16 =>
  some s16
theorem bX6_extend_24 {G : Cx} {E : Ev} {n : Nat} {rX6_extend : Sg → Nat → Int32 → Int32 → Int32 → Option Sg} {frX6_extend loX6_extend : Nat} (hrX6_extend : ∀ {P : Sg → Prop} {s0 : Sg} {a0 : Nat} {x1 : Int32} {x2 : Int32} {x3 : Int32}, Ok (rX6_extend s0 a0 x1 x2 x3) P → BM G tX6_extend frX6_extend loX6_extend 0 0 [.ref a0, .int x1, .int x2, .int x3] s0 (fun v s => v = none ∧ P s)) (hoX6_extend : ∀ {P : Sg → Prop} {s0 : Sg} {a0 : Nat} {x1 : Int32} {x2 : Int32} {x3 : Int32}, Ok (rX6_extend s0 a0 x1 x2 x3) P → ∃ n0, s0.2.1 a0 = some (6, n0)) (hfX6_extend : frX6_extend + 1 ≤ E.1.frames ∧ 8 + (5 + 11) + loX6_extend ≤ E.1.locals) (hRm : 4 ≤ E.1.frames ∧ 95 ≤ E.1.locals) {s0 : Sg} {a0 : Nat} {P : Sg → Prop} (hQ : ∀ s, P s → E.2.2.2.2 none s) (h : Ok (mX6_extend_24 n rX6_extend s0 a0) P) : BW G tX6_extend E 0 0 24 [(0, .ref a0)] [] s0 := by
  unfold mX6_extend_24 at h
  refine BW.run [.aload_n 0, .dup] (pc' := 26) (lv' := [(0, .ref a0)]) (st' := [.ref a0, .ref a0]) (by decide +kernel) rfl rfl ?_
  obtain ⟨v15, ev15, h⟩ := Ok.bind h
  refine BW.get (by decide +kernel : decode tX6_extend.2.1 26 = .ok (.getfield 24, 3)) ciX6 (k := 3) (by decide) lkF_X6_24 (toI_V ev15) ?_
  refine BW.run [.iconst 1, .iadd] (pc' := 31) (lv' := [(0, .ref a0)]) (st' := [.int (v15 + (1 : Int32)), .ref a0]) (by decide +kernel) rfl rfl ?_
  obtain ⟨s16, es16, h⟩ := Ok.bind h
  refine BW.put (by decide +kernel : decode tX6_extend.2.1 31 = .ok (.putfield 24, 3)) ciX6 (k := 3) (by decide) lkF_X6_24 rfl rfl rfl es16 ?_
  exact BW.vret (by decide +kernel : decode tX6_extend.2.1 34 = .ok (.return_, 1)) rfl (Nat.zero_le _) (Nat.zero_le _) (hQ _ (Ok.some h))
def eX6_extend (n : Nat) (rX6_extend : Sg → Nat → Int32 → Int32 → Int32 → Option Sg) (s0 : Sg) (a0 : Nat) (x1 : Int32) (x2 : Int32) (x3 : Int32) : Option (Sg) :=
  (isO 6 s0 a0).bind fun _ =>
  (toI (gV 6 s0 a0 1)).bind fun v1 =>
  if x1 < v1 then (
    (loopM (mX6_extend_L38 n rX6_extend a0 x1 x2 x3) n (s0, (0 : Int32))).bind fun s11 =>
    some s11
  ) else (
    (toI (gV 6 s0 a0 3)).bind fun v13 =>
    (toI (gV 6 s0 a0 2)).bind fun v14 =>
    if v13 = v14 then (
      (pV 6 s0 a0 4 (.int x3)).bind fun s17 =>
      mX6_extend_24 n rX6_extend s17 a0
    ) else (
      mX6_extend_24 n rX6_extend s0 a0
    )
  )
theorem bX6_extend {G : Cx} {E : Ev} {n : Nat} {rX6_extend : Sg → Nat → Int32 → Int32 → Int32 → Option Sg} {frX6_extend loX6_extend : Nat} (hrX6_extend : ∀ {P : Sg → Prop} {s0 : Sg} {a0 : Nat} {x1 : Int32} {x2 : Int32} {x3 : Int32}, Ok (rX6_extend s0 a0 x1 x2 x3) P → BM G tX6_extend frX6_extend loX6_extend 0 0 [.ref a0, .int x1, .int x2, .int x3] s0 (fun v s => v = none ∧ P s)) (hoX6_extend : ∀ {P : Sg → Prop} {s0 : Sg} {a0 : Nat} {x1 : Int32} {x2 : Int32} {x3 : Int32}, Ok (rX6_extend s0 a0 x1 x2 x3) P → ∃ n0, s0.2.1 a0 = some (6, n0)) (hfX6_extend : frX6_extend + 1 ≤ E.1.frames ∧ 8 + (5 + 11) + loX6_extend ≤ E.1.locals) (hRm : 4 ≤ E.1.frames ∧ 95 ≤ E.1.locals) {P : Sg → Prop} (hQ : ∀ s, P s → E.2.2.2.2 none s) {s0 : Sg} {a0 : Nat} {x1 : Int32} {x2 : Int32} {x3 : Int32} (h : Ok (eX6_extend n rX6_extend s0 a0 x1 x2 x3) P) : BW G tX6_extend E 0 0 0 [(0, .ref a0), (1, .int x1), (2, .int x2), (3, .int x3)] [] s0 := by
  unfold eX6_extend at h
  obtain ⟨_, _, h⟩ := Ok.bind h
  refine BW.run [.iload_n 1, .aload_n 0] (pc' := 2) (lv' := [(0, .ref a0), (1, .int x1), (2, .int x2), (3, .int x3)]) (st' := [.ref a0, .int x1]) (by decide +kernel) rfl rfl ?_
  obtain ⟨v1, ev1, h⟩ := Ok.bind h
  refine BW.get (by decide +kernel : decode tX6_extend.2.1 2 = .ok (.getfield 17, 3)) ciX6 (k := 1) (by decide) lkF_X6_17 (toI_V ev1) ?_
  refine BW.icmp_lt 35 (by decide +kernel : decode tX6_extend.2.1 5 = .ok (.if_icmp .lt 30, 3)) (by decide) (fun hc => ?_) (fun hc => ?_)
  · have h := (Ok.ite h).1 hc
    refine BW.run [.iconst 0, .istore 4] (pc' := 38) (lv' := [(0, .ref a0), (1, .int x1), (2, .int x2), (3, .int x3), (4, .int (0 : Int32))]) (st' := []) (by decide +kernel) rfl rfl ?_
    refine bX6_extend_W38 hrX6_extend hoX6_extend hfX6_extend hRm (a0 := a0) (x1 := x1) (x2 := x2) (x3 := x3) (fun s11 h => ?_) n (s0, (0 : Int32)) (Ok.bindK h)
    exact BW.vret (by decide +kernel : decode tX6_extend.2.1 101 = .ok (.return_, 1)) rfl (Nat.zero_le _) (Nat.zero_le _) (hQ _ (Ok.some h))
  · have h := (Ok.ite h).2 hc
    refine BW.run [.aload_n 0] (pc' := 9) (lv' := [(0, .ref a0), (1, .int x1), (2, .int x2), (3, .int x3)]) (st' := [.ref a0]) (by decide +kernel) rfl rfl ?_
    obtain ⟨v13, ev13, h⟩ := Ok.bind h
    refine BW.get (by decide +kernel : decode tX6_extend.2.1 9 = .ok (.getfield 24, 3)) ciX6 (k := 3) (by decide) lkF_X6_24 (toI_V ev13) ?_
    refine BW.run [.aload_n 0] (pc' := 13) (lv' := [(0, .ref a0), (1, .int x1), (2, .int x2), (3, .int x3)]) (st' := [.ref a0, .int v13]) (by decide +kernel) rfl rfl ?_
    obtain ⟨v14, ev14, h⟩ := Ok.bind h
    refine BW.get (by decide +kernel : decode tX6_extend.2.1 13 = .ok (.getfield 21, 3)) ciX6 (k := 2) (by decide) lkF_X6_21 (toI_V ev14) ?_
    refine BW.icmp_ne 24 (by decide +kernel : decode tX6_extend.2.1 16 = .ok (.if_icmp .ne 8, 3)) (by decide) (fun hc => ?_) (fun hc => ?_)
    · have h := (Ok.ite h).2 hc
      refine BW.sub [0] rfl ?_
      exact bX6_extend_24 hrX6_extend hoX6_extend hfX6_extend hRm hQ h
    · have h := (Ok.ite h).1 hc
      refine BW.run [.aload_n 0, .iload_n 3] (pc' := 21) (lv' := [(0, .ref a0), (1, .int x1), (2, .int x2), (3, .int x3)]) (st' := [.int x3, .ref a0]) (by decide +kernel) rfl rfl ?_
      obtain ⟨s17, es17, h⟩ := Ok.bind h
      refine BW.put (by decide +kernel : decode tX6_extend.2.1 21 = .ok (.putfield 27, 3)) ciX6 (k := 4) (by decide) lkF_X6_27 rfl rfl rfl es17 ?_
      refine BW.sub [0] rfl ?_
      exact bX6_extend_24 hrX6_extend hoX6_extend hfX6_extend hRm hQ h
def mX6_extend (n : Nat) : Nat → Sg → Nat → Int32 → Int32 → Int32 → Option Sg
  | 0, _, _, _, _, _ => none
  | d + 1, s0, a0, x1, x2, x3 => eX6_extend n (mX6_extend n d) s0 a0 x1 x2 x3
theorem oX6_extend {n d : Nat} {P : Sg → Prop} {s0 : Sg} {a0 : Nat} {x1 : Int32} {x2 : Int32} {x3 : Int32} (h : Ok (mX6_extend n d s0 a0 x1 x2 x3) P) : ∃ n0, s0.2.1 a0 = some (6, n0) := by
  cases d with
  | zero => exact (Ok.no h).elim
  | succ d =>
    have h : Ok (eX6_extend n (mX6_extend n d) s0 a0 x1 x2 x3) P := h
    unfold eX6_extend at h
    exact Ok.isO h
theorem DgX6_extend {G : Cx} {n : Nat} : ∀ d : Nat, (∀ {P : Sg → Prop} {s0 : Sg} {a0 : Nat} {x1 : Int32} {x2 : Int32} {x3 : Int32}, Ok (mX6_extend n d s0 a0 x1 x2 x3) P → BM G tX6_extend (4 + d) (95 + d * 24) 0 0 [.ref a0, .int x1, .int x2, .int x3] s0 (fun v s => v = none ∧ P s)) := by
  intro d
  induction d with
  | zero => exact fun h => (Ok.no h).elim
  | succ d ih =>
    intro P s0 a0 x1 x2 x3 h
    have h : Ok (eX6_extend n (mX6_extend n d) s0 a0 x1 x2 x3) P := h
    refine BM.of (by decide +kernel) (Nat.le_of_ble_eq_true rfl) ?_
    exact bX6_extend (E := (({ frames := 4 + (d + 1), cells := 0, slots := 0, locals := 95 + (d + 1) * 24 }), Aof s0, 0, 0, (fun v s => v = none ∧ P s))) (fun h => ih h) (fun h => oX6_extend h) ⟨by show _ + d + 1 ≤ _ + (d + 1); omega, by show 8 + (5 + 11) + (_ + d * _) ≤ _ + (d + 1) * _; omega⟩ ⟨by show _ ≤ _ + (d + 1); omega, by show _ ≤ _ + (d + 1) * _; omega⟩ (fun s hp => ⟨rfl, hp⟩) h
theorem DX6_extend {G : Cx} {n : Nat} {d : Nat} {P : Sg → Prop} {s0 : Sg} {a0 : Nat} {x1 : Int32} {x2 : Int32} {x3 : Int32} (h : Ok (mX6_extend n d s0 a0 x1 x2 x3) P) : BM G tX6_extend (4 + d) (95 + d * 24) 0 0 [.ref a0, .int x1, .int x2, .int x3] s0 (fun v s => v = none ∧ P s) := (DgX6_extend d) h
